/-! the law's own words: its script, its end -/
def R_law : String := "XorOverlayLaw"
def lw_P (b : Addr) (xs : List Int32) (args : Array Value) (s : State) : Prop := args = #[.ref b] ∧ s.IntsAt b xs ∧ xs.length ≤ 2048 ∧ (Jvm.Cond.and given_1 narrow_1).before args s = true
def lw_Q (_ : Array Value) (s : State) (o : Outcome) (t : State) : Prop := o = .returned (some (.int 1)) ∧ Framed s o t [] 600000 7302250
def lw_Z (below : List Frame) (a : Array Value) (s : State) : State → Prop := fun t => ∃ o, t.status = .running ∧ Ended t below o ∧ lw_Q a s o t
/-- the law's own end, with 1 on the stack, nothing written that was there before, its room as the claim has it -/
theorem lw_ret {p : Program} {l : Launch} {e : Env} {s : State} {m : MethodId} {below : List Frame} {meth : Method} {c : Code} {b : Nat} (hx : p.tables.exec = Jvm.exec) (hb : c.code = code) (hr : meth.sig.returnType = ret) (hlocks : meth.locks = false) {pc : Nat} {H : Heap} {ls : Array Slot} (hdg : decode code pc = .ok (.ireturn, 1)) : W p l e room_1 s m #[Value.ref b] below meth c H [] 600000 7302250 (lw_Z below #[Value.ref b] s) (F0 m pc ls [.int 1]) := by
  intro T hT X
  obtain ⟨fs, hret, hrun, hended, hW, hframe⟩ := X.leave (v := some (.int 1)) (hlocks := hlocks) (fun h => by rw [hr] at h; cases h)
  have hmeth' : T.vm.method? m = some meth := X.method'
  refine ⟨T.setFrames fs, ?_, .returned (some (.int 1)), hrun, hended, rfl, ⟨_, rfl⟩, hW, hframe⟩
  jvm_step X.here [X.here.top, hx, hb, hdg, hmeth', hr, ret, narrow_b1]
  (try refine ⟨rfl, ?_⟩); (try refine ⟨rfl, ?_⟩)
  first | (intro acts; rw [hret _ acts rfl rfl rfl]) | rw [hret _ _ rfl rfl rfl]
  exact Steps.refl _
def q_sc {α : Type} (L : Nat) (xs : Nat → Int32) (i : Int32) (f : Int32 → Option α) : Option α := if 0 ≤ i.toInt ∧ i.toInt < L then f (xs i.toInt.toNat) else none
section QLAW
variable {p : Program} {l : Launch} {e : Env} {R : Room} {s : State} {m : MethodId} {below : List Frame} {meth : Method} {c : Code} {H : Heap} {locs : List Loc} {cells slots : Nat} {Q : State → Prop}
variable {pc nL : Nat} {ls : Array Slot} {rest : List Value} {own : String} {E : mm_E} {G : mm_M} {α : Type} {res : α} {cc : ByteArray} {a0 L : Nat} {xs : Nat → Int32} {args : Array Value}
theorem q_sld (X : mm_X p s m args meth c cc nL own tw_T E) (V : mm_V E s G H locs) (hS : va_X a0 L xs s s.heap ∧ a0 < s.heap.size ∧ E.1 = s.heap.size) {i : Int32} (hdg : decode cc pc = .ok (.iaload, 1)) {f : Int32 → Option α} (hp : q_sc L xs i f = some res)
    (kk : ∀ v : Int32, f v = some res → W p l e R s m args below meth c H locs cells slots Q (F0 m (pc + 1) ls (.int v :: rest))) : W p l e R s m args below meth c H locs cells slots Q (F0 m pc ls (.int i :: va_rf (some a0) :: rest)) := by
  obtain ⟨⟨h1, h2⟩, hp⟩ := q_pos hp
  exact va_sld X.1.1 X.1.2.1 hS.1 hS.2.1 (fun h => by have h9 : E.1 ≤ a0 := h; omega) V.2 (mm_in h1 h2) hdg (kk _ hp)
theorem q_slen (X : mm_X p s m args meth c cc nL own tw_T E) (V : mm_V E s G H locs) (hS : va_X a0 L xs s s.heap ∧ a0 < s.heap.size ∧ E.1 = s.heap.size) (hdg : decode cc pc = .ok (.arraylength, 1))
    (kk : W p l e R s m args below meth c H locs cells slots Q (F0 m (pc + 1) ls (.int (Int32.ofNat L) :: rest))) : W p l e R s m args below meth c H locs cells slots Q (F0 m pc ls (va_rf (some a0) :: rest)) :=
  va_slen X.1.1 X.1.2.1 hS.1 hS.2.1 (fun h => by have h9 : E.1 ≤ a0 := h; omega) V.2 hdg kk
end QLAW
theorem q_lret {p : Program} {l : Launch} {e : Env} {s : State} {m : MethodId} {below : List Frame} {meth : Method} {c : Code} {H : Heap} {locs : List Loc} {cells slots pc : Nat} {ls : Array Slot} {own : String} {E : mm_E} {G : mm_M} {a0 L : Nat} {xs : Nat → Int32} {v : Int32} {res : mm_M × Int32} (X : mm_X p s m #[Value.ref a0] meth c code 4 own tw_T E) (V : mm_V E s G H locs) (hr : meth.sig.returnType = ret) (hS : va_X a0 L xs s s.heap ∧ a0 < s.heap.size ∧ E.1 = s.heap.size) (h1 : res.2 = 1) (hc : cells ≤ 600000) (hs : slots ≤ 7302250) (hdg : decode code pc = .ok (.ireturn, 1)) (hp : some (G, v) = some res) : W p l e room_1 s m #[Value.ref a0] below meth c H locs cells slots (lw_Z below #[Value.ref a0] s) (F0 m pc ls [.int v]) := by
  cases hp
  have h1 : v = 1 := h1
  subst h1
  refine va_forget (fun q hq => ?_) (W.widen hc hs (lw_ret X.1.1 X.1.2.1 hr X.2.2.1 hdg))
  have h9 : E.1 ≤ q.base := V.2.2.2 q hq
  have h8 := hS.2.2
  omega
def pL_law_18_b (N a0 L : Nat) (xs : Nat → Int32) (kb : mm_M → Option Nat → Option Nat → Int32 → Option (mm_M × Int32)) (kx : mm_M → Option (mm_M × Int32)) (G : mm_M) (x1 : Option Nat) (x2 : Option Nat) (x3 : Int32) : Option (mm_M × Int32) :=
  if ((Int32.ofNat L) - (4 : Int32)) < x3 then
    kx G
  else
    q_sc L xs x3 fun v28_5 =>
    if (v28_5 &&& (31 : Int32)) = 0 then
      q_sc L xs (x3 + (1 : Int32)) fun v125_6 =>
      q_sc L xs (x3 + (2 : Int32)) fun v130_7 =>
      q_nn x1 fun b131_8 =>
      q_is G b131_8 7 <|
      q_cl (pX6_join_0 N b131_8 G v125_6 v130_7) fun G v131_10 =>
      q_sc L xs (x3 + (1 : Int32)) fun v139_11 =>
      q_sc L xs (x3 + (2 : Int32)) fun v144_12 =>
      q_nn x2 fun b145_13 =>
      q_is G b145_13 8 <|
      q_cl (pX7_join_0 N b145_13 G v139_11 v144_12) fun G v145_15 =>
      if v131_10 = v145_15 then
        kb G (some b131_8) (some b145_13) (x3 + (4 : Int32))
      else
        some (G, (0 : Int32))
    else
    if (v28_5 &&& (31 : Int32)) = 1 then
      q_sc L xs (x3 + (1 : Int32)) fun v158_16 =>
      q_nn x1 fun b159_17 =>
      q_is G b159_17 7 <|
      q_cl (pX6_leave_0 N b159_17 G v158_16) fun G v159_19 =>
      q_sc L xs (x3 + (1 : Int32)) fun v167_20 =>
      q_nn x2 fun b168_21 =>
      q_is G b168_21 8 <|
      q_cl (pX7_leave_0 N b168_21 G v167_20) fun G v168_23 =>
      if v159_19 = v168_23 then
        kb G (some b159_17) (some b168_21) (x3 + (4 : Int32))
      else
        some (G, (0 : Int32))
    else
    if (v28_5 &&& (31 : Int32)) = 2 then
      q_sc L xs (x3 + (1 : Int32)) fun v181_24 =>
      q_sc L xs (x3 + (2 : Int32)) fun v186_25 =>
      q_sc L xs (x3 + (3 : Int32)) fun v191_26 =>
      q_nn x1 fun b192_27 =>
      q_is G b192_27 7 <|
      q_cl (pX6_begin_0 N b192_27 G v181_24 v186_25 v191_26) fun G v192_29 =>
      q_sc L xs (x3 + (1 : Int32)) fun v200_30 =>
      q_sc L xs (x3 + (2 : Int32)) fun v205_31 =>
      q_sc L xs (x3 + (3 : Int32)) fun v210_32 =>
      q_nn x2 fun b211_33 =>
      q_is G b211_33 8 <|
      q_cl (pX7_begin_0 N b211_33 G v200_30 v205_31 v210_32) fun G v211_35 =>
      if v192_29 = v211_35 then
        kb G (some b192_27) (some b211_33) (x3 + (4 : Int32))
      else
        some (G, (0 : Int32))
    else
    if (v28_5 &&& (31 : Int32)) = 3 then
      q_sc L xs (x3 + (1 : Int32)) fun v224_36 =>
      q_nn x1 fun b225_37 =>
      q_is G b225_37 7 <|
      q_cl (pX6_refresh_0 N b225_37 G v224_36) fun G v225_39 =>
      q_sc L xs (x3 + (1 : Int32)) fun v233_40 =>
      q_nn x2 fun b234_41 =>
      q_is G b234_41 8 <|
      q_cl (pX7_refresh_0 N b234_41 G v233_40) fun G v234_43 =>
      if v225_39 = v234_43 then
        kb G (some b225_37) (some b234_41) (x3 + (4 : Int32))
      else
        some (G, (0 : Int32))
    else
    if (v28_5 &&& (31 : Int32)) = 4 then
      q_nn x1 fun b243_44 =>
      q_is G b243_44 7 <|
      q_cl (pX6_tick_0 N b243_44 G) fun G v243_46 =>
      q_nn x2 fun b247_47 =>
      q_is G b247_47 8 <|
      q_cl (pX7_tick_0 N b247_47 G) fun G v247_49 =>
      if v243_46 = v247_49 then
        kb G (some b243_44) (some b247_47) (x3 + (4 : Int32))
      else
        some (G, (0 : Int32))
    else
    if (v28_5 &&& (31 : Int32)) = 5 then
      q_nn x1 fun b256_50 =>
      q_is G b256_50 7 <|
      q_cl (pX6_clock_0 N b256_50 G) fun G v256_52 =>
      q_nn x2 fun b260_53 =>
      q_is G b260_53 8 <|
      q_cl (pX7_clock_0 N b260_53 G) fun G v260_55 =>
      if v256_52 = v260_55 then
        kb G (some b256_50) (some b260_53) (x3 + (4 : Int32))
      else
        some (G, (0 : Int32))
    else
    if (v28_5 &&& (31 : Int32)) = 6 then
      q_nn x1 fun b269_56 =>
      q_is G b269_56 7 <|
      q_cl (pX6_waiting_0 N b269_56 G) fun G v269_58 =>
      q_nn x2 fun b273_59 =>
      q_is G b273_59 8 <|
      q_cl (pX7_waiting_0 N b273_59 G) fun G v273_61 =>
      if v269_58 = v273_61 then
        kb G (some b269_56) (some b273_59) (x3 + (4 : Int32))
      else
        some (G, (0 : Int32))
    else
    if (v28_5 &&& (31 : Int32)) = 7 then
      q_sc L xs (x3 + (1 : Int32)) fun v286_62 =>
      q_sc L xs (x3 + (2 : Int32)) fun v291_63 =>
      q_nn x1 fun b292_64 =>
      q_is G b292_64 7 <|
      q_cl (pX6_datagram_0 N b292_64 G v286_62 v291_63) fun G v292_66 =>
      q_sc L xs (x3 + (1 : Int32)) fun v300_67 =>
      q_sc L xs (x3 + (2 : Int32)) fun v305_68 =>
      q_nn x2 fun b306_69 =>
      q_is G b306_69 8 <|
      q_cl (pX7_datagram_0 N b306_69 G v300_67 v305_68) fun G v306_71 =>
      if v292_66 = v306_71 then
        kb G (some b292_64) (some b306_69) (x3 + (4 : Int32))
      else
        some (G, (0 : Int32))
    else
    if (v28_5 &&& (31 : Int32)) = 8 then
      q_sc L xs (x3 + (1 : Int32)) fun v319_72 =>
      q_nn x1 fun b320_73 =>
      q_is G b320_73 7 <|
      q_cl (pX6_deliver_0 N b320_73 G v319_72) fun G v320_75 =>
      q_sc L xs (x3 + (1 : Int32)) fun v328_76 =>
      q_nn x2 fun b329_77 =>
      q_is G b329_77 8 <|
      q_cl (pX7_deliver_0 N b329_77 G v328_76) fun G v329_79 =>
      if v320_75 = v329_79 then
        kb G (some b320_73) (some b329_77) (x3 + (4 : Int32))
      else
        some (G, (0 : Int32))
    else
    if (v28_5 &&& (31 : Int32)) = 9 then
      q_sc L xs (x3 + (1 : Int32)) fun v342_80 =>
      q_nn x1 fun b343_81 =>
      q_is G b343_81 7 <|
      q_cl (pX6_drop_0 N b343_81 G v342_80) fun G v343_83 =>
      q_sc L xs (x3 + (1 : Int32)) fun v351_84 =>
      q_nn x2 fun b352_85 =>
      q_is G b352_85 8 <|
      q_cl (pX7_drop_0 N b352_85 G v351_84) fun G v352_87 =>
      if v343_83 = v352_87 then
        kb G (some b343_81) (some b352_85) (x3 + (4 : Int32))
      else
        some (G, (0 : Int32))
    else
    if (v28_5 &&& (31 : Int32)) = 10 then
      q_sc L xs (x3 + (1 : Int32)) fun v365_88 =>
      q_nn x1 fun b366_89 =>
      q_is G b366_89 7 <|
      q_cl (pX6_lookup_0 N b366_89 G v365_88) fun G v366_91 =>
      q_sc L xs (x3 + (1 : Int32)) fun v374_92 =>
      q_nn x2 fun b375_93 =>
      q_is G b375_93 8 <|
      q_cl (pX7_lookup_0 N b375_93 G v374_92) fun G v375_95 =>
      if v366_91 = v375_95 then
        kb G (some b366_89) (some b375_93) (x3 + (4 : Int32))
      else
        some (G, (0 : Int32))
    else
    if (v28_5 &&& (31 : Int32)) = 11 then
      q_sc L xs (x3 + (1 : Int32)) fun v388_96 =>
      q_sc L xs (x3 + (2 : Int32)) fun v393_97 =>
      q_nn x1 fun b394_98 =>
      q_is G b394_98 7 <|
      q_cl (pX6_candidate_0 N b394_98 G v388_96 v393_97) fun G v394_100 =>
      q_sc L xs (x3 + (1 : Int32)) fun v402_101 =>
      q_sc L xs (x3 + (2 : Int32)) fun v407_102 =>
      q_nn x2 fun b408_103 =>
      q_is G b408_103 8 <|
      q_cl (pX7_candidate_0 N b408_103 G v402_101 v407_102) fun G v408_105 =>
      if v394_100 = v408_105 then
        kb G (some b394_98) (some b408_103) (x3 + (4 : Int32))
      else
        some (G, (0 : Int32))
    else
    if (v28_5 &&& (31 : Int32)) = 12 then
      q_sc L xs (x3 + (1 : Int32)) fun v421_106 =>
      q_sc L xs (x3 + (2 : Int32)) fun v426_107 =>
      q_nn x1 fun b427_108 =>
      q_is G b427_108 7 <|
      q_cl (pX6_found_0 N b427_108 G v421_106 v426_107) fun G v427_110 =>
      q_sc L xs (x3 + (1 : Int32)) fun v435_111 =>
      q_sc L xs (x3 + (2 : Int32)) fun v440_112 =>
      q_nn x2 fun b441_113 =>
      q_is G b441_113 8 <|
      q_cl (pX7_found_0 N b441_113 G v435_111 v440_112) fun G v441_115 =>
      if v427_110 = v441_115 then
        kb G (some b427_108) (some b441_113) (x3 + (4 : Int32))
      else
        some (G, (0 : Int32))
    else
    if (v28_5 &&& (31 : Int32)) = 13 then
      q_sc L xs (x3 + (1 : Int32)) fun v454_116 =>
      q_nn x1 fun b455_117 =>
      q_is G b455_117 7 <|
      q_cl (pX6_buckets_0 N b455_117 G v454_116) fun G v455_119 =>
      q_sc L xs (x3 + (1 : Int32)) fun v463_120 =>
      q_nn x2 fun b464_121 =>
      q_is G b464_121 8 <|
      q_cl (pX7_buckets_0 N b464_121 G v463_120) fun G v464_123 =>
      if v455_119 = v464_123 then
        kb G (some b455_117) (some b464_121) (x3 + (4 : Int32))
      else
        some (G, (0 : Int32))
    else
    if (v28_5 &&& (31 : Int32)) = 14 then
      q_sc L xs (x3 + (1 : Int32)) fun v477_124 =>
      q_sc L xs (x3 + (2 : Int32)) fun v482_125 =>
      q_nn x1 fun b483_126 =>
      q_is G b483_126 7 <|
      q_cl (pX6_bucket_0 N b483_126 G v477_124 v482_125) fun G v483_128 =>
      q_sc L xs (x3 + (1 : Int32)) fun v491_129 =>
      q_sc L xs (x3 + (2 : Int32)) fun v496_130 =>
      q_nn x2 fun b497_131 =>
      q_is G b497_131 8 <|
      q_cl (pX7_bucket_0 N b497_131 G v491_129 v496_130) fun G v497_133 =>
      if v483_128 = v497_133 then
        kb G (some b483_126) (some b497_131) (x3 + (4 : Int32))
      else
        some (G, (0 : Int32))
    else
    if (v28_5 &&& (31 : Int32)) = 15 then
      q_sc L xs (x3 + (1 : Int32)) fun v510_134 =>
      q_sc L xs (x3 + (2 : Int32)) fun v515_135 =>
      q_sc L xs (x3 + (3 : Int32)) fun v520_136 =>
      q_nn x1 fun b521_137 =>
      q_is G b521_137 7 <|
      q_cl (pX6_contact_0 N b521_137 G v510_134 v515_135 v520_136) fun G v521_139 =>
      q_sc L xs (x3 + (1 : Int32)) fun v529_140 =>
      q_sc L xs (x3 + (2 : Int32)) fun v534_141 =>
      q_sc L xs (x3 + (3 : Int32)) fun v539_142 =>
      q_nn x2 fun b540_143 =>
      q_is G b540_143 8 <|
      q_cl (pX7_contact_0 N b540_143 G v529_140 v534_141 v539_142) fun G v540_145 =>
      if v521_139 = v540_145 then
        kb G (some b521_137) (some b540_143) (x3 + (4 : Int32))
      else
        some (G, (0 : Int32))
    else
    if (v28_5 &&& (31 : Int32)) = 16 then
      q_sc L xs (x3 + (1 : Int32)) fun v553_146 =>
      q_sc L xs (x3 + (2 : Int32)) fun v558_147 =>
      q_sc L xs (x3 + (3 : Int32)) fun v563_148 =>
      q_nn x1 fun b564_149 =>
      q_is G b564_149 7 <|
      q_cl (pX6_closest_0 N b564_149 G v553_146 v558_147 v563_148) fun G v564_151 =>
      q_sc L xs (x3 + (1 : Int32)) fun v572_152 =>
      q_sc L xs (x3 + (2 : Int32)) fun v577_153 =>
      q_sc L xs (x3 + (3 : Int32)) fun v582_154 =>
      q_nn x2 fun b583_155 =>
      q_is G b583_155 8 <|
      q_cl (pX7_closest_0 N b583_155 G v572_152 v577_153 v582_154) fun G v583_157 =>
      if v564_151 = v583_157 then
        kb G (some b564_149) (some b583_155) (x3 + (4 : Int32))
      else
        some (G, (0 : Int32))
    else
    if (v28_5 &&& (31 : Int32)) = 17 then
      q_sc L xs (x3 + (1 : Int32)) fun v596_158 =>
      q_sc L xs (x3 + (2 : Int32)) fun v601_159 =>
      q_nn x1 fun b602_160 =>
      q_is G b602_160 7 <|
      q_cl (pX6_entry_0 N b602_160 G v596_158 v601_159) fun G v602_162 =>
      q_sc L xs (x3 + (1 : Int32)) fun v610_163 =>
      q_sc L xs (x3 + (2 : Int32)) fun v615_164 =>
      q_nn x2 fun b616_165 =>
      q_is G b616_165 8 <|
      q_cl (pX7_entry_0 N b616_165 G v610_163 v615_164) fun G v616_167 =>
      if v602_162 = v616_167 then
        kb G (some b602_160) (some b616_165) (x3 + (4 : Int32))
      else
        some (G, (0 : Int32))
    else
    kb G x1 x2 (x3 + (4 : Int32))
def pL_law_18 (N a0 L : Nat) (xs : Nat → Int32) (kx : mm_M → Option (mm_M × Int32)) : Nat → mm_M → Option Nat → Option Nat → Int32 → Option (mm_M × Int32)
  | 0 => fun _ _ _ _ => none
  | n + 1 => pL_law_18_b N a0 L xs (pL_law_18 N a0 L xs kx n) kx
set_option maxRecDepth 100000 in
set_option maxHeartbeats 4000000 in
theorem bL_law_18 {p : Program} {l : Launch} {e : Env} {s : State} {m : MethodId} {below : List Frame} {meth : Method} {c : Code} {E : mm_E} {N a0 L : Nat} {xs : Nat → Int32} {res : mm_M × Int32} (X : mm_X p s m #[Value.ref a0] meth c code 4 "XorOverlayLaw" tw_T E) (hr : meth.sig.returnType = ret) (hS : va_X a0 L xs s s.heap ∧ a0 < s.heap.size ∧ E.1 = s.heap.size) (h1 : res.2 = 1) {kx : mm_M → Option (mm_M × Int32)} (hkx : ∀ (G : mm_M) (H : Heap) (locs : List Loc) (ls : Array Slot), mm_V E s G H locs → lx_has ls 4 [(0, .inr (some a0))] → kx G = some res → W p l e room_1 s m #[Value.ref a0] below meth c H locs 22088 120090 (lw_Z below #[Value.ref a0] s) (F0 m 630 ls [])) :
    ∀ (n : Nat) (cells slots : Nat), cells + 43 * n ≤ 22088 → slots + 230 * n ≤ 120090 → ∀ (G : mm_M) (H : Heap) (locs : List Loc) (ls : Array Slot) (x1 : Option Nat) (x2 : Option Nat) (x3 : Int32), mm_V E s G H locs → lx_has ls 4 [(0, .inr (some a0)), (1, .inr x1), (2, .inr x2), (3, .inl x3)] → pL_law_18 N a0 L xs kx n G x1 x2 x3 = some res → W p l e room_1 s m #[Value.ref a0] below meth c H locs cells slots (lw_Z below #[Value.ref a0] s) (F0 m 18 ls []) := by
  have hx := X.1.1
  have hb := X.1.2.1
  intro n
  induction n with
  | zero =>
    intro cells slots hcells hslots G H locs ls x1 x2 x3 V hl hp
    cases hp
  | succ n ih =>
    intro cells slots hcells hslots G H locs ls x1 x2 x3 V hl hp
    have hp : pL_law_18_b N a0 L xs (pL_law_18 N a0 L xs kx n) kx G x1 x2 x3 = some res := hp
    unfold pL_law_18_b at hp
    refine x_iload_n X dL_law_18 hl 3 rfl rfl ?_
    refine x_aload_n X dL_law_19 hl 0 rfl rfl ?_
    refine q_slen X V hS dL_law_20 ?_
    refine lv_iconst (v := (4 : Int32)) hx hb dL_law_21 (by decide) ?_
    refine lv_isub hx hb dL_law_22 ?_
    refine q_if hp (lv_icmp_gt (tgt := 630) hx hb dL_law_23 (by decide)) (fun hp => ?_) (fun hp => ?_)
    · refine W.widen (k := 22088) (n := 120090) (by omega) (by omega) ?_
      exact hkx _ _ _ _ V (lx_sub hl [0] rfl) hp
    · refine x_aload_n X dL_law_26 hl 0 rfl rfl ?_
      refine x_iload_n X dL_law_27 hl 3 rfl rfl ?_
      refine q_sld X V hS dL_law_28 hp (fun v28_5 hp => ?_)
      refine lv_bipush (v := (31 : Int32)) hx hb dL_law_29 (by decide) ?_
      refine lv_iand hx hb dL_law_31 ?_
      by_cases h32_0 : (v28_5 &&& (31 : Int32)) = 0
      · rw [if_pos h32_0] at hp
        refine lv_tableIn (tgt := 120) hx hb dL_law_32 (by rw [h32_0]; decide) (by rw [h32_0]; decide) (by rw [h32_0]; rfl) (by decide) ?_
        refine x_aload_n X dL_law_120 hl 1 rfl rfl ?_
        refine x_aload_n X dL_law_121 hl 0 rfl rfl ?_
        refine x_iload_n X dL_law_122 hl 3 rfl rfl ?_
        refine lv_iconst (v := (1 : Int32)) hx hb dL_law_123 (by decide) ?_
        refine lv_iadd hx hb dL_law_124 ?_
        refine q_sld X V hS dL_law_125 hp (fun v125_6 hp => ?_)
        refine x_aload_n X dL_law_126 hl 0 rfl rfl ?_
        refine x_iload_n X dL_law_127 hl 3 rfl rfl ?_
        refine lv_iconst (v := (2 : Int32)) hx hb dL_law_128 (by decide) ?_
        refine lv_iadd hx hb dL_law_129 ?_
        refine q_sld X V hS dL_law_130 hp (fun v130_7 hp => ?_)
        obtain ⟨b131_8, e0, hp2⟩ := q_nn_of hp
        clear hp; subst e0; have hp := hp2; clear hp2
        obtain ⟨hk, hp⟩ := q_is_of hp
        obtain ⟨⟨G, v131_10⟩, hq, hp⟩ := q_cl_of hp
        dsimp only at hp
        refine q_goi (cells' := cells + 43) (slots' := slots + 230) (va_runV (As := [.int v125_6, .int v130_7]) (rest := []) X.1 (cX6_join l E hq) (tw_cwV 2 X.1.2.2.2.2 (tw_1 58 rfl rfl) kX6_join.2.1 kX6_join.2.2.1 kX6_join.2.2.2 kX6_join.1 rfl rfl hX6_join ⟨Nat.le_of_ble_eq_true rfl, Nat.le_of_ble_eq_true rfl⟩) (mm_preV X V rfl (by decide) rfl hk) rfl rfl hl.1 rfl (lv_room (Nat.le_of_ble_eq_true rfl)) dL_law_131 ⟨show cells + 43 ≤ 600000 by omega, show slots + 230 ≤ 7302250 by omega⟩) V ⟨rfl, rfl⟩ (fun H locs V => ?_)
        refine x_aload_n X dL_law_134 hl 2 rfl rfl ?_
        refine x_aload_n X dL_law_135 hl 0 rfl rfl ?_
        refine x_iload_n X dL_law_136 hl 3 rfl rfl ?_
        refine lv_iconst (v := (1 : Int32)) hx hb dL_law_137 (by decide) ?_
        refine lv_iadd hx hb dL_law_138 ?_
        refine q_sld X V hS dL_law_139 hp (fun v139_11 hp => ?_)
        refine x_aload_n X dL_law_140 hl 0 rfl rfl ?_
        refine x_iload_n X dL_law_141 hl 3 rfl rfl ?_
        refine lv_iconst (v := (2 : Int32)) hx hb dL_law_142 (by decide) ?_
        refine lv_iadd hx hb dL_law_143 ?_
        refine q_sld X V hS dL_law_144 hp (fun v144_12 hp => ?_)
        obtain ⟨b145_13, e0, hp2⟩ := q_nn_of hp
        clear hp; subst e0; have hp := hp2; clear hp2
        obtain ⟨hk, hp⟩ := q_is_of hp
        obtain ⟨⟨G, v145_15⟩, hq, hp⟩ := q_cl_of hp
        dsimp only at hp
        refine q_goi (cells' := cells + 43 + 0) (slots' := slots + 230 + 0) (va_runV (As := [.int v139_11, .int v144_12]) (rest := [.int v131_10]) X.1 (cX7_join l E hq) (tw_cwV 2 X.1.2.2.2.2 (tw_3 112 rfl rfl) kX7_join.2.1 kX7_join.2.2.1 kX7_join.2.2.2 kX7_join.1 rfl rfl hX7_join ⟨Nat.le_of_ble_eq_true rfl, Nat.le_of_ble_eq_true rfl⟩) (mm_preV X V rfl (by decide) rfl hk) rfl rfl hl.1 rfl (lv_room (Nat.le_of_ble_eq_true rfl)) dL_law_145 ⟨show cells + 43 + 0 ≤ 600000 by omega, show slots + 230 + 0 ≤ 7302250 by omega⟩) V ⟨rfl, rfl⟩ (fun H locs V => ?_)
        refine q_if hp (lv_icmp_eq (tgt := 624) hx hb dL_law_148 (by decide)) (fun hp => ?_) (fun hp => ?_)
        · refine x_iinc (v := (4 : Int32)) (lst' := [(3, .inl (x3 + (4 : Int32))), (0, .inr (some a0)), (1, .inr (some b131_8)), (2, .inr (some b145_13))]) X dL_law_624 hl 3 rfl (by decide) (by decide) rfl (fun ls hl => ?_)
          refine lv_goto (tgt := 18) hx hb dL_law_627 (by decide) ?_
          exact ih _ _ (by omega) (by omega) _ _ _ _ _ _ _ V (lx_sub hl [1, 2, 3, 0] rfl) hp
        · refine lv_iconst (v := (0 : Int32)) hx hb dL_law_151 (by decide) ?_
          exact q_lret X V hr hS h1 (by omega) (by omega) dL_law_152 hp
      rw [if_neg h32_0] at hp
      by_cases h32_1 : (v28_5 &&& (31 : Int32)) = 1
      · rw [if_pos h32_1] at hp
        refine lv_tableIn (tgt := 153) hx hb dL_law_32 (by rw [h32_1]; decide) (by rw [h32_1]; decide) (by rw [h32_1]; rfl) (by decide) ?_
        refine x_aload_n X dL_law_153 hl 1 rfl rfl ?_
        refine x_aload_n X dL_law_154 hl 0 rfl rfl ?_
        refine x_iload_n X dL_law_155 hl 3 rfl rfl ?_
        refine lv_iconst (v := (1 : Int32)) hx hb dL_law_156 (by decide) ?_
        refine lv_iadd hx hb dL_law_157 ?_
        refine q_sld X V hS dL_law_158 hp (fun v158_16 hp => ?_)
        obtain ⟨b159_17, e0, hp2⟩ := q_nn_of hp
        clear hp; subst e0; have hp := hp2; clear hp2
        obtain ⟨hk, hp⟩ := q_is_of hp
        obtain ⟨⟨G, v159_19⟩, hq, hp⟩ := q_cl_of hp
        dsimp only at hp
        refine q_goi (cells' := cells + 0) (slots' := slots + 0) (va_runV (As := [.int v158_16]) (rest := []) X.1 (cX6_leave l E hq) (tw_cwV 1 X.1.2.2.2.2 (tw_2 112 rfl rfl) kX6_leave.2.1 kX6_leave.2.2.1 kX6_leave.2.2.2 kX6_leave.1 rfl rfl hX6_leave ⟨Nat.le_of_ble_eq_true rfl, Nat.le_of_ble_eq_true rfl⟩) (mm_preV X V rfl (by decide) rfl hk) rfl rfl hl.1 rfl (lv_room (Nat.le_of_ble_eq_true rfl)) dL_law_159 ⟨show cells + 0 ≤ 600000 by omega, show slots + 0 ≤ 7302250 by omega⟩) V ⟨rfl, rfl⟩ (fun H locs V => ?_)
        refine x_aload_n X dL_law_162 hl 2 rfl rfl ?_
        refine x_aload_n X dL_law_163 hl 0 rfl rfl ?_
        refine x_iload_n X dL_law_164 hl 3 rfl rfl ?_
        refine lv_iconst (v := (1 : Int32)) hx hb dL_law_165 (by decide) ?_
        refine lv_iadd hx hb dL_law_166 ?_
        refine q_sld X V hS dL_law_167 hp (fun v167_20 hp => ?_)
        obtain ⟨b168_21, e0, hp2⟩ := q_nn_of hp
        clear hp; subst e0; have hp := hp2; clear hp2
        obtain ⟨hk, hp⟩ := q_is_of hp
        obtain ⟨⟨G, v168_23⟩, hq, hp⟩ := q_cl_of hp
        dsimp only at hp
        refine q_goi (cells' := cells + 0 + 0) (slots' := slots + 0 + 0) (va_runV (As := [.int v167_20]) (rest := [.int v159_19]) X.1 (cX7_leave l E hq) (tw_cwV 1 X.1.2.2.2.2 (tw_3 184 rfl rfl) kX7_leave.2.1 kX7_leave.2.2.1 kX7_leave.2.2.2 kX7_leave.1 rfl rfl hX7_leave ⟨Nat.le_of_ble_eq_true rfl, Nat.le_of_ble_eq_true rfl⟩) (mm_preV X V rfl (by decide) rfl hk) rfl rfl hl.1 rfl (lv_room (Nat.le_of_ble_eq_true rfl)) dL_law_168 ⟨show cells + 0 + 0 ≤ 600000 by omega, show slots + 0 + 0 ≤ 7302250 by omega⟩) V ⟨rfl, rfl⟩ (fun H locs V => ?_)
        refine q_if hp (lv_icmp_eq (tgt := 624) hx hb dL_law_171 (by decide)) (fun hp => ?_) (fun hp => ?_)
        · refine x_iinc (v := (4 : Int32)) (lst' := [(3, .inl (x3 + (4 : Int32))), (0, .inr (some a0)), (1, .inr (some b159_17)), (2, .inr (some b168_21))]) X dL_law_624 hl 3 rfl (by decide) (by decide) rfl (fun ls hl => ?_)
          refine lv_goto (tgt := 18) hx hb dL_law_627 (by decide) ?_
          exact ih _ _ (by omega) (by omega) _ _ _ _ _ _ _ V (lx_sub hl [1, 2, 3, 0] rfl) hp
        · refine lv_iconst (v := (0 : Int32)) hx hb dL_law_174 (by decide) ?_
          exact q_lret X V hr hS h1 (by omega) (by omega) dL_law_175 hp
      rw [if_neg h32_1] at hp
      by_cases h32_2 : (v28_5 &&& (31 : Int32)) = 2
      · rw [if_pos h32_2] at hp
        refine lv_tableIn (tgt := 176) hx hb dL_law_32 (by rw [h32_2]; decide) (by rw [h32_2]; decide) (by rw [h32_2]; rfl) (by decide) ?_
        refine x_aload_n X dL_law_176 hl 1 rfl rfl ?_
        refine x_aload_n X dL_law_177 hl 0 rfl rfl ?_
        refine x_iload_n X dL_law_178 hl 3 rfl rfl ?_
        refine lv_iconst (v := (1 : Int32)) hx hb dL_law_179 (by decide) ?_
        refine lv_iadd hx hb dL_law_180 ?_
        refine q_sld X V hS dL_law_181 hp (fun v181_24 hp => ?_)
        refine x_aload_n X dL_law_182 hl 0 rfl rfl ?_
        refine x_iload_n X dL_law_183 hl 3 rfl rfl ?_
        refine lv_iconst (v := (2 : Int32)) hx hb dL_law_184 (by decide) ?_
        refine lv_iadd hx hb dL_law_185 ?_
        refine q_sld X V hS dL_law_186 hp (fun v186_25 hp => ?_)
        refine x_aload_n X dL_law_187 hl 0 rfl rfl ?_
        refine x_iload_n X dL_law_188 hl 3 rfl rfl ?_
        refine lv_iconst (v := (3 : Int32)) hx hb dL_law_189 (by decide) ?_
        refine lv_iadd hx hb dL_law_190 ?_
        refine q_sld X V hS dL_law_191 hp (fun v191_26 hp => ?_)
        obtain ⟨b192_27, e0, hp2⟩ := q_nn_of hp
        clear hp; subst e0; have hp := hp2; clear hp2
        obtain ⟨hk, hp⟩ := q_is_of hp
        obtain ⟨⟨G, v192_29⟩, hq, hp⟩ := q_cl_of hp
        dsimp only at hp
        refine q_goi (cells' := cells + 0) (slots' := slots + 0) (va_runV (As := [.int v181_24, .int v186_25, .int v191_26]) (rest := []) X.1 (cX6_begin l E hq) (tw_cwV 3 X.1.2.2.2.2 (tw_2 116 rfl rfl) kX6_begin.2.1 kX6_begin.2.2.1 kX6_begin.2.2.2 kX6_begin.1 rfl rfl hX6_begin ⟨Nat.le_of_ble_eq_true rfl, Nat.le_of_ble_eq_true rfl⟩) (mm_preV X V rfl (by decide) rfl hk) rfl rfl hl.1 rfl (lv_room (Nat.le_of_ble_eq_true rfl)) dL_law_192 ⟨show cells + 0 ≤ 600000 by omega, show slots + 0 ≤ 7302250 by omega⟩) V ⟨rfl, rfl⟩ (fun H locs V => ?_)
        refine x_aload_n X dL_law_195 hl 2 rfl rfl ?_
        refine x_aload_n X dL_law_196 hl 0 rfl rfl ?_
        refine x_iload_n X dL_law_197 hl 3 rfl rfl ?_
        refine lv_iconst (v := (1 : Int32)) hx hb dL_law_198 (by decide) ?_
        refine lv_iadd hx hb dL_law_199 ?_
        refine q_sld X V hS dL_law_200 hp (fun v200_30 hp => ?_)
        refine x_aload_n X dL_law_201 hl 0 rfl rfl ?_
        refine x_iload_n X dL_law_202 hl 3 rfl rfl ?_
        refine lv_iconst (v := (2 : Int32)) hx hb dL_law_203 (by decide) ?_
        refine lv_iadd hx hb dL_law_204 ?_
        refine q_sld X V hS dL_law_205 hp (fun v205_31 hp => ?_)
        refine x_aload_n X dL_law_206 hl 0 rfl rfl ?_
        refine x_iload_n X dL_law_207 hl 3 rfl rfl ?_
        refine lv_iconst (v := (3 : Int32)) hx hb dL_law_208 (by decide) ?_
        refine lv_iadd hx hb dL_law_209 ?_
        refine q_sld X V hS dL_law_210 hp (fun v210_32 hp => ?_)
        obtain ⟨b211_33, e0, hp2⟩ := q_nn_of hp
        clear hp; subst e0; have hp := hp2; clear hp2
        obtain ⟨hk, hp⟩ := q_is_of hp
        obtain ⟨⟨G, v211_35⟩, hq, hp⟩ := q_cl_of hp
        dsimp only at hp
        refine q_goi (cells' := cells + 0 + 0) (slots' := slots + 0 + 0) (va_runV (As := [.int v200_30, .int v205_31, .int v210_32]) (rest := [.int v192_29]) X.1 (cX7_begin l E hq) (tw_cwV 3 X.1.2.2.2.2 (tw_3 188 rfl rfl) kX7_begin.2.1 kX7_begin.2.2.1 kX7_begin.2.2.2 kX7_begin.1 rfl rfl hX7_begin ⟨Nat.le_of_ble_eq_true rfl, Nat.le_of_ble_eq_true rfl⟩) (mm_preV X V rfl (by decide) rfl hk) rfl rfl hl.1 rfl (lv_room (Nat.le_of_ble_eq_true rfl)) dL_law_211 ⟨show cells + 0 + 0 ≤ 600000 by omega, show slots + 0 + 0 ≤ 7302250 by omega⟩) V ⟨rfl, rfl⟩ (fun H locs V => ?_)
        refine q_if hp (lv_icmp_eq (tgt := 624) hx hb dL_law_214 (by decide)) (fun hp => ?_) (fun hp => ?_)
        · refine x_iinc (v := (4 : Int32)) (lst' := [(3, .inl (x3 + (4 : Int32))), (0, .inr (some a0)), (1, .inr (some b192_27)), (2, .inr (some b211_33))]) X dL_law_624 hl 3 rfl (by decide) (by decide) rfl (fun ls hl => ?_)
          refine lv_goto (tgt := 18) hx hb dL_law_627 (by decide) ?_
          exact ih _ _ (by omega) (by omega) _ _ _ _ _ _ _ V (lx_sub hl [1, 2, 3, 0] rfl) hp
        · refine lv_iconst (v := (0 : Int32)) hx hb dL_law_217 (by decide) ?_
          exact q_lret X V hr hS h1 (by omega) (by omega) dL_law_218 hp
      rw [if_neg h32_2] at hp
      by_cases h32_3 : (v28_5 &&& (31 : Int32)) = 3
      · rw [if_pos h32_3] at hp
        refine lv_tableIn (tgt := 219) hx hb dL_law_32 (by rw [h32_3]; decide) (by rw [h32_3]; decide) (by rw [h32_3]; rfl) (by decide) ?_
        refine x_aload_n X dL_law_219 hl 1 rfl rfl ?_
        refine x_aload_n X dL_law_220 hl 0 rfl rfl ?_
        refine x_iload_n X dL_law_221 hl 3 rfl rfl ?_
        refine lv_iconst (v := (1 : Int32)) hx hb dL_law_222 (by decide) ?_
        refine lv_iadd hx hb dL_law_223 ?_
        refine q_sld X V hS dL_law_224 hp (fun v224_36 hp => ?_)
        obtain ⟨b225_37, e0, hp2⟩ := q_nn_of hp
        clear hp; subst e0; have hp := hp2; clear hp2
        obtain ⟨hk, hp⟩ := q_is_of hp
        obtain ⟨⟨G, v225_39⟩, hq, hp⟩ := q_cl_of hp
        dsimp only at hp
        refine q_goi (cells' := cells + 0) (slots' := slots + 0) (va_runV (As := [.int v224_36]) (rest := []) X.1 (cX6_refresh l E hq) (tw_cwV 1 X.1.2.2.2.2 (tw_2 124 rfl rfl) kX6_refresh.2.1 kX6_refresh.2.2.1 kX6_refresh.2.2.2 kX6_refresh.1 rfl rfl hX6_refresh ⟨Nat.le_of_ble_eq_true rfl, Nat.le_of_ble_eq_true rfl⟩) (mm_preV X V rfl (by decide) rfl hk) rfl rfl hl.1 rfl (lv_room (Nat.le_of_ble_eq_true rfl)) dL_law_225 ⟨show cells + 0 ≤ 600000 by omega, show slots + 0 ≤ 7302250 by omega⟩) V ⟨rfl, rfl⟩ (fun H locs V => ?_)
        refine x_aload_n X dL_law_228 hl 2 rfl rfl ?_
        refine x_aload_n X dL_law_229 hl 0 rfl rfl ?_
        refine x_iload_n X dL_law_230 hl 3 rfl rfl ?_
        refine lv_iconst (v := (1 : Int32)) hx hb dL_law_231 (by decide) ?_
        refine lv_iadd hx hb dL_law_232 ?_
        refine q_sld X V hS dL_law_233 hp (fun v233_40 hp => ?_)
        obtain ⟨b234_41, e0, hp2⟩ := q_nn_of hp
        clear hp; subst e0; have hp := hp2; clear hp2
        obtain ⟨hk, hp⟩ := q_is_of hp
        obtain ⟨⟨G, v234_43⟩, hq, hp⟩ := q_cl_of hp
        dsimp only at hp
        refine q_goi (cells' := cells + 0 + 0) (slots' := slots + 0 + 0) (va_runV (As := [.int v233_40]) (rest := [.int v225_39]) X.1 (cX7_refresh l E hq) (tw_cwV 1 X.1.2.2.2.2 (tw_3 192 rfl rfl) kX7_refresh.2.1 kX7_refresh.2.2.1 kX7_refresh.2.2.2 kX7_refresh.1 rfl rfl hX7_refresh ⟨Nat.le_of_ble_eq_true rfl, Nat.le_of_ble_eq_true rfl⟩) (mm_preV X V rfl (by decide) rfl hk) rfl rfl hl.1 rfl (lv_room (Nat.le_of_ble_eq_true rfl)) dL_law_234 ⟨show cells + 0 + 0 ≤ 600000 by omega, show slots + 0 + 0 ≤ 7302250 by omega⟩) V ⟨rfl, rfl⟩ (fun H locs V => ?_)
        refine q_if hp (lv_icmp_eq (tgt := 624) hx hb dL_law_237 (by decide)) (fun hp => ?_) (fun hp => ?_)
        · refine x_iinc (v := (4 : Int32)) (lst' := [(3, .inl (x3 + (4 : Int32))), (0, .inr (some a0)), (1, .inr (some b225_37)), (2, .inr (some b234_41))]) X dL_law_624 hl 3 rfl (by decide) (by decide) rfl (fun ls hl => ?_)
          refine lv_goto (tgt := 18) hx hb dL_law_627 (by decide) ?_
          exact ih _ _ (by omega) (by omega) _ _ _ _ _ _ _ V (lx_sub hl [1, 2, 3, 0] rfl) hp
        · refine lv_iconst (v := (0 : Int32)) hx hb dL_law_240 (by decide) ?_
          exact q_lret X V hr hS h1 (by omega) (by omega) dL_law_241 hp
      rw [if_neg h32_3] at hp
      by_cases h32_4 : (v28_5 &&& (31 : Int32)) = 4
      · rw [if_pos h32_4] at hp
        refine lv_tableIn (tgt := 242) hx hb dL_law_32 (by rw [h32_4]; decide) (by rw [h32_4]; decide) (by rw [h32_4]; rfl) (by decide) ?_
        refine x_aload_n X dL_law_242 hl 1 rfl rfl ?_
        obtain ⟨b243_44, e0, hp2⟩ := q_nn_of hp
        clear hp; subst e0; have hp := hp2; clear hp2
        obtain ⟨hk, hp⟩ := q_is_of hp
        obtain ⟨⟨G, v243_46⟩, hq, hp⟩ := q_cl_of hp
        dsimp only at hp
        refine q_goi (cells' := cells + 0) (slots' := slots + 0) (va_runV (As := []) (rest := []) X.1 (cX6_tick l E hq) (tw_cwV 0 X.1.2.2.2.2 (tw_2 132 rfl rfl) kX6_tick.2.1 kX6_tick.2.2.1 kX6_tick.2.2.2 kX6_tick.1 rfl rfl hX6_tick ⟨Nat.le_of_ble_eq_true rfl, Nat.le_of_ble_eq_true rfl⟩) (mm_preV X V rfl (by decide) rfl hk) rfl rfl hl.1 rfl (lv_room (Nat.le_of_ble_eq_true rfl)) dL_law_243 ⟨show cells + 0 ≤ 600000 by omega, show slots + 0 ≤ 7302250 by omega⟩) V ⟨rfl, rfl⟩ (fun H locs V => ?_)
        refine x_aload_n X dL_law_246 hl 2 rfl rfl ?_
        obtain ⟨b247_47, e0, hp2⟩ := q_nn_of hp
        clear hp; subst e0; have hp := hp2; clear hp2
        obtain ⟨hk, hp⟩ := q_is_of hp
        obtain ⟨⟨G, v247_49⟩, hq, hp⟩ := q_cl_of hp
        dsimp only at hp
        refine q_goi (cells' := cells + 0 + 0) (slots' := slots + 0 + 0) (va_runV (As := []) (rest := [.int v243_46]) X.1 (cX7_tick l E hq) (tw_cwV 0 X.1.2.2.2.2 (tw_3 208 rfl rfl) kX7_tick.2.1 kX7_tick.2.2.1 kX7_tick.2.2.2 kX7_tick.1 rfl rfl hX7_tick ⟨Nat.le_of_ble_eq_true rfl, Nat.le_of_ble_eq_true rfl⟩) (mm_preV X V rfl (by decide) rfl hk) rfl rfl hl.1 rfl (lv_room (Nat.le_of_ble_eq_true rfl)) dL_law_247 ⟨show cells + 0 + 0 ≤ 600000 by omega, show slots + 0 + 0 ≤ 7302250 by omega⟩) V ⟨rfl, rfl⟩ (fun H locs V => ?_)
        refine q_if hp (lv_icmp_eq (tgt := 624) hx hb dL_law_250 (by decide)) (fun hp => ?_) (fun hp => ?_)
        · refine x_iinc (v := (4 : Int32)) (lst' := [(3, .inl (x3 + (4 : Int32))), (0, .inr (some a0)), (1, .inr (some b243_44)), (2, .inr (some b247_47))]) X dL_law_624 hl 3 rfl (by decide) (by decide) rfl (fun ls hl => ?_)
          refine lv_goto (tgt := 18) hx hb dL_law_627 (by decide) ?_
          exact ih _ _ (by omega) (by omega) _ _ _ _ _ _ _ V (lx_sub hl [1, 2, 3, 0] rfl) hp
        · refine lv_iconst (v := (0 : Int32)) hx hb dL_law_253 (by decide) ?_
          exact q_lret X V hr hS h1 (by omega) (by omega) dL_law_254 hp
      rw [if_neg h32_4] at hp
      by_cases h32_5 : (v28_5 &&& (31 : Int32)) = 5
      · rw [if_pos h32_5] at hp
        refine lv_tableIn (tgt := 255) hx hb dL_law_32 (by rw [h32_5]; decide) (by rw [h32_5]; decide) (by rw [h32_5]; rfl) (by decide) ?_
        refine x_aload_n X dL_law_255 hl 1 rfl rfl ?_
        obtain ⟨b256_50, e0, hp2⟩ := q_nn_of hp
        clear hp; subst e0; have hp := hp2; clear hp2
        obtain ⟨hk, hp⟩ := q_is_of hp
        obtain ⟨⟨G, v256_52⟩, hq, hp⟩ := q_cl_of hp
        dsimp only at hp
        refine q_goi (cells' := cells + 0) (slots' := slots + 0) (va_runV (As := []) (rest := []) X.1 (cX6_clock l E hq) (tw_cwV 0 X.1.2.2.2.2 (tw_2 152 rfl rfl) kX6_clock.2.1 kX6_clock.2.2.1 kX6_clock.2.2.2 kX6_clock.1 rfl rfl hX6_clock ⟨Nat.le_of_ble_eq_true rfl, Nat.le_of_ble_eq_true rfl⟩) (mm_preV X V rfl (by decide) rfl hk) rfl rfl hl.1 rfl (lv_room (Nat.le_of_ble_eq_true rfl)) dL_law_256 ⟨show cells + 0 ≤ 600000 by omega, show slots + 0 ≤ 7302250 by omega⟩) V ⟨rfl, rfl⟩ (fun H locs V => ?_)
        refine x_aload_n X dL_law_259 hl 2 rfl rfl ?_
        obtain ⟨b260_53, e0, hp2⟩ := q_nn_of hp
        clear hp; subst e0; have hp := hp2; clear hp2
        obtain ⟨hk, hp⟩ := q_is_of hp
        obtain ⟨⟨G, v260_55⟩, hq, hp⟩ := q_cl_of hp
        dsimp only at hp
        refine q_goi (cells' := cells + 0 + 0) (slots' := slots + 0 + 0) (va_runV (As := []) (rest := [.int v256_52]) X.1 (cX7_clock l E hq) (tw_cwV 0 X.1.2.2.2.2 (tw_4 18 rfl rfl) kX7_clock.2.1 kX7_clock.2.2.1 kX7_clock.2.2.2 kX7_clock.1 rfl rfl hX7_clock ⟨Nat.le_of_ble_eq_true rfl, Nat.le_of_ble_eq_true rfl⟩) (mm_preV X V rfl (by decide) rfl hk) rfl rfl hl.1 rfl (lv_room (Nat.le_of_ble_eq_true rfl)) dL_law_260 ⟨show cells + 0 + 0 ≤ 600000 by omega, show slots + 0 + 0 ≤ 7302250 by omega⟩) V ⟨rfl, rfl⟩ (fun H locs V => ?_)
        refine q_if hp (lv_icmp_eq (tgt := 624) hx hb dL_law_263 (by decide)) (fun hp => ?_) (fun hp => ?_)
        · refine x_iinc (v := (4 : Int32)) (lst' := [(3, .inl (x3 + (4 : Int32))), (0, .inr (some a0)), (1, .inr (some b256_50)), (2, .inr (some b260_53))]) X dL_law_624 hl 3 rfl (by decide) (by decide) rfl (fun ls hl => ?_)
          refine lv_goto (tgt := 18) hx hb dL_law_627 (by decide) ?_
          exact ih _ _ (by omega) (by omega) _ _ _ _ _ _ _ V (lx_sub hl [1, 2, 3, 0] rfl) hp
        · refine lv_iconst (v := (0 : Int32)) hx hb dL_law_266 (by decide) ?_
          exact q_lret X V hr hS h1 (by omega) (by omega) dL_law_267 hp
      rw [if_neg h32_5] at hp
      by_cases h32_6 : (v28_5 &&& (31 : Int32)) = 6
      · rw [if_pos h32_6] at hp
        refine lv_tableIn (tgt := 268) hx hb dL_law_32 (by rw [h32_6]; decide) (by rw [h32_6]; decide) (by rw [h32_6]; rfl) (by decide) ?_
        refine x_aload_n X dL_law_268 hl 1 rfl rfl ?_
        obtain ⟨b269_56, e0, hp2⟩ := q_nn_of hp
        clear hp; subst e0; have hp := hp2; clear hp2
        obtain ⟨hk, hp⟩ := q_is_of hp
        obtain ⟨⟨G, v269_58⟩, hq, hp⟩ := q_cl_of hp
        dsimp only at hp
        refine q_goi (cells' := cells + 0) (slots' := slots + 0) (va_runV (As := []) (rest := []) X.1 (cX6_waiting l E hq) (tw_cwV 0 X.1.2.2.2.2 (tw_2 156 rfl rfl) kX6_waiting.2.1 kX6_waiting.2.2.1 kX6_waiting.2.2.2 kX6_waiting.1 rfl rfl hX6_waiting ⟨Nat.le_of_ble_eq_true rfl, Nat.le_of_ble_eq_true rfl⟩) (mm_preV X V rfl (by decide) rfl hk) rfl rfl hl.1 rfl (lv_room (Nat.le_of_ble_eq_true rfl)) dL_law_269 ⟨show cells + 0 ≤ 600000 by omega, show slots + 0 ≤ 7302250 by omega⟩) V ⟨rfl, rfl⟩ (fun H locs V => ?_)
        refine x_aload_n X dL_law_272 hl 2 rfl rfl ?_
        obtain ⟨b273_59, e0, hp2⟩ := q_nn_of hp
        clear hp; subst e0; have hp := hp2; clear hp2
        obtain ⟨hk, hp⟩ := q_is_of hp
        obtain ⟨⟨G, v273_61⟩, hq, hp⟩ := q_cl_of hp
        dsimp only at hp
        refine q_goi (cells' := cells + 0 + 0) (slots' := slots + 0 + 0) (va_runV (As := []) (rest := [.int v269_58]) X.1 (cX7_waiting l E hq) (tw_cwV 0 X.1.2.2.2.2 (tw_4 22 rfl rfl) kX7_waiting.2.1 kX7_waiting.2.2.1 kX7_waiting.2.2.2 kX7_waiting.1 rfl rfl hX7_waiting ⟨Nat.le_of_ble_eq_true rfl, Nat.le_of_ble_eq_true rfl⟩) (mm_preV X V rfl (by decide) rfl hk) rfl rfl hl.1 rfl (lv_room (Nat.le_of_ble_eq_true rfl)) dL_law_273 ⟨show cells + 0 + 0 ≤ 600000 by omega, show slots + 0 + 0 ≤ 7302250 by omega⟩) V ⟨rfl, rfl⟩ (fun H locs V => ?_)
        refine q_if hp (lv_icmp_eq (tgt := 624) hx hb dL_law_276 (by decide)) (fun hp => ?_) (fun hp => ?_)
        · refine x_iinc (v := (4 : Int32)) (lst' := [(3, .inl (x3 + (4 : Int32))), (0, .inr (some a0)), (1, .inr (some b269_56)), (2, .inr (some b273_59))]) X dL_law_624 hl 3 rfl (by decide) (by decide) rfl (fun ls hl => ?_)
          refine lv_goto (tgt := 18) hx hb dL_law_627 (by decide) ?_
          exact ih _ _ (by omega) (by omega) _ _ _ _ _ _ _ V (lx_sub hl [1, 2, 3, 0] rfl) hp
        · refine lv_iconst (v := (0 : Int32)) hx hb dL_law_279 (by decide) ?_
          exact q_lret X V hr hS h1 (by omega) (by omega) dL_law_280 hp
      rw [if_neg h32_6] at hp
      by_cases h32_7 : (v28_5 &&& (31 : Int32)) = 7
      · rw [if_pos h32_7] at hp
        refine lv_tableIn (tgt := 281) hx hb dL_law_32 (by rw [h32_7]; decide) (by rw [h32_7]; decide) (by rw [h32_7]; rfl) (by decide) ?_
        refine x_aload_n X dL_law_281 hl 1 rfl rfl ?_
        refine x_aload_n X dL_law_282 hl 0 rfl rfl ?_
        refine x_iload_n X dL_law_283 hl 3 rfl rfl ?_
        refine lv_iconst (v := (1 : Int32)) hx hb dL_law_284 (by decide) ?_
        refine lv_iadd hx hb dL_law_285 ?_
        refine q_sld X V hS dL_law_286 hp (fun v286_62 hp => ?_)
        refine x_aload_n X dL_law_287 hl 0 rfl rfl ?_
        refine x_iload_n X dL_law_288 hl 3 rfl rfl ?_
        refine lv_iconst (v := (2 : Int32)) hx hb dL_law_289 (by decide) ?_
        refine lv_iadd hx hb dL_law_290 ?_
        refine q_sld X V hS dL_law_291 hp (fun v291_63 hp => ?_)
        obtain ⟨b292_64, e0, hp2⟩ := q_nn_of hp
        clear hp; subst e0; have hp := hp2; clear hp2
        obtain ⟨hk, hp⟩ := q_is_of hp
        obtain ⟨⟨G, v292_66⟩, hq, hp⟩ := q_cl_of hp
        dsimp only at hp
        refine q_goi (cells' := cells + 0) (slots' := slots + 0) (va_runV (As := [.int v286_62, .int v291_63]) (rest := []) X.1 (cX6_datagram l E hq) (tw_cwV 2 X.1.2.2.2.2 (tw_2 160 rfl rfl) kX6_datagram.2.1 kX6_datagram.2.2.1 kX6_datagram.2.2.2 kX6_datagram.1 rfl rfl hX6_datagram ⟨Nat.le_of_ble_eq_true rfl, Nat.le_of_ble_eq_true rfl⟩) (mm_preV X V rfl (by decide) rfl hk) rfl rfl hl.1 rfl (lv_room (Nat.le_of_ble_eq_true rfl)) dL_law_292 ⟨show cells + 0 ≤ 600000 by omega, show slots + 0 ≤ 7302250 by omega⟩) V ⟨rfl, rfl⟩ (fun H locs V => ?_)
        refine x_aload_n X dL_law_295 hl 2 rfl rfl ?_
        refine x_aload_n X dL_law_296 hl 0 rfl rfl ?_
        refine x_iload_n X dL_law_297 hl 3 rfl rfl ?_
        refine lv_iconst (v := (1 : Int32)) hx hb dL_law_298 (by decide) ?_
        refine lv_iadd hx hb dL_law_299 ?_
        refine q_sld X V hS dL_law_300 hp (fun v300_67 hp => ?_)
        refine x_aload_n X dL_law_301 hl 0 rfl rfl ?_
        refine x_iload_n X dL_law_302 hl 3 rfl rfl ?_
        refine lv_iconst (v := (2 : Int32)) hx hb dL_law_303 (by decide) ?_
        refine lv_iadd hx hb dL_law_304 ?_
        refine q_sld X V hS dL_law_305 hp (fun v305_68 hp => ?_)
        obtain ⟨b306_69, e0, hp2⟩ := q_nn_of hp
        clear hp; subst e0; have hp := hp2; clear hp2
        obtain ⟨hk, hp⟩ := q_is_of hp
        obtain ⟨⟨G, v306_71⟩, hq, hp⟩ := q_cl_of hp
        dsimp only at hp
        refine q_goi (cells' := cells + 0 + 0) (slots' := slots + 0 + 0) (va_runV (As := [.int v300_67, .int v305_68]) (rest := [.int v292_66]) X.1 (cX7_datagram l E hq) (tw_cwV 2 X.1.2.2.2.2 (tw_4 26 rfl rfl) kX7_datagram.2.1 kX7_datagram.2.2.1 kX7_datagram.2.2.2 kX7_datagram.1 rfl rfl hX7_datagram ⟨Nat.le_of_ble_eq_true rfl, Nat.le_of_ble_eq_true rfl⟩) (mm_preV X V rfl (by decide) rfl hk) rfl rfl hl.1 rfl (lv_room (Nat.le_of_ble_eq_true rfl)) dL_law_306 ⟨show cells + 0 + 0 ≤ 600000 by omega, show slots + 0 + 0 ≤ 7302250 by omega⟩) V ⟨rfl, rfl⟩ (fun H locs V => ?_)
        refine q_if hp (lv_icmp_eq (tgt := 624) hx hb dL_law_309 (by decide)) (fun hp => ?_) (fun hp => ?_)
        · refine x_iinc (v := (4 : Int32)) (lst' := [(3, .inl (x3 + (4 : Int32))), (0, .inr (some a0)), (1, .inr (some b292_64)), (2, .inr (some b306_69))]) X dL_law_624 hl 3 rfl (by decide) (by decide) rfl (fun ls hl => ?_)
          refine lv_goto (tgt := 18) hx hb dL_law_627 (by decide) ?_
          exact ih _ _ (by omega) (by omega) _ _ _ _ _ _ _ V (lx_sub hl [1, 2, 3, 0] rfl) hp
        · refine lv_iconst (v := (0 : Int32)) hx hb dL_law_312 (by decide) ?_
          exact q_lret X V hr hS h1 (by omega) (by omega) dL_law_313 hp
      rw [if_neg h32_7] at hp
      by_cases h32_8 : (v28_5 &&& (31 : Int32)) = 8
      · rw [if_pos h32_8] at hp
        refine lv_tableIn (tgt := 314) hx hb dL_law_32 (by rw [h32_8]; decide) (by rw [h32_8]; decide) (by rw [h32_8]; rfl) (by decide) ?_
        refine x_aload_n X dL_law_314 hl 1 rfl rfl ?_
        refine x_aload_n X dL_law_315 hl 0 rfl rfl ?_
        refine x_iload_n X dL_law_316 hl 3 rfl rfl ?_
        refine lv_iconst (v := (1 : Int32)) hx hb dL_law_317 (by decide) ?_
        refine lv_iadd hx hb dL_law_318 ?_
        refine q_sld X V hS dL_law_319 hp (fun v319_72 hp => ?_)
        obtain ⟨b320_73, e0, hp2⟩ := q_nn_of hp
        clear hp; subst e0; have hp := hp2; clear hp2
        obtain ⟨hk, hp⟩ := q_is_of hp
        obtain ⟨⟨G, v320_75⟩, hq, hp⟩ := q_cl_of hp
        dsimp only at hp
        refine q_goi (cells' := cells + 0) (slots' := slots + 0) (va_runV (As := [.int v319_72]) (rest := []) X.1 (cX6_deliver l E hq) (tw_cwV 1 X.1.2.2.2.2 (tw_2 172 rfl rfl) kX6_deliver.2.1 kX6_deliver.2.2.1 kX6_deliver.2.2.2 kX6_deliver.1 rfl rfl hX6_deliver ⟨Nat.le_of_ble_eq_true rfl, Nat.le_of_ble_eq_true rfl⟩) (mm_preV X V rfl (by decide) rfl hk) rfl rfl hl.1 rfl (lv_room (Nat.le_of_ble_eq_true rfl)) dL_law_320 ⟨show cells + 0 ≤ 600000 by omega, show slots + 0 ≤ 7302250 by omega⟩) V ⟨rfl, rfl⟩ (fun H locs V => ?_)
        refine x_aload_n X dL_law_323 hl 2 rfl rfl ?_
        refine x_aload_n X dL_law_324 hl 0 rfl rfl ?_
        refine x_iload_n X dL_law_325 hl 3 rfl rfl ?_
        refine lv_iconst (v := (1 : Int32)) hx hb dL_law_326 (by decide) ?_
        refine lv_iadd hx hb dL_law_327 ?_
        refine q_sld X V hS dL_law_328 hp (fun v328_76 hp => ?_)
        obtain ⟨b329_77, e0, hp2⟩ := q_nn_of hp
        clear hp; subst e0; have hp := hp2; clear hp2
        obtain ⟨hk, hp⟩ := q_is_of hp
        obtain ⟨⟨G, v329_79⟩, hq, hp⟩ := q_cl_of hp
        dsimp only at hp
        refine q_goi (cells' := cells + 0 + 0) (slots' := slots + 0 + 0) (va_runV (As := [.int v328_76]) (rest := [.int v320_75]) X.1 (cX7_deliver l E hq) (tw_cwV 1 X.1.2.2.2.2 (tw_3 220 rfl rfl) kX7_deliver.2.1 kX7_deliver.2.2.1 kX7_deliver.2.2.2 kX7_deliver.1 rfl rfl hX7_deliver ⟨Nat.le_of_ble_eq_true rfl, Nat.le_of_ble_eq_true rfl⟩) (mm_preV X V rfl (by decide) rfl hk) rfl rfl hl.1 rfl (lv_room (Nat.le_of_ble_eq_true rfl)) dL_law_329 ⟨show cells + 0 + 0 ≤ 600000 by omega, show slots + 0 + 0 ≤ 7302250 by omega⟩) V ⟨rfl, rfl⟩ (fun H locs V => ?_)
        refine q_if hp (lv_icmp_eq (tgt := 624) hx hb dL_law_332 (by decide)) (fun hp => ?_) (fun hp => ?_)
        · refine x_iinc (v := (4 : Int32)) (lst' := [(3, .inl (x3 + (4 : Int32))), (0, .inr (some a0)), (1, .inr (some b320_73)), (2, .inr (some b329_77))]) X dL_law_624 hl 3 rfl (by decide) (by decide) rfl (fun ls hl => ?_)
          refine lv_goto (tgt := 18) hx hb dL_law_627 (by decide) ?_
          exact ih _ _ (by omega) (by omega) _ _ _ _ _ _ _ V (lx_sub hl [1, 2, 3, 0] rfl) hp
        · refine lv_iconst (v := (0 : Int32)) hx hb dL_law_335 (by decide) ?_
          exact q_lret X V hr hS h1 (by omega) (by omega) dL_law_336 hp
      rw [if_neg h32_8] at hp
      by_cases h32_9 : (v28_5 &&& (31 : Int32)) = 9
      · rw [if_pos h32_9] at hp
        refine lv_tableIn (tgt := 337) hx hb dL_law_32 (by rw [h32_9]; decide) (by rw [h32_9]; decide) (by rw [h32_9]; rfl) (by decide) ?_
        refine x_aload_n X dL_law_337 hl 1 rfl rfl ?_
        refine x_aload_n X dL_law_338 hl 0 rfl rfl ?_
        refine x_iload_n X dL_law_339 hl 3 rfl rfl ?_
        refine lv_iconst (v := (1 : Int32)) hx hb dL_law_340 (by decide) ?_
        refine lv_iadd hx hb dL_law_341 ?_
        refine q_sld X V hS dL_law_342 hp (fun v342_80 hp => ?_)
        obtain ⟨b343_81, e0, hp2⟩ := q_nn_of hp
        clear hp; subst e0; have hp := hp2; clear hp2
        obtain ⟨hk, hp⟩ := q_is_of hp
        obtain ⟨⟨G, v343_83⟩, hq, hp⟩ := q_cl_of hp
        dsimp only at hp
        refine q_goi (cells' := cells + 0) (slots' := slots + 0) (va_runV (As := [.int v342_80]) (rest := []) X.1 (cX6_drop l E hq) (tw_cwV 1 X.1.2.2.2.2 (tw_2 218 rfl rfl) kX6_drop.2.1 kX6_drop.2.2.1 kX6_drop.2.2.2 kX6_drop.1 rfl rfl hX6_drop ⟨Nat.le_of_ble_eq_true rfl, Nat.le_of_ble_eq_true rfl⟩) (mm_preV X V rfl (by decide) rfl hk) rfl rfl hl.1 rfl (lv_room (Nat.le_of_ble_eq_true rfl)) dL_law_343 ⟨show cells + 0 ≤ 600000 by omega, show slots + 0 ≤ 7302250 by omega⟩) V ⟨rfl, rfl⟩ (fun H locs V => ?_)
        refine x_aload_n X dL_law_346 hl 2 rfl rfl ?_
        refine x_aload_n X dL_law_347 hl 0 rfl rfl ?_
        refine x_iload_n X dL_law_348 hl 3 rfl rfl ?_
        refine lv_iconst (v := (1 : Int32)) hx hb dL_law_349 (by decide) ?_
        refine lv_iadd hx hb dL_law_350 ?_
        refine q_sld X V hS dL_law_351 hp (fun v351_84 hp => ?_)
        obtain ⟨b352_85, e0, hp2⟩ := q_nn_of hp
        clear hp; subst e0; have hp := hp2; clear hp2
        obtain ⟨hk, hp⟩ := q_is_of hp
        obtain ⟨⟨G, v352_87⟩, hq, hp⟩ := q_cl_of hp
        dsimp only at hp
        refine q_goi (cells' := cells + 0 + 0) (slots' := slots + 0 + 0) (va_runV (As := [.int v351_84]) (rest := [.int v343_83]) X.1 (cX7_drop l E hq) (tw_cwV 1 X.1.2.2.2.2 (tw_4 14 rfl rfl) kX7_drop.2.1 kX7_drop.2.2.1 kX7_drop.2.2.2 kX7_drop.1 rfl rfl hX7_drop ⟨Nat.le_of_ble_eq_true rfl, Nat.le_of_ble_eq_true rfl⟩) (mm_preV X V rfl (by decide) rfl hk) rfl rfl hl.1 rfl (lv_room (Nat.le_of_ble_eq_true rfl)) dL_law_352 ⟨show cells + 0 + 0 ≤ 600000 by omega, show slots + 0 + 0 ≤ 7302250 by omega⟩) V ⟨rfl, rfl⟩ (fun H locs V => ?_)
        refine q_if hp (lv_icmp_eq (tgt := 624) hx hb dL_law_355 (by decide)) (fun hp => ?_) (fun hp => ?_)
        · refine x_iinc (v := (4 : Int32)) (lst' := [(3, .inl (x3 + (4 : Int32))), (0, .inr (some a0)), (1, .inr (some b343_81)), (2, .inr (some b352_85))]) X dL_law_624 hl 3 rfl (by decide) (by decide) rfl (fun ls hl => ?_)
          refine lv_goto (tgt := 18) hx hb dL_law_627 (by decide) ?_
          exact ih _ _ (by omega) (by omega) _ _ _ _ _ _ _ V (lx_sub hl [1, 2, 3, 0] rfl) hp
        · refine lv_iconst (v := (0 : Int32)) hx hb dL_law_358 (by decide) ?_
          exact q_lret X V hr hS h1 (by omega) (by omega) dL_law_359 hp
      rw [if_neg h32_9] at hp
      by_cases h32_10 : (v28_5 &&& (31 : Int32)) = 10
      · rw [if_pos h32_10] at hp
        refine lv_tableIn (tgt := 360) hx hb dL_law_32 (by rw [h32_10]; decide) (by rw [h32_10]; decide) (by rw [h32_10]; rfl) (by decide) ?_
        refine x_aload_n X dL_law_360 hl 1 rfl rfl ?_
        refine x_aload_n X dL_law_361 hl 0 rfl rfl ?_
        refine x_iload_n X dL_law_362 hl 3 rfl rfl ?_
        refine lv_iconst (v := (1 : Int32)) hx hb dL_law_363 (by decide) ?_
        refine lv_iadd hx hb dL_law_364 ?_
        refine q_sld X V hS dL_law_365 hp (fun v365_88 hp => ?_)
        obtain ⟨b366_89, e0, hp2⟩ := q_nn_of hp
        clear hp; subst e0; have hp := hp2; clear hp2
        obtain ⟨hk, hp⟩ := q_is_of hp
        obtain ⟨⟨G, v366_91⟩, hq, hp⟩ := q_cl_of hp
        dsimp only at hp
        refine q_goi (cells' := cells + 0) (slots' := slots + 0) (va_runV (As := [.int v365_88]) (rest := []) X.1 (cX6_lookup l E hq) (tw_cwV 1 X.1.2.2.2.2 (tw_2 222 rfl rfl) kX6_lookup.2.1 kX6_lookup.2.2.1 kX6_lookup.2.2.2 kX6_lookup.1 rfl rfl hX6_lookup ⟨Nat.le_of_ble_eq_true rfl, Nat.le_of_ble_eq_true rfl⟩) (mm_preV X V rfl (by decide) rfl hk) rfl rfl hl.1 rfl (lv_room (Nat.le_of_ble_eq_true rfl)) dL_law_366 ⟨show cells + 0 ≤ 600000 by omega, show slots + 0 ≤ 7302250 by omega⟩) V ⟨rfl, rfl⟩ (fun H locs V => ?_)
        refine x_aload_n X dL_law_369 hl 2 rfl rfl ?_
        refine x_aload_n X dL_law_370 hl 0 rfl rfl ?_
        refine x_iload_n X dL_law_371 hl 3 rfl rfl ?_
        refine lv_iconst (v := (1 : Int32)) hx hb dL_law_372 (by decide) ?_
        refine lv_iadd hx hb dL_law_373 ?_
        refine q_sld X V hS dL_law_374 hp (fun v374_92 hp => ?_)
        obtain ⟨b375_93, e0, hp2⟩ := q_nn_of hp
        clear hp; subst e0; have hp := hp2; clear hp2
        obtain ⟨hk, hp⟩ := q_is_of hp
        obtain ⟨⟨G, v375_95⟩, hq, hp⟩ := q_cl_of hp
        dsimp only at hp
        refine q_goi (cells' := cells + 0 + 0) (slots' := slots + 0 + 0) (va_runV (As := [.int v374_92]) (rest := [.int v366_91]) X.1 (cX7_lookup l E hq) (tw_cwV 1 X.1.2.2.2.2 (tw_4 30 rfl rfl) kX7_lookup.2.1 kX7_lookup.2.2.1 kX7_lookup.2.2.2 kX7_lookup.1 rfl rfl hX7_lookup ⟨Nat.le_of_ble_eq_true rfl, Nat.le_of_ble_eq_true rfl⟩) (mm_preV X V rfl (by decide) rfl hk) rfl rfl hl.1 rfl (lv_room (Nat.le_of_ble_eq_true rfl)) dL_law_375 ⟨show cells + 0 + 0 ≤ 600000 by omega, show slots + 0 + 0 ≤ 7302250 by omega⟩) V ⟨rfl, rfl⟩ (fun H locs V => ?_)
        refine q_if hp (lv_icmp_eq (tgt := 624) hx hb dL_law_378 (by decide)) (fun hp => ?_) (fun hp => ?_)
        · refine x_iinc (v := (4 : Int32)) (lst' := [(3, .inl (x3 + (4 : Int32))), (0, .inr (some a0)), (1, .inr (some b366_89)), (2, .inr (some b375_93))]) X dL_law_624 hl 3 rfl (by decide) (by decide) rfl (fun ls hl => ?_)
          refine lv_goto (tgt := 18) hx hb dL_law_627 (by decide) ?_
          exact ih _ _ (by omega) (by omega) _ _ _ _ _ _ _ V (lx_sub hl [1, 2, 3, 0] rfl) hp
        · refine lv_iconst (v := (0 : Int32)) hx hb dL_law_381 (by decide) ?_
          exact q_lret X V hr hS h1 (by omega) (by omega) dL_law_382 hp
      rw [if_neg h32_10] at hp
      by_cases h32_11 : (v28_5 &&& (31 : Int32)) = 11
      · rw [if_pos h32_11] at hp
        refine lv_tableIn (tgt := 383) hx hb dL_law_32 (by rw [h32_11]; decide) (by rw [h32_11]; decide) (by rw [h32_11]; rfl) (by decide) ?_
        refine x_aload_n X dL_law_383 hl 1 rfl rfl ?_
        refine x_aload_n X dL_law_384 hl 0 rfl rfl ?_
        refine x_iload_n X dL_law_385 hl 3 rfl rfl ?_
        refine lv_iconst (v := (1 : Int32)) hx hb dL_law_386 (by decide) ?_
        refine lv_iadd hx hb dL_law_387 ?_
        refine q_sld X V hS dL_law_388 hp (fun v388_96 hp => ?_)
        refine x_aload_n X dL_law_389 hl 0 rfl rfl ?_
        refine x_iload_n X dL_law_390 hl 3 rfl rfl ?_
        refine lv_iconst (v := (2 : Int32)) hx hb dL_law_391 (by decide) ?_
        refine lv_iadd hx hb dL_law_392 ?_
        refine q_sld X V hS dL_law_393 hp (fun v393_97 hp => ?_)
        obtain ⟨b394_98, e0, hp2⟩ := q_nn_of hp
        clear hp; subst e0; have hp := hp2; clear hp2
        obtain ⟨hk, hp⟩ := q_is_of hp
        obtain ⟨⟨G, v394_100⟩, hq, hp⟩ := q_cl_of hp
        dsimp only at hp
        refine q_goi (cells' := cells + 0) (slots' := slots + 0) (va_runV (As := [.int v388_96, .int v393_97]) (rest := []) X.1 (cX6_candidate l E hq) (tw_cwV 2 X.1.2.2.2.2 (tw_2 226 rfl rfl) kX6_candidate.2.1 kX6_candidate.2.2.1 kX6_candidate.2.2.2 kX6_candidate.1 rfl rfl hX6_candidate ⟨Nat.le_of_ble_eq_true rfl, Nat.le_of_ble_eq_true rfl⟩) (mm_preV X V rfl (by decide) rfl hk) rfl rfl hl.1 rfl (lv_room (Nat.le_of_ble_eq_true rfl)) dL_law_394 ⟨show cells + 0 ≤ 600000 by omega, show slots + 0 ≤ 7302250 by omega⟩) V ⟨rfl, rfl⟩ (fun H locs V => ?_)
        refine x_aload_n X dL_law_397 hl 2 rfl rfl ?_
        refine x_aload_n X dL_law_398 hl 0 rfl rfl ?_
        refine x_iload_n X dL_law_399 hl 3 rfl rfl ?_
        refine lv_iconst (v := (1 : Int32)) hx hb dL_law_400 (by decide) ?_
        refine lv_iadd hx hb dL_law_401 ?_
        refine q_sld X V hS dL_law_402 hp (fun v402_101 hp => ?_)
        refine x_aload_n X dL_law_403 hl 0 rfl rfl ?_
        refine x_iload_n X dL_law_404 hl 3 rfl rfl ?_
        refine lv_iconst (v := (2 : Int32)) hx hb dL_law_405 (by decide) ?_
        refine lv_iadd hx hb dL_law_406 ?_
        refine q_sld X V hS dL_law_407 hp (fun v407_102 hp => ?_)
        obtain ⟨b408_103, e0, hp2⟩ := q_nn_of hp
        clear hp; subst e0; have hp := hp2; clear hp2
        obtain ⟨hk, hp⟩ := q_is_of hp
        obtain ⟨⟨G, v408_105⟩, hq, hp⟩ := q_cl_of hp
        dsimp only at hp
        refine q_goi (cells' := cells + 0 + 0) (slots' := slots + 0 + 0) (va_runV (As := [.int v402_101, .int v407_102]) (rest := [.int v394_100]) X.1 (cX7_candidate l E hq) (tw_cwV 2 X.1.2.2.2.2 (tw_4 34 rfl rfl) kX7_candidate.2.1 kX7_candidate.2.2.1 kX7_candidate.2.2.2 kX7_candidate.1 rfl rfl hX7_candidate ⟨Nat.le_of_ble_eq_true rfl, Nat.le_of_ble_eq_true rfl⟩) (mm_preV X V rfl (by decide) rfl hk) rfl rfl hl.1 rfl (lv_room (Nat.le_of_ble_eq_true rfl)) dL_law_408 ⟨show cells + 0 + 0 ≤ 600000 by omega, show slots + 0 + 0 ≤ 7302250 by omega⟩) V ⟨rfl, rfl⟩ (fun H locs V => ?_)
        refine q_if hp (lv_icmp_eq (tgt := 624) hx hb dL_law_411 (by decide)) (fun hp => ?_) (fun hp => ?_)
        · refine x_iinc (v := (4 : Int32)) (lst' := [(3, .inl (x3 + (4 : Int32))), (0, .inr (some a0)), (1, .inr (some b394_98)), (2, .inr (some b408_103))]) X dL_law_624 hl 3 rfl (by decide) (by decide) rfl (fun ls hl => ?_)
          refine lv_goto (tgt := 18) hx hb dL_law_627 (by decide) ?_
          exact ih _ _ (by omega) (by omega) _ _ _ _ _ _ _ V (lx_sub hl [1, 2, 3, 0] rfl) hp
        · refine lv_iconst (v := (0 : Int32)) hx hb dL_law_414 (by decide) ?_
          exact q_lret X V hr hS h1 (by omega) (by omega) dL_law_415 hp
      rw [if_neg h32_11] at hp
      by_cases h32_12 : (v28_5 &&& (31 : Int32)) = 12
      · rw [if_pos h32_12] at hp
        refine lv_tableIn (tgt := 416) hx hb dL_law_32 (by rw [h32_12]; decide) (by rw [h32_12]; decide) (by rw [h32_12]; rfl) (by decide) ?_
        refine x_aload_n X dL_law_416 hl 1 rfl rfl ?_
        refine x_aload_n X dL_law_417 hl 0 rfl rfl ?_
        refine x_iload_n X dL_law_418 hl 3 rfl rfl ?_
        refine lv_iconst (v := (1 : Int32)) hx hb dL_law_419 (by decide) ?_
        refine lv_iadd hx hb dL_law_420 ?_
        refine q_sld X V hS dL_law_421 hp (fun v421_106 hp => ?_)
        refine x_aload_n X dL_law_422 hl 0 rfl rfl ?_
        refine x_iload_n X dL_law_423 hl 3 rfl rfl ?_
        refine lv_iconst (v := (2 : Int32)) hx hb dL_law_424 (by decide) ?_
        refine lv_iadd hx hb dL_law_425 ?_
        refine q_sld X V hS dL_law_426 hp (fun v426_107 hp => ?_)
        obtain ⟨b427_108, e0, hp2⟩ := q_nn_of hp
        clear hp; subst e0; have hp := hp2; clear hp2
        obtain ⟨hk, hp⟩ := q_is_of hp
        obtain ⟨⟨G, v427_110⟩, hq, hp⟩ := q_cl_of hp
        dsimp only at hp
        refine q_goi (cells' := cells + 0) (slots' := slots + 0) (va_runV (As := [.int v421_106, .int v426_107]) (rest := []) X.1 (cX6_found l E hq) (tw_cwV 2 X.1.2.2.2.2 (tw_2 234 rfl rfl) kX6_found.2.1 kX6_found.2.2.1 kX6_found.2.2.2 kX6_found.1 rfl rfl hX6_found ⟨Nat.le_of_ble_eq_true rfl, Nat.le_of_ble_eq_true rfl⟩) (mm_preV X V rfl (by decide) rfl hk) rfl rfl hl.1 rfl (lv_room (Nat.le_of_ble_eq_true rfl)) dL_law_427 ⟨show cells + 0 ≤ 600000 by omega, show slots + 0 ≤ 7302250 by omega⟩) V ⟨rfl, rfl⟩ (fun H locs V => ?_)
        refine x_aload_n X dL_law_430 hl 2 rfl rfl ?_
        refine x_aload_n X dL_law_431 hl 0 rfl rfl ?_
        refine x_iload_n X dL_law_432 hl 3 rfl rfl ?_
        refine lv_iconst (v := (1 : Int32)) hx hb dL_law_433 (by decide) ?_
        refine lv_iadd hx hb dL_law_434 ?_
        refine q_sld X V hS dL_law_435 hp (fun v435_111 hp => ?_)
        refine x_aload_n X dL_law_436 hl 0 rfl rfl ?_
        refine x_iload_n X dL_law_437 hl 3 rfl rfl ?_
        refine lv_iconst (v := (2 : Int32)) hx hb dL_law_438 (by decide) ?_
        refine lv_iadd hx hb dL_law_439 ?_
        refine q_sld X V hS dL_law_440 hp (fun v440_112 hp => ?_)
        obtain ⟨b441_113, e0, hp2⟩ := q_nn_of hp
        clear hp; subst e0; have hp := hp2; clear hp2
        obtain ⟨hk, hp⟩ := q_is_of hp
        obtain ⟨⟨G, v441_115⟩, hq, hp⟩ := q_cl_of hp
        dsimp only at hp
        refine q_goi (cells' := cells + 0 + 0) (slots' := slots + 0 + 0) (va_runV (As := [.int v435_111, .int v440_112]) (rest := [.int v427_110]) X.1 (cX7_found l E hq) (tw_cwV 2 X.1.2.2.2.2 (tw_4 38 rfl rfl) kX7_found.2.1 kX7_found.2.2.1 kX7_found.2.2.2 kX7_found.1 rfl rfl hX7_found ⟨Nat.le_of_ble_eq_true rfl, Nat.le_of_ble_eq_true rfl⟩) (mm_preV X V rfl (by decide) rfl hk) rfl rfl hl.1 rfl (lv_room (Nat.le_of_ble_eq_true rfl)) dL_law_441 ⟨show cells + 0 + 0 ≤ 600000 by omega, show slots + 0 + 0 ≤ 7302250 by omega⟩) V ⟨rfl, rfl⟩ (fun H locs V => ?_)
        refine q_if hp (lv_icmp_eq (tgt := 624) hx hb dL_law_444 (by decide)) (fun hp => ?_) (fun hp => ?_)
        · refine x_iinc (v := (4 : Int32)) (lst' := [(3, .inl (x3 + (4 : Int32))), (0, .inr (some a0)), (1, .inr (some b427_108)), (2, .inr (some b441_113))]) X dL_law_624 hl 3 rfl (by decide) (by decide) rfl (fun ls hl => ?_)
          refine lv_goto (tgt := 18) hx hb dL_law_627 (by decide) ?_
          exact ih _ _ (by omega) (by omega) _ _ _ _ _ _ _ V (lx_sub hl [1, 2, 3, 0] rfl) hp
        · refine lv_iconst (v := (0 : Int32)) hx hb dL_law_447 (by decide) ?_
          exact q_lret X V hr hS h1 (by omega) (by omega) dL_law_448 hp
      rw [if_neg h32_12] at hp
      by_cases h32_13 : (v28_5 &&& (31 : Int32)) = 13
      · rw [if_pos h32_13] at hp
        refine lv_tableIn (tgt := 449) hx hb dL_law_32 (by rw [h32_13]; decide) (by rw [h32_13]; decide) (by rw [h32_13]; rfl) (by decide) ?_
        refine x_aload_n X dL_law_449 hl 1 rfl rfl ?_
        refine x_aload_n X dL_law_450 hl 0 rfl rfl ?_
        refine x_iload_n X dL_law_451 hl 3 rfl rfl ?_
        refine lv_iconst (v := (1 : Int32)) hx hb dL_law_452 (by decide) ?_
        refine lv_iadd hx hb dL_law_453 ?_
        refine q_sld X V hS dL_law_454 hp (fun v454_116 hp => ?_)
        obtain ⟨b455_117, e0, hp2⟩ := q_nn_of hp
        clear hp; subst e0; have hp := hp2; clear hp2
        obtain ⟨hk, hp⟩ := q_is_of hp
        obtain ⟨⟨G, v455_119⟩, hq, hp⟩ := q_cl_of hp
        dsimp only at hp
        refine q_goi (cells' := cells + 0) (slots' := slots + 0) (va_runV (As := [.int v454_116]) (rest := []) X.1 (cX6_buckets l E hq) (tw_cwV 1 X.1.2.2.2.2 (tw_2 238 rfl rfl) kX6_buckets.2.1 kX6_buckets.2.2.1 kX6_buckets.2.2.2 kX6_buckets.1 rfl rfl hX6_buckets ⟨Nat.le_of_ble_eq_true rfl, Nat.le_of_ble_eq_true rfl⟩) (mm_preV X V rfl (by decide) rfl hk) rfl rfl hl.1 rfl (lv_room (Nat.le_of_ble_eq_true rfl)) dL_law_455 ⟨show cells + 0 ≤ 600000 by omega, show slots + 0 ≤ 7302250 by omega⟩) V ⟨rfl, rfl⟩ (fun H locs V => ?_)
        refine x_aload_n X dL_law_458 hl 2 rfl rfl ?_
        refine x_aload_n X dL_law_459 hl 0 rfl rfl ?_
        refine x_iload_n X dL_law_460 hl 3 rfl rfl ?_
        refine lv_iconst (v := (1 : Int32)) hx hb dL_law_461 (by decide) ?_
        refine lv_iadd hx hb dL_law_462 ?_
        refine q_sld X V hS dL_law_463 hp (fun v463_120 hp => ?_)
        obtain ⟨b464_121, e0, hp2⟩ := q_nn_of hp
        clear hp; subst e0; have hp := hp2; clear hp2
        obtain ⟨hk, hp⟩ := q_is_of hp
        obtain ⟨⟨G, v464_123⟩, hq, hp⟩ := q_cl_of hp
        dsimp only at hp
        refine q_goi (cells' := cells + 0 + 0) (slots' := slots + 0 + 0) (va_runV (As := [.int v463_120]) (rest := [.int v455_119]) X.1 (cX7_buckets l E hq) (tw_cwV 1 X.1.2.2.2.2 (tw_4 42 rfl rfl) kX7_buckets.2.1 kX7_buckets.2.2.1 kX7_buckets.2.2.2 kX7_buckets.1 rfl rfl hX7_buckets ⟨Nat.le_of_ble_eq_true rfl, Nat.le_of_ble_eq_true rfl⟩) (mm_preV X V rfl (by decide) rfl hk) rfl rfl hl.1 rfl (lv_room (Nat.le_of_ble_eq_true rfl)) dL_law_464 ⟨show cells + 0 + 0 ≤ 600000 by omega, show slots + 0 + 0 ≤ 7302250 by omega⟩) V ⟨rfl, rfl⟩ (fun H locs V => ?_)
        refine q_if hp (lv_icmp_eq (tgt := 624) hx hb dL_law_467 (by decide)) (fun hp => ?_) (fun hp => ?_)
        · refine x_iinc (v := (4 : Int32)) (lst' := [(3, .inl (x3 + (4 : Int32))), (0, .inr (some a0)), (1, .inr (some b455_117)), (2, .inr (some b464_121))]) X dL_law_624 hl 3 rfl (by decide) (by decide) rfl (fun ls hl => ?_)
          refine lv_goto (tgt := 18) hx hb dL_law_627 (by decide) ?_
          exact ih _ _ (by omega) (by omega) _ _ _ _ _ _ _ V (lx_sub hl [1, 2, 3, 0] rfl) hp
        · refine lv_iconst (v := (0 : Int32)) hx hb dL_law_470 (by decide) ?_
          exact q_lret X V hr hS h1 (by omega) (by omega) dL_law_471 hp
      rw [if_neg h32_13] at hp
      by_cases h32_14 : (v28_5 &&& (31 : Int32)) = 14
      · rw [if_pos h32_14] at hp
        refine lv_tableIn (tgt := 472) hx hb dL_law_32 (by rw [h32_14]; decide) (by rw [h32_14]; decide) (by rw [h32_14]; rfl) (by decide) ?_
        refine x_aload_n X dL_law_472 hl 1 rfl rfl ?_
        refine x_aload_n X dL_law_473 hl 0 rfl rfl ?_
        refine x_iload_n X dL_law_474 hl 3 rfl rfl ?_
        refine lv_iconst (v := (1 : Int32)) hx hb dL_law_475 (by decide) ?_
        refine lv_iadd hx hb dL_law_476 ?_
        refine q_sld X V hS dL_law_477 hp (fun v477_124 hp => ?_)
        refine x_aload_n X dL_law_478 hl 0 rfl rfl ?_
        refine x_iload_n X dL_law_479 hl 3 rfl rfl ?_
        refine lv_iconst (v := (2 : Int32)) hx hb dL_law_480 (by decide) ?_
        refine lv_iadd hx hb dL_law_481 ?_
        refine q_sld X V hS dL_law_482 hp (fun v482_125 hp => ?_)
        obtain ⟨b483_126, e0, hp2⟩ := q_nn_of hp
        clear hp; subst e0; have hp := hp2; clear hp2
        obtain ⟨hk, hp⟩ := q_is_of hp
        obtain ⟨⟨G, v483_128⟩, hq, hp⟩ := q_cl_of hp
        dsimp only at hp
        refine q_goi (cells' := cells + 0) (slots' := slots + 0) (va_runV (As := [.int v477_124, .int v482_125]) (rest := []) X.1 (cX6_bucket l E hq) (tw_cwV 2 X.1.2.2.2.2 (tw_3 2 rfl rfl) kX6_bucket.2.1 kX6_bucket.2.2.1 kX6_bucket.2.2.2 kX6_bucket.1 rfl rfl hX6_bucket ⟨Nat.le_of_ble_eq_true rfl, Nat.le_of_ble_eq_true rfl⟩) (mm_preV X V rfl (by decide) rfl hk) rfl rfl hl.1 rfl (lv_room (Nat.le_of_ble_eq_true rfl)) dL_law_483 ⟨show cells + 0 ≤ 600000 by omega, show slots + 0 ≤ 7302250 by omega⟩) V ⟨rfl, rfl⟩ (fun H locs V => ?_)
        refine x_aload_n X dL_law_486 hl 2 rfl rfl ?_
        refine x_aload_n X dL_law_487 hl 0 rfl rfl ?_
        refine x_iload_n X dL_law_488 hl 3 rfl rfl ?_
        refine lv_iconst (v := (1 : Int32)) hx hb dL_law_489 (by decide) ?_
        refine lv_iadd hx hb dL_law_490 ?_
        refine q_sld X V hS dL_law_491 hp (fun v491_129 hp => ?_)
        refine x_aload_n X dL_law_492 hl 0 rfl rfl ?_
        refine x_iload_n X dL_law_493 hl 3 rfl rfl ?_
        refine lv_iconst (v := (2 : Int32)) hx hb dL_law_494 (by decide) ?_
        refine lv_iadd hx hb dL_law_495 ?_
        refine q_sld X V hS dL_law_496 hp (fun v496_130 hp => ?_)
        obtain ⟨b497_131, e0, hp2⟩ := q_nn_of hp
        clear hp; subst e0; have hp := hp2; clear hp2
        obtain ⟨hk, hp⟩ := q_is_of hp
        obtain ⟨⟨G, v497_133⟩, hq, hp⟩ := q_cl_of hp
        dsimp only at hp
        refine q_goi (cells' := cells + 0 + 0) (slots' := slots + 0 + 0) (va_runV (As := [.int v491_129, .int v496_130]) (rest := [.int v483_128]) X.1 (cX7_bucket l E hq) (tw_cwV 2 X.1.2.2.2.2 (tw_4 46 rfl rfl) kX7_bucket.2.1 kX7_bucket.2.2.1 kX7_bucket.2.2.2 kX7_bucket.1 rfl rfl hX7_bucket ⟨Nat.le_of_ble_eq_true rfl, Nat.le_of_ble_eq_true rfl⟩) (mm_preV X V rfl (by decide) rfl hk) rfl rfl hl.1 rfl (lv_room (Nat.le_of_ble_eq_true rfl)) dL_law_497 ⟨show cells + 0 + 0 ≤ 600000 by omega, show slots + 0 + 0 ≤ 7302250 by omega⟩) V ⟨rfl, rfl⟩ (fun H locs V => ?_)
        refine q_if hp (lv_icmp_eq (tgt := 624) hx hb dL_law_500 (by decide)) (fun hp => ?_) (fun hp => ?_)
        · refine x_iinc (v := (4 : Int32)) (lst' := [(3, .inl (x3 + (4 : Int32))), (0, .inr (some a0)), (1, .inr (some b483_126)), (2, .inr (some b497_131))]) X dL_law_624 hl 3 rfl (by decide) (by decide) rfl (fun ls hl => ?_)
          refine lv_goto (tgt := 18) hx hb dL_law_627 (by decide) ?_
          exact ih _ _ (by omega) (by omega) _ _ _ _ _ _ _ V (lx_sub hl [1, 2, 3, 0] rfl) hp
        · refine lv_iconst (v := (0 : Int32)) hx hb dL_law_503 (by decide) ?_
          exact q_lret X V hr hS h1 (by omega) (by omega) dL_law_504 hp
      rw [if_neg h32_14] at hp
      by_cases h32_15 : (v28_5 &&& (31 : Int32)) = 15
      · rw [if_pos h32_15] at hp
        refine lv_tableIn (tgt := 505) hx hb dL_law_32 (by rw [h32_15]; decide) (by rw [h32_15]; decide) (by rw [h32_15]; rfl) (by decide) ?_
        refine x_aload_n X dL_law_505 hl 1 rfl rfl ?_
        refine x_aload_n X dL_law_506 hl 0 rfl rfl ?_
        refine x_iload_n X dL_law_507 hl 3 rfl rfl ?_
        refine lv_iconst (v := (1 : Int32)) hx hb dL_law_508 (by decide) ?_
        refine lv_iadd hx hb dL_law_509 ?_
        refine q_sld X V hS dL_law_510 hp (fun v510_134 hp => ?_)
        refine x_aload_n X dL_law_511 hl 0 rfl rfl ?_
        refine x_iload_n X dL_law_512 hl 3 rfl rfl ?_
        refine lv_iconst (v := (2 : Int32)) hx hb dL_law_513 (by decide) ?_
        refine lv_iadd hx hb dL_law_514 ?_
        refine q_sld X V hS dL_law_515 hp (fun v515_135 hp => ?_)
        refine x_aload_n X dL_law_516 hl 0 rfl rfl ?_
        refine x_iload_n X dL_law_517 hl 3 rfl rfl ?_
        refine lv_iconst (v := (3 : Int32)) hx hb dL_law_518 (by decide) ?_
        refine lv_iadd hx hb dL_law_519 ?_
        refine q_sld X V hS dL_law_520 hp (fun v520_136 hp => ?_)
        obtain ⟨b521_137, e0, hp2⟩ := q_nn_of hp
        clear hp; subst e0; have hp := hp2; clear hp2
        obtain ⟨hk, hp⟩ := q_is_of hp
        obtain ⟨⟨G, v521_139⟩, hq, hp⟩ := q_cl_of hp
        dsimp only at hp
        refine q_goi (cells' := cells + 0) (slots' := slots + 0) (va_runV (As := [.int v510_134, .int v515_135, .int v520_136]) (rest := []) X.1 (cX6_contact l E hq) (tw_cwV 3 X.1.2.2.2.2 (tw_3 10 rfl rfl) kX6_contact.2.1 kX6_contact.2.2.1 kX6_contact.2.2.2 kX6_contact.1 rfl rfl hX6_contact ⟨Nat.le_of_ble_eq_true rfl, Nat.le_of_ble_eq_true rfl⟩) (mm_preV X V rfl (by decide) rfl hk) rfl rfl hl.1 rfl (lv_room (Nat.le_of_ble_eq_true rfl)) dL_law_521 ⟨show cells + 0 ≤ 600000 by omega, show slots + 0 ≤ 7302250 by omega⟩) V ⟨rfl, rfl⟩ (fun H locs V => ?_)
        refine x_aload_n X dL_law_524 hl 2 rfl rfl ?_
        refine x_aload_n X dL_law_525 hl 0 rfl rfl ?_
        refine x_iload_n X dL_law_526 hl 3 rfl rfl ?_
        refine lv_iconst (v := (1 : Int32)) hx hb dL_law_527 (by decide) ?_
        refine lv_iadd hx hb dL_law_528 ?_
        refine q_sld X V hS dL_law_529 hp (fun v529_140 hp => ?_)
        refine x_aload_n X dL_law_530 hl 0 rfl rfl ?_
        refine x_iload_n X dL_law_531 hl 3 rfl rfl ?_
        refine lv_iconst (v := (2 : Int32)) hx hb dL_law_532 (by decide) ?_
        refine lv_iadd hx hb dL_law_533 ?_
        refine q_sld X V hS dL_law_534 hp (fun v534_141 hp => ?_)
        refine x_aload_n X dL_law_535 hl 0 rfl rfl ?_
        refine x_iload_n X dL_law_536 hl 3 rfl rfl ?_
        refine lv_iconst (v := (3 : Int32)) hx hb dL_law_537 (by decide) ?_
        refine lv_iadd hx hb dL_law_538 ?_
        refine q_sld X V hS dL_law_539 hp (fun v539_142 hp => ?_)
        obtain ⟨b540_143, e0, hp2⟩ := q_nn_of hp
        clear hp; subst e0; have hp := hp2; clear hp2
        obtain ⟨hk, hp⟩ := q_is_of hp
        obtain ⟨⟨G, v540_145⟩, hq, hp⟩ := q_cl_of hp
        dsimp only at hp
        refine q_goi (cells' := cells + 0 + 0) (slots' := slots + 0 + 0) (va_runV (As := [.int v529_140, .int v534_141, .int v539_142]) (rest := [.int v521_139]) X.1 (cX7_contact l E hq) (tw_cwV 3 X.1.2.2.2.2 (tw_4 50 rfl rfl) kX7_contact.2.1 kX7_contact.2.2.1 kX7_contact.2.2.2 kX7_contact.1 rfl rfl hX7_contact ⟨Nat.le_of_ble_eq_true rfl, Nat.le_of_ble_eq_true rfl⟩) (mm_preV X V rfl (by decide) rfl hk) rfl rfl hl.1 rfl (lv_room (Nat.le_of_ble_eq_true rfl)) dL_law_540 ⟨show cells + 0 + 0 ≤ 600000 by omega, show slots + 0 + 0 ≤ 7302250 by omega⟩) V ⟨rfl, rfl⟩ (fun H locs V => ?_)
        refine q_if hp (lv_icmp_eq (tgt := 624) hx hb dL_law_543 (by decide)) (fun hp => ?_) (fun hp => ?_)
        · refine x_iinc (v := (4 : Int32)) (lst' := [(3, .inl (x3 + (4 : Int32))), (0, .inr (some a0)), (1, .inr (some b521_137)), (2, .inr (some b540_143))]) X dL_law_624 hl 3 rfl (by decide) (by decide) rfl (fun ls hl => ?_)
          refine lv_goto (tgt := 18) hx hb dL_law_627 (by decide) ?_
          exact ih _ _ (by omega) (by omega) _ _ _ _ _ _ _ V (lx_sub hl [1, 2, 3, 0] rfl) hp
        · refine lv_iconst (v := (0 : Int32)) hx hb dL_law_546 (by decide) ?_
          exact q_lret X V hr hS h1 (by omega) (by omega) dL_law_547 hp
      rw [if_neg h32_15] at hp
      by_cases h32_16 : (v28_5 &&& (31 : Int32)) = 16
      · rw [if_pos h32_16] at hp
        refine lv_tableIn (tgt := 548) hx hb dL_law_32 (by rw [h32_16]; decide) (by rw [h32_16]; decide) (by rw [h32_16]; rfl) (by decide) ?_
        refine x_aload_n X dL_law_548 hl 1 rfl rfl ?_
        refine x_aload_n X dL_law_549 hl 0 rfl rfl ?_
        refine x_iload_n X dL_law_550 hl 3 rfl rfl ?_
        refine lv_iconst (v := (1 : Int32)) hx hb dL_law_551 (by decide) ?_
        refine lv_iadd hx hb dL_law_552 ?_
        refine q_sld X V hS dL_law_553 hp (fun v553_146 hp => ?_)
        refine x_aload_n X dL_law_554 hl 0 rfl rfl ?_
        refine x_iload_n X dL_law_555 hl 3 rfl rfl ?_
        refine lv_iconst (v := (2 : Int32)) hx hb dL_law_556 (by decide) ?_
        refine lv_iadd hx hb dL_law_557 ?_
        refine q_sld X V hS dL_law_558 hp (fun v558_147 hp => ?_)
        refine x_aload_n X dL_law_559 hl 0 rfl rfl ?_
        refine x_iload_n X dL_law_560 hl 3 rfl rfl ?_
        refine lv_iconst (v := (3 : Int32)) hx hb dL_law_561 (by decide) ?_
        refine lv_iadd hx hb dL_law_562 ?_
        refine q_sld X V hS dL_law_563 hp (fun v563_148 hp => ?_)
        obtain ⟨b564_149, e0, hp2⟩ := q_nn_of hp
        clear hp; subst e0; have hp := hp2; clear hp2
        obtain ⟨hk, hp⟩ := q_is_of hp
        obtain ⟨⟨G, v564_151⟩, hq, hp⟩ := q_cl_of hp
        dsimp only at hp
        refine q_goi (cells' := cells + 0) (slots' := slots + 0) (va_runV (As := [.int v553_146, .int v558_147, .int v563_148]) (rest := []) X.1 (cX6_closest l E hq) (tw_cwV 3 X.1.2.2.2.2 (tw_3 14 rfl rfl) kX6_closest.2.1 kX6_closest.2.2.1 kX6_closest.2.2.2 kX6_closest.1 rfl rfl hX6_closest ⟨Nat.le_of_ble_eq_true rfl, Nat.le_of_ble_eq_true rfl⟩) (mm_preV X V rfl (by decide) rfl hk) rfl rfl hl.1 rfl (lv_room (Nat.le_of_ble_eq_true rfl)) dL_law_564 ⟨show cells + 0 ≤ 600000 by omega, show slots + 0 ≤ 7302250 by omega⟩) V ⟨rfl, rfl⟩ (fun H locs V => ?_)
        refine x_aload_n X dL_law_567 hl 2 rfl rfl ?_
        refine x_aload_n X dL_law_568 hl 0 rfl rfl ?_
        refine x_iload_n X dL_law_569 hl 3 rfl rfl ?_
        refine lv_iconst (v := (1 : Int32)) hx hb dL_law_570 (by decide) ?_
        refine lv_iadd hx hb dL_law_571 ?_
        refine q_sld X V hS dL_law_572 hp (fun v572_152 hp => ?_)
        refine x_aload_n X dL_law_573 hl 0 rfl rfl ?_
        refine x_iload_n X dL_law_574 hl 3 rfl rfl ?_
        refine lv_iconst (v := (2 : Int32)) hx hb dL_law_575 (by decide) ?_
        refine lv_iadd hx hb dL_law_576 ?_
        refine q_sld X V hS dL_law_577 hp (fun v577_153 hp => ?_)
        refine x_aload_n X dL_law_578 hl 0 rfl rfl ?_
        refine x_iload_n X dL_law_579 hl 3 rfl rfl ?_
        refine lv_iconst (v := (3 : Int32)) hx hb dL_law_580 (by decide) ?_
        refine lv_iadd hx hb dL_law_581 ?_
        refine q_sld X V hS dL_law_582 hp (fun v582_154 hp => ?_)
        obtain ⟨b583_155, e0, hp2⟩ := q_nn_of hp
        clear hp; subst e0; have hp := hp2; clear hp2
        obtain ⟨hk, hp⟩ := q_is_of hp
        obtain ⟨⟨G, v583_157⟩, hq, hp⟩ := q_cl_of hp
        dsimp only at hp
        refine q_goi (cells' := cells + 0 + 0) (slots' := slots + 0 + 0) (va_runV (As := [.int v572_152, .int v577_153, .int v582_154]) (rest := [.int v564_151]) X.1 (cX7_closest l E hq) (tw_cwV 3 X.1.2.2.2.2 (tw_4 54 rfl rfl) kX7_closest.2.1 kX7_closest.2.2.1 kX7_closest.2.2.2 kX7_closest.1 rfl rfl hX7_closest ⟨Nat.le_of_ble_eq_true rfl, Nat.le_of_ble_eq_true rfl⟩) (mm_preV X V rfl (by decide) rfl hk) rfl rfl hl.1 rfl (lv_room (Nat.le_of_ble_eq_true rfl)) dL_law_583 ⟨show cells + 0 + 0 ≤ 600000 by omega, show slots + 0 + 0 ≤ 7302250 by omega⟩) V ⟨rfl, rfl⟩ (fun H locs V => ?_)
        refine q_if hp (lv_icmp_eq (tgt := 624) hx hb dL_law_586 (by decide)) (fun hp => ?_) (fun hp => ?_)
        · refine x_iinc (v := (4 : Int32)) (lst' := [(3, .inl (x3 + (4 : Int32))), (0, .inr (some a0)), (1, .inr (some b564_149)), (2, .inr (some b583_155))]) X dL_law_624 hl 3 rfl (by decide) (by decide) rfl (fun ls hl => ?_)
          refine lv_goto (tgt := 18) hx hb dL_law_627 (by decide) ?_
          exact ih _ _ (by omega) (by omega) _ _ _ _ _ _ _ V (lx_sub hl [1, 2, 3, 0] rfl) hp
        · refine lv_iconst (v := (0 : Int32)) hx hb dL_law_589 (by decide) ?_
          exact q_lret X V hr hS h1 (by omega) (by omega) dL_law_590 hp
      rw [if_neg h32_16] at hp
      by_cases h32_17 : (v28_5 &&& (31 : Int32)) = 17
      · rw [if_pos h32_17] at hp
        refine lv_tableIn (tgt := 591) hx hb dL_law_32 (by rw [h32_17]; decide) (by rw [h32_17]; decide) (by rw [h32_17]; rfl) (by decide) ?_
        refine x_aload_n X dL_law_591 hl 1 rfl rfl ?_
        refine x_aload_n X dL_law_592 hl 0 rfl rfl ?_
        refine x_iload_n X dL_law_593 hl 3 rfl rfl ?_
        refine lv_iconst (v := (1 : Int32)) hx hb dL_law_594 (by decide) ?_
        refine lv_iadd hx hb dL_law_595 ?_
        refine q_sld X V hS dL_law_596 hp (fun v596_158 hp => ?_)
        refine x_aload_n X dL_law_597 hl 0 rfl rfl ?_
        refine x_iload_n X dL_law_598 hl 3 rfl rfl ?_
        refine lv_iconst (v := (2 : Int32)) hx hb dL_law_599 (by decide) ?_
        refine lv_iadd hx hb dL_law_600 ?_
        refine q_sld X V hS dL_law_601 hp (fun v601_159 hp => ?_)
        obtain ⟨b602_160, e0, hp2⟩ := q_nn_of hp
        clear hp; subst e0; have hp := hp2; clear hp2
        obtain ⟨hk, hp⟩ := q_is_of hp
        obtain ⟨⟨G, v602_162⟩, hq, hp⟩ := q_cl_of hp
        dsimp only at hp
        refine q_goi (cells' := cells + 0) (slots' := slots + 0) (va_runV (As := [.int v596_158, .int v601_159]) (rest := []) X.1 (cX6_entry l E hq) (tw_cwV 2 X.1.2.2.2.2 (tw_3 18 rfl rfl) kX6_entry.2.1 kX6_entry.2.2.1 kX6_entry.2.2.2 kX6_entry.1 rfl rfl hX6_entry ⟨Nat.le_of_ble_eq_true rfl, Nat.le_of_ble_eq_true rfl⟩) (mm_preV X V rfl (by decide) rfl hk) rfl rfl hl.1 rfl (lv_room (Nat.le_of_ble_eq_true rfl)) dL_law_602 ⟨show cells + 0 ≤ 600000 by omega, show slots + 0 ≤ 7302250 by omega⟩) V ⟨rfl, rfl⟩ (fun H locs V => ?_)
        refine x_aload_n X dL_law_605 hl 2 rfl rfl ?_
        refine x_aload_n X dL_law_606 hl 0 rfl rfl ?_
        refine x_iload_n X dL_law_607 hl 3 rfl rfl ?_
        refine lv_iconst (v := (1 : Int32)) hx hb dL_law_608 (by decide) ?_
        refine lv_iadd hx hb dL_law_609 ?_
        refine q_sld X V hS dL_law_610 hp (fun v610_163 hp => ?_)
        refine x_aload_n X dL_law_611 hl 0 rfl rfl ?_
        refine x_iload_n X dL_law_612 hl 3 rfl rfl ?_
        refine lv_iconst (v := (2 : Int32)) hx hb dL_law_613 (by decide) ?_
        refine lv_iadd hx hb dL_law_614 ?_
        refine q_sld X V hS dL_law_615 hp (fun v615_164 hp => ?_)
        obtain ⟨b616_165, e0, hp2⟩ := q_nn_of hp
        clear hp; subst e0; have hp := hp2; clear hp2
        obtain ⟨hk, hp⟩ := q_is_of hp
        obtain ⟨⟨G, v616_167⟩, hq, hp⟩ := q_cl_of hp
        dsimp only at hp
        refine q_goi (cells' := cells + 0 + 0) (slots' := slots + 0 + 0) (va_runV (As := [.int v610_163, .int v615_164]) (rest := [.int v602_162]) X.1 (cX7_entry l E hq) (tw_cwV 2 X.1.2.2.2.2 (tw_4 58 rfl rfl) kX7_entry.2.1 kX7_entry.2.2.1 kX7_entry.2.2.2 kX7_entry.1 rfl rfl hX7_entry ⟨Nat.le_of_ble_eq_true rfl, Nat.le_of_ble_eq_true rfl⟩) (mm_preV X V rfl (by decide) rfl hk) rfl rfl hl.1 rfl (lv_room (Nat.le_of_ble_eq_true rfl)) dL_law_616 ⟨show cells + 0 + 0 ≤ 600000 by omega, show slots + 0 + 0 ≤ 7302250 by omega⟩) V ⟨rfl, rfl⟩ (fun H locs V => ?_)
        refine q_if hp (lv_icmp_eq (tgt := 624) hx hb dL_law_619 (by decide)) (fun hp => ?_) (fun hp => ?_)
        · refine x_iinc (v := (4 : Int32)) (lst' := [(3, .inl (x3 + (4 : Int32))), (0, .inr (some a0)), (1, .inr (some b602_160)), (2, .inr (some b616_165))]) X dL_law_624 hl 3 rfl (by decide) (by decide) rfl (fun ls hl => ?_)
          refine lv_goto (tgt := 18) hx hb dL_law_627 (by decide) ?_
          exact ih _ _ (by omega) (by omega) _ _ _ _ _ _ _ V (lx_sub hl [1, 2, 3, 0] rfl) hp
        · refine lv_iconst (v := (0 : Int32)) hx hb dL_law_622 (by decide) ?_
          exact q_lret X V hr hS h1 (by omega) (by omega) dL_law_623 hp
      rw [if_neg h32_17] at hp
      refine lv_tableOut (tgt := 624) hx hb dL_law_32 (by have g0 := lv_neT h32_0 (a := 0) rfl; have g1 := lv_neT h32_1 (a := 1) rfl; have g2 := lv_neT h32_2 (a := 2) rfl; have g3 := lv_neT h32_3 (a := 3) rfl; have g4 := lv_neT h32_4 (a := 4) rfl; have g5 := lv_neT h32_5 (a := 5) rfl; have g6 := lv_neT h32_6 (a := 6) rfl; have g7 := lv_neT h32_7 (a := 7) rfl; have g8 := lv_neT h32_8 (a := 8) rfl; have g9 := lv_neT h32_9 (a := 9) rfl; have g10 := lv_neT h32_10 (a := 10) rfl; have g11 := lv_neT h32_11 (a := 11) rfl; have g12 := lv_neT h32_12 (a := 12) rfl; have g13 := lv_neT h32_13 (a := 13) rfl; have g14 := lv_neT h32_14 (a := 14) rfl; have g15 := lv_neT h32_15 (a := 15) rfl; have g16 := lv_neT h32_16 (a := 16) rfl; have g17 := lv_neT h32_17 (a := 17) rfl; omega) (by decide) ?_
      refine x_iinc (v := (4 : Int32)) (lst' := [(3, .inl (x3 + (4 : Int32))), (0, .inr (some a0)), (1, .inr x1), (2, .inr x2)]) X dL_law_624 hl 3 rfl (by decide) (by decide) rfl (fun ls hl => ?_)
      refine lv_goto (tgt := 18) hx hb dL_law_627 (by decide) ?_
      exact ih _ _ (by omega) (by omega) _ _ _ _ _ _ _ V (lx_sub hl [1, 2, 3, 0] rfl) hp
def pL_law_0 (N a0 L : Nat) (xs : Nat → Int32) (G : mm_M) : Option (mm_M × Int32) :=
  q_new G 7 fun G b0_1 =>
  q_cl (pX6_init_0 N b0_1 G) fun G _ =>
  q_new G 8 fun G b8_3 =>
  q_cl (pX7_init_0 N b8_3 G) fun G _ =>
  pL_law_18 N a0 L xs (fun (G : mm_M) =>
    some (G, (1 : Int32))) 513 G (some b0_1) (some b8_3) (0 : Int32)
set_option maxRecDepth 100000 in
set_option maxHeartbeats 4000000 in
theorem bL_law_0 {p : Program} {l : Launch} {e : Env} {s : State} {m : MethodId} {below : List Frame} {meth : Method} {c : Code} {E : mm_E} {N a0 L : Nat} {xs : Nat → Int32} {res : mm_M × Int32} (X : mm_X p s m #[Value.ref a0] meth c code 4 "XorOverlayLaw" tw_T E) (hr : meth.sig.returnType = ret) (hS : va_X a0 L xs s s.heap ∧ a0 < s.heap.size ∧ E.1 = s.heap.size) (h1 : res.2 = 1) {G : mm_M} {H : Heap} {locs : List Loc} {ls : Array Slot} (V : mm_V E s G H locs) (hl : lx_has ls 4 [(0, .inr (some a0))]) (hp : pL_law_0 N a0 L xs G = some res) : W p l e room_1 s m #[Value.ref a0] below meth c H locs 0 0 (lw_Z below #[Value.ref a0] s) (F0 m 0 ls []) := by
  have hx := X.1.1
  have hb := X.1.2.1
  unfold pL_law_0 at hp
  refine q_newc (ci := 6) X V inX6 rfl tyX6 tyX6_ok (by decide) rfl rfl dfX6 (tw_1 11 rfl rfl) (tw_1 12 rfl rfl) (tw_1 1 rfl rfl) (by decide) (by decide) dL_law_0 hp (fun G b0_1 H V hp => ?_)
  refine W.cs (cells' := 1) (slots' := 7) rfl rfl ?_
  refine lv_dup hx hb dL_law_3 (va_rf_cat _) ?_
  obtain ⟨⟨G, u⟩, hq, hp⟩ := q_cl_of hp
  dsimp only at hp
  refine q_gov (cells' := 6) (slots' := 333) (va_runI (As := []) (rest := [va_rf (some b0_1)]) X.1 (cX6_init l E hq) (tw_cwI 0 X.1.2.2.2.2 (tw_1 13 rfl rfl) kX6_init.2.1 kX6_init.2.2 kX6_init.1 rfl rfl rfl hX6_init ⟨Nat.le_of_ble_eq_true rfl, Nat.le_of_ble_eq_true rfl⟩) (mm_preS X V) rfl rfl hl.1 rfl (lv_room (Nat.le_of_ble_eq_true rfl)) dL_law_4 ⟨by decide, by decide⟩) V ⟨rfl, rfl⟩ (fun H locs V => ?_)
  refine x_astore_n (lst' := [(1, .inr (some b0_1)), (0, .inr (some a0))]) X dL_law_7 hl rfl (by decide) rfl (fun ls hl => ?_)
  refine q_newc (ci := 7) X V inX7 rfl tyX7 tyX7_ok (by decide) rfl rfl dfX7 (tw_3 23 rfl rfl) (tw_3 24 rfl rfl) (tw_1 3 rfl rfl) (by decide) (by decide) dL_law_8 hp (fun G b8_3 H V hp => ?_)
  refine W.cs (cells' := 7) (slots' := 360) rfl rfl ?_
  refine lv_dup hx hb dL_law_11 (va_rf_cat _) ?_
  obtain ⟨⟨G, u⟩, hq, hp⟩ := q_cl_of hp
  dsimp only at hp
  refine q_gov (cells' := 29) (slots' := 2100) (va_runI (As := []) (rest := [va_rf (some b8_3)]) X.1 (cX7_init l E hq) (tw_cwI 0 X.1.2.2.2.2 (tw_3 25 rfl rfl) kX7_init.2.1 kX7_init.2.2 kX7_init.1 rfl rfl rfl hX7_init ⟨Nat.le_of_ble_eq_true rfl, Nat.le_of_ble_eq_true rfl⟩) (mm_preS X V) rfl rfl hl.1 rfl (lv_room (Nat.le_of_ble_eq_true rfl)) dL_law_12 ⟨by decide, by decide⟩) V ⟨rfl, rfl⟩ (fun H locs V => ?_)
  refine x_astore_n (lst' := [(2, .inr (some b8_3)), (1, .inr (some b0_1)), (0, .inr (some a0))]) X dL_law_15 hl rfl (by decide) rfl (fun ls hl => ?_)
  refine lv_iconst (v := (0 : Int32)) hx hb dL_law_16 (by decide) ?_
  refine x_istore_n (lst' := [(3, .inl (0 : Int32)), (2, .inr (some b8_3)), (1, .inr (some b0_1)), (0, .inr (some a0))]) X dL_law_17 hl rfl (by decide) rfl (fun ls hl => ?_)
  refine bL_law_18 X hr hS h1 (fun G H locs ls V hl hp => ?_) 513 29 2100 (by omega) (by omega) _ _ _ _ _ _ _ V (lx_sub hl [3, 2, 1, 0] rfl) hp
  refine lv_iconst (v := (1 : Int32)) hx hb dL_law_630 (by decide) ?_
  exact q_lret X V hr hS h1 (by omega) (by omega) dL_law_631 hp
