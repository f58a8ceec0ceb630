section
-- ===== PART A: goes FIRST, ahead of the names: the tables' words, and 'selects' of the private methods out of them =====
/-- a private method of a class that the tables say can be made, by its rows of tables_1 -/
def lw_okq (q : MethodName × Nat) : Prop := (q.1.cls ≠ "java/lang/invoke/MethodHandle" ∧ q.1.cls ≠ "java/lang/invoke/VarHandle") ∧ Cond.instantiable q.1.cls q.2 ∈ tables_1 ∧ Cond.privateMethod q.1 ∈ tables_1 ∧ Cond.instanceMethod q.1 ∈ tables_1
theorem lw_p0 : lw_okq (⟨"XorOverlay", "upPeer", "(I)LXorOverlay$Peer;"⟩, 7) := ⟨⟨by decide +kernel, by decide +kernel⟩, List.mem_of_getElem? (i := 12) (by decide +kernel), List.mem_of_getElem? (i := 66) (by decide +kernel), List.mem_of_getElem? (i := 67) (by decide +kernel)⟩
theorem lw_p1 : lw_okq (⟨"XorOverlay", "knownPeer", "(I)LXorOverlay$Peer;"⟩, 7) := ⟨⟨by decide +kernel, by decide +kernel⟩, List.mem_of_getElem? (i := 12) (by decide +kernel), List.mem_of_getElem? (i := 70) (by decide +kernel), List.mem_of_getElem? (i := 71) (by decide +kernel)⟩
theorem lw_p2 : lw_okq (⟨"XorOverlay", "enrolIfRoom", "(I)LXorOverlay$Peer;"⟩, 7) := ⟨⟨by decide +kernel, by decide +kernel⟩, List.mem_of_getElem? (i := 12) (by decide +kernel), List.mem_of_getElem? (i := 74) (by decide +kernel), List.mem_of_getElem? (i := 75) (by decide +kernel)⟩
theorem lw_p3 : lw_okq (⟨"XorOverlay$Table", "rangeOf", "(I)I"⟩, 3) := ⟨⟨by decide +kernel, by decide +kernel⟩, List.mem_of_getElem? (i := 83) (by decide +kernel), List.mem_of_getElem? (i := 254) (by decide +kernel), List.mem_of_getElem? (i := 255) (by decide +kernel)⟩
theorem lw_p4 : lw_okq (⟨"XorOverlay$Table", "split", "(I)V"⟩, 3) := ⟨⟨by decide +kernel, by decide +kernel⟩, List.mem_of_getElem? (i := 83) (by decide +kernel), List.mem_of_getElem? (i := 278) (by decide +kernel), List.mem_of_getElem? (i := 279) (by decide +kernel)⟩
theorem lw_p5 : lw_okq (⟨"XorOverlay", "startLookup", "(LXorOverlay$Peer;II)V"⟩, 7) := ⟨⟨by decide +kernel, by decide +kernel⟩, List.mem_of_getElem? (i := 12) (by decide +kernel), List.mem_of_getElem? (i := 293) (by decide +kernel), List.mem_of_getElem? (i := 294) (by decide +kernel)⟩
theorem lw_p6 : lw_okq (⟨"XorOverlay", "goOn", "(LXorOverlay$Peer;)V"⟩, 7) := ⟨⟨by decide +kernel, by decide +kernel⟩, List.mem_of_getElem? (i := 12) (by decide +kernel), List.mem_of_getElem? (i := 318) (by decide +kernel), List.mem_of_getElem? (i := 319) (by decide +kernel)⟩
theorem lw_p7 : lw_okq (⟨"XorOverlay", "ask", "(LXorOverlay$Peer;I)V"⟩, 7) := ⟨⟨by decide +kernel, by decide +kernel⟩, List.mem_of_getElem? (i := 12) (by decide +kernel), List.mem_of_getElem? (i := 330) (by decide +kernel), List.mem_of_getElem? (i := 331) (by decide +kernel)⟩
theorem lw_p8 : lw_okq (⟨"XorOverlay", "write", "(IIIIII)V"⟩, 7) := ⟨⟨by decide +kernel, by decide +kernel⟩, List.mem_of_getElem? (i := 12) (by decide +kernel), List.mem_of_getElem? (i := 334) (by decide +kernel), List.mem_of_getElem? (i := 335) (by decide +kernel)⟩
theorem lw_p9 : lw_okq (⟨"XorOverlay", "sendStores", "(LXorOverlay$Peer;)V"⟩, 7) := ⟨⟨by decide +kernel, by decide +kernel⟩, List.mem_of_getElem? (i := 12) (by decide +kernel), List.mem_of_getElem? (i := 349) (by decide +kernel), List.mem_of_getElem? (i := 350) (by decide +kernel)⟩
theorem lw_p10 : lw_okq (⟨"XorOverlay$Entries", "put", "(III)V"⟩, 4) := ⟨⟨by decide +kernel, by decide +kernel⟩, List.mem_of_getElem? (i := 189) (by decide +kernel), List.mem_of_getElem? (i := 381) (by decide +kernel), List.mem_of_getElem? (i := 382) (by decide +kernel)⟩
theorem lw_p11 : lw_okq (⟨"XorOverlay", "giveUpOnSilent", "(LXorOverlay$Peer;)I"⟩, 7) := ⟨⟨by decide +kernel, by decide +kernel⟩, List.mem_of_getElem? (i := 12) (by decide +kernel), List.mem_of_getElem? (i := 385) (by decide +kernel), List.mem_of_getElem? (i := 386) (by decide +kernel)⟩
theorem lw_p12 : lw_okq (⟨"XorOverlay", "answerQuery", "(LXorOverlay$Peer;)V"⟩, 7) := ⟨⟨by decide +kernel, by decide +kernel⟩, List.mem_of_getElem? (i := 12) (by decide +kernel), List.mem_of_getElem? (i := 425) (by decide +kernel), List.mem_of_getElem? (i := 426) (by decide +kernel)⟩
theorem lw_p13 : lw_okq (⟨"XorOverlay", "epochNow", "()I"⟩, 7) := ⟨⟨by decide +kernel, by decide +kernel⟩, List.mem_of_getElem? (i := 12) (by decide +kernel), List.mem_of_getElem? (i := 429) (by decide +kernel), List.mem_of_getElem? (i := 430) (by decide +kernel)⟩
theorem lw_p14 : lw_okq (⟨"XorOverlay", "writeHolders", "(LXorOverlay$Entries;I)V"⟩, 7) := ⟨⟨by decide +kernel, by decide +kernel⟩, List.mem_of_getElem? (i := 12) (by decide +kernel), List.mem_of_getElem? (i := 438) (by decide +kernel), List.mem_of_getElem? (i := 439) (by decide +kernel)⟩
theorem lw_p15 : lw_okq (⟨"XorOverlay", "takeNodes", "(LXorOverlay$Peer;)V"⟩, 7) := ⟨⟨by decide +kernel, by decide +kernel⟩, List.mem_of_getElem? (i := 12) (by decide +kernel), List.mem_of_getElem? (i := 442) (by decide +kernel), List.mem_of_getElem? (i := 443) (by decide +kernel)⟩
def lw_privs_1 : List (MethodName × Nat) := [(⟨"XorOverlay", "upPeer", "(I)LXorOverlay$Peer;"⟩, 7), (⟨"XorOverlay", "knownPeer", "(I)LXorOverlay$Peer;"⟩, 7), (⟨"XorOverlay", "enrolIfRoom", "(I)LXorOverlay$Peer;"⟩, 7), (⟨"XorOverlay$Table", "rangeOf", "(I)I"⟩, 3), (⟨"XorOverlay$Table", "split", "(I)V"⟩, 3), (⟨"XorOverlay", "startLookup", "(LXorOverlay$Peer;II)V"⟩, 7), (⟨"XorOverlay", "goOn", "(LXorOverlay$Peer;)V"⟩, 7), (⟨"XorOverlay", "ask", "(LXorOverlay$Peer;I)V"⟩, 7), (⟨"XorOverlay", "write", "(IIIIII)V"⟩, 7), (⟨"XorOverlay", "sendStores", "(LXorOverlay$Peer;)V"⟩, 7), (⟨"XorOverlay$Entries", "put", "(III)V"⟩, 4), (⟨"XorOverlay", "giveUpOnSilent", "(LXorOverlay$Peer;)I"⟩, 7), (⟨"XorOverlay", "answerQuery", "(LXorOverlay$Peer;)V"⟩, 7), (⟨"XorOverlay", "epochNow", "()I"⟩, 7), (⟨"XorOverlay", "writeHolders", "(LXorOverlay$Entries;I)V"⟩, 7), (⟨"XorOverlay", "takeNodes", "(LXorOverlay$Peer;)V"⟩, 7)]
theorem lw_r1 : ∀ q ∈ lw_privs_1, lw_okq q := List.forall_mem_cons.mpr ⟨lw_p0, List.forall_mem_cons.mpr ⟨lw_p1, List.forall_mem_cons.mpr ⟨lw_p2, List.forall_mem_cons.mpr ⟨lw_p3, List.forall_mem_cons.mpr ⟨lw_p4, List.forall_mem_cons.mpr ⟨lw_p5, List.forall_mem_cons.mpr ⟨lw_p6, List.forall_mem_cons.mpr ⟨lw_p7, List.forall_mem_cons.mpr ⟨lw_p8, List.forall_mem_cons.mpr ⟨lw_p9, List.forall_mem_cons.mpr ⟨lw_p10, List.forall_mem_cons.mpr ⟨lw_p11, List.forall_mem_cons.mpr ⟨lw_p12, List.forall_mem_cons.mpr ⟨lw_p13, List.forall_mem_cons.mpr ⟨lw_p14, List.forall_mem_cons.mpr ⟨lw_p15, fun _ h => absurd h List.not_mem_nil⟩⟩⟩⟩⟩⟩⟩⟩⟩⟩⟩⟩⟩⟩⟩⟩
theorem lw_p16 : lw_okq (⟨"XorOverlay", "takeStore", "(LXorOverlay$Peer;)V"⟩, 7) := ⟨⟨by decide +kernel, by decide +kernel⟩, List.mem_of_getElem? (i := 12) (by decide +kernel), List.mem_of_getElem? (i := 451) (by decide +kernel), List.mem_of_getElem? (i := 452) (by decide +kernel)⟩
theorem lw_p17 : lw_okq (⟨"XorOverlay", "bucketOf", "(II)LXorOverlay$Bucket;"⟩, 7) := ⟨⟨by decide +kernel, by decide +kernel⟩, List.mem_of_getElem? (i := 12) (by decide +kernel), List.mem_of_getElem? (i := 487) (by decide +kernel), List.mem_of_getElem? (i := 488) (by decide +kernel)⟩
theorem lw_p18 : lw_okq (⟨"XorOverlayModel", "at", "(I)I"⟩, 27) := ⟨⟨by decide +kernel, by decide +kernel⟩, List.mem_of_getElem? (i := 504) (by decide +kernel), List.mem_of_getElem? (i := 597) (by decide +kernel), List.mem_of_getElem? (i := 598) (by decide +kernel)⟩
theorem lw_p19 : lw_okq (⟨"XorOverlayModel", "known", "(I)I"⟩, 27) := ⟨⟨by decide +kernel, by decide +kernel⟩, List.mem_of_getElem? (i := 504) (by decide +kernel), List.mem_of_getElem? (i := 601) (by decide +kernel), List.mem_of_getElem? (i := 602) (by decide +kernel)⟩
theorem lw_p20 : lw_okq (⟨"XorOverlayModel", "number", "(I)Z"⟩, 27) := ⟨⟨by decide +kernel, by decide +kernel⟩, List.mem_of_getElem? (i := 504) (by decide +kernel), List.mem_of_getElem? (i := 605) (by decide +kernel), List.mem_of_getElem? (i := 606) (by decide +kernel)⟩
theorem lw_p21 : lw_okq (⟨"XorOverlayModel", "see", "(II)V"⟩, 27) := ⟨⟨by decide +kernel, by decide +kernel⟩, List.mem_of_getElem? (i := 504) (by decide +kernel), List.mem_of_getElem? (i := 609) (by decide +kernel), List.mem_of_getElem? (i := 610) (by decide +kernel)⟩
theorem lw_p22 : lw_okq (⟨"XorOverlayModel", "putLast", "(II)V"⟩, 27) := ⟨⟨by decide +kernel, by decide +kernel⟩, List.mem_of_getElem? (i := 504) (by decide +kernel), List.mem_of_getElem? (i := 613) (by decide +kernel), List.mem_of_getElem? (i := 614) (by decide +kernel)⟩
theorem lw_p23 : lw_okq (⟨"XorOverlayModel", "bucketOf", "(II)I"⟩, 27) := ⟨⟨by decide +kernel, by decide +kernel⟩, List.mem_of_getElem? (i := 504) (by decide +kernel), List.mem_of_getElem? (i := 617) (by decide +kernel), List.mem_of_getElem? (i := 618) (by decide +kernel)⟩
theorem lw_p24 : lw_okq (⟨"XorOverlayModel", "held", "(II)I"⟩, 27) := ⟨⟨by decide +kernel, by decide +kernel⟩, List.mem_of_getElem? (i := 504) (by decide +kernel), List.mem_of_getElem? (i := 621) (by decide +kernel), List.mem_of_getElem? (i := 622) (by decide +kernel)⟩
theorem lw_p25 : lw_okq (⟨"XorOverlayModel", "holds", "(III)Z"⟩, 27) := ⟨⟨by decide +kernel, by decide +kernel⟩, List.mem_of_getElem? (i := 504) (by decide +kernel), List.mem_of_getElem? (i := 625) (by decide +kernel), List.mem_of_getElem? (i := 626) (by decide +kernel)⟩
theorem lw_p26 : lw_okq (⟨"XorOverlayModel", "inOrder", "(III)I"⟩, 27) := ⟨⟨by decide +kernel, by decide +kernel⟩, List.mem_of_getElem? (i := 504) (by decide +kernel), List.mem_of_getElem? (i := 629) (by decide +kernel), List.mem_of_getElem? (i := 630) (by decide +kernel)⟩
theorem lw_p27 : lw_okq (⟨"XorOverlayModel", "start", "(III)V"⟩, 27) := ⟨⟨by decide +kernel, by decide +kernel⟩, List.mem_of_getElem? (i := 504) (by decide +kernel), List.mem_of_getElem? (i := 633) (by decide +kernel), List.mem_of_getElem? (i := 634) (by decide +kernel)⟩
theorem lw_p28 : lw_okq (⟨"XorOverlayModel", "near", "(IIII)I"⟩, 27) := ⟨⟨by decide +kernel, by decide +kernel⟩, List.mem_of_getElem? (i := 504) (by decide +kernel), List.mem_of_getElem? (i := 637) (by decide +kernel), List.mem_of_getElem? (i := 638) (by decide +kernel)⟩
theorem lw_p29 : lw_okq (⟨"XorOverlayModel", "goOn", "(I)V"⟩, 27) := ⟨⟨by decide +kernel, by decide +kernel⟩, List.mem_of_getElem? (i := 504) (by decide +kernel), List.mem_of_getElem? (i := 641) (by decide +kernel), List.mem_of_getElem? (i := 642) (by decide +kernel)⟩
theorem lw_p30 : lw_okq (⟨"XorOverlayModel", "nextToAsk", "(I)I"⟩, 27) := ⟨⟨by decide +kernel, by decide +kernel⟩, List.mem_of_getElem? (i := 504) (by decide +kernel), List.mem_of_getElem? (i := 645) (by decide +kernel), List.mem_of_getElem? (i := 646) (by decide +kernel)⟩
theorem lw_p31 : lw_okq (⟨"XorOverlayModel", "alive", "(II)I"⟩, 27) := ⟨⟨by decide +kernel, by decide +kernel⟩, List.mem_of_getElem? (i := 504) (by decide +kernel), List.mem_of_getElem? (i := 649) (by decide +kernel), List.mem_of_getElem? (i := 650) (by decide +kernel)⟩
def lw_privs_2 : List (MethodName × Nat) := [(⟨"XorOverlay", "takeStore", "(LXorOverlay$Peer;)V"⟩, 7), (⟨"XorOverlay", "bucketOf", "(II)LXorOverlay$Bucket;"⟩, 7), (⟨"XorOverlayModel", "at", "(I)I"⟩, 27), (⟨"XorOverlayModel", "known", "(I)I"⟩, 27), (⟨"XorOverlayModel", "number", "(I)Z"⟩, 27), (⟨"XorOverlayModel", "see", "(II)V"⟩, 27), (⟨"XorOverlayModel", "putLast", "(II)V"⟩, 27), (⟨"XorOverlayModel", "bucketOf", "(II)I"⟩, 27), (⟨"XorOverlayModel", "held", "(II)I"⟩, 27), (⟨"XorOverlayModel", "holds", "(III)Z"⟩, 27), (⟨"XorOverlayModel", "inOrder", "(III)I"⟩, 27), (⟨"XorOverlayModel", "start", "(III)V"⟩, 27), (⟨"XorOverlayModel", "near", "(IIII)I"⟩, 27), (⟨"XorOverlayModel", "goOn", "(I)V"⟩, 27), (⟨"XorOverlayModel", "nextToAsk", "(I)I"⟩, 27), (⟨"XorOverlayModel", "alive", "(II)I"⟩, 27)]
theorem lw_r2 : ∀ q ∈ lw_privs_2, lw_okq q := List.forall_mem_cons.mpr ⟨lw_p16, List.forall_mem_cons.mpr ⟨lw_p17, List.forall_mem_cons.mpr ⟨lw_p18, List.forall_mem_cons.mpr ⟨lw_p19, List.forall_mem_cons.mpr ⟨lw_p20, List.forall_mem_cons.mpr ⟨lw_p21, List.forall_mem_cons.mpr ⟨lw_p22, List.forall_mem_cons.mpr ⟨lw_p23, List.forall_mem_cons.mpr ⟨lw_p24, List.forall_mem_cons.mpr ⟨lw_p25, List.forall_mem_cons.mpr ⟨lw_p26, List.forall_mem_cons.mpr ⟨lw_p27, List.forall_mem_cons.mpr ⟨lw_p28, List.forall_mem_cons.mpr ⟨lw_p29, List.forall_mem_cons.mpr ⟨lw_p30, List.forall_mem_cons.mpr ⟨lw_p31, fun _ h => absurd h List.not_mem_nil⟩⟩⟩⟩⟩⟩⟩⟩⟩⟩⟩⟩⟩⟩⟩⟩
theorem lw_p32 : lw_okq (⟨"XorOverlayModel", "inRank", "(II)I"⟩, 27) := ⟨⟨by decide +kernel, by decide +kernel⟩, List.mem_of_getElem? (i := 504) (by decide +kernel), List.mem_of_getElem? (i := 653) (by decide +kernel), List.mem_of_getElem? (i := 654) (by decide +kernel)⟩
theorem lw_p33 : lw_okq (⟨"XorOverlayModel", "askedNow", "(I)I"⟩, 27) := ⟨⟨by decide +kernel, by decide +kernel⟩, List.mem_of_getElem? (i := 504) (by decide +kernel), List.mem_of_getElem? (i := 657) (by decide +kernel), List.mem_of_getElem? (i := 658) (by decide +kernel)⟩
theorem lw_p34 : lw_okq (⟨"XorOverlayModel", "send", "(IIIIII)I"⟩, 27) := ⟨⟨by decide +kernel, by decide +kernel⟩, List.mem_of_getElem? (i := 504) (by decide +kernel), List.mem_of_getElem? (i := 661) (by decide +kernel), List.mem_of_getElem? (i := 662) (by decide +kernel)⟩
theorem lw_p35 : lw_okq (⟨"XorOverlayModel", "bucketAt", "(II)I"⟩, 27) := ⟨⟨by decide +kernel, by decide +kernel⟩, List.mem_of_getElem? (i := 504) (by decide +kernel), List.mem_of_getElem? (i := 677) (by decide +kernel), List.mem_of_getElem? (i := 678) (by decide +kernel)⟩
theorem lw_p36 : lw_okq (⟨"XorOverlayModel", "first", "(II)I"⟩, 27) := ⟨⟨by decide +kernel, by decide +kernel⟩, List.mem_of_getElem? (i := 504) (by decide +kernel), List.mem_of_getElem? (i := 681) (by decide +kernel), List.mem_of_getElem? (i := 682) (by decide +kernel)⟩
theorem lw_p37 : lw_okq (⟨"XorOverlayModel", "size", "(II)I"⟩, 27) := ⟨⟨by decide +kernel, by decide +kernel⟩, List.mem_of_getElem? (i := 504) (by decide +kernel), List.mem_of_getElem? (i := 685) (by decide +kernel), List.mem_of_getElem? (i := 686) (by decide +kernel)⟩
theorem lw_p38 : lw_okq (⟨"XorOverlayModel", "expire", "(I)V"⟩, 27) := ⟨⟨by decide +kernel, by decide +kernel⟩, List.mem_of_getElem? (i := 504) (by decide +kernel), List.mem_of_getElem? (i := 693) (by decide +kernel), List.mem_of_getElem? (i := 694) (by decide +kernel)⟩
theorem lw_p39 : lw_okq (⟨"XorOverlayModel", "fail", "(I)I"⟩, 27) := ⟨⟨by decide +kernel, by decide +kernel⟩, List.mem_of_getElem? (i := 504) (by decide +kernel), List.mem_of_getElem? (i := 697) (by decide +kernel), List.mem_of_getElem? (i := 698) (by decide +kernel)⟩
theorem lw_p40 : lw_okq (⟨"XorOverlayModel", "inLine", "(I)Z"⟩, 27) := ⟨⟨by decide +kernel, by decide +kernel⟩, List.mem_of_getElem? (i := 504) (by decide +kernel), List.mem_of_getElem? (i := 705) (by decide +kernel), List.mem_of_getElem? (i := 706) (by decide +kernel)⟩
theorem lw_p41 : lw_okq (⟨"XorOverlayModel", "takeOut", "(I)V"⟩, 27) := ⟨⟨by decide +kernel, by decide +kernel⟩, List.mem_of_getElem? (i := 504) (by decide +kernel), List.mem_of_getElem? (i := 709) (by decide +kernel), List.mem_of_getElem? (i := 710) (by decide +kernel)⟩
theorem lw_p42 : lw_okq (⟨"XorOverlayModel", "answer", "(II)V"⟩, 27) := ⟨⟨by decide +kernel, by decide +kernel⟩, List.mem_of_getElem? (i := 504) (by decide +kernel), List.mem_of_getElem? (i := 713) (by decide +kernel), List.mem_of_getElem? (i := 714) (by decide +kernel)⟩
theorem lw_p43 : lw_okq (⟨"XorOverlayModel", "tokenOf", "(III)I"⟩, 27) := ⟨⟨by decide +kernel, by decide +kernel⟩, List.mem_of_getElem? (i := 504) (by decide +kernel), List.mem_of_getElem? (i := 717) (by decide +kernel), List.mem_of_getElem? (i := 718) (by decide +kernel)⟩
theorem lw_p44 : lw_okq (⟨"XorOverlayModel", "collect", "(II)V"⟩, 27) := ⟨⟨by decide +kernel, by decide +kernel⟩, List.mem_of_getElem? (i := 504) (by decide +kernel), List.mem_of_getElem? (i := 723) (by decide +kernel), List.mem_of_getElem? (i := 724) (by decide +kernel)⟩
theorem lw_p45 : lw_okq (⟨"XorOverlayModel", "hasFound", "(II)Z"⟩, 27) := ⟨⟨by decide +kernel, by decide +kernel⟩, List.mem_of_getElem? (i := 504) (by decide +kernel), List.mem_of_getElem? (i := 727) (by decide +kernel), List.mem_of_getElem? (i := 728) (by decide +kernel)⟩
theorem lw_p46 : lw_okq (⟨"XorOverlayModel", "store", "(II)V"⟩, 27) := ⟨⟨by decide +kernel, by decide +kernel⟩, List.mem_of_getElem? (i := 504) (by decide +kernel), List.mem_of_getElem? (i := 731) (by decide +kernel), List.mem_of_getElem? (i := 732) (by decide +kernel)⟩
def lw_privs_3 : List (MethodName × Nat) := [(⟨"XorOverlayModel", "inRank", "(II)I"⟩, 27), (⟨"XorOverlayModel", "askedNow", "(I)I"⟩, 27), (⟨"XorOverlayModel", "send", "(IIIIII)I"⟩, 27), (⟨"XorOverlayModel", "bucketAt", "(II)I"⟩, 27), (⟨"XorOverlayModel", "first", "(II)I"⟩, 27), (⟨"XorOverlayModel", "size", "(II)I"⟩, 27), (⟨"XorOverlayModel", "expire", "(I)V"⟩, 27), (⟨"XorOverlayModel", "fail", "(I)I"⟩, 27), (⟨"XorOverlayModel", "inLine", "(I)Z"⟩, 27), (⟨"XorOverlayModel", "takeOut", "(I)V"⟩, 27), (⟨"XorOverlayModel", "answer", "(II)V"⟩, 27), (⟨"XorOverlayModel", "tokenOf", "(III)I"⟩, 27), (⟨"XorOverlayModel", "collect", "(II)V"⟩, 27), (⟨"XorOverlayModel", "hasFound", "(II)Z"⟩, 27), (⟨"XorOverlayModel", "store", "(II)V"⟩, 27)]
theorem lw_r3 : ∀ q ∈ lw_privs_3, lw_okq q := List.forall_mem_cons.mpr ⟨lw_p32, List.forall_mem_cons.mpr ⟨lw_p33, List.forall_mem_cons.mpr ⟨lw_p34, List.forall_mem_cons.mpr ⟨lw_p35, List.forall_mem_cons.mpr ⟨lw_p36, List.forall_mem_cons.mpr ⟨lw_p37, List.forall_mem_cons.mpr ⟨lw_p38, List.forall_mem_cons.mpr ⟨lw_p39, List.forall_mem_cons.mpr ⟨lw_p40, List.forall_mem_cons.mpr ⟨lw_p41, List.forall_mem_cons.mpr ⟨lw_p42, List.forall_mem_cons.mpr ⟨lw_p43, List.forall_mem_cons.mpr ⟨lw_p44, List.forall_mem_cons.mpr ⟨lw_p45, List.forall_mem_cons.mpr ⟨lw_p46, fun _ h => absurd h List.not_mem_nil⟩⟩⟩⟩⟩⟩⟩⟩⟩⟩⟩⟩⟩⟩⟩
def lw_privs : List (MethodName × Nat) := lw_privs_1 ++ (lw_privs_2 ++ (lw_privs_3))
def lw_tbl : List Cond := k2_sels lw_privs ++ tables_1
theorem lw_privs_ok : ∀ q ∈ lw_privs, lw_okq q := by
  show ∀ q ∈ lw_privs_1 ++ (lw_privs_2 ++ (lw_privs_3)), lw_okq q
  exact List.forall_mem_append.mpr ⟨lw_r1, List.forall_mem_append.mpr ⟨lw_r2, lw_r3⟩⟩
/-! the tables' words that stay, all of them: every method has them -/
def tw_T : List Cond := lw_tbl.filter goodWord
theorem tw_in {w : Cond} (h : w ∈ lw_tbl) (hg : goodWord w = true) : w ∈ tw_T := List.mem_filter.mpr ⟨h, hg⟩
theorem tw_s (i : Nat) {w : Cond} (h : (k2_sels lw_privs)[i]? = some w) (hg : goodWord w = true) : w ∈ tw_T := tw_in (List.mem_append_left _ (List.mem_of_getElem? h)) hg
theorem tw_1 (i : Nat) {w : Cond} (h : tables_1_1[i]? = some w) (hg : goodWord w = true) : w ∈ tw_T := tw_in (List.mem_append_right _ (show w ∈ tables_1 from List.mem_append_left _ (List.mem_of_getElem? h))) hg
theorem tw_2 (i : Nat) {w : Cond} (h : tables_1_2[i]? = some w) (hg : goodWord w = true) : w ∈ tw_T := tw_in (List.mem_append_right _ (show w ∈ tables_1 from List.mem_append_right _ (List.mem_append_left _ (List.mem_of_getElem? h)))) hg
theorem tw_3 (i : Nat) {w : Cond} (h : tables_1_3[i]? = some w) (hg : goodWord w = true) : w ∈ tw_T := tw_in (List.mem_append_right _ (show w ∈ tables_1 from List.mem_append_right _ (List.mem_append_right _ (List.mem_append_left _ (List.mem_of_getElem? h))))) hg
theorem tw_4 (i : Nat) {w : Cond} (h : tables_1_4[i]? = some w) (hg : goodWord w = true) : w ∈ tw_T := tw_in (List.mem_append_right _ (show w ∈ tables_1 from List.mem_append_right _ (List.mem_append_right _ (List.mem_append_right _ (List.mem_of_getElem? h))))) hg
theorem tw_sub : ∀ w ∈ tw_T, w ∈ lw_tbl := fun w h => (List.mem_filter.mp h).1
theorem tw_good {c : Cond} (hc : c ∈ tw_T) : GoodIn tw_T (c :: tw_T) := fun w h => by
  have h1 : w ∈ tw_T := by
    rcases List.mem_cons.mp h with rfl | h
    · exact hc
    · exact h
  exact ⟨h1, good_of_word (List.mem_filter.mp h1).2⟩
section TWC
variable {R : Room} {s : State} {args : Array Value} {own C : String} {index maxL mc ms : Nat} {y : MethodName} {bytes : ByteArray} {ret : Option FieldType} {rm : Room}
theorem tw_cwV (n : Nat) (ht : ∀ w ∈ tw_T, w.before args s = true) (hl : Cond.methodLink own index y ∈ tw_T) (hi : Cond.instanceMethod y ∈ tw_T) (hse : Cond.selects C y y ∈ tw_T) (hini : Cond.initialized C ∈ tw_T) (hc : Cond.code y bytes maxL ret ∈ tw_T) (hrc : rm.cells = mc) (hrs : rm.slots = ms)
    (hd : y.cls = C ∧ y.cls ≠ "java/lang/invoke/MethodHandle" ∧ y.cls ≠ "java/lang/invoke/VarHandle" ∧ (parseMethodDescriptor y.desc).map (fun d => d.parameters.length) = some n) (hR : rm.frames + 1 ≤ R.frames ∧ 8 + (maxL + 11) + rm.locals ≤ R.locals) :
    CallW R s args own C index y bytes maxL ret (Cond.code y bytes maxL ret :: tw_T) rm mc ms n :=
  ⟨callB_of n ht (tw_good hc) rfl hrc hrs (by rw [hd.1]; exact ht _ hini) (ht _ hl) hd.2 hR, ht _ hi, ht _ hse⟩
theorem tw_cwS (n : Nat) (ht : ∀ w ∈ tw_T, w.before args s = true) (hl : Cond.methodLink own index y ∈ tw_T) (hst : Cond.static y ∈ tw_T) (hini : Cond.initialized C ∈ tw_T) (hc : Cond.code y bytes maxL ret ∈ tw_T) (hrc : rm.cells = mc) (hrs : rm.slots = ms)
    (hd : y.cls = C ∧ y.cls ≠ "java/lang/invoke/MethodHandle" ∧ y.cls ≠ "java/lang/invoke/VarHandle" ∧ (parseMethodDescriptor y.desc).map (fun d => d.parameters.length) = some n) (hR : rm.frames + 1 ≤ R.frames ∧ 8 + (maxL + 11) + rm.locals ≤ R.locals) :
    CallB R s args own index y bytes maxL ret (Cond.code y bytes maxL ret :: tw_T) rm mc ms n ∧ (Cond.static y).before args s = true :=
  ⟨callB_of n ht (tw_good hc) rfl hrc hrs (by rw [hd.1]; exact ht _ hini) (ht _ hl) hd.2 hR, ht _ hst⟩
theorem tw_cwI (n : Nat) (ht : ∀ w ∈ tw_T, w.before args s = true) (hl : Cond.methodLink own index y ∈ tw_T) (hi : Cond.instanceMethod y ∈ tw_T) (hini : Cond.initialized C ∈ tw_T) (hc : Cond.code y bytes maxL none ∈ tw_T) (hrc : rm.cells = mc) (hrs : rm.slots = ms) (hy1 : y.name = "<init>")
    (hd : y.cls = C ∧ y.cls ≠ "java/lang/invoke/MethodHandle" ∧ y.cls ≠ "java/lang/invoke/VarHandle" ∧ (parseMethodDescriptor y.desc).map (fun d => d.parameters.length) = some n) (hR : rm.frames + 1 ≤ R.frames ∧ 8 + (maxL + 11) + rm.locals ≤ R.locals) :
    CallB R s args own index y bytes maxL none (Cond.code y bytes maxL none :: tw_T) rm mc ms n ∧ y.name = "<init>" ∧ (Cond.instanceMethod y).before args s = true :=
  ⟨callB_of n ht (tw_good hc) rfl hrc hrs (by rw [hd.1]; exact ht _ hini) (ht _ hl) hd.2 hR, hy1, ht _ hi⟩
end TWC
end
section
def TX0 : u_T := fun k => match k with
  | 0 => ("XorOverlay$Bucket", "numbers", "[I", true)
  | 1 => ("XorOverlay$Bucket", "misses", "[I", true)
  | 2 => ("XorOverlay$Bucket", "first", "I", false)
  | 3 => ("XorOverlay$Bucket", "size", "I", false)
  | 4 => ("XorOverlay$Bucket", "touched", "I", false)
  | _ => ("XorOverlay$Bucket", "count", "I", false)
def tyX0 : Nat → FieldType := fun k => match k with
  | 0 => (.array .int)
  | 1 => (.array .int)
  | 2 => .int
  | 3 => .int
  | 4 => .int
  | _ => .int
theorem nmX0 : ∀ a, a < 6 → ∀ b, b < 6 → a ≠ b → (TX0 a).2.1 ≠ (TX0 b).2.1 := by decide +kernel
theorem tyX0_ok : ∀ k, k < 6 → parseFieldDescriptor (TX0 k).2.2.1 = some (tyX0 k) := by decide +kernel
set_option maxRecDepth 20000 in
theorem inX0 : ∀ w ∈ u_ws "XorOverlay$Bucket" TX0 6, w ∈ tw_T := by
  intro w h
  obtain ⟨k, hk, rfl⟩ := List.mem_map.mp h
  have hk := List.mem_range.mp hk
  rcases (show k = 0 ∨ k = 1 ∨ k = 2 ∨ k = 3 ∨ k = 4 ∨ k = 5 by omega) with rfl | rfl | rfl | rfl | rfl | rfl
  · exact tw_1 112 rfl rfl
  · exact tw_1 114 rfl rfl
  · exact tw_1 116 rfl rfl
  · exact tw_1 118 rfl rfl
  · exact tw_1 120 rfl rfl
  · exact tw_1 122 rfl rfl
def TX1 : u_T := fun k => match k with
  | 0 => ("XorOverlay$Entries", "keys", "[I", true)
  | 1 => ("XorOverlay$Entries", "holders", "[I", true)
  | 2 => ("XorOverlay$Entries", "ends", "[I", true)
  | _ => ("XorOverlay$Entries", "count", "I", false)
def tyX1 : Nat → FieldType := fun k => match k with
  | 0 => (.array .int)
  | 1 => (.array .int)
  | 2 => (.array .int)
  | _ => .int
theorem nmX1 : ∀ a, a < 4 → ∀ b, b < 4 → a ≠ b → (TX1 a).2.1 ≠ (TX1 b).2.1 := by decide +kernel
theorem tyX1_ok : ∀ k, k < 4 → parseFieldDescriptor (TX1 k).2.2.1 = some (tyX1 k) := by decide +kernel
set_option maxRecDepth 20000 in
theorem inX1 : ∀ w ∈ u_ws "XorOverlay$Entries" TX1 4, w ∈ tw_T := by
  intro w h
  obtain ⟨k, hk, rfl⟩ := List.mem_map.mp h
  have hk := List.mem_range.mp hk
  rcases (show k = 0 ∨ k = 1 ∨ k = 2 ∨ k = 3 by omega) with rfl | rfl | rfl | rfl
  · exact tw_1 203 rfl rfl
  · exact tw_1 205 rfl rfl
  · exact tw_1 207 rfl rfl
  · exact tw_1 209 rfl rfl
def TX2 : u_T := fun k => match k with
  | 0 => ("XorOverlay$Line", "cells", "[I", true)
  | _ => ("XorOverlay$Line", "count", "I", false)
def tyX2 : Nat → FieldType := fun k => match k with
  | 0 => (.array .int)
  | _ => .int
theorem nmX2 : ∀ a, a < 2 → ∀ b, b < 2 → a ≠ b → (TX2 a).2.1 ≠ (TX2 b).2.1 := by decide +kernel
theorem tyX2_ok : ∀ k, k < 2 → parseFieldDescriptor (TX2 k).2.2.1 = some (tyX2 k) := by decide +kernel
set_option maxRecDepth 20000 in
theorem inX2 : ∀ w ∈ u_ws "XorOverlay$Line" TX2 2, w ∈ tw_T := by
  intro w h
  obtain ⟨k, hk, rfl⟩ := List.mem_map.mp h
  have hk := List.mem_range.mp hk
  rcases (show k = 0 ∨ k = 1 by omega) with rfl | rfl
  · exact tw_1 30 rfl rfl
  · exact tw_1 32 rfl rfl
def TX3 : u_T := fun k => match k with
  | 0 => ("XorOverlay$Lookup", "numbers", "[I", true)
  | 1 => ("XorOverlay$Lookup", "marks", "[I", true)
  | 2 => ("XorOverlay$Lookup", "askedAt", "[I", true)
  | 3 => ("XorOverlay$Lookup", "tokens", "[I", true)
  | 4 => ("XorOverlay$Lookup", "holders", "[I", true)
  | 5 => ("XorOverlay$Lookup", "stage", "I", false)
  | 6 => ("XorOverlay$Lookup", "kind", "I", false)
  | 7 => ("XorOverlay$Lookup", "target", "I", false)
  | 8 => ("XorOverlay$Lookup", "serial", "I", false)
  | 9 => ("XorOverlay$Lookup", "count", "I", false)
  | _ => ("XorOverlay$Lookup", "holderCount", "I", false)
def tyX3 : Nat → FieldType := fun k => match k with
  | 0 => (.array .int)
  | 1 => (.array .int)
  | 2 => (.array .int)
  | 3 => (.array .int)
  | 4 => (.array .int)
  | 5 => .int
  | 6 => .int
  | 7 => .int
  | 8 => .int
  | 9 => .int
  | _ => .int
theorem nmX3 : ∀ a, a < 11 → ∀ b, b < 11 → a ≠ b → (TX3 a).2.1 ≠ (TX3 b).2.1 := by decide +kernel
theorem tyX3_ok : ∀ k, k < 11 → parseFieldDescriptor (TX3 k).2.2.1 = some (tyX3 k) := by decide +kernel
set_option maxRecDepth 20000 in
theorem inX3 : ∀ w ∈ u_ws "XorOverlay$Lookup" TX3 11, w ∈ tw_T := by
  intro w h
  obtain ⟨k, hk, rfl⟩ := List.mem_map.mp h
  have hk := List.mem_range.mp hk
  rcases (show k = 0 ∨ k = 1 ∨ k = 2 ∨ k = 3 ∨ k = 4 ∨ k = 5 ∨ k = 6 ∨ k = 7 ∨ k = 8 ∨ k = 9 ∨ k = 10 by omega) with rfl | rfl | rfl | rfl | rfl | rfl | rfl | rfl | rfl | rfl | rfl
  · exact tw_1 165 rfl rfl
  · exact tw_1 167 rfl rfl
  · exact tw_1 169 rfl rfl
  · exact tw_1 171 rfl rfl
  · exact tw_1 173 rfl rfl
  · exact tw_1 175 rfl rfl
  · exact tw_1 177 rfl rfl
  · exact tw_1 179 rfl rfl
  · exact tw_1 181 rfl rfl
  · exact tw_1 183 rfl rfl
  · exact tw_1 185 rfl rfl
def TX4 : u_T := fun k => match k with
  | 0 => ("XorOverlay$Peer", "number", "I", true)
  | 1 => ("XorOverlay$Peer", "table", "LXorOverlay$Table;", true)
  | 2 => ("XorOverlay$Peer", "lookup", "LXorOverlay$Lookup;", true)
  | 3 => ("XorOverlay$Peer", "entries", "LXorOverlay$Entries;", true)
  | _ => ("XorOverlay$Peer", "up", "Z", false)
def tyX4 : Nat → FieldType := fun k => match k with
  | 0 => .int
  | 1 => (.object "XorOverlay$Table")
  | 2 => (.object "XorOverlay$Lookup")
  | 3 => (.object "XorOverlay$Entries")
  | _ => .boolean
theorem nmX4 : ∀ a, a < 5 → ∀ b, b < 5 → a ≠ b → (TX4 a).2.1 ≠ (TX4 b).2.1 := by decide +kernel
theorem tyX4_ok : ∀ k, k < 5 → parseFieldDescriptor (TX4 k).2.2.1 = some (tyX4 k) := by decide +kernel
set_option maxRecDepth 20000 in
theorem inX4 : ∀ w ∈ u_ws "XorOverlay$Peer" TX4 5, w ∈ tw_T := by
  intro w h
  obtain ⟨k, hk, rfl⟩ := List.mem_map.mp h
  have hk := List.mem_range.mp hk
  rcases (show k = 0 ∨ k = 1 ∨ k = 2 ∨ k = 3 ∨ k = 4 by omega) with rfl | rfl | rfl | rfl | rfl
  · exact tw_1 222 rfl rfl
  · exact tw_1 224 rfl rfl
  · exact tw_1 226 rfl rfl
  · exact tw_1 228 rfl rfl
  · exact tw_1 230 rfl rfl
def TX5 : u_T := fun k => match k with
  | 0 => ("XorOverlay$Table", "owner", "I", true)
  | 1 => ("XorOverlay$Table", "rows", "[LXorOverlay$Bucket;", true)
  | _ => ("XorOverlay$Table", "count", "I", false)
def tyX5 : Nat → FieldType := fun k => match k with
  | 0 => .int
  | 1 => (.array (.object "XorOverlay$Bucket"))
  | _ => .int
theorem nmX5 : ∀ a, a < 3 → ∀ b, b < 3 → a ≠ b → (TX5 a).2.1 ≠ (TX5 b).2.1 := by decide +kernel
theorem tyX5_ok : ∀ k, k < 3 → parseFieldDescriptor (TX5 k).2.2.1 = some (tyX5 k) := by decide +kernel
set_option maxRecDepth 20000 in
theorem inX5 : ∀ w ∈ u_ws "XorOverlay$Table" TX5 3, w ∈ tw_T := by
  intro w h
  obtain ⟨k, hk, rfl⟩ := List.mem_map.mp h
  have hk := List.mem_range.mp hk
  rcases (show k = 0 ∨ k = 1 ∨ k = 2 by omega) with rfl | rfl | rfl
  · exact tw_1 130 rfl rfl
  · exact tw_1 132 rfl rfl
  · exact tw_1 134 rfl rfl
def TX6 : u_T := fun k => match k with
  | 0 => ("XorOverlay", "peers", "[LXorOverlay$Peer;", true)
  | 1 => ("XorOverlay", "line", "LXorOverlay$Line;", true)
  | 2 => ("XorOverlay", "draft", "[I", true)
  | 3 => ("XorOverlay", "taken", "[I", true)
  | 4 => ("XorOverlay", "enrolled", "I", false)
  | 5 => ("XorOverlay", "now", "I", false)
  | _ => ("XorOverlay", "lastSerial", "I", false)
def tyX6 : Nat → FieldType := fun k => match k with
  | 0 => (.array (.object "XorOverlay$Peer"))
  | 1 => (.object "XorOverlay$Line")
  | 2 => (.array .int)
  | 3 => (.array .int)
  | 4 => .int
  | 5 => .int
  | _ => .int
theorem nmX6 : ∀ a, a < 7 → ∀ b, b < 7 → a ≠ b → (TX6 a).2.1 ≠ (TX6 b).2.1 := by decide +kernel
theorem tyX6_ok : ∀ k, k < 7 → parseFieldDescriptor (TX6 k).2.2.1 = some (tyX6 k) := by decide +kernel
set_option maxRecDepth 20000 in
theorem inX6 : ∀ w ∈ u_ws "XorOverlay" TX6 7, w ∈ tw_T := by
  intro w h
  obtain ⟨k, hk, rfl⟩ := List.mem_map.mp h
  have hk := List.mem_range.mp hk
  rcases (show k = 0 ∨ k = 1 ∨ k = 2 ∨ k = 3 ∨ k = 4 ∨ k = 5 ∨ k = 6 by omega) with rfl | rfl | rfl | rfl | rfl | rfl | rfl
  · exact tw_1 43 rfl rfl
  · exact tw_1 45 rfl rfl
  · exact tw_1 47 rfl rfl
  · exact tw_1 49 rfl rfl
  · exact tw_1 51 rfl rfl
  · exact tw_1 53 rfl rfl
  · exact tw_1 55 rfl rfl
def TX7 : u_T := fun k => match k with
  | 0 => ("XorOverlayModel", "clock", "I", false)
  | 1 => ("XorOverlayModel", "serials", "I", false)
  | 2 => ("XorOverlayModel", "stamps", "I", false)
  | 3 => ("XorOverlayModel", "count", "I", false)
  | 4 => ("XorOverlayModel", "id", "[I", false)
  | 5 => ("XorOverlayModel", "up", "[Z", false)
  | 6 => ("XorOverlayModel", "member", "[Z", false)
  | 7 => ("XorOverlayModel", "stamp", "[I", false)
  | 8 => ("XorOverlayModel", "misses", "[I", false)
  | 9 => ("XorOverlayModel", "splits", "[I", false)
  | 10 => ("XorOverlayModel", "touched", "[I", false)
  | 11 => ("XorOverlayModel", "entries", "[I", false)
  | 12 => ("XorOverlayModel", "key", "[I", false)
  | 13 => ("XorOverlayModel", "holder", "[I", false)
  | 14 => ("XorOverlayModel", "until", "[I", false)
  | 15 => ("XorOverlayModel", "going", "[I", false)
  | 16 => ("XorOverlayModel", "kind", "[I", false)
  | 17 => ("XorOverlayModel", "goal", "[I", false)
  | 18 => ("XorOverlayModel", "serial", "[I", false)
  | 19 => ("XorOverlayModel", "state", "[I", false)
  | 20 => ("XorOverlayModel", "asked", "[I", false)
  | 21 => ("XorOverlayModel", "token", "[I", false)
  | 22 => ("XorOverlayModel", "founds", "[I", false)
  | 23 => ("XorOverlayModel", "find", "[I", false)
  | 24 => ("XorOverlayModel", "lines", "I", false)
  | 25 => ("XorOverlayModel", "line", "[I", false)
  | _ => ("XorOverlayModel", "now", "[I", false)
def tyX7 : Nat → FieldType := fun k => match k with
  | 0 => .int
  | 1 => .int
  | 2 => .int
  | 3 => .int
  | 4 => (.array .int)
  | 5 => (.array .boolean)
  | 6 => (.array .boolean)
  | 7 => (.array .int)
  | 8 => (.array .int)
  | 9 => (.array .int)
  | 10 => (.array .int)
  | 11 => (.array .int)
  | 12 => (.array .int)
  | 13 => (.array .int)
  | 14 => (.array .int)
  | 15 => (.array .int)
  | 16 => (.array .int)
  | 17 => (.array .int)
  | 18 => (.array .int)
  | 19 => (.array .int)
  | 20 => (.array .int)
  | 21 => (.array .int)
  | 22 => (.array .int)
  | 23 => (.array .int)
  | 24 => .int
  | 25 => (.array .int)
  | _ => (.array .int)
theorem nmX7 : ∀ a, a < 27 → ∀ b, b < 27 → a ≠ b → (TX7 a).2.1 ≠ (TX7 b).2.1 := by decide +kernel
theorem tyX7_ok : ∀ k, k < 27 → parseFieldDescriptor (TX7 k).2.2.1 = some (tyX7 k) := by decide +kernel
set_option maxRecDepth 20000 in
theorem inX7 : ∀ w ∈ u_ws "XorOverlayModel" TX7 27, w ∈ tw_T := by
  intro w h
  obtain ⟨k, hk, rfl⟩ := List.mem_map.mp h
  have hk := List.mem_range.mp hk
  rcases (show k = 0 ∨ k = 1 ∨ k = 2 ∨ k = 3 ∨ k = 4 ∨ k = 5 ∨ k = 6 ∨ k = 7 ∨ k = 8 ∨ k = 9 ∨ k = 10 ∨ k = 11 ∨ k = 12 ∨ k = 13 ∨ k = 14 ∨ k = 15 ∨ k = 16 ∨ k = 17 ∨ k = 18 ∨ k = 19 ∨ k = 20 ∨ k = 21 ∨ k = 22 ∨ k = 23 ∨ k = 24 ∨ k = 25 ∨ k = 26 by omega) with rfl | rfl | rfl | rfl | rfl | rfl | rfl | rfl | rfl | rfl | rfl | rfl | rfl | rfl | rfl | rfl | rfl | rfl | rfl | rfl | rfl | rfl | rfl | rfl | rfl | rfl | rfl
  · exact tw_3 56 rfl rfl
  · exact tw_3 58 rfl rfl
  · exact tw_3 60 rfl rfl
  · exact tw_3 62 rfl rfl
  · exact tw_3 64 rfl rfl
  · exact tw_3 66 rfl rfl
  · exact tw_3 68 rfl rfl
  · exact tw_3 70 rfl rfl
  · exact tw_3 72 rfl rfl
  · exact tw_3 74 rfl rfl
  · exact tw_3 76 rfl rfl
  · exact tw_3 78 rfl rfl
  · exact tw_3 80 rfl rfl
  · exact tw_3 82 rfl rfl
  · exact tw_3 84 rfl rfl
  · exact tw_3 86 rfl rfl
  · exact tw_3 88 rfl rfl
  · exact tw_3 90 rfl rfl
  · exact tw_3 92 rfl rfl
  · exact tw_3 94 rfl rfl
  · exact tw_3 96 rfl rfl
  · exact tw_3 98 rfl rfl
  · exact tw_3 100 rfl rfl
  · exact tw_3 102 rfl rfl
  · exact tw_3 104 rfl rfl
  · exact tw_3 106 rfl rfl
  · exact tw_3 108 rfl rfl
abbrev vwCl : List vw_C := [("XorOverlay$Bucket", TX0, 6), ("XorOverlay$Entries", TX1, 4), ("XorOverlay$Line", TX2, 2), ("XorOverlay$Lookup", TX3, 11), ("XorOverlay$Peer", TX4, 5), ("XorOverlay$Table", TX5, 3), ("XorOverlay", TX6, 7), ("XorOverlayModel", TX7, 27)]
def mm_tab : Nat → List Bool := fun ci => match ci with
  | 0 => [true, true, false, false, false, false]
  | 1 => [true, true, true, false]
  | 2 => [true, false]
  | 3 => [true, true, true, true, true, false, false, false, false, false, false]
  | 4 => [false, true, true, true, false]
  | 5 => [false, true, false]
  | 6 => [true, true, true, true, false, false, false]
  | 7 => [false, false, false, false, true, true, true, true, true, true, true, true, true, true, true, true, true, true, true, true, true, true, true, true, false, true, true]
  | _ => []
def mm_tys (cs : Nat → ClassId) : List (ClassId × FieldType) := [(cs 0, .int), (cs 1, .boolean), (cs 2, .object "XorOverlay$Peer"), (cs 3, .object "XorOverlay$Bucket")]
theorem dfX0 : ∀ j, j < 6 → defaultValue (tyX0 j) = if (mm_tab 0).getD j false = true then Value.null else .int 0 := by
  intro j hj
  rcases (show j = 0 ∨ j = 1 ∨ j = 2 ∨ j = 3 ∨ j = 4 ∨ j = 5 by omega) with rfl | rfl | rfl | rfl | rfl | rfl <;> rfl
theorem dfX1 : ∀ j, j < 4 → defaultValue (tyX1 j) = if (mm_tab 1).getD j false = true then Value.null else .int 0 := by
  intro j hj
  rcases (show j = 0 ∨ j = 1 ∨ j = 2 ∨ j = 3 by omega) with rfl | rfl | rfl | rfl <;> rfl
theorem dfX2 : ∀ j, j < 2 → defaultValue (tyX2 j) = if (mm_tab 2).getD j false = true then Value.null else .int 0 := by
  intro j hj
  rcases (show j = 0 ∨ j = 1 by omega) with rfl | rfl <;> rfl
theorem dfX3 : ∀ j, j < 11 → defaultValue (tyX3 j) = if (mm_tab 3).getD j false = true then Value.null else .int 0 := by
  intro j hj
  rcases (show j = 0 ∨ j = 1 ∨ j = 2 ∨ j = 3 ∨ j = 4 ∨ j = 5 ∨ j = 6 ∨ j = 7 ∨ j = 8 ∨ j = 9 ∨ j = 10 by omega) with rfl | rfl | rfl | rfl | rfl | rfl | rfl | rfl | rfl | rfl | rfl <;> rfl
theorem dfX4 : ∀ j, j < 5 → defaultValue (tyX4 j) = if (mm_tab 4).getD j false = true then Value.null else .int 0 := by
  intro j hj
  rcases (show j = 0 ∨ j = 1 ∨ j = 2 ∨ j = 3 ∨ j = 4 by omega) with rfl | rfl | rfl | rfl | rfl <;> rfl
theorem dfX5 : ∀ j, j < 3 → defaultValue (tyX5 j) = if (mm_tab 5).getD j false = true then Value.null else .int 0 := by
  intro j hj
  rcases (show j = 0 ∨ j = 1 ∨ j = 2 by omega) with rfl | rfl | rfl <;> rfl
theorem dfX6 : ∀ j, j < 7 → defaultValue (tyX6 j) = if (mm_tab 6).getD j false = true then Value.null else .int 0 := by
  intro j hj
  rcases (show j = 0 ∨ j = 1 ∨ j = 2 ∨ j = 3 ∨ j = 4 ∨ j = 5 ∨ j = 6 by omega) with rfl | rfl | rfl | rfl | rfl | rfl | rfl <;> rfl
theorem dfX7 : ∀ j, j < 27 → defaultValue (tyX7 j) = if (mm_tab 7).getD j false = true then Value.null else .int 0 := by
  intro j hj
  rcases (show j = 0 ∨ j = 1 ∨ j = 2 ∨ j = 3 ∨ j = 4 ∨ j = 5 ∨ j = 6 ∨ j = 7 ∨ j = 8 ∨ j = 9 ∨ j = 10 ∨ j = 11 ∨ j = 12 ∨ j = 13 ∨ j = 14 ∨ j = 15 ∨ j = 16 ∨ j = 17 ∨ j = 18 ∨ j = 19 ∨ j = 20 ∨ j = 21 ∨ j = 22 ∨ j = 23 ∨ j = 24 ∨ j = 25 ∨ j = 26 by omega) with rfl | rfl | rfl | rfl | rfl | rfl | rfl | rfl | rfl | rfl | rfl | rfl | rfl | rfl | rfl | rfl | rfl | rfl | rfl | rfl | rfl | rfl | rfl | rfl | rfl | rfl | rfl <;> rfl
end
section
/-! one memory for all objects of class and reference: lowest address, next address, kinds, lengths, ints, references -/
abbrev mm_M : Type := Nat × Nat × (Nat → Nat) × (Nat → Nat) × (Nat → Nat → Int32) × (Nat → Nat → Option Nat)
def mm_lo (G : mm_M) : Nat := G.1
def mm_nx (G : mm_M) : Nat := G.2.1
def mm_kd (G : mm_M) : Nat → Nat := G.2.2.1
def mm_ln (G : mm_M) : Nat → Nat := G.2.2.2.1
def mm_I (G : mm_M) : Nat → Nat → Int32 := G.2.2.2.2.1
def mm_R (G : mm_M) : Nat → Nat → Option Nat := G.2.2.2.2.2
def mm_K (G : mm_M) (a : Nat) : Nat := if mm_lo G ≤ a ∧ a < mm_nx G then mm_kd G a else 0
def mm_sI (G : mm_M) (a k : Nat) (v : Int32) : mm_M := (G.1, G.2.1, G.2.2.1, G.2.2.2.1, (fun b j => if b = a ∧ j = k then v else mm_I G b j), G.2.2.2.2.2)
def mm_sR (G : mm_M) (a k : Nat) (v : Option Nat) : mm_M := (G.1, G.2.1, G.2.2.1, G.2.2.2.1, G.2.2.2.2.1, (fun b j => if b = a ∧ j = k then v else mm_R G b j))
def mm_sA (G : mm_M) (a : Nat) (f : Nat → Int32) : mm_M := (G.1, G.2.1, G.2.2.1, G.2.2.2.1, (fun b j => if b = a then f j else mm_I G b j), G.2.2.2.2.2)
def mm_nw (G : mm_M) (kd ln : Nat) : mm_M := (G.1, G.2.1 + 1, (fun b => if b = mm_nx G then kd else mm_kd G b), (fun b => if b = mm_nx G then ln else mm_ln G b), (fun b j => if b = mm_nx G then 0 else mm_I G b j), (fun b j => if b = mm_nx G then none else mm_R G b j))
/-- a class's fields as values: a reference's slot or an int's -/
def mm_sl (G : mm_M) (a ci k : Nat) : Value := if (mm_tab ci).getD k false = true then va_rf (mm_R G a k) else .int (mm_I G a k)
def mm_fs (G : mm_M) (a ci : Nat) : List Value := (List.range (mm_tab ci).length).map (mm_sl G a ci)
def mm_cell (cs : Nat → ClassId) (G : mm_M) (a : Nat) : va_E :=
  if mm_kd G a = 101 then .inl (cs 0, mm_ln G a, .inl (mm_I G a))
  else if mm_kd G a = 102 then .inl (cs 1, mm_ln G a, .inl (mm_I G a))
  else if mm_kd G a = 103 then .inl (cs 2, mm_ln G a, .inr (.inr (.inr (.inr (mm_R G a)))))
  else if mm_kd G a = 104 then .inl (cs 3, mm_ln G a, .inr (.inr (.inr (.inr (mm_R G a)))))
  else .inr (mm_kd G a - 1, mm_fs G a (mm_kd G a - 1))
/-- what stays the same through a run: the lowest address, the array classes' numbers, the classes' numbers and slots -/
abbrev mm_E : Type := Nat × (Nat → ClassId) × va_G
def mm_A (E : mm_E) : Nat → Prop := fun q => E.1 ≤ q
def mm_H (E : mm_E) (G : mm_M) (H : Heap) : Prop := mm_lo G = E.1 ∧ H.size = mm_nx G ∧ E.1 ≤ H.size ∧ (∀ a, mm_lo G ≤ a → a < mm_nx G → va_at E.2.2 vwCl (a, mm_cell E.2.1 G a) H)
abbrev mm_V (E : mm_E) (s : State) (G : mm_M) (H : Heap) (locs : List Loc) : Prop := mm_H E G H ∧ va_S (mm_A E) s.heap H locs
abbrev mm_X (p : Program) (s : State) (m : MethodId) (args : Array Value) (meth : Method) (c : Code) (cc : ByteArray) (nL : Nat) (own : String) (Ts : List Cond) (E : mm_E) : Prop :=
  CallFix p m c cc nL s args Ts own ∧ va_K E.2.2 vwCl (mm_tys E.2.1) s ∧ meth.locks = false ∧ E.1 ≤ s.heap.size ∧ va_AO "XorOverlay$Peer" s ∧ va_AO "XorOverlay$Bucket" s
theorem mm_K_pos {G : mm_M} {a k : Nat} (h : mm_K G a = k) (hk : k ≠ 0) : mm_lo G ≤ a ∧ a < mm_nx G ∧ mm_kd G a = k := by
  unfold mm_K at h
  split at h
  · rename_i h1; exact ⟨h1.1, h1.2, h⟩
  · exact absurd h.symm hk
theorem mm_fs_at {G : mm_M} {a ci k : Nat} (h : k < (mm_tab ci).length) : (mm_fs G a ci)[k]? = some (mm_sl G a ci k) := by
  unfold mm_fs
  rw [List.getElem?_map, List.getElem?_range h]
  rfl
theorem mm_fs_len (G : mm_M) (a ci : Nat) : (mm_fs G a ci).length = (mm_tab ci).length := by simp [mm_fs]
theorem mm_fs_set {G G' : mm_M} {a ci k : Nat} {v : Value} (h : k < (mm_tab ci).length) (hv : mm_sl G' a ci k = v) (hb : ∀ j, j ≠ k → mm_sl G' a ci j = mm_sl G a ci j) : (mm_fs G a ci).set k v = mm_fs G' a ci := by
  apply List.ext_getElem?
  intro j
  by_cases hj : j < (mm_tab ci).length
  · rw [mm_fs_at hj]
    by_cases hk : k = j
    · subst hk
      rw [List.getElem?_set_self (by rw [mm_fs_len]; exact h), hv]
    · rw [List.getElem?_set_ne hk, mm_fs_at hj, hb j (Ne.symm hk)]
  · rw [List.getElem?_eq_none (by rw [List.length_set, mm_fs_len]; omega), List.getElem?_eq_none (by rw [mm_fs_len]; omega)]
theorem mm_cell_obj (cs : Nat → ClassId) {G : mm_M} {a ci : Nat} (h : mm_kd G a = ci + 1) (hci : ci < 100) : mm_cell cs G a = .inr (ci, mm_fs G a ci) := by
  unfold mm_cell
  rw [if_neg (by omega), if_neg (by omega), if_neg (by omega), if_neg (by omega), h]
  rfl
/-! what a write leaves as it was -/
theorem mm_cell_sI (cs : Nat → ClassId) (G : mm_M) (a k : Nat) (v : Int32) (b : Nat) (h : b ≠ a) : mm_cell cs (mm_sI G a k v) b = mm_cell cs G b := by
  have e : mm_I (mm_sI G a k v) b = mm_I G b := by funext j; simp [mm_I, mm_sI, h]
  have e2 : ∀ ci, mm_fs (mm_sI G a k v) b ci = mm_fs G b ci := by
    intro ci
    unfold mm_fs
    congr 1
    funext j
    unfold mm_sl
    rw [e]
    rfl
  unfold mm_cell
  rw [e, e2]
  rfl
theorem mm_cell_sR (cs : Nat → ClassId) (G : mm_M) (a k : Nat) (v : Option Nat) (b : Nat) (h : b ≠ a) : mm_cell cs (mm_sR G a k v) b = mm_cell cs G b := by
  have e : mm_R (mm_sR G a k v) b = mm_R G b := by funext j; simp [mm_R, mm_sR, h]
  have e2 : ∀ ci, mm_fs (mm_sR G a k v) b ci = mm_fs G b ci := by
    intro ci
    unfold mm_fs
    congr 1
    funext j
    unfold mm_sl
    rw [e]
    rfl
  unfold mm_cell
  rw [e, e2]
  rfl
theorem mm_cell_sA (cs : Nat → ClassId) (G : mm_M) (a : Nat) (f : Nat → Int32) (b : Nat) (h : b ≠ a) : mm_cell cs (mm_sA G a f) b = mm_cell cs G b := by
  have e : mm_I (mm_sA G a f) b = mm_I G b := by funext j; simp [mm_I, mm_sA, h]
  have e2 : ∀ ci, mm_fs (mm_sA G a f) b ci = mm_fs G b ci := by
    intro ci
    unfold mm_fs
    congr 1
    funext j
    unfold mm_sl
    rw [e]
    rfl
  unfold mm_cell
  rw [e, e2]
  rfl
theorem mm_cell_nw (cs : Nat → ClassId) (G : mm_M) (kd ln : Nat) (b : Nat) (h : b ≠ mm_nx G) : mm_cell cs (mm_nw G kd ln) b = mm_cell cs G b := by
  have e : mm_I (mm_nw G kd ln) b = mm_I G b := by funext j; simp [mm_I, mm_nw, h]
  have e1 : mm_R (mm_nw G kd ln) b = mm_R G b := by funext j; simp [mm_R, mm_nw, h]
  have e3 : mm_kd (mm_nw G kd ln) b = mm_kd G b := by simp [mm_kd, mm_nw, h]
  have e4 : mm_ln (mm_nw G kd ln) b = mm_ln G b := by simp [mm_ln, mm_nw, h]
  have e2 : ∀ ci, mm_fs (mm_nw G kd ln) b ci = mm_fs G b ci := by
    intro ci
    unfold mm_fs
    congr 1
    funext j
    unfold mm_sl
    rw [e, e1]
  unfold mm_cell
  rw [e, e1, e3, e4, e2]
/-- a cell is written: the new memory holds -/
theorem mm_V.wr {E : mm_E} {s : State} {G : mm_M} (G' : mm_M) {H H1 : Heap} {locs locs1 : List Loc} {a : Nat} (V : mm_V E s G H locs) (ha : mm_lo G ≤ a) (h0 : mm_lo G' = mm_lo G) (h1 : mm_nx G' = mm_nx G) (hb : ∀ b, b ≠ a → mm_cell E.2.1 G' b = mm_cell E.2.1 G b) (hz : H1.size = H.size) (oq : ∀ q : Nat, q ≠ a → H1[q]? = H[q]?) (he : va_at E.2.2 vwCl (a, mm_cell E.2.1 G' a) H1) (hl : ∀ x ∈ locs1, x ∈ locs ∨ x.base = a) : mm_V E s G' H1 locs1 := by
  obtain ⟨⟨g1, g2, g3, g4⟩, hS⟩ := V
  have hA : mm_A E a := by show E.1 ≤ a; omega
  refine ⟨⟨h0.trans g1, by rw [hz, g2, h1], by rw [hz]; exact g3, fun b hb1 hb2 => ?_⟩, by rw [hz]; exact hS.1, fun q q1 q2 => ?_, fun x hx => ?_⟩
  · by_cases hba : b = a
    · subst hba; exact he
    · rw [hb b hba]
      exact (g4 b (by omega) (by omega)).kept (oq b hba)
  · rw [oq q (fun e => q2 (by rw [e]; exact hA))]
    exact hS.2.1 q q1 q2
  · rcases hl x hx with h | h
    · exact hS.2.2 x h
    · rw [h]; exact hA
/-- a cell is made: the new memory holds -/
theorem mm_V.nw {E : mm_E} {s : State} {G : mm_M} (kd ln : Nat) {H H1 : Heap} {locs : List Loc} (V : mm_V E s G H locs) (hz : H1.size = H.size + 1) (oq : ∀ q : Nat, q < H.size → H1[q]? = H[q]?) (he : va_at E.2.2 vwCl (mm_nx G, mm_cell E.2.1 (mm_nw G kd ln) (mm_nx G)) H1) : mm_V E s (mm_nw G kd ln) H1 locs := by
  obtain ⟨⟨g1, g2, g3, g4⟩, hS⟩ := V
  have e1 : mm_nx (mm_nw G kd ln) = mm_nx G + 1 := rfl
  have e2 : mm_lo (mm_nw G kd ln) = mm_lo G := rfl
  refine ⟨⟨e2.trans g1, by rw [hz, g2, e1], by omega, fun b hb1 hb2 => ?_⟩, by have := hS.1; omega, fun q q1 q2 => ?_, hS.2.2⟩
  · by_cases hba : b = mm_nx G
    · subst hba; exact he
    · rw [mm_cell_nw _ _ _ _ _ hba]
      rw [e1] at hb2
      rw [e2] at hb1
      exact (g4 b hb1 (by omega)).kept (oq b (by omega))
  · rw [oq q (by have := hS.1; omega)]
    exact hS.2.1 q q1 q2
theorem mm_H.one {E : mm_E} {G : mm_M} {H : Heap} {a k : Nat} (h : mm_H E G H) (hk : mm_K G a = k) (h0 : k ≠ 0) : va_at E.2.2 vwCl (a, mm_cell E.2.1 G a) H := by
  obtain ⟨h1, h2, -⟩ := mm_K_pos hk h0
  exact h.2.2.2 a h1 h2
theorem mm_P1 {D : va_G} {cl : List vw_C} {q : Nat × va_E} {H : Heap} (h : va_at D cl q H) : va_P D cl [q] H := by
  intro k x hx
  have hz : k < 1 := (List.getElem?_eq_some_iff.mp hx).1
  rw [show k = 0 by omega] at hx
  cases hx
  exact h
/-! the programs' own words: what an instruction reads and writes of the memory, or no answer -/
def q_gI {α : Type} (G : mm_M) (a kd k : Nat) (f : Int32 → Option α) : Option α := if mm_K G a = kd then f (mm_I G a k) else none
def q_gR {α : Type} (G : mm_M) (a kd k : Nat) (f : Option Nat → Option α) : Option α := if mm_K G a = kd then f (mm_R G a k) else none
def q_pI {α : Type} (G : mm_M) (a kd k : Nat) (v : Int32) (f : mm_M → Option α) : Option α := if mm_K G a = kd then f (mm_sI G a k v) else none
def q_pR {α : Type} (G : mm_M) (a kd k : Nat) (v : Option Nat) (f : mm_M → Option α) : Option α := if mm_K G a = kd then f (mm_sR G a k v) else none
def q_aI {α : Type} (G : mm_M) (a kd : Nat) (i : Int32) (f : Int32 → Option α) : Option α := if mm_K G a = kd ∧ 0 ≤ i.toInt ∧ i.toInt < mm_ln G a then f (mm_I G a i.toInt.toNat) else none
def q_aR {α : Type} (G : mm_M) (a kd : Nat) (i : Int32) (f : Option Nat → Option α) : Option α := if mm_K G a = kd ∧ 0 ≤ i.toInt ∧ i.toInt < mm_ln G a then f (mm_R G a i.toInt.toNat) else none
def q_sI {α : Type} (G : mm_M) (a kd : Nat) (i v : Int32) (f : mm_M → Option α) : Option α := if mm_K G a = kd ∧ 0 ≤ i.toInt ∧ i.toInt < mm_ln G a then f (mm_sI G a i.toInt.toNat v) else none
def q_sZ {α : Type} (G : mm_M) (a kd : Nat) (i v : Int32) (f : mm_M → Option α) : Option α := if (mm_K G a = kd ∧ 0 ≤ i.toInt ∧ i.toInt < mm_ln G a) ∧ (v = 0 ∨ v = 1) then f (mm_sI G a i.toInt.toNat v) else none
def q_sR {α : Type} (G : mm_M) (a kd ke : Nat) (i : Int32) (v : Option Nat) (f : mm_M → Option α) : Option α := if (mm_K G a = kd ∧ 0 ≤ i.toInt ∧ i.toInt < mm_ln G a) ∧ (∀ b, v = some b → mm_K G b = ke) then f (mm_sR G a i.toInt.toNat v) else none
def q_len {α : Type} (G : mm_M) (a kd : Nat) (f : Int32 → Option α) : Option α := if mm_K G a = kd then f (Int32.ofNat (mm_ln G a)) else none
def q_new {α : Type} (G : mm_M) (kd : Nat) (f : mm_M → Nat → Option α) : Option α := f (mm_nw G kd 0) (mm_nx G)
def q_arr {α : Type} (G : mm_M) (kd n : Nat) (f : mm_M → Nat → Option α) : Option α := f (mm_nw G kd n) (mm_nx G)
def q_cpy {α : Type} (G : mm_M) (a : Nat) (sp : Int32) (b : Nat) (dp n : Int32) (f : mm_M → Option α) : Option α :=
  if (mm_K G a = 101 ∧ mm_K G b = 101) ∧ (0 ≤ sp.toInt ∧ 0 ≤ dp.toInt ∧ 0 ≤ n.toInt) ∧ sp.toInt + n.toInt ≤ mm_ln G a ∧ dp.toInt + n.toInt ≤ mm_ln G b then f (mm_sA G b (va_cpy (mm_I G a) (mm_I G b) sp.toInt.toNat dp.toInt.toNat n.toInt.toNat)) else none
def q_nn {α : Type} (r : Option Nat) (f : Nat → Option α) : Option α := match r with
  | none => none
  | some b => f b
def q_op {α : Type} (r : Option Nat) (g : Option α) (f : Nat → Option α) : Option α := match r with
  | none => g
  | some b => f b
def q_is {α : Type} (G : mm_M) (a kd : Nat) (f : Option α) : Option α := if mm_K G a = kd then f else none
def q_nz {α : Type} (y : Int32) (f : Option α) : Option α := if y = 0 then none else f
def q_bit {α : Type} (y : Int32) (f : Option α) : Option α := if y = 0 ∨ y = 1 then f else none
theorem q_if {α : Type} {P : Prop} [Decidable P] {x y : Option α} {r : α} {X1 X2 X : Prop} (hp : (if P then x else y) = some r) (f : (P → X1) → (¬ P → X2) → X) (k1 : x = some r → X1) (k2 : y = some r → X2) : X := f (fun h => k1 (by rwa [if_pos h] at hp)) (fun h => k2 (by rwa [if_neg h] at hp))
theorem q_pos {α : Type} {P : Prop} [Decidable P] {x : Option α} {r : α} (hp : (if P then x else none) = some r) : P ∧ x = some r := by
  by_cases h : P
  · rw [if_pos h] at hp; exact ⟨h, hp⟩
  · rw [if_neg h] at hp; cases hp
theorem q_nz_of {α : Type} {y : Int32} {x : Option α} {r : α} (hp : q_nz y x = some r) : ¬ y = 0 ∧ x = some r := by
  unfold q_nz at hp
  by_cases h : y = 0
  · rw [if_pos h] at hp; cases hp
  · rw [if_neg h] at hp; exact ⟨h, hp⟩
theorem q_nn_of {α : Type} {y : Option Nat} {f : Nat → Option α} {r : α} (hp : q_nn y f = some r) : ∃ b, y = some b ∧ f b = some r := by
  cases y with
  | none => cases hp
  | some b => exact ⟨b, rfl, hp⟩
theorem q_bit_of {α : Type} {y : Int32} {x : Option α} {r : α} (hp : q_bit y x = some r) : narrow .boolean (.int y) = .int y ∧ x = some r := by
  obtain ⟨h, h2⟩ := q_pos hp
  refine ⟨?_, h2⟩
  rcases h with rfl | rfl <;> rfl
theorem q_bind_of {α β : Type} {x : Option α} {f : α → Option β} {r : β} (hp : x.bind f = some r) : ∃ y, x = some y ∧ f y = some r := by
  cases x with
  | none => cases hp
  | some y => exact ⟨y, rfl, hp⟩
theorem mm_in {i : Int32} {n : Nat} (h1 : 0 ≤ i.toInt) (h2 : i.toInt < n) : vp_in i n := by
  intro h
  rcases h with h | h
  · have := Int32.lt_iff_toInt_lt.mp h
    have e0 : (0 : Int32).toInt = 0 := rfl
    omega
  · have e0 : i.toNatClampNeg = i.toInt.toNat := rfl
    omega
theorem mm_nl {i : Int32} (h1 : 0 ≤ i.toInt) : ¬ i < 0 := by
  intro h
  have := Int32.lt_iff_toInt_lt.mp h
  have e0 : (0 : Int32).toInt = 0 := rfl
  omega
theorem va_rf_cat (r : Option Nat) : (va_rf r).category = 1 := by cases r <;> rfl
theorem va_int_cat (x : Int32) : (Value.int x).category = 1 := rfl
theorem va_rf_narrow (C : String) (r : Option Nat) : narrow (.object C) (va_rf r) = va_rf r := by cases r <;> rfl
theorem va_rf_fits (C : String) (r : Option Nat) : fits (.object C) (va_rf r) = true := by cases r <;> rfl
theorem va_rf_narrowA (C : FieldType) (r : Option Nat) : narrow (.array C) (va_rf r) = va_rf r := by cases r <;> rfl
theorem va_rf_fitsA (C : FieldType) (r : Option Nat) : fits (.array C) (va_rf r) = true := by cases r <;> rfl
theorem mm_sl_I {G : mm_M} {a ci k : Nat} (ht : (mm_tab ci)[k]? = some false) : mm_sl G a ci k = .int (mm_I G a k) := by
  unfold mm_sl
  rw [if_neg]
  simp [List.getD, ht]
theorem mm_sl_R {G : mm_M} {a ci k : Nat} (ht : (mm_tab ci)[k]? = some true) : mm_sl G a ci k = va_rf (mm_R G a k) := by
  unfold mm_sl
  rw [if_pos]
  simp [List.getD, ht]
section QROW
variable {p : Program} {l : Launch} {e : Env} {R : Room} {s : State} {m : MethodId} {args : Array Value} {below : List Frame} {meth : Method} {c : Code} {H : Heap} {locs : List Loc} {cells slots : Nat} {Q : State → Prop}
variable {cc : ByteArray} {pc nL : Nat} {ls : Array Slot} {rest : List Value} {own : String} {Ts : List Cond} {E : mm_E} {G : mm_M} {α : Type} {res : α}
theorem q_aload_n {k : Fin 4} {i : Nat} (r : Option Nat) (X : mm_X p s m args meth c cc nL own Ts E) (hdg : decode cc pc = .ok (.aload_n k, 1)) (hi : (k : Nat) = i) (hl : ls[i]? = some (.val (va_rf r)))
    (kk : W p l e R s m args below meth c H locs cells slots Q (F0 m (pc + 1) ls (va_rf r :: rest))) : W p l e R s m args below meth c H locs cells slots Q (F0 m pc ls rest) := by
  cases r with
  | none => exact lv_aload_nN X.1.1 X.1.2.1 hdg hi hl kk
  | some a => exact lv_aload_n X.1.1 X.1.2.1 hdg hi hl kk
theorem q_aload {i : Nat} (r : Option Nat) (X : mm_X p s m args meth c cc nL own Ts E) (hdg : decode cc pc = .ok (.aload i, 2)) (hl : ls[i]? = some (.val (va_rf r)))
    (kk : W p l e R s m args below meth c H locs cells slots Q (F0 m (pc + 2) ls (va_rf r :: rest))) : W p l e R s m args below meth c H locs cells slots Q (F0 m pc ls rest) := by
  cases r with
  | none => exact lv_aloadN X.1.1 X.1.2.1 hdg hl kk
  | some a => exact lv_aload X.1.1 X.1.2.1 hdg hl kk
theorem q_astore_n {k : Fin 4} {i nL' : Nat} (r : Option Nat) {lv lv' : List (Nat × Value)} (X : mm_X p s m args meth c cc nL own Ts E) (hdg : decode cc pc = .ok (.astore_n k, 1)) (hi : (k : Nat) = i) (h : lv_has ls nL' lv) (hn : i < nL') (hl : (i, va_rf r) :: lv.filter (fun q => !(q.1 == i) && !(q.1 + 1 == i && q.2.category == 2)) = lv')
    (kk : ∀ ls' : Array Slot, lv_has ls' nL' lv' → W p l e R s m args below meth c H locs cells slots Q (F0 m (pc + 1) ls' rest)) : W p l e R s m args below meth c H locs cells slots Q (F0 m pc ls (va_rf r :: rest)) := by
  cases r with
  | none => exact lv_astore_nN X.1.1 X.1.2.1 hdg hi h hn hl kk
  | some a => exact lv_astore_n X.1.1 X.1.2.1 hdg hi h hn hl kk
theorem q_astore {i nL' : Nat} (r : Option Nat) {lv lv' : List (Nat × Value)} (X : mm_X p s m args meth c cc nL own Ts E) (hdg : decode cc pc = .ok (.astore i, 2)) (h : lv_has ls nL' lv) (hn : i < nL') (hl : (i, va_rf r) :: lv.filter (fun q => !(q.1 == i) && !(q.1 + 1 == i && q.2.category == 2)) = lv')
    (kk : ∀ ls' : Array Slot, lv_has ls' nL' lv' → W p l e R s m args below meth c H locs cells slots Q (F0 m (pc + 2) ls' rest)) : W p l e R s m args below meth c H locs cells slots Q (F0 m pc ls (va_rf r :: rest)) := by
  cases r with
  | none => exact lv_astoreN X.1.1 X.1.2.1 hdg h hn hl kk
  | some a => exact lv_astore X.1.1 X.1.2.1 hdg h hn hl kk
theorem q_ifnull {r : Option Nat} {g : Option α} {f : Nat → Option α} (X : mm_X p s m args meth c cc nL own Ts E) {off : Int} {tgt : Nat} (hdg : decode cc pc = .ok (.ifnull off, 3)) (ht : (pc : Int) + off = (tgt : Int)) (hp : q_op r g f = some res)
    (k0 : r = none → g = some res → W p l e R s m args below meth c H locs cells slots Q (F0 m tgt ls rest)) (k1 : ∀ b, r = some b → f b = some res → W p l e R s m args below meth c H locs cells slots Q (F0 m (pc + 3) ls rest)) : W p l e R s m args below meth c H locs cells slots Q (F0 m pc ls (va_rf r :: rest)) := by
  cases r with
  | none => exact lv_ifnullN X.1.1 X.1.2.1 hdg ht (k0 rfl hp)
  | some b => exact lv_ifnull X.1.1 X.1.2.1 hdg (k1 b rfl hp)
theorem q_ifnonnull {r : Option Nat} {g : Option α} {f : Nat → Option α} (X : mm_X p s m args meth c cc nL own Ts E) {off : Int} {tgt : Nat} (hdg : decode cc pc = .ok (.ifnonnull off, 3)) (ht : (pc : Int) + off = (tgt : Int)) (hp : q_op r g f = some res)
    (k0 : r = none → g = some res → W p l e R s m args below meth c H locs cells slots Q (F0 m (pc + 3) ls rest)) (k1 : ∀ b, r = some b → f b = some res → W p l e R s m args below meth c H locs cells slots Q (F0 m tgt ls rest)) : W p l e R s m args below meth c H locs cells slots Q (F0 m pc ls (va_rf r :: rest)) := by
  cases r with
  | none => exact lv_ifnonnullN X.1.1 X.1.2.1 hdg (k0 rfl hp)
  | some b => exact lv_ifnonnull X.1.1 X.1.2.1 hdg ht (k1 b rfl hp)
theorem q_getI {C ref : String} {T : u_T} {N ci index kd : Nat} (X : mm_X p s m args meth c cc nL own Ts E) (V : mm_V E s G H locs) (hin : ∀ w ∈ u_ws C T N, w ∈ Ts) (hc : vwCl[ci]? = some (C, T, N)) (hci : ci < 100) (hkd : kd = ci + 1) (k : Nat) (hk : k < N) (ht : (mm_tab ci)[k]? = some false) (hlink : Cond.fieldLink own index ref (T k).2.1 (T k).2.2.1 ∈ Ts) (hsame : (T k).1 = ref) {a : Nat} (hdg : decode cc pc = .ok (.getfield index, 3)) {f : Int32 → Option α} (hp : q_gI G a kd k f = some res)
    (kk : ∀ v : Int32, f v = some res → W p l e R s m args below meth c H locs cells slots Q (F0 m (pc + 3) ls (.int v :: rest))) : W p l e R s m args below meth c H locs cells slots Q (F0 m pc ls (va_rf (some a) :: rest)) := by
  obtain ⟨hK, hp⟩ := q_pos hp
  have h1 := mm_H.one V.1 hK (by omega)
  have hkd2 := (mm_K_pos hK (by omega)).2.2
  rw [mm_cell_obj E.2.1 (hkd2.trans hkd) hci] at h1
  exact va_get X.1.1 X.1.2.1 X.1.2.2.2.2 hin X.1.2.2.2.1 X.2.1 (mm_P1 h1) 0 rfl hc k hk (X.1.2.2.2.2 _ hlink) (fun x h => by rw [← hsame]; exact h) (by rw [mm_fs_at (List.getElem?_eq_some_iff.mp ht).1, mm_sl_I ht]) hdg (kk _ hp)
theorem q_getR {C ref : String} {T : u_T} {N ci index kd : Nat} (X : mm_X p s m args meth c cc nL own Ts E) (V : mm_V E s G H locs) (hin : ∀ w ∈ u_ws C T N, w ∈ Ts) (hc : vwCl[ci]? = some (C, T, N)) (hci : ci < 100) (hkd : kd = ci + 1) (k : Nat) (hk : k < N) (ht : (mm_tab ci)[k]? = some true) (hlink : Cond.fieldLink own index ref (T k).2.1 (T k).2.2.1 ∈ Ts) (hsame : (T k).1 = ref) {a : Nat} (hdg : decode cc pc = .ok (.getfield index, 3)) {f : Option Nat → Option α} (hp : q_gR G a kd k f = some res)
    (kk : ∀ v : Option Nat, f v = some res → W p l e R s m args below meth c H locs cells slots Q (F0 m (pc + 3) ls (va_rf v :: rest))) : W p l e R s m args below meth c H locs cells slots Q (F0 m pc ls (va_rf (some a) :: rest)) := by
  obtain ⟨hK, hp⟩ := q_pos hp
  have h1 := mm_H.one V.1 hK (by omega)
  have hkd2 := (mm_K_pos hK (by omega)).2.2
  rw [mm_cell_obj E.2.1 (hkd2.trans hkd) hci] at h1
  exact va_get X.1.1 X.1.2.1 X.1.2.2.2.2 hin X.1.2.2.2.1 X.2.1 (mm_P1 h1) 0 rfl hc k hk (X.1.2.2.2.2 _ hlink) (fun x h => by rw [← hsame]; exact h) (by rw [mm_fs_at (List.getElem?_eq_some_iff.mp ht).1, mm_sl_R ht]) hdg (kk _ hp)
/-- a field is written: what both kinds of putfield share -/
theorem mm_field {C : String} {T : u_T} {N ci kd k : Nat} {H1 : Heap} {locs1 : List Loc} {a : Nat} {v : Value} {cell : Cell} (G' : mm_M) (V : mm_V E s G H locs) (hK : mm_K G a = kd) (hkd : kd = ci + 1) (hci : ci < 100) (hc : vwCl[ci]? = some (C, T, N)) (hkN : k < N) (ht : k < (mm_tab ci).length) (hap : ∀ x y, x < N → y < N → x ≠ y → (E.2.2.2 ci) x ≠ (E.2.2.2 ci) y)
    (q2 : cell.cls = E.2.2.1 ci) (q3 : cell.vm = .none) (q4 : ∀ k, k < N → cell.slots[E.2.2.2 ci k]? = some (vp_V (mm_fs G a ci) k)) (e1 : H1[a]? = some (cell.setSlot (E.2.2.2 ci k) v)) (hz : H1.size = H.size) (oq : ∀ q : Nat, q ≠ a → H1[q]? = H[q]?) (h0 : mm_lo G' = mm_lo G) (h1 : mm_nx G' = mm_nx G) (hb : ∀ b, b ≠ a → mm_cell E.2.1 G' b = mm_cell E.2.1 G b) (hkk : mm_kd G' a = mm_kd G a) (hv : mm_sl G' a ci k = v) (hr : ∀ j, j ≠ k → mm_sl G' a ci j = mm_sl G a ci j) (hl : ∀ x ∈ locs1, x ∈ locs ∨ x.base = a) : mm_V E s G' H1 locs1 := by
  obtain ⟨z1, z2, z3⟩ := mm_K_pos hK (by omega)
  refine mm_V.wr G' V z1 h0 h1 hb hz oq ?_ hl
  rw [mm_cell_obj E.2.1 (hkk.trans (z3.trans hkd)) hci]
  refine ⟨_, hc, ?_⟩
  refine t_OB.to (V := updV (vp_V (mm_fs G a ci)) k v) ⟨_, e1, q2, q3, t_set q4 hap hkN v⟩ (fun j _ => ?_)
  rw [← mm_fs_set ht hv hr]
  exact vp_updV_set (by rw [mm_fs_len]; exact ht) v j
theorem mm_sl_sI (G : mm_M) (a ci k : Nat) (v : Int32) (ht : (mm_tab ci)[k]? = some false) : mm_sl (mm_sI G a k v) a ci k = .int v ∧ ∀ j, j ≠ k → mm_sl (mm_sI G a k v) a ci j = mm_sl G a ci j := by
  refine ⟨by rw [mm_sl_I ht]; simp [mm_I, mm_sI], fun j hj => ?_⟩
  have e : mm_I (mm_sI G a k v) a j = mm_I G a j := by simp [mm_I, mm_sI, hj]
  unfold mm_sl
  rw [e]
  rfl
theorem mm_sl_sR (G : mm_M) (a ci k : Nat) (v : Option Nat) (ht : (mm_tab ci)[k]? = some true) : mm_sl (mm_sR G a k v) a ci k = va_rf v ∧ ∀ j, j ≠ k → mm_sl (mm_sR G a k v) a ci j = mm_sl G a ci j := by
  refine ⟨by rw [mm_sl_R ht]; simp [mm_R, mm_sR], fun j hj => ?_⟩
  have e : mm_R (mm_sR G a k v) a j = mm_R G a j := by simp [mm_R, mm_sR, hj]
  unfold mm_sl
  rw [e]
  rfl
theorem mm_putW {C ref : String} {T : u_T} {N ci index kd : Nat} (X : mm_X p s m args meth c cc nL own Ts E) (V : mm_V E s G H locs) (G' : mm_M) (hin : ∀ w ∈ u_ws C T N, w ∈ Ts) (hc : vwCl[ci]? = some (C, T, N)) (ty0 : Nat → FieldType) (hty : ∀ k, k < N → parseFieldDescriptor (T k).2.2.1 = some (ty0 k)) (hnm : ∀ a, a < N → ∀ b, b < N → a ≠ b → (T a).2.1 ≠ (T b).2.1) (hci : ci < 100) (hkd : kd = ci + 1) (k : Nat) (hk : k < N) (ht : k < (mm_tab ci).length) (hlink : Cond.fieldLink own index ref (T k).2.1 (T k).2.2.1 ∈ Ts) (hsame : (T k).1 = ref) (hfin : (T k).2.2.2 = false ∨ ((T k).2.2.2 = true ∧ meth.name = "<init>" ∧ (T k).1 = own)) {ty : FieldType} {v : Value} (hd : parseFieldDescriptor (T k).2.2.1 = some ty) (hn : narrow ty v = v) (hfit : fits ty v = true) {a : Nat} (hdg : decode cc pc = .ok (.putfield index, 3)) (hK : mm_K G a = kd)
    (h0 : mm_lo G' = mm_lo G) (h1 : mm_nx G' = mm_nx G) (hb : ∀ b, b ≠ a → mm_cell E.2.1 G' b = mm_cell E.2.1 G b) (hkk : mm_kd G' a = mm_kd G a) (hv : mm_sl G' a ci k = v) (hr : ∀ j, j ≠ k → mm_sl G' a ci j = mm_sl G a ci j)
    (kk : ∀ (H1 : Heap) (locs1 : List Loc), mm_V E s G' H1 locs1 → W p l e R s m args below meth c H1 locs1 cells slots Q (F0 m (pc + 3) ls rest)) : W p l e R s m args below meth c H locs cells slots Q (F0 m pc ls (v :: .ref a :: rest)) := by
  obtain ⟨⟨hexec, hbc, -, hown, hts⟩, hKK, -⟩ := X
  have hap := va_apart (own := own) hts hin ty0 hty hnm hKK hc
  have hone := mm_H.one V.1 hK (by omega)
  have hkd2 := (mm_K_pos hK (by omega)).2.2
  rw [mm_cell_obj E.2.1 (hkd2.trans hkd) hci] at hone
  obtain ⟨r, g1, cell, q1, q2, q3, q4⟩ := hone
  have hr2 : r = (C, T, N) := Option.some.inj (g1.symm.trans hc)
  subst hr2
  obtain ⟨hS, hfc, kC, hkC, hkind⟩ := hKK.1 ci _ hc
  obtain ⟨cf, kf, fi, f, hi, hsl⟩ := hS k hk
  have hst := (u_facts hfc hkC (u_lays hts hin hk) hi).1
  have hlay := hts _ (hin _ (u_in_lay hk))
  unfold u_lay at hlay
  have hfd : s.fieldFound? ref (T k).2.1 (T k).2.2.1 = some (cf, kf, fi, f) := by rw [← hsame]; exact hi
  rcases hfin with hfin | ⟨hfin, hin2, hdecl⟩
  · rw [if_neg (by rw [hfin]; decide)] at hlay
    have h6 := u_store hfc hkC hkind hlay hi hd hn hfit
    refine W.putK hexec hbc (f := f) ⟨hown, hts _ hlink, ⟨_, _, _, hfd⟩, hst⟩ (by rw [q2]; exact h6) q1 q3 (by rw [hsl]; exact k2_hasslot (q4 k hk)) rfl rfl hdg fun H' e1 e2 e3 => ?_
    rw [hsl] at e1 ⊢
    exact kk H' _ (mm_field G' V hK hkd hci hc hk ht hap q2 q3 q4 e1 e2 e3 h0 h1 hb hkk hv hr (fun x hx => by
      rcases List.mem_append.mp hx with h | h
      · exact Or.inl h
      · rw [List.mem_singleton.mp h]; exact Or.inr rfl))
  · rw [if_pos hfin] at hlay
    have hcf : m.cls = cf := by
      obtain ⟨_, _, c', _, _, _, -, -, hf', -, -, -, hown2, -⟩ := Cond.laysFinal_spec hlay
      have e1 : c' = cf := by have := hi.symm.trans hf'; simp at this; exact this.1.symm
      rw [hdecl] at hown2
      rw [← e1]; exact Option.some.inj (hown.symm.trans hown2)
    have h6 := u_fits hfc hkC hkind (Or.inr hlay) hi hd hn hfit
    refine W.putFinK hexec hbc hown (hts _ hlink) hfd hst hcf hin2 (by rw [q2]; exact h6) q1 q3 (by rw [hsl]; exact k2_hasslot (q4 k hk)) rfl rfl hdg fun H' e1 e2 e3 => ?_
    rw [hsl] at e1 ⊢
    exact kk H' _ (mm_field G' V hK hkd hci hc hk ht hap q2 q3 q4 e1 e2 e3 h0 h1 hb hkk hv hr (fun x hx => by
      rcases List.mem_append.mp hx with h | h
      · exact Or.inl h
      · rw [List.mem_singleton.mp h]; exact Or.inr rfl))
theorem q_putI {C ref : String} {T : u_T} {N ci index kd : Nat} (X : mm_X p s m args meth c cc nL own Ts E) (V : mm_V E s G H locs) (hin : ∀ w ∈ u_ws C T N, w ∈ Ts) (hc : vwCl[ci]? = some (C, T, N)) (ty0 : Nat → FieldType) (hty : ∀ k, k < N → parseFieldDescriptor (T k).2.2.1 = some (ty0 k)) (hnm : ∀ a, a < N → ∀ b, b < N → a ≠ b → (T a).2.1 ≠ (T b).2.1) (hci : ci < 100) (hkd : kd = ci + 1) (k : Nat) (hk : k < N) (ht : (mm_tab ci)[k]? = some false) (hlink : Cond.fieldLink own index ref (T k).2.1 (T k).2.2.1 ∈ Ts) (hsame : (T k).1 = ref) (hfin : (T k).2.2.2 = false ∨ ((T k).2.2.2 = true ∧ meth.name = "<init>" ∧ (T k).1 = own)) (ty : FieldType) {v : Int32} (hd : parseFieldDescriptor (T k).2.2.1 = some ty) (hn : narrow ty (.int v) = .int v) (hfit : fits ty (.int v) = true) {a : Nat} (hdg : decode cc pc = .ok (.putfield index, 3)) {f : mm_M → Option α} (hp : q_pI G a kd k v f = some res)
    (kk : ∀ (G1 : mm_M) (H1 : Heap) (locs1 : List Loc), mm_V E s G1 H1 locs1 → f G1 = some res → W p l e R s m args below meth c H1 locs1 cells slots Q (F0 m (pc + 3) ls rest)) : W p l e R s m args below meth c H locs cells slots Q (F0 m pc ls (.int v :: va_rf (some a) :: rest)) := by
  obtain ⟨hK, hp⟩ := q_pos hp
  obtain ⟨h1, h2⟩ := mm_sl_sI G a ci k v ht
  exact mm_putW X V (mm_sI G a k v) hin hc ty0 hty hnm hci hkd k hk (List.getElem?_eq_some_iff.mp ht).1 hlink hsame hfin hd hn hfit hdg hK rfl rfl (mm_cell_sI E.2.1 G a k v) rfl h1 h2 (fun H1 locs1 V1 => kk _ H1 locs1 V1 hp)
theorem q_putR {C ref : String} {T : u_T} {N ci index kd : Nat} (X : mm_X p s m args meth c cc nL own Ts E) (V : mm_V E s G H locs) (hin : ∀ w ∈ u_ws C T N, w ∈ Ts) (hc : vwCl[ci]? = some (C, T, N)) (ty0 : Nat → FieldType) (hty : ∀ k, k < N → parseFieldDescriptor (T k).2.2.1 = some (ty0 k)) (hnm : ∀ a, a < N → ∀ b, b < N → a ≠ b → (T a).2.1 ≠ (T b).2.1) (hci : ci < 100) (hkd : kd = ci + 1) (k : Nat) (hk : k < N) (ht : (mm_tab ci)[k]? = some true) (hlink : Cond.fieldLink own index ref (T k).2.1 (T k).2.2.1 ∈ Ts) (hsame : (T k).1 = ref) (hfin : (T k).2.2.2 = false ∨ ((T k).2.2.2 = true ∧ meth.name = "<init>" ∧ (T k).1 = own)) (ty : FieldType) {v : Option Nat} (hd : parseFieldDescriptor (T k).2.2.1 = some ty) (hn : narrow ty (va_rf v) = va_rf v) (hfit : fits ty (va_rf v) = true) {a : Nat} (hdg : decode cc pc = .ok (.putfield index, 3)) {f : mm_M → Option α} (hp : q_pR G a kd k v f = some res)
    (kk : ∀ (G1 : mm_M) (H1 : Heap) (locs1 : List Loc), mm_V E s G1 H1 locs1 → f G1 = some res → W p l e R s m args below meth c H1 locs1 cells slots Q (F0 m (pc + 3) ls rest)) : W p l e R s m args below meth c H locs cells slots Q (F0 m pc ls (va_rf v :: va_rf (some a) :: rest)) := by
  obtain ⟨hK, hp⟩ := q_pos hp
  obtain ⟨h1, h2⟩ := mm_sl_sR G a ci k v ht
  exact mm_putW X V (mm_sR G a k v) hin hc ty0 hty hnm hci hkd k hk (List.getElem?_eq_some_iff.mp ht).1 hlink hsame hfin hd hn hfit hdg hK rfl rfl (mm_cell_sR E.2.1 G a k v) rfl h1 h2 (fun H1 locs1 V1 => kk _ H1 locs1 V1 hp)
theorem mm_cell_i (cs : Nat → ClassId) {G : mm_M} {a : Nat} (h : mm_kd G a = 101) : mm_cell cs G a = .inl (cs 0, mm_ln G a, .inl (mm_I G a)) := by unfold mm_cell; rw [if_pos h]
theorem mm_cell_z (cs : Nat → ClassId) {G : mm_M} {a : Nat} (h : mm_kd G a = 102) : mm_cell cs G a = .inl (cs 1, mm_ln G a, .inl (mm_I G a)) := by unfold mm_cell; rw [if_neg (by omega), if_pos h]
theorem mm_cell_p (cs : Nat → ClassId) {G : mm_M} {a : Nat} (h : mm_kd G a = 103) : mm_cell cs G a = .inl (cs 2, mm_ln G a, .inr (.inr (.inr (.inr (mm_R G a))))) := by unfold mm_cell; rw [if_neg (by omega), if_neg (by omega), if_pos h]
theorem mm_cell_b (cs : Nat → ClassId) {G : mm_M} {a : Nat} (h : mm_kd G a = 104) : mm_cell cs G a = .inl (cs 3, mm_ln G a, .inr (.inr (.inr (.inr (mm_R G a))))) := by unfold mm_cell; rw [if_neg (by omega), if_neg (by omega), if_neg (by omega), if_pos h]
theorem q_iald (X : mm_X p s m args meth c cc nL own Ts E) (V : mm_V E s G H locs) {a : Nat} {i : Int32} (hdg : decode cc pc = .ok (.iaload, 1)) {f : Int32 → Option α} (hp : q_aI G a 101 i f = some res)
    (kk : ∀ v : Int32, f v = some res → W p l e R s m args below meth c H locs cells slots Q (F0 m (pc + 1) ls (.int v :: rest))) : W p l e R s m args below meth c H locs cells slots Q (F0 m pc ls (.int i :: va_rf (some a) :: rest)) := by
  obtain ⟨⟨hK, h1, h2⟩, hp⟩ := q_pos hp
  have hone := mm_H.one V.1 hK (by omega)
  rw [mm_cell_i E.2.1 (mm_K_pos hK (by omega)).2.2] at hone
  exact va_iald X.1.1 X.1.2.1 X.2.1 (mm_P1 hone) 0 0 rfl rfl (mm_in h1 h2) hdg (kk _ hp)
theorem q_zald (X : mm_X p s m args meth c cc nL own Ts E) (V : mm_V E s G H locs) {a : Nat} {i : Int32} (hdg : decode cc pc = .ok (.baload, 1)) {f : Int32 → Option α} (hp : q_aI G a 102 i f = some res)
    (kk : ∀ v : Int32, f v = some res → W p l e R s m args below meth c H locs cells slots Q (F0 m (pc + 1) ls (.int v :: rest))) : W p l e R s m args below meth c H locs cells slots Q (F0 m pc ls (.int i :: va_rf (some a) :: rest)) := by
  obtain ⟨⟨hK, h1, h2⟩, hp⟩ := q_pos hp
  have hone := mm_H.one V.1 hK (by omega)
  rw [mm_cell_z E.2.1 (mm_K_pos hK (by omega)).2.2] at hone
  exact va_zald X.1.1 X.1.2.1 X.2.1 (mm_P1 hone) 0 1 rfl rfl (mm_in h1 h2) hdg (kk _ hp)
theorem q_aldP (X : mm_X p s m args meth c cc nL own Ts E) (V : mm_V E s G H locs) {a : Nat} {i : Int32} (hdg : decode cc pc = .ok (.aaload, 1)) {f : Option Nat → Option α} (hp : q_aR G a 103 i f = some res)
    (kk : ∀ v : Option Nat, f v = some res → W p l e R s m args below meth c H locs cells slots Q (F0 m (pc + 1) ls (va_rf v :: rest))) : W p l e R s m args below meth c H locs cells slots Q (F0 m pc ls (.int i :: va_rf (some a) :: rest)) := by
  obtain ⟨⟨hK, h1, h2⟩, hp⟩ := q_pos hp
  have hone := mm_H.one V.1 hK (by omega)
  rw [mm_cell_p E.2.1 (mm_K_pos hK (by omega)).2.2] at hone
  exact va_aldq X.1.1 X.1.2.1 X.2.1 (mm_P1 hone) 0 2 rfl rfl (mm_in h1 h2) hdg (kk _ hp)
theorem q_aldB (X : mm_X p s m args meth c cc nL own Ts E) (V : mm_V E s G H locs) {a : Nat} {i : Int32} (hdg : decode cc pc = .ok (.aaload, 1)) {f : Option Nat → Option α} (hp : q_aR G a 104 i f = some res)
    (kk : ∀ v : Option Nat, f v = some res → W p l e R s m args below meth c H locs cells slots Q (F0 m (pc + 1) ls (va_rf v :: rest))) : W p l e R s m args below meth c H locs cells slots Q (F0 m pc ls (.int i :: va_rf (some a) :: rest)) := by
  obtain ⟨⟨hK, h1, h2⟩, hp⟩ := q_pos hp
  have hone := mm_H.one V.1 hK (by omega)
  rw [mm_cell_b E.2.1 (mm_K_pos hK (by omega)).2.2] at hone
  exact va_aldq X.1.1 X.1.2.1 X.2.1 (mm_P1 hone) 0 3 rfl rfl (mm_in h1 h2) hdg (kk _ hp)
theorem mm_locs1 {locs : List Loc} {a k : Nat} : ∀ x ∈ locs ++ [(⟨a, k⟩ : Loc)], x ∈ locs ∨ x.base = a := fun x hx => by
  rcases List.mem_append.mp hx with h | h
  · exact Or.inl h
  · rw [List.mem_singleton.mp h]; exact Or.inr rfl
theorem q_iast (X : mm_X p s m args meth c cc nL own Ts E) (V : mm_V E s G H locs) {a : Nat} {i x : Int32} (hdg : decode cc pc = .ok (.iastore, 1)) {f : mm_M → Option α} (hp : q_sI G a 101 i x f = some res)
    (kk : ∀ (G1 : mm_M) (H1 : Heap) (locs1 : List Loc), mm_V E s G1 H1 locs1 → f G1 = some res → W p l e R s m args below meth c H1 locs1 cells slots Q (F0 m (pc + 1) ls rest)) : W p l e R s m args below meth c H locs cells slots Q (F0 m pc ls (.int x :: .int i :: va_rf (some a) :: rest)) := by
  obtain ⟨⟨hK, h1, h2⟩, hp⟩ := q_pos hp
  have hone := mm_H.one V.1 hK (by omega)
  obtain ⟨z1, z2, z3⟩ := mm_K_pos hK (by omega)
  rw [mm_cell_i E.2.1 z3] at hone
  refine W.iast X.1.1 X.1.2.1 hone ((X.2.1.2 0 _ rfl).1 (mm_ln G a) (fun j => .int (mm_I G a j))) (fun q => by cases q) (by show ¬ (i < 0 ∨ (arrV _ _ _).slots.size ≤ _); rw [arrV_size]; exact mm_in h1 h2) rfl rfl hdg fun H1 e z oq => ?_
  refine kk _ H1 _ (mm_V.wr (mm_sI G a i.toInt.toNat x) V z1 rfl rfl (mm_cell_sI E.2.1 G a _ x) z oq ?_ mm_locs1) hp
  rw [mm_cell_i E.2.1 (show mm_kd (mm_sI G a i.toInt.toNat x) a = 101 from z3)]
  show H1[a]? = some (vp_cell _ _)
  rw [e]
  rw [vp_cell_i, vp_cell_i, arrV_store]
  congr 2
  funext q
  have e0 : i.toNatClampNeg = i.toInt.toNat := rfl
  by_cases hq : q = i.toNatClampNeg
  · simp [updV, mm_I, mm_sI, hq]
  · simp [updV, mm_I, mm_sI, hq]
theorem q_zast (X : mm_X p s m args meth c cc nL own Ts E) (V : mm_V E s G H locs) {a : Nat} {i x : Int32} (hdg : decode cc pc = .ok (.bastore, 1)) {f : mm_M → Option α} (hp : q_sZ G a 102 i x f = some res)
    (kk : ∀ (G1 : mm_M) (H1 : Heap) (locs1 : List Loc), mm_V E s G1 H1 locs1 → f G1 = some res → W p l e R s m args below meth c H1 locs1 cells slots Q (F0 m (pc + 1) ls rest)) : W p l e R s m args below meth c H locs cells slots Q (F0 m pc ls (.int x :: .int i :: va_rf (some a) :: rest)) := by
  obtain ⟨⟨⟨hK, h1, h2⟩, hx⟩, hp⟩ := q_pos hp
  have hone := mm_H.one V.1 hK (by omega)
  obtain ⟨z1, z2, z3⟩ := mm_K_pos hK (by omega)
  rw [mm_cell_z E.2.1 z3] at hone
  refine W.zast X.1.1 X.1.2.1 hone ((X.2.1.2 1 _ rfl).1 (mm_ln G a) (fun j => .int (mm_I G a j))) (fun q => by cases q) (by show ¬ (i < 0 ∨ (arrV _ _ _).slots.size ≤ _); rw [arrV_size]; exact mm_in h1 h2) rfl rfl hdg fun H1 e z oq => ?_
  refine kk _ H1 _ (mm_V.wr (mm_sI G a i.toInt.toNat x) V z1 rfl rfl (mm_cell_sI E.2.1 G a _ x) z oq ?_ mm_locs1) hp
  rw [mm_cell_z E.2.1 (show mm_kd (mm_sI G a i.toInt.toNat x) a = 102 from z3)]
  show H1[a]? = some (vp_cell _ _)
  rw [e]
  rw [vp_cell_i, vp_cell_i, arrV_store]
  congr 2
  funext q
  have e0 : i.toNatClampNeg = i.toInt.toNat := rfl
  have hxn : narrow .boolean (.int x) = .int x := by rcases hx with rfl | rfl <;> rfl
  by_cases hq : q = i.toNatClampNeg
  · simp [updV, mm_I, mm_sI, hq]
    try rcases hx with rfl | rfl <;> rfl
  · simp [updV, mm_I, mm_sI, hq]
theorem mm_astW {cA : ClassId} {r : vw_C} {ci : Nat} (X : mm_X p s m args meth c cc nL own Ts E) {H : Heap} {a n : Nat} {i : Int32} {g : Nat → Option Nat} (ta : Nat) (ht : (mm_tys E.2.1)[ta]? = some (cA, .object r.1)) (hc : vwCl[ci]? = some r) (v : Option Nat) (hcell : va_at E.2.2 vwCl (a, .inl (cA, n, .inr (.inr (.inr (.inr g))))) H) (hv : ∀ b, v = some b → ∃ vs, va_at E.2.2 vwCl (b, .inr (ci, vs)) H) (h1 : 0 ≤ i.toInt) (h2 : i.toInt < n) (hdg : decode cc pc = .ok (.aastore, 1))
    (kk : ∀ (H1 : Heap), H1[a]? = some (vp_cell cA (n, .inr (.inr (.inr (.inr (va_up g i.toInt.toNat v)))))) → H1.size = H.size → (∀ q : Nat, q ≠ a → H1[q]? = H[q]?) → W p l e R s m args below meth c H1 (locs ++ [⟨a, i.toNatClampNeg⟩]) cells slots Q (F0 m (pc + 1) ls rest)) : W p l e R s m args below meth c H locs cells slots Q (F0 m pc ls (va_rf v :: .int i :: .ref a :: rest)) := by
  have e0 : i.toNatClampNeg = i.toInt.toNat := rfl
  have hin := mm_in h1 h2
  obtain ⟨⟨hexec, hb, -, -, -⟩, hK, -, -⟩ := X
  have hlt : i.toNatClampNeg < n := by omega
  cases v with
  | none =>
    refine va_WaastN (C := r.1) hexec hb hcell ((hK.2 ta _ ht).1 n (fun j => va_rf (g j))) (fun h => by cases h) (by show ¬ (i < 0 ∨ (arrV _ _ _).slots.size ≤ _); rw [arrV_size]; exact hin) rfl rfl hdg fun H1 e z oq => ?_
    refine kk H1 ?_ z oq
    rw [e]
    rw [vp_cell_q, vp_cell_q, arrV_store]
    congr 2
    funext q
    by_cases hq : q = i.toNatClampNeg
    · simp [updV, va_up, va_rf, hq]
    · simp [updV, va_up, hq]
  | some b =>
    obtain ⟨vs, r', hr', cellV, g1, g2, g3, -⟩ := hv b rfl
    have hcls := (hK.1 ci r hc).2
    obtain ⟨kA, comp, k1, k2, k3, -⟩ := (hK.2 ta _ ht).2
    have hcomp : comp = E.2.2.1 ci := Option.some.inj (k3.symm.trans hcls.1)
    subst hcomp
    obtain ⟨kC, hkC, -⟩ := hcls.2
    refine W.aast hexec hb hcell (fun q h => by cases h) (fun h => by cases h) k1 k2 rfl hkC ⟨mm_nl h1, by show _ < (arrV _ _ _).slots.size; rw [arrV_size]; exact hlt⟩ g1 (fun q h => by rw [g3] at h; cases h) (by rw [g2]; exact hkC) (by rw [g2]; exact va_assign hcls) rfl rfl hdg fun H1 e z oq => ?_
    refine kk H1 ?_ z oq
    rw [e]
    rw [vp_cell_q, vp_cell_q, arrV_store]
    congr 2
    funext q
    by_cases hq : q = i.toNatClampNeg
    · simp [updV, va_up, va_rf, hq]
    · simp [updV, va_up, hq]
theorem mm_up_sR (G : mm_M) (a k : Nat) (v : Option Nat) : mm_R (mm_sR G a k v) a = va_up (mm_R G a) k v := by
  funext j
  by_cases hj : j = k
  · simp [mm_R, mm_sR, va_up, hj]
  · simp [mm_R, mm_sR, va_up, hj]
theorem q_astP {ci ke : Nat} {r : vw_C} (X : mm_X p s m args meth c cc nL own Ts E) (V : mm_V E s G H locs) (ht : (mm_tys E.2.1)[2]? = some (E.2.1 2, .object r.1)) (hc : vwCl[ci]? = some r) (hci : ci < 100) (hke : ke = ci + 1) {a : Nat} {i : Int32} {v : Option Nat} (hdg : decode cc pc = .ok (.aastore, 1)) {f : mm_M → Option α} (hp : q_sR G a 103 ke i v f = some res)
    (kk : ∀ (G1 : mm_M) (H1 : Heap) (locs1 : List Loc), mm_V E s G1 H1 locs1 → f G1 = some res → W p l e R s m args below meth c H1 locs1 cells slots Q (F0 m (pc + 1) ls rest)) : W p l e R s m args below meth c H locs cells slots Q (F0 m pc ls (va_rf v :: .int i :: va_rf (some a) :: rest)) := by
  obtain ⟨⟨⟨hK, h1, h2⟩, hx⟩, hp⟩ := q_pos hp
  have hone := mm_H.one V.1 hK (by omega)
  obtain ⟨z1, z2, z3⟩ := mm_K_pos hK (by omega)
  rw [mm_cell_p E.2.1 z3] at hone
  refine mm_astW X 2 ht hc v hone (fun b hb => ⟨_, by
    have h9 := mm_H.one V.1 (hx b hb) (by omega)
    rw [mm_cell_obj E.2.1 ((mm_K_pos (hx b hb) (by omega)).2.2.trans hke) hci] at h9
    exact h9⟩) h1 h2 hdg fun H1 e z oq => ?_
  refine kk _ H1 _ (mm_V.wr (mm_sR G a i.toInt.toNat v) V z1 rfl rfl (mm_cell_sR E.2.1 G a _ v) z oq ?_ mm_locs1) hp
  rw [mm_cell_p E.2.1 (show mm_kd (mm_sR G a i.toInt.toNat v) a = 103 from z3), mm_up_sR]
  exact e
theorem q_astB {ci ke : Nat} {r : vw_C} (X : mm_X p s m args meth c cc nL own Ts E) (V : mm_V E s G H locs) (ht : (mm_tys E.2.1)[3]? = some (E.2.1 3, .object r.1)) (hc : vwCl[ci]? = some r) (hci : ci < 100) (hke : ke = ci + 1) {a : Nat} {i : Int32} {v : Option Nat} (hdg : decode cc pc = .ok (.aastore, 1)) {f : mm_M → Option α} (hp : q_sR G a 104 ke i v f = some res)
    (kk : ∀ (G1 : mm_M) (H1 : Heap) (locs1 : List Loc), mm_V E s G1 H1 locs1 → f G1 = some res → W p l e R s m args below meth c H1 locs1 cells slots Q (F0 m (pc + 1) ls rest)) : W p l e R s m args below meth c H locs cells slots Q (F0 m pc ls (va_rf v :: .int i :: va_rf (some a) :: rest)) := by
  obtain ⟨⟨⟨hK, h1, h2⟩, hx⟩, hp⟩ := q_pos hp
  have hone := mm_H.one V.1 hK (by omega)
  obtain ⟨z1, z2, z3⟩ := mm_K_pos hK (by omega)
  rw [mm_cell_b E.2.1 z3] at hone
  refine mm_astW X 3 ht hc v hone (fun b hb => ⟨_, by
    have h9 := mm_H.one V.1 (hx b hb) (by omega)
    rw [mm_cell_obj E.2.1 ((mm_K_pos (hx b hb) (by omega)).2.2.trans hke) hci] at h9
    exact h9⟩) h1 h2 hdg fun H1 e z oq => ?_
  refine kk _ H1 _ (mm_V.wr (mm_sR G a i.toInt.toNat v) V z1 rfl rfl (mm_cell_sR E.2.1 G a _ v) z oq ?_ mm_locs1) hp
  rw [mm_cell_b E.2.1 (show mm_kd (mm_sR G a i.toInt.toNat v) a = 104 from z3), mm_up_sR]
  exact e
theorem q_alen (X : mm_X p s m args meth c cc nL own Ts E) (V : mm_V E s G H locs) {a : Nat} (hdg : decode cc pc = .ok (.arraylength, 1)) {f : Int32 → Option α} (hp : q_len G a 101 f = some res)
    (kk : ∀ v : Int32, f v = some res → W p l e R s m args below meth c H locs cells slots Q (F0 m (pc + 1) ls (.int v :: rest))) : W p l e R s m args below meth c H locs cells slots Q (F0 m pc ls (va_rf (some a) :: rest)) := by
  obtain ⟨hK, hp⟩ := q_pos hp
  have hone := mm_H.one V.1 hK (by omega)
  rw [mm_cell_i E.2.1 (mm_K_pos hK (by omega)).2.2] at hone
  exact va_alen X.1.1 X.1.2.1 X.2.1 (mm_P1 hone) 0 0 rfl rfl rfl hdg (kk _ hp)
end QROW
/-! cells are made; arrays are copied -/
section QNEW
variable {p : Program} {l : Launch} {e : Env} {R : Room} {s : State} {m : MethodId} {args : Array Value} {below : List Frame} {meth : Method} {c : Code} {H : Heap} {locs : List Loc} {cells slots : Nat} {Q : State → Prop}
variable {cc : ByteArray} {pc nL : Nat} {ls : Array Slot} {rest : List Value} {own : String} {Ts : List Cond} {E : mm_E} {G : mm_M} {α : Type} {res : α}
theorem q_newc {C : String} {T : u_T} {N ci index kd : Nat} (X : mm_X p s m args meth c cc nL own Ts E) (V : mm_V E s G H locs) (hin : ∀ w ∈ u_ws C T N, w ∈ Ts) (hc : vwCl[ci]? = some (C, T, N)) (ty : Nat → FieldType) (hty : ∀ k, k < N → parseFieldDescriptor (T k).2.2.1 = some (ty k)) (hci : ci < 100) (hkd : kd = ci + 1) (hlen : (mm_tab ci).length = N) (hdef : ∀ j, j < N → defaultValue (ty j) = if (mm_tab ci).getD j false = true then Value.null else .int 0) (hcl : Cond.classLink own index C ∈ Ts) (hinst : Cond.instantiable C N ∈ Ts) (hini : Cond.initialized C ∈ Ts) (hcells : cells + 1 ≤ R.cells) (hslots : slots + N ≤ R.slots) (hdg : decode cc pc = .ok (.new index, 3)) {f : mm_M → Nat → Option α} (hp : q_new G kd f = some res)
    (kk : ∀ (G1 : mm_M) (b : Nat) (H1 : Heap), mm_V E s G1 H1 locs → f G1 b = some res → W p l e R s m args below meth c H1 locs (cells + 1) (slots + N) Q (F0 m (pc + 3) ls (va_rf (some b) :: rest))) : W p l e R s m args below meth c H locs cells slots Q (F0 m pc ls rest) := by
  obtain ⟨⟨hexec, hb, -, hown, hts⟩, hK, -, -⟩ := X
  have hKn := hK.1 ci _ hc
  have hz := V.1.2.1
  refine W.newcK hexec hb hown (hts _ hcl) (hts _ hinst) (hts _ hini) rfl hdg hcells hslots hKn.2.1 hz fun H1 kC hkC e1 z1 o1 => ?_
  refine kk (mm_nw G kd 0) (mm_nx G) H1 (mm_V.nw kd 0 V (by rw [z1, hz]) (fun q hq => o1 q (by rw [← hz]; exact hq)) ?_) hp
  have h9 : mm_kd (mm_nw G kd 0) (mm_nx G) = ci + 1 := by simp [mm_kd, mm_nw, hkd]
  rw [mm_cell_obj E.2.1 h9 hci]
  refine ⟨_, hc, (u_born ty hts hin hKn hkC e1 hty).to (fun j hj => ?_)⟩
  rw [hdef j hj]
  have h8 : vp_V (mm_fs (mm_nw G kd 0) (mm_nx G) ci) j = mm_sl (mm_nw G kd 0) (mm_nx G) ci j := by
    unfold vp_V
    rw [List.getD_eq_getElem?_getD, mm_fs_at (by rw [hlen]; exact hj)]
    rfl
  rw [h8]
  unfold mm_sl
  have h6 : mm_R (mm_nw G kd 0) (mm_nx G) j = none := by simp [mm_R, mm_nw]
  have h7 : mm_I (mm_nw G kd 0) (mm_nx G) j = 0 := by simp [mm_I, mm_nw]
  rw [h6, h7]
  rfl
theorem mm_nw_I (G : mm_M) (kd n : Nat) : mm_I (mm_nw G kd n) (mm_nx G) = fun _ => 0 := by funext j; simp [mm_I, mm_nw]
theorem mm_nw_R (G : mm_M) (kd n : Nat) : mm_R (mm_nw G kd n) (mm_nx G) = fun _ => none := by funext j; simp [mm_R, mm_nw]
theorem mm_nw_kd (G : mm_M) (kd n : Nat) : mm_kd (mm_nw G kd n) (mm_nx G) = kd := by simp [mm_kd, mm_nw]
theorem mm_nw_ln (G : mm_M) (kd n : Nat) : mm_ln (mm_nw G kd n) (mm_nx G) = n := by simp [mm_ln, mm_nw]
theorem q_arrI (X : mm_X p s m args meth c cc nL own Ts E) (V : mm_V E s G H locs) (harr : Cond.arrayClass .int ∈ Ts) {n : Int32} {N : Nat} (hn : ¬ n < 0) (hN : n.toNatClampNeg = N) (hbytes : N * componentBytes .int ≤ 536870912) (hcells : cells + 1 ≤ R.cells) (hslots : slots + N ≤ R.slots) {at_ : ArrayType} (hat : newarray.typeOf at_ = .int) (hdg : decode cc pc = .ok (.newarray at_, 2)) {f : mm_M → Nat → Option α} (hp : q_arr G 101 N f = some res)
    (kk : ∀ (G1 : mm_M) (b : Nat) (H1 : Heap), mm_V E s G1 H1 locs → f G1 b = some res → W p l e R s m args below meth c H1 locs (cells + 1) (slots + N) Q (F0 m (pc + 2) ls (va_rf (some b) :: rest))) : W p l e R s m args below meth c H locs cells slots Q (F0 m pc ls (.int n :: rest)) := by
  obtain ⟨⟨hexec, hb, -, hown, hts⟩, hK, -, -⟩ := X
  have hz := V.1.2.1
  refine va_newaK hexec hb (by rw [hat]; exact hts _ harr) rfl hdg rfl hn hN (by rw [hat]; exact hbytes) hcells hslots hz fun H1 cA e1 z1 o1 hAr hNm => ?_
  rw [hat] at e1 hNm
  have hcA : cA = E.2.1 0 := Option.some.inj (hNm.symm.trans (hK.2 0 _ rfl).2)
  subst hcA
  refine kk (mm_nw G 101 N) (mm_nx G) H1 (mm_V.nw 101 N V (by rw [z1, hz]) (fun q hq => o1 q (by rw [← hz]; exact hq)) ?_) hp
  rw [mm_cell_i E.2.1 (mm_nw_kd G 101 N), mm_nw_I, mm_nw_ln]
  exact e1
theorem q_arrZ (X : mm_X p s m args meth c cc nL own Ts E) (V : mm_V E s G H locs) (harr : Cond.arrayClass .boolean ∈ Ts) {n : Int32} {N : Nat} (hn : ¬ n < 0) (hN : n.toNatClampNeg = N) (hbytes : N * componentBytes .boolean ≤ 536870912) (hcells : cells + 1 ≤ R.cells) (hslots : slots + N ≤ R.slots) {at_ : ArrayType} (hat : newarray.typeOf at_ = .boolean) (hdg : decode cc pc = .ok (.newarray at_, 2)) {f : mm_M → Nat → Option α} (hp : q_arr G 102 N f = some res)
    (kk : ∀ (G1 : mm_M) (b : Nat) (H1 : Heap), mm_V E s G1 H1 locs → f G1 b = some res → W p l e R s m args below meth c H1 locs (cells + 1) (slots + N) Q (F0 m (pc + 2) ls (va_rf (some b) :: rest))) : W p l e R s m args below meth c H locs cells slots Q (F0 m pc ls (.int n :: rest)) := by
  obtain ⟨⟨hexec, hb, -, hown, hts⟩, hK, -, -⟩ := X
  have hz := V.1.2.1
  refine va_newaK hexec hb (by rw [hat]; exact hts _ harr) rfl hdg rfl hn hN (by rw [hat]; exact hbytes) hcells hslots hz fun H1 cA e1 z1 o1 hAr hNm => ?_
  rw [hat] at e1 hNm
  have hcA : cA = E.2.1 1 := Option.some.inj (hNm.symm.trans (hK.2 1 _ rfl).2)
  subst hcA
  refine kk (mm_nw G 102 N) (mm_nx G) H1 (mm_V.nw 102 N V (by rw [z1, hz]) (fun q hq => o1 q (by rw [← hz]; exact hq)) ?_) hp
  rw [mm_cell_z E.2.1 (mm_nw_kd G 102 N), mm_nw_I, mm_nw_ln]
  exact e1
theorem q_arrP {C : String} {index : Nat} (X : mm_X p s m args meth c cc nL own Ts E) (V : mm_V E s G H locs) (ht : (mm_tys E.2.1)[2]? = some (E.2.1 2, .object C)) (hcl : Cond.classLink own index C ∈ Ts) (hover : va_AO C s) {n : Int32} {N : Nat} (hn : ¬ n < 0) (hN : n.toNatClampNeg = N) (hbytes : N * 4 ≤ 536870912) (hcells : cells + 1 ≤ R.cells) (hslots : slots + N ≤ R.slots) (hdg : decode cc pc = .ok (.anewarray index, 3)) {f : mm_M → Nat → Option α} (hp : q_arr G 103 N f = some res)
    (kk : ∀ (G1 : mm_M) (b : Nat) (H1 : Heap), mm_V E s G1 H1 locs → f G1 b = some res → W p l e R s m args below meth c H1 locs (cells + 1) (slots + N) Q (F0 m (pc + 3) ls (va_rf (some b) :: rest))) : W p l e R s m args below meth c H locs cells slots Q (F0 m pc ls (.int n :: rest)) := by
  obtain ⟨⟨hexec, hb, -, hown, hts⟩, hK, -, -⟩ := X
  have hz := V.1.2.1
  subst hN
  refine W.anew hexec hb hown (hts _ hcl) (va_AO.use hover) rfl hdg rfl hn hbytes hcells hslots fun cA kA comp f1 f2 f3 f4 => ?_
  obtain ⟨-, -, -, -, -, -, f5⟩ := hK.2 2 _ ht
  have hcA : cA = E.2.1 2 := Option.some.inj (f1.symm.trans f5)
  subst hcA
  refine W.eq (g2 := F0 m (pc + 3) ls (va_rf (some (mm_nx G)) :: rest)) (by rw [← hz]; rfl) ?_
  refine kk (mm_nw G 103 n.toNatClampNeg) (mm_nx G) _ (mm_V.nw 103 n.toNatClampNeg V (by rw [Array.size_push]) (fun q hq => by rw [Array.getElem?_push, if_neg (Nat.ne_of_lt hq)]) ?_) hp
  rw [mm_cell_p E.2.1 (mm_nw_kd G 103 _), mm_nw_R, mm_nw_ln]
  show _ = some (vp_cell _ _)
  rw [vp_cell_q, ← hz, Array.getElem?_push_size, show (fun j : Nat => va_rf ((fun _ => none : Nat → Option Nat) j)) = (fun _ => Value.null) from rfl, ← arrV_new]
theorem q_arrB {C : String} {index : Nat} (X : mm_X p s m args meth c cc nL own Ts E) (V : mm_V E s G H locs) (ht : (mm_tys E.2.1)[3]? = some (E.2.1 3, .object C)) (hcl : Cond.classLink own index C ∈ Ts) (hover : va_AO C s) {n : Int32} {N : Nat} (hn : ¬ n < 0) (hN : n.toNatClampNeg = N) (hbytes : N * 4 ≤ 536870912) (hcells : cells + 1 ≤ R.cells) (hslots : slots + N ≤ R.slots) (hdg : decode cc pc = .ok (.anewarray index, 3)) {f : mm_M → Nat → Option α} (hp : q_arr G 104 N f = some res)
    (kk : ∀ (G1 : mm_M) (b : Nat) (H1 : Heap), mm_V E s G1 H1 locs → f G1 b = some res → W p l e R s m args below meth c H1 locs (cells + 1) (slots + N) Q (F0 m (pc + 3) ls (va_rf (some b) :: rest))) : W p l e R s m args below meth c H locs cells slots Q (F0 m pc ls (.int n :: rest)) := by
  obtain ⟨⟨hexec, hb, -, hown, hts⟩, hK, -, -⟩ := X
  have hz := V.1.2.1
  subst hN
  refine W.anew hexec hb hown (hts _ hcl) (va_AO.use hover) rfl hdg rfl hn hbytes hcells hslots fun cA kA comp f1 f2 f3 f4 => ?_
  obtain ⟨-, -, -, -, -, -, f5⟩ := hK.2 3 _ ht
  have hcA : cA = E.2.1 3 := Option.some.inj (f1.symm.trans f5)
  subst hcA
  refine W.eq (g2 := F0 m (pc + 3) ls (va_rf (some (mm_nx G)) :: rest)) (by rw [← hz]; rfl) ?_
  refine kk (mm_nw G 104 n.toNatClampNeg) (mm_nx G) _ (mm_V.nw 104 n.toNatClampNeg V (by rw [Array.size_push]) (fun q hq => by rw [Array.getElem?_push, if_neg (Nat.ne_of_lt hq)]) ?_) hp
  rw [mm_cell_b E.2.1 (mm_nw_kd G 104 _), mm_nw_R, mm_nw_ln]
  show _ = some (vp_cell _ _)
  rw [vp_cell_q, ← hz, Array.getElem?_push_size, show (fun j : Nat => va_rf ((fun _ => none : Nat → Option Nat) j)) = (fun _ => Value.null) from rfl, ← arrV_new]
theorem q_copy {index : Nat} {a b : Nat} {sp dp n : Int32} (X : mm_X p s m args meth c cc nL own Ts E) (V : mm_V E s G H locs) (hml : ls.size = nL) (hlink : Cond.methodLink own index arraycopyName ∈ Ts) (hnat : Cond.native arraycopyName ∈ Ts) (hstat : Cond.static arraycopyName ∈ Ts) (hini : Cond.initialized "java/lang/System" ∈ Ts)
    (hframes : 1 ≤ R.frames) (hlocals : (rest.map fun v => v.category).sum + (nativeFrameWords "java/lang/System" "arraycopy" 5 + 11) ≤ R.locals) (hdg : decode cc pc = .ok (.invokestatic index, 3)) {f : mm_M → Option α} (hp : q_cpy G a sp b dp n f = some res)
    (kk : ∀ (G1 : mm_M) (H1 : Heap) (locs1 : List Loc), mm_V E s G1 H1 locs1 → f G1 = some res → W p l e R s m args below meth c H1 locs1 cells slots Q (F0 m (pc + 3) ls rest)) : W p l e R s m args below meth c H locs cells slots Q (F0 m pc ls (.int n :: .int dp :: va_rf (some b) :: .int sp :: va_rf (some a) :: rest)) := by
  obtain ⟨⟨⟨hKa, hKb⟩, ⟨h1, h2, h3⟩, h4, h5⟩, hp⟩ := q_pos hp
  have hone := mm_H.one V.1 hKa (by omega)
  have honeb := mm_H.one V.1 hKb (by omega)
  obtain ⟨z1, z2, z3⟩ := mm_K_pos hKa (by omega)
  obtain ⟨y1, y2, y3⟩ := mm_K_pos hKb (by omega)
  rw [mm_cell_i E.2.1 z3] at hone
  rw [mm_cell_i E.2.1 y3] at honeb
  obtain ⟨⟨hexec, hb, hnl, hown, hts⟩, hK, -, -⟩ := X
  have n0 : ∀ z : Int32, z.toNatClampNeg = z.toInt.toNat := fun _ => rfl
  have hc0 : H[a]? = some (vp_cell (E.2.1 0) (mm_ln G a, .inl (mm_I G a))) := hone
  have hc1 : H[b]? = some (vp_cell (E.2.1 0) (mm_ln G b, .inl (mm_I G b))) := honeb
  intro T hT X
  obtain ⟨-, k0, hk0, cm0, hkk0⟩ := (hK.2 0 _ rfl).1 (mm_ln G a) (fun j => .int (mm_I G a j))
  obtain ⟨-, k1, hk1, cm1, hkk1⟩ := (hK.2 0 _ rfl).1 (mm_ln G b) (fun j => .int (mm_I G b j))
  obtain ⟨vm', X', step⟩ := X.arraycopy hexec hown (hts _ hlink) (hts _ hnat) (hts _ hstat) (hts _ hini) (src := a) (dst := b) (cs := vp_cell (E.2.1 0) (mm_ln G a, .inl (mm_I G a))) (cd := vp_cell (E.2.1 0) (mm_ln G b, .inl (mm_I G b))) (srcPos := sp) (destPos := dp) (n := n) (by rw [hT]; exact hc0) (by rw [hT]; exact hc1)
    (fun _ h => by cases h) (fun _ h => by cases h) (fun h => by cases h) (fun h => by cases h) hk0 hk1 hkk0 hkk1 (by simp [refKind]) (mm_nl h1) (mm_nl h2) (mm_nl h3)
    (by show ¬ _ > ((arrV (E.2.1 0) (mm_ln G a) (fun j => .int (mm_I G a j))).slots.size : Int); rw [arrV_size]; omega)
    (by show ¬ _ > ((arrV (E.2.1 0) (mm_ln G b) (fun j => .int (mm_I G b j))).slots.size : Int); rw [arrV_size]; omega)
    (fun vm₁ _ i hi => by
      rw [n0] at hi
      have e : (vp_cell (E.2.1 0) (mm_ln G a, .inl (mm_I G a))).slots.getD (sp.toNatClampNeg + i) .null = .int (mm_I G a (sp.toNatClampNeg + i)) := by
        show (arrV (E.2.1 0) (mm_ln G a) (fun j => .int (mm_I G a j))).slots.getD _ _ = _
        rw [Array.getD_eq_getD_getElem?, arrV_read _ _ (by rw [n0]; omega)]
        rfl
      refine ⟨?_, ?_⟩
      · rw [e]
        rfl
      · rw [e]
        exact trivial)
    (g := F0 m pc ls (.int n :: .int dp :: .ref b :: .int sp :: .ref a :: rest)) rfl (by rw [hnl]; exact hml) (rest := rest) rfl (by rw [hb]; exact hdg) hframes (by show 2 * 0 + _ + _ ≤ _; omega)
  have e1 : copied (vp_cell (E.2.1 0) (mm_ln G a, .inl (mm_I G a))) (vp_cell (E.2.1 0) (mm_ln G b, .inl (mm_I G b))) sp dp n = vp_cell (E.2.1 0) (mm_ln G b, .inl (va_cpy (mm_I G a) (mm_I G b) sp.toNatClampNeg dp.toNatClampNeg n.toNatClampNeg)) := va_copied (fun z => .int z) (E.2.1 0) (E.2.1 0) (mm_I G a) (mm_I G b) (by rw [n0, n0]; omega)
  rw [e1] at X' step
  have hl : b < H.size := (Array.getElem?_eq_some_iff.mp hc1).1
  have hheap : ((T.setVm vm').setCell b (vp_cell (E.2.1 0) (mm_ln G b, .inl (va_cpy (mm_I G a) (mm_I G b) sp.toNatClampNeg dp.toNatClampNeg n.toNatClampNeg)))).heap = H.setIfInBounds b (vp_cell (E.2.1 0) (mm_ln G b, .inl (va_cpy (mm_I G a) (mm_I G b) sp.toNatClampNeg dp.toNatClampNeg n.toNatClampNeg))) := by rw [← hT]; rfl
  have oq : ∀ q : Nat, q ≠ b → (H.setIfInBounds b (vp_cell (E.2.1 0) (mm_ln G b, .inl (va_cpy (mm_I G a) (mm_I G b) sp.toNatClampNeg dp.toNatClampNeg n.toNatClampNeg))))[q]? = H[q]? := fun q hq => by simp [Array.getElem?_setIfInBounds, Ne.symm hq]
  obtain ⟨t, a1, b1⟩ := kk _ _ _ (mm_V.wr (mm_sA G b (va_cpy (mm_I G a) (mm_I G b) sp.toInt.toNat dp.toInt.toNat n.toInt.toNat)) V y1 rfl rfl (mm_cell_sA E.2.1 G b _) (by simp) oq (by
      rw [mm_cell_i E.2.1 (show mm_kd (mm_sA G b (va_cpy (mm_I G a) (mm_I G b) sp.toInt.toNat dp.toInt.toNat n.toInt.toNat)) b = 101 from y3)]
      have e5 : mm_I (mm_sA G b (va_cpy (mm_I G a) (mm_I G b) sp.toInt.toNat dp.toInt.toNat n.toInt.toNat)) b = va_cpy (mm_I G a) (mm_I G b) sp.toInt.toNat dp.toInt.toNat n.toInt.toNat := by funext j; simp [mm_I, mm_sA]
      rw [e5]
      show (H.setIfInBounds b _)[b]? = some _
      simp [Array.getElem?_setIfInBounds, hl]
      rfl) (fun x hx => by
      rcases List.mem_append.mp hx with h | h
      · exact Or.inl h
      · obtain ⟨z, -, hz⟩ := List.mem_map.mp h
        rw [← hz]
        exact Or.inr rfl)) hp _ hheap X'
  exact ⟨t, step t a1, b1⟩
end QNEW
/-! a contract: the program's memory before, the program's memory behind, the program's answer -/
abbrev mm_Pc (E : mm_E) (G : mm_M) (av : List Value) : Array Value → State → Prop := va_Pc av (fun U => mm_H E G U.heap ∧ va_K E.2.2 vwCl (mm_tys E.2.1) U ∧ va_AO "XorOverlay$Peer" U ∧ va_AO "XorOverlay$Bucket" U)
abbrev mm_Qi (E : mm_E) (G : mm_M) (r : Int32) : Array Value → State → Outcome → State → Prop := va_Qi (fun x (_ : Unit) => x = r) (fun _ t => mm_H E G t.heap) (mm_A E)
abbrev mm_Qv (E : mm_E) (G : mm_M) : Array Value → State → Outcome → State → Prop := va_Qv (fun _ : Unit => True) (fun _ t => mm_H E G t.heap) (mm_A E)
abbrev mm_Qq (E : mm_E) (G : mm_M) (r : Option Nat) : Array Value → State → Outcome → State → Prop := va_Qq (fun x (_ : Unit) => x = r) (fun _ t => mm_H E G t.heap) (mm_A E)
theorem mm_blind {E : mm_E} {G : mm_M} {av : List Value} : FrameBlind (mm_Pc E G av) := fun a U g mk q => ⟨q.1, q.2.1, va_K.moved (u := U) (U := U.calling g mk a) (Vm.Alike.refl U.vm) q.2.2.1, va_AO.moved (u := U) (U := U.calling g mk a) (Vm.Alike.refl U.vm) q.2.2.2.1, va_AO.moved (u := U) (U := U.calling g mk a) (Vm.Alike.refl U.vm) q.2.2.2.2⟩
section QCALL
variable {p : Program} {l : Launch} {e : Env} {R : Room} {s : State} {m : MethodId} {args : Array Value} {below : List Frame} {meth : Method} {c : Code} {H : Heap} {locs : List Loc} {cells slots cells' slots' : Nat} {Q : State → Prop}
variable {cc : ByteArray} {pc nL : Nat} {ls : Array Slot} {rest st : List Value} {own : String} {Ts : List Cond} {E : mm_E} {G G1 : mm_M}
variable {y : MethodName} {bytes : ByteArray} {maxL mc ms n index : Nat} {ret : Option FieldType} {ws : List Cond} {rm : Room} {C : String} {b : Nat} {As : List Value}
theorem mm_preS {av : List Value} (X : mm_X p s m args meth c cc nL own Ts E) (V : mm_V E s G H locs) : PreS s H (mm_Pc E G av) av := ⟨mm_blind, fun U hU hW => ⟨rfl, by rw [hU]; exact V.1, va_K.moved hW.alike X.2.1, va_AO.moved hW.alike X.2.2.2.2.1, va_AO.moved hW.alike X.2.2.2.2.2⟩⟩
theorem mm_preV {T : u_T} {N ci kd : Nat} (X : mm_X p s m args meth c cc nL own Ts E) (V : mm_V E s G H locs) (hc : vwCl[ci]? = some (C, T, N)) (hci : ci < 100) (hkd : kd = ci + 1) (hK : mm_K G b = kd) : PreV s H C b (mm_Pc E G (.ref b :: As)) As := by
  have hone := mm_H.one V.1 hK (by omega)
  have hkd2 := (mm_K_pos hK (by omega)).2.2
  rw [mm_cell_obj E.2.1 (hkd2.trans hkd) hci] at hone
  exact ⟨mm_blind, va_recv X.2.1 (mm_P1 hone) hc (q0 := 0) rfl, fun U hU hW => ⟨rfl, by rw [hU]; exact V.1, va_K.moved hW.alike X.2.1, va_AO.moved hW.alike X.2.2.2.2.1, va_AO.moved hW.alike X.2.2.2.2.2⟩⟩
theorem q_goi {a : Array Value} {r : Int32} (hr : va_Run p l e R s m args below meth c H locs cells slots mc ms (F0 m pc ls st) rest (mm_Qi E G1 r a) (mm_A E)) (V : mm_V E s G H locs) (he : cells + mc = cells' ∧ slots + ms = slots')
    (kk : ∀ (H1 : Heap) (locs1 : List Loc), mm_V E s G1 H1 locs1 → W p l e R s m args below meth c H1 locs1 cells' slots' Q (F0 m (pc + 3) ls (.int r :: rest))) : W p l e R s m args below meth c H locs cells slots Q (F0 m pc ls st) := by
  obtain ⟨rfl, rfl⟩ := he
  refine va_calli hr V.2 (fun q _ h => h) (fun q h => h) (fun r u t H1 locs ht hvm hw hB hz hk hS => ?_)
  subst hw
  exact kk H1 locs ⟨by rw [← ht]; exact hB, hS⟩
theorem q_gov {a : Array Value} (hr : va_Run p l e R s m args below meth c H locs cells slots mc ms (F0 m pc ls st) rest (mm_Qv E G1 a) (mm_A E)) (V : mm_V E s G H locs) (he : cells + mc = cells' ∧ slots + ms = slots')
    (kk : ∀ (H1 : Heap) (locs1 : List Loc), mm_V E s G1 H1 locs1 → W p l e R s m args below meth c H1 locs1 cells' slots' Q (F0 m (pc + 3) ls rest)) : W p l e R s m args below meth c H locs cells slots Q (F0 m pc ls st) := by
  obtain ⟨rfl, rfl⟩ := he
  refine va_callv hr V.2 (fun q _ h => h) (fun q h => h) (fun u t H1 locs ht hvm hw hB hz hk hS => ?_)
  exact kk H1 locs ⟨by rw [← ht]; exact hB, hS⟩
theorem q_goq {a : Array Value} {r : Option Nat} (hr : va_Run p l e R s m args below meth c H locs cells slots mc ms (F0 m pc ls st) rest (mm_Qq E G1 r a) (mm_A E)) (V : mm_V E s G H locs) (he : cells + mc = cells' ∧ slots + ms = slots')
    (kk : ∀ (H1 : Heap) (locs1 : List Loc), mm_V E s G1 H1 locs1 → W p l e R s m args below meth c H1 locs1 cells' slots' Q (F0 m (pc + 3) ls (va_rf r :: rest))) : W p l e R s m args below meth c H locs cells slots Q (F0 m pc ls st) := by
  obtain ⟨rfl, rfl⟩ := he
  refine va_callq hr V.2 (fun q _ h => h) (fun q h => h) (fun r u t H1 locs ht hvm hw hB hz hk hS => ?_)
  subst hw
  exact kk H1 locs ⟨by rw [← ht]; exact hB, hS⟩
theorem q_iret {v : Int32} {res : mm_M × Int32} (X : mm_X p s m args meth c cc nL own Ts E) (V : mm_V E s G H locs) (hr : meth.sig.returnType = some .int) (hcs : cells ≤ mc ∧ slots ≤ ms) (hdg : decode cc pc = .ok (.ireturn, 1)) (hp : some (G, v) = some res) : W p l e R s m args below meth c H locs cells slots (MQ below (mm_Qi E res.1 res.2) args s mc ms (mm_A E)) (F0 m pc ls [.int v]) := by
  cases hp
  exact W.widen hcs.1 hcs.2 (W.iret X.1.1 X.1.2.1 hr (fun t ht hW => ⟨⟨v, (), rfl, rfl, by show mm_H E G t.heap; rw [ht]; exact V.1⟩, V.2.F ht⟩) V.2.2.2 hdg (hlocks := X.2.2.1))
theorem q_zret {v : Int32} {res : mm_M × Int32} (X : mm_X p s m args meth c cc nL own Ts E) (V : mm_V E s G H locs) (hr : meth.sig.returnType = some .boolean) (hn : narrow .boolean (.int v) = .int v) (hcs : cells ≤ mc ∧ slots ≤ ms) (hdg : decode cc pc = .ok (.ireturn, 1)) (hp : some (G, v) = some res) : W p l e R s m args below meth c H locs cells slots (MQ below (mm_Qi E res.1 res.2) args s mc ms (mm_A E)) (F0 m pc ls [.int v]) := by
  cases hp
  exact W.widen hcs.1 hcs.2 (W.zret X.1.1 X.1.2.1 hr hn (fun t ht hW => ⟨⟨v, (), rfl, rfl, by show mm_H E G t.heap; rw [ht]; exact V.1⟩, V.2.F ht⟩) V.2.2.2 hdg (hlocks := X.2.2.1))
theorem q_vret {res : mm_M × Unit} (X : mm_X p s m args meth c cc nL own Ts E) (V : mm_V E s G H locs) (hr : meth.sig.returnType = none) (hcs : cells ≤ mc ∧ slots ≤ ms) (hdg : decode cc pc = .ok (.return_, 1)) (hp : some (G, ()) = some res) : W p l e R s m args below meth c H locs cells slots (MQ below (mm_Qv E res.1) args s mc ms (mm_A E)) (F0 m pc ls []) := by
  cases hp
  exact W.widen hcs.1 hcs.2 (W.vret X.1.1 X.1.2.1 hr (fun t ht hW => ⟨⟨(), rfl, trivial, by show mm_H E G t.heap; rw [ht]; exact V.1⟩, V.2.F ht⟩) V.2.2.2 hdg (hlocks := X.2.2.1))
theorem q_aret {v : Option Nat} {res : mm_M × Option Nat} {ty : String} (X : mm_X p s m args meth c cc nL own Ts E) (V : mm_V E s G H locs) (hr : meth.sig.returnType = some (.object ty)) (hcs : cells ≤ mc ∧ slots ≤ ms) (hdg : decode cc pc = .ok (.areturn, 1)) (hp : some (G, v) = some res) : W p l e R s m args below meth c H locs cells slots (MQ below (mm_Qq E res.1 res.2) args s mc ms (mm_A E)) (F0 m pc ls [va_rf v]) := by
  cases hp
  refine W.widen hcs.1 hcs.2 (W.aret X.1.1 X.1.2.1 hr (Or.inl ⟨_, rfl⟩) ?_ (fun t ht hW => ⟨⟨v, (), rfl, rfl, by show mm_H E G t.heap; rw [ht]; exact V.1⟩, V.2.F ht⟩) V.2.2.2 hdg (hlocks := X.2.2.1))
  cases v with
  | none => exact Or.inl rfl
  | some b => exact Or.inr ⟨b, rfl⟩
end QCALL
/-! locals: ints and references alone -/
def lx_val (q : Int32 ⊕ Option Nat) : Value := match q with
  | .inl x => .int x
  | .inr r => va_rf r
def lx_v (q : Nat × (Int32 ⊕ Option Nat)) : Nat × Value := (q.1, lx_val q.2)
def lx_has (ls : Array Slot) (nL : Nat) (l : List (Nat × (Int32 ⊕ Option Nat))) : Prop := lv_has ls nL (l.map lx_v)
theorem lx_cat (q : Int32 ⊕ Option Nat) : (lx_val q).category = 1 := by
  cases q with
  | inl x => rfl
  | inr r => exact va_rf_cat r
theorem lx_at {ls : Array Slot} {nL : Nat} {l : List (Nat × (Int32 ⊕ Option Nat))} (h : lx_has ls nL l) (k : Nat) {i : Nat} {v : Int32 ⊕ Option Nat} (hk : l[k]? = some (i, v)) : ls[i]? = some (.val (lx_val v)) := lv_at h k (by rw [List.getElem?_map, hk]; rfl)
theorem lx_sub {ls : Array Slot} {nL : Nat} {l l' : List (Nat × (Int32 ⊕ Option Nat))} (h : lx_has ls nL l) (ks : List Nat) (hl : ks.filterMap (fun k => l[k]?) = l') : lx_has ls nL l' := by
  subst hl
  refine ⟨h.1, h.2.1, fun q hq => ?_⟩
  obtain ⟨q0, h0, rfl⟩ := List.mem_map.mp hq
  obtain ⟨k, -, hk⟩ := List.mem_filterMap.mp h0
  exact h.2.2 _ (List.mem_map.mpr ⟨q0, List.mem_of_getElem? hk, rfl⟩)
theorem lx_put {ls : Array Slot} {nL i : Nat} {v : Int32 ⊕ Option Nat} {l l' : List (Nat × (Int32 ⊕ Option Nat))} (h : lv_has ls nL ((i, lx_val v) :: (l.map lx_v).filter (fun q => !(q.1 == i) && !(q.1 + 1 == i && q.2.category == 2)))) (hl : (i, v) :: l.filter (fun q => !(q.1 == i)) = l') : lx_has ls nL l' := by
  subst hl
  refine ⟨h.1, h.2.1, fun q hq => h.2.2 q ?_⟩
  obtain ⟨q0, h0, rfl⟩ := List.mem_map.mp hq
  rcases List.mem_cons.mp h0 with h1 | h1
  · subst h1; exact List.mem_cons_self
  · obtain ⟨h2, h3⟩ := List.mem_filter.mp h1
    refine List.mem_cons_of_mem _ (List.mem_filter.mpr ⟨List.mem_map.mpr ⟨q0, h2, rfl⟩, ?_⟩)
    have hc : (lx_v q0).2.category = 1 := lx_cat q0.2
    rw [hc]
    show (!(q0.1 == i) && _) = true
    rw [h3]
    simp
def lx_args : Nat → List (Int32 ⊕ Option Nat) → List (Nat × (Int32 ⊕ Option Nat))
  | _, [] => []
  | i, v :: vs => (i, v) :: lx_args (i + 1) vs
theorem lx_args_v (vs : List (Int32 ⊕ Option Nat)) : ∀ i, lv_args i (vs.map lx_val) = (lx_args i vs).map lx_v := by
  induction vs with
  | nil => intro i; rfl
  | cons v vs ih =>
    intro i
    show (i, lx_val v) :: lv_args (if (lx_val v).category = 2 then i + 2 else i + 1) (vs.map lx_val) = (i, lx_val v) :: (lx_args (i + 1) vs).map lx_v
    rw [lx_cat, if_neg (by decide), ih]
theorem lx_sl (vs : List (Int32 ⊕ Option Nat)) : (lg_sl (vs.map lx_val)).length = vs.length := by
  induction vs with
  | nil => rfl
  | cons v vs ih =>
    have e : lg_sl ((v :: vs).map lx_val) = (if (lx_val v).category = 2 then [Slot.val (lx_val v), .second] else [.val (lx_val v)]) ++ lg_sl (vs.map lx_val) := by simp [lg_sl]
    rw [e, lx_cat, if_neg (by decide), List.length_append, ih]
    simp
    omega
section LXR
variable {p : Program} {l : Launch} {e : Env} {R : Room} {s : State} {m : MethodId} {args : Array Value} {below : List Frame} {meth : Method} {c : Code} {H : Heap} {locs : List Loc} {cells slots : Nat} {Q : State → Prop}
variable {cc : ByteArray} {pc nL nL' : Nat} {ls : Array Slot} {rest : List Value} {own : String} {Ts : List Cond} {E : mm_E} {lst lst' : List (Nat × (Int32 ⊕ Option Nat))}
theorem x_iload_n {k : Fin 4} {i : Nat} {x : Int32} (X : mm_X p s m args meth c cc nL own Ts E) (hdg : decode cc pc = .ok (.iload_n k, 1)) (h : lx_has ls nL' lst) (j : Nat) (hj : lst[j]? = some (i, .inl x)) (hi : (k : Nat) = i)
    (kk : W p l e R s m args below meth c H locs cells slots Q (F0 m (pc + 1) ls (.int x :: rest))) : W p l e R s m args below meth c H locs cells slots Q (F0 m pc ls rest) := lv_iload_n X.1.1 X.1.2.1 hdg hi (lx_at h j hj) kk
theorem x_iload {i : Nat} {x : Int32} (X : mm_X p s m args meth c cc nL own Ts E) (hdg : decode cc pc = .ok (.iload i, 2)) (h : lx_has ls nL' lst) (j : Nat) (hj : lst[j]? = some (i, .inl x))
    (kk : W p l e R s m args below meth c H locs cells slots Q (F0 m (pc + 2) ls (.int x :: rest))) : W p l e R s m args below meth c H locs cells slots Q (F0 m pc ls rest) := lv_iload X.1.1 X.1.2.1 hdg (lx_at h j hj) kk
theorem x_aload_n {k : Fin 4} {i : Nat} {r : Option Nat} (X : mm_X p s m args meth c cc nL own Ts E) (hdg : decode cc pc = .ok (.aload_n k, 1)) (h : lx_has ls nL' lst) (j : Nat) (hj : lst[j]? = some (i, .inr r)) (hi : (k : Nat) = i)
    (kk : W p l e R s m args below meth c H locs cells slots Q (F0 m (pc + 1) ls (va_rf r :: rest))) : W p l e R s m args below meth c H locs cells slots Q (F0 m pc ls rest) := q_aload_n r X hdg hi (lx_at h j hj) kk
theorem x_aload {i : Nat} {r : Option Nat} (X : mm_X p s m args meth c cc nL own Ts E) (hdg : decode cc pc = .ok (.aload i, 2)) (h : lx_has ls nL' lst) (j : Nat) (hj : lst[j]? = some (i, .inr r))
    (kk : W p l e R s m args below meth c H locs cells slots Q (F0 m (pc + 2) ls (va_rf r :: rest))) : W p l e R s m args below meth c H locs cells slots Q (F0 m pc ls rest) := q_aload r X hdg (lx_at h j hj) kk
theorem x_istore_n {k : Fin 4} {i : Nat} {x : Int32} (X : mm_X p s m args meth c cc nL own Ts E) (hdg : decode cc pc = .ok (.istore_n k, 1)) (h : lx_has ls nL' lst) (hi : (k : Nat) = i) (hn : i < nL') (hl : (i, .inl x) :: lst.filter (fun q => !(q.1 == i)) = lst')
    (kk : ∀ ls' : Array Slot, lx_has ls' nL' lst' → W p l e R s m args below meth c H locs cells slots Q (F0 m (pc + 1) ls' rest)) : W p l e R s m args below meth c H locs cells slots Q (F0 m pc ls (.int x :: rest)) := lv_istore_n X.1.1 X.1.2.1 hdg hi h hn rfl (fun ls' h' => kk ls' (lx_put (v := .inl x) h' hl))
theorem x_istore {i : Nat} {x : Int32} (X : mm_X p s m args meth c cc nL own Ts E) (hdg : decode cc pc = .ok (.istore i, 2)) (h : lx_has ls nL' lst) (hn : i < nL') (hl : (i, .inl x) :: lst.filter (fun q => !(q.1 == i)) = lst')
    (kk : ∀ ls' : Array Slot, lx_has ls' nL' lst' → W p l e R s m args below meth c H locs cells slots Q (F0 m (pc + 2) ls' rest)) : W p l e R s m args below meth c H locs cells slots Q (F0 m pc ls (.int x :: rest)) := lv_istore X.1.1 X.1.2.1 hdg h hn rfl (fun ls' h' => kk ls' (lx_put (v := .inl x) h' hl))
theorem x_astore_n {k : Fin 4} {i : Nat} {r : Option Nat} (X : mm_X p s m args meth c cc nL own Ts E) (hdg : decode cc pc = .ok (.astore_n k, 1)) (h : lx_has ls nL' lst) (hi : (k : Nat) = i) (hn : i < nL') (hl : (i, .inr r) :: lst.filter (fun q => !(q.1 == i)) = lst')
    (kk : ∀ ls' : Array Slot, lx_has ls' nL' lst' → W p l e R s m args below meth c H locs cells slots Q (F0 m (pc + 1) ls' rest)) : W p l e R s m args below meth c H locs cells slots Q (F0 m pc ls (va_rf r :: rest)) := q_astore_n r X hdg hi h hn rfl (fun ls' h' => kk ls' (lx_put (v := .inr r) h' hl))
theorem x_astore {i : Nat} {r : Option Nat} (X : mm_X p s m args meth c cc nL own Ts E) (hdg : decode cc pc = .ok (.astore i, 2)) (h : lx_has ls nL' lst) (hn : i < nL') (hl : (i, .inr r) :: lst.filter (fun q => !(q.1 == i)) = lst')
    (kk : ∀ ls' : Array Slot, lx_has ls' nL' lst' → W p l e R s m args below meth c H locs cells slots Q (F0 m (pc + 2) ls' rest)) : W p l e R s m args below meth c H locs cells slots Q (F0 m pc ls (va_rf r :: rest)) := q_astore r X hdg h hn rfl (fun ls' h' => kk ls' (lx_put (v := .inr r) h' hl))
theorem x_iinc {i : Nat} {n : Int} {x v : Int32} (X : mm_X p s m args meth c cc nL own Ts E) (hdg : decode cc pc = .ok (.iinc i n, 3)) (h : lx_has ls nL' lst) (j : Nat) (hj : lst[j]? = some (i, .inl x)) (hv : Int32.ofInt n = v) (hn : i < nL') (hl : (i, .inl (x + v)) :: lst.filter (fun q => !(q.1 == i)) = lst')
    (kk : ∀ ls' : Array Slot, lx_has ls' nL' lst' → W p l e R s m args below meth c H locs cells slots Q (F0 m (pc + 3) ls' rest)) : W p l e R s m args below meth c H locs cells slots Q (F0 m pc ls rest) := lv_iinc (k := j) (v := x + v) X.1.1 X.1.2.1 hdg h (by rw [List.getElem?_map, hj]; rfl) (by rw [hv]) hn rfl (fun ls' h' => kk ls' (lx_put (v := .inl (x + v)) h' hl))
end LXR
theorem q_ifn {α : Type} {P : Prop} [Decidable P] {x y : Option α} {r : α} {X1 X2 X : Prop} (hp : (if P then x else y) = some r) (f : (¬ P → X1) → (P → X2) → X) (k1 : y = some r → X1) (k2 : x = some r → X2) : X := f (fun h => k1 (by rwa [if_neg h] at hp)) (fun h => k2 (by rwa [if_pos h] at hp))
def q_cl {α β : Type} (x : Option (mm_M × β)) (f : mm_M → β → Option α) : Option α := match x with
  | none => none
  | some y => f y.1 y.2
theorem q_cl_of {α β : Type} {x : Option (mm_M × β)} {f : mm_M → β → Option α} {r : α} (hp : q_cl x f = some r) : ∃ y : mm_M × β, x = some y ∧ f y.1 y.2 = some r := by
  cases x with
  | none => cases hp
  | some y => exact ⟨y, rfl, hp⟩
theorem q_is_of {α : Type} {G : mm_M} {a kd : Nat} {f : Option α} {r : α} (hp : q_is G a kd f = some r) : mm_K G a = kd ∧ f = some r := q_pos hp
/-- a contract out of the walk of a body -/
theorem mm_met {l : Launch} {y : MethodName} {ws : List Cond} {rm : Room} {Qc : Array Value → State → Outcome → State → Prop} {mc ms : Nat} {cc : ByteArray} {maxL : Nat} {ret : Option FieldType} {own : String} (E : mm_E) (G : mm_M) (vs : List (Int32 ⊕ Option Nat)) (hy : plainName y.cls = true) (hw : ws = Cond.code y cc maxL ret :: tw_T) (hown : y.cls = own) (hn : vs.length ≤ maxL)
    (body : ∀ (p : Program) (e : Env) (s : State) (m : MethodId) (args : Array Value) (below : List Frame) (meth : Method) (c : Code) (ls : Array Slot), mm_X p s m args meth c cc maxL own tw_T E → meth.sig.returnType = ret → meth.name = y.name → mm_V E s G s.heap [] → lx_has ls maxL (lx_args 0 vs) → W p l e rm s m args below meth c s.heap [] 0 0 (MQ below Qc args s mc ms (mm_A E)) (F0 m 0 ls [])) : Met l y ws rm (mm_Pc E G (vs.map lx_val)) Qc mc ms (mm_A E) := by
  refine Met.ofW (cc := cc) (maxL := maxL) (ret := ret) hy hw ?_
  intro p e s m args below meth c s₁ B hml hv
  obtain ⟨rfl, hH, hK, hA1, hA2⟩ := hv
  have hl := lv_entry (vs.map lx_val) (n := maxL) (by rw [lx_sl]; exact hn)
  rw [lg_entry_eq]
  rw [lx_args_v] at hl
  refine body p e s m _ below meth c _ ⟨⟨B.exec, B.bytes, hml, ?_, fun w h => atoms_spec (ws := ws) B.pre w (by rw [hw]; exact List.mem_cons_of_mem _ h)⟩, hK, B.notSynchronized, hH.2.2.1, hA1, hA2⟩ B.returns (name_of_methodNamed B.named B.method).1 ⟨hH, va_S.rf⟩ hl
  rw [← hown]
  exact findClass_of_methodNamed B.named
end
section
abbrev yX2_init : MethodName := ⟨"XorOverlay$Line", "<init>", "()V"⟩
abbrev rX2_init : Room := { frames := 1, cells := 1, slots := 288, locals := 30 }
theorem kX2_init : Cond.code yX2_init prog_4_method_1_code 1 none ∈ tw_T ∧ Cond.instanceMethod yX2_init ∈ tw_T ∧ Cond.initialized "XorOverlay$Line" ∈ tw_T := ⟨(tw_1 25 rfl rfl), (tw_1 24 rfl rfl), (tw_1 2 rfl rfl)⟩
theorem hX2_init : yX2_init.cls = "XorOverlay$Line" ∧ yX2_init.cls ≠ "java/lang/invoke/MethodHandle" ∧ yX2_init.cls ≠ "java/lang/invoke/VarHandle" ∧ (parseMethodDescriptor yX2_init.desc).map (fun d => d.parameters.length) = some 0 := by decide +kernel
theorem dX2_init_0 : decode prog_4_method_1_code 0 = .ok (.aload_n 0, 1) := by decide +kernel
theorem dX2_init_1 : decode prog_4_method_1_code 1 = .ok (.invokespecial 3, 3) := by decide +kernel
theorem dX2_init_4 : decode prog_4_method_1_code 4 = .ok (.aload_n 0, 1) := by decide +kernel
theorem dX2_init_5 : decode prog_4_method_1_code 5 = .ok (.sipush 288, 3) := by decide +kernel
theorem dX2_init_8 : decode prog_4_method_1_code 8 = .ok (.newarray .int, 2) := by decide +kernel
theorem dX2_init_10 : decode prog_4_method_1_code 10 = .ok (.putfield 11, 3) := by decide +kernel
theorem dX2_init_13 : decode prog_4_method_1_code 13 = .ok (.aload_n 0, 1) := by decide +kernel
theorem dX2_init_14 : decode prog_4_method_1_code 14 = .ok (.iconst 0, 1) := by decide +kernel
theorem dX2_init_15 : decode prog_4_method_1_code 15 = .ok (.putfield 15, 3) := by decide +kernel
theorem dX2_init_18 : decode prog_4_method_1_code 18 = .ok (.return_, 1) := by decide +kernel
def pX2_init_0 (N a0 : Nat) (G : mm_M) : Option (mm_M × Unit) :=
  q_arr G 101 288 fun G b8_1 =>
  q_pR G a0 3 0 (some b8_1) fun G =>
  q_pI G a0 3 1 (0 : Int32) fun G =>
  some (G, ())
set_option maxRecDepth 100000 in
set_option maxHeartbeats 4000000 in
theorem bX2_init_0 {p : Program} {l : Launch} {e : Env} {s : State} {m : MethodId} {args : Array Value} {below : List Frame} {meth : Method} {c : Code} {E : mm_E} {N a0 : Nat} {res : mm_M × Unit} (X : mm_X p s m args meth c prog_4_method_1_code 1 "XorOverlay$Line" tw_T E) (hr : meth.sig.returnType = none) (hi : meth.name = "<init>") {G : mm_M} {H : Heap} {locs : List Loc} {ls : Array Slot} (V : mm_V E s G H locs) (hl : lx_has ls 1 [(0, .inr (some a0))]) (hp : pX2_init_0 N a0 G = some res) : W p l e rX2_init s m args below meth c H locs 0 0 (MQ below (mm_Qv E res.1) args s 1 288 (mm_A E)) (F0 m 0 ls []) := by
  have hx := X.1.1
  have hb := X.1.2.1
  unfold pX2_init_0 at hp
  refine x_aload_n X dX2_init_0 hl 0 rfl rfl ?_
  refine W.objInit hx hb X.1.2.2.2.1 (X.1.2.2.2.2 _ (tw_1 26 rfl rfl)) (X.1.2.2.2.2 _ (tw_1 17 rfl rfl)) (X.1.2.2.2.2 _ (tw_1 18 rfl rfl)) rfl (by rw [X.1.2.2.1]; exact hl.1) rfl dX2_init_1 (by decide) (Nat.le_of_ble_eq_true rfl) ?_
  refine W.eq (g2 := F0 m 4 ls ([])) rfl ?_
  refine x_aload_n X dX2_init_4 hl 0 rfl rfl ?_
  refine lv_sipush (v := (288 : Int32)) hx hb dX2_init_5 (by decide) ?_
  refine q_arrI (N := 288) X V (tw_1 35 rfl rfl) (by decide) (by decide) (by decide) (by decide) (by decide) rfl dX2_init_8 hp (fun G b8_1 H V hp => ?_)
  refine W.cs (cells' := 1) (slots' := 288) rfl rfl ?_
  refine q_putR (ci := 2) X V inX2 rfl tyX2 tyX2_ok nmX2 (by decide) rfl 0 (by decide) rfl (tw_1 27 rfl rfl) rfl (Or.inr ⟨rfl, hi, rfl⟩) (.array .int) rfl (va_rf_narrowA _ _) (va_rf_fitsA _ _) dX2_init_10 hp (fun G H locs V hp => ?_)
  refine x_aload_n X dX2_init_13 hl 0 rfl rfl ?_
  refine lv_iconst (v := (0 : Int32)) hx hb dX2_init_14 (by decide) ?_
  refine q_putI (ci := 2) X V inX2 rfl tyX2 tyX2_ok nmX2 (by decide) rfl 1 (by decide) rfl (tw_1 28 rfl rfl) rfl (Or.inl rfl) .int rfl rfl rfl dX2_init_15 hp (fun G H locs V hp => ?_)
  exact q_vret X V hr ⟨by decide, by decide⟩ dX2_init_18 hp
theorem cX2_init (l : Launch) (E : mm_E) {N a0 : Nat} {G : mm_M} {res : mm_M × Unit} (hp : pX2_init_0 N a0 G = some res) : Met l yX2_init (Cond.code yX2_init prog_4_method_1_code 1 none :: tw_T) rX2_init (mm_Pc E G [.ref a0]) (mm_Qv E res.1) 1 288 (mm_A E) :=
  mm_met (own := "XorOverlay$Line") E G [.inr (some a0)] (by decide) rfl rfl (Nat.le_of_ble_eq_true rfl) (fun p e s m args below meth c ls X hr hi V hl => bX2_init_0 X hr hi V hl hp)
abbrev yX6_init : MethodName := ⟨"XorOverlay", "<init>", "()V"⟩
abbrev rX6_init : Room := { frames := 2, cells := 5, slots := 326, locals := 50 }
theorem kX6_init : Cond.code yX6_init prog_1_method_1_code 1 none ∈ tw_T ∧ Cond.instanceMethod yX6_init ∈ tw_T ∧ Cond.initialized "XorOverlay" ∈ tw_T := ⟨(tw_1 15 rfl rfl), (tw_1 14 rfl rfl), (tw_1 1 rfl rfl)⟩
theorem hX6_init : yX6_init.cls = "XorOverlay" ∧ yX6_init.cls ≠ "java/lang/invoke/MethodHandle" ∧ yX6_init.cls ≠ "java/lang/invoke/VarHandle" ∧ (parseMethodDescriptor yX6_init.desc).map (fun d => d.parameters.length) = some 0 := by decide +kernel
theorem dX6_init_0 : decode prog_1_method_1_code 0 = .ok (.aload_n 0, 1) := by decide +kernel
theorem dX6_init_1 : decode prog_1_method_1_code 1 = .ok (.invokespecial 1, 3) := by decide +kernel
theorem dX6_init_4 : decode prog_1_method_1_code 4 = .ok (.aload_n 0, 1) := by decide +kernel
theorem dX6_init_5 : decode prog_1_method_1_code 5 = .ok (.bipush 12, 2) := by decide +kernel
theorem dX6_init_7 : decode prog_1_method_1_code 7 = .ok (.anewarray 9, 3) := by decide +kernel
theorem dX6_init_10 : decode prog_1_method_1_code 10 = .ok (.putfield 11, 3) := by decide +kernel
theorem dX6_init_13 : decode prog_1_method_1_code 13 = .ok (.aload_n 0, 1) := by decide +kernel
theorem dX6_init_14 : decode prog_1_method_1_code 14 = .ok (.new 15, 3) := by decide +kernel
theorem dX6_init_17 : decode prog_1_method_1_code 17 = .ok (.dup, 1) := by decide +kernel
theorem dX6_init_18 : decode prog_1_method_1_code 18 = .ok (.invokespecial 17, 3) := by decide +kernel
theorem dX6_init_21 : decode prog_1_method_1_code 21 = .ok (.putfield 18, 3) := by decide +kernel
theorem dX6_init_24 : decode prog_1_method_1_code 24 = .ok (.aload_n 0, 1) := by decide +kernel
theorem dX6_init_25 : decode prog_1_method_1_code 25 = .ok (.bipush 12, 2) := by decide +kernel
theorem dX6_init_27 : decode prog_1_method_1_code 27 = .ok (.newarray .int, 2) := by decide +kernel
theorem dX6_init_29 : decode prog_1_method_1_code 29 = .ok (.putfield 22, 3) := by decide +kernel
theorem dX6_init_32 : decode prog_1_method_1_code 32 = .ok (.aload_n 0, 1) := by decide +kernel
theorem dX6_init_33 : decode prog_1_method_1_code 33 = .ok (.bipush 12, 2) := by decide +kernel
theorem dX6_init_35 : decode prog_1_method_1_code 35 = .ok (.newarray .int, 2) := by decide +kernel
theorem dX6_init_37 : decode prog_1_method_1_code 37 = .ok (.putfield 26, 3) := by decide +kernel
theorem dX6_init_40 : decode prog_1_method_1_code 40 = .ok (.aload_n 0, 1) := by decide +kernel
theorem dX6_init_41 : decode prog_1_method_1_code 41 = .ok (.iconst 0, 1) := by decide +kernel
theorem dX6_init_42 : decode prog_1_method_1_code 42 = .ok (.putfield 29, 3) := by decide +kernel
theorem dX6_init_45 : decode prog_1_method_1_code 45 = .ok (.aload_n 0, 1) := by decide +kernel
theorem dX6_init_46 : decode prog_1_method_1_code 46 = .ok (.iconst 0, 1) := by decide +kernel
theorem dX6_init_47 : decode prog_1_method_1_code 47 = .ok (.putfield 33, 3) := by decide +kernel
theorem dX6_init_50 : decode prog_1_method_1_code 50 = .ok (.aload_n 0, 1) := by decide +kernel
theorem dX6_init_51 : decode prog_1_method_1_code 51 = .ok (.iconst 0, 1) := by decide +kernel
theorem dX6_init_52 : decode prog_1_method_1_code 52 = .ok (.putfield 36, 3) := by decide +kernel
theorem dX6_init_55 : decode prog_1_method_1_code 55 = .ok (.return_, 1) := by decide +kernel
def pX6_init_0 (N a0 : Nat) (G : mm_M) : Option (mm_M × Unit) :=
  q_arr G 103 12 fun G b7_1 =>
  q_pR G a0 7 0 (some b7_1) fun G =>
  q_new G 3 fun G b14_2 =>
  q_cl (pX2_init_0 N b14_2 G) fun G _ =>
  q_pR G a0 7 1 (some b14_2) fun G =>
  q_arr G 101 12 fun G b27_4 =>
  q_pR G a0 7 2 (some b27_4) fun G =>
  q_arr G 101 12 fun G b35_5 =>
  q_pR G a0 7 3 (some b35_5) fun G =>
  q_pI G a0 7 4 (0 : Int32) fun G =>
  q_pI G a0 7 5 (0 : Int32) fun G =>
  q_pI G a0 7 6 (0 : Int32) fun G =>
  some (G, ())
set_option maxRecDepth 100000 in
set_option maxHeartbeats 4000000 in
theorem bX6_init_0 {p : Program} {l : Launch} {e : Env} {s : State} {m : MethodId} {args : Array Value} {below : List Frame} {meth : Method} {c : Code} {E : mm_E} {N a0 : Nat} {res : mm_M × Unit} (X : mm_X p s m args meth c prog_1_method_1_code 1 "XorOverlay" tw_T E) (hr : meth.sig.returnType = none) (hi : meth.name = "<init>") {G : mm_M} {H : Heap} {locs : List Loc} {ls : Array Slot} (V : mm_V E s G H locs) (hl : lx_has ls 1 [(0, .inr (some a0))]) (hp : pX6_init_0 N a0 G = some res) : W p l e rX6_init s m args below meth c H locs 0 0 (MQ below (mm_Qv E res.1) args s 5 326 (mm_A E)) (F0 m 0 ls []) := by
  have hx := X.1.1
  have hb := X.1.2.1
  unfold pX6_init_0 at hp
  refine x_aload_n X dX6_init_0 hl 0 rfl rfl ?_
  refine W.objInit hx hb X.1.2.2.2.1 (X.1.2.2.2.2 _ (tw_1 16 rfl rfl)) (X.1.2.2.2.2 _ (tw_1 17 rfl rfl)) (X.1.2.2.2.2 _ (tw_1 18 rfl rfl)) rfl (by rw [X.1.2.2.1]; exact hl.1) rfl dX6_init_1 (by decide) (Nat.le_of_ble_eq_true rfl) ?_
  refine W.eq (g2 := F0 m 4 ls ([])) rfl ?_
  refine x_aload_n X dX6_init_4 hl 0 rfl rfl ?_
  refine lv_bipush (v := (12 : Int32)) hx hb dX6_init_5 (by decide) ?_
  refine q_arrP (N := 12) X V rfl (tw_1 19 rfl rfl) X.2.2.2.2.1 (by decide) (by decide) (by decide) (by decide) (by decide) dX6_init_7 hp (fun G b7_1 H V hp => ?_)
  refine W.cs (cells' := 1) (slots' := 12) rfl rfl ?_
  refine q_putR (ci := 6) X V inX6 rfl tyX6 tyX6_ok nmX6 (by decide) rfl 0 (by decide) rfl (tw_1 36 rfl rfl) rfl (Or.inr ⟨rfl, hi, rfl⟩) (.array (.object "XorOverlay$Peer")) rfl (va_rf_narrowA _ _) (va_rf_fitsA _ _) dX6_init_10 hp (fun G H locs V hp => ?_)
  refine x_aload_n X dX6_init_13 hl 0 rfl rfl ?_
  refine q_newc (ci := 2) X V inX2 rfl tyX2 tyX2_ok (by decide) rfl rfl dfX2 (tw_1 21 rfl rfl) (tw_1 22 rfl rfl) (tw_1 2 rfl rfl) (by decide) (by decide) dX6_init_14 hp (fun G b14_2 H V hp => ?_)
  refine W.cs (cells' := 2) (slots' := 14) rfl rfl ?_
  refine lv_dup hx hb dX6_init_17 (va_rf_cat _) ?_
  obtain ⟨⟨G, u⟩, hq, hp⟩ := q_cl_of hp
  dsimp only at hp
  refine q_gov (cells' := 3) (slots' := 302) (va_runI (As := []) (rest := [va_rf (some b14_2), va_rf (some a0)]) X.1 (cX2_init l E hq) (tw_cwI 0 X.1.2.2.2.2 (tw_1 23 rfl rfl) kX2_init.2.1 kX2_init.2.2 kX2_init.1 rfl rfl rfl hX2_init ⟨Nat.le_of_ble_eq_true rfl, Nat.le_of_ble_eq_true rfl⟩) (mm_preS X V) rfl rfl hl.1 rfl (lv_room (Nat.le_of_ble_eq_true rfl)) dX6_init_18 ⟨by decide, by decide⟩) V ⟨rfl, rfl⟩ (fun H locs V => ?_)
  refine q_putR (ci := 6) X V inX6 rfl tyX6 tyX6_ok nmX6 (by decide) rfl 1 (by decide) rfl (tw_1 37 rfl rfl) rfl (Or.inr ⟨rfl, hi, rfl⟩) (.object "XorOverlay$Line") rfl (va_rf_narrow _ _) (va_rf_fits _ _) dX6_init_21 hp (fun G H locs V hp => ?_)
  refine x_aload_n X dX6_init_24 hl 0 rfl rfl ?_
  refine lv_bipush (v := (12 : Int32)) hx hb dX6_init_25 (by decide) ?_
  refine q_arrI (N := 12) X V (tw_1 35 rfl rfl) (by decide) (by decide) (by decide) (by decide) (by decide) rfl dX6_init_27 hp (fun G b27_4 H V hp => ?_)
  refine W.cs (cells' := 4) (slots' := 314) rfl rfl ?_
  refine q_putR (ci := 6) X V inX6 rfl tyX6 tyX6_ok nmX6 (by decide) rfl 2 (by decide) rfl (tw_1 38 rfl rfl) rfl (Or.inr ⟨rfl, hi, rfl⟩) (.array .int) rfl (va_rf_narrowA _ _) (va_rf_fitsA _ _) dX6_init_29 hp (fun G H locs V hp => ?_)
  refine x_aload_n X dX6_init_32 hl 0 rfl rfl ?_
  refine lv_bipush (v := (12 : Int32)) hx hb dX6_init_33 (by decide) ?_
  refine q_arrI (N := 12) X V (tw_1 35 rfl rfl) (by decide) (by decide) (by decide) (by decide) (by decide) rfl dX6_init_35 hp (fun G b35_5 H V hp => ?_)
  refine W.cs (cells' := 5) (slots' := 326) rfl rfl ?_
  refine q_putR (ci := 6) X V inX6 rfl tyX6 tyX6_ok nmX6 (by decide) rfl 3 (by decide) rfl (tw_1 39 rfl rfl) rfl (Or.inr ⟨rfl, hi, rfl⟩) (.array .int) rfl (va_rf_narrowA _ _) (va_rf_fitsA _ _) dX6_init_37 hp (fun G H locs V hp => ?_)
  refine x_aload_n X dX6_init_40 hl 0 rfl rfl ?_
  refine lv_iconst (v := (0 : Int32)) hx hb dX6_init_41 (by decide) ?_
  refine q_putI (ci := 6) X V inX6 rfl tyX6 tyX6_ok nmX6 (by decide) rfl 4 (by decide) rfl (tw_1 40 rfl rfl) rfl (Or.inl rfl) .int rfl rfl rfl dX6_init_42 hp (fun G H locs V hp => ?_)
  refine x_aload_n X dX6_init_45 hl 0 rfl rfl ?_
  refine lv_iconst (v := (0 : Int32)) hx hb dX6_init_46 (by decide) ?_
  refine q_putI (ci := 6) X V inX6 rfl tyX6 tyX6_ok nmX6 (by decide) rfl 5 (by decide) rfl (tw_1 41 rfl rfl) rfl (Or.inl rfl) .int rfl rfl rfl dX6_init_47 hp (fun G H locs V hp => ?_)
  refine x_aload_n X dX6_init_50 hl 0 rfl rfl ?_
  refine lv_iconst (v := (0 : Int32)) hx hb dX6_init_51 (by decide) ?_
  refine q_putI (ci := 6) X V inX6 rfl tyX6 tyX6_ok nmX6 (by decide) rfl 6 (by decide) rfl (tw_1 42 rfl rfl) rfl (Or.inl rfl) .int rfl rfl rfl dX6_init_52 hp (fun G H locs V hp => ?_)
  exact q_vret X V hr ⟨by decide, by decide⟩ dX6_init_55 hp
theorem cX6_init (l : Launch) (E : mm_E) {N a0 : Nat} {G : mm_M} {res : mm_M × Unit} (hp : pX6_init_0 N a0 G = some res) : Met l yX6_init (Cond.code yX6_init prog_1_method_1_code 1 none :: tw_T) rX6_init (mm_Pc E G [.ref a0]) (mm_Qv E res.1) 5 326 (mm_A E) :=
  mm_met (own := "XorOverlay") E G [.inr (some a0)] (by decide) rfl rfl (Nat.le_of_ble_eq_true rfl) (fun p e s m args below meth c ls X hr hi V hl => bX6_init_0 X hr hi V hl hp)
abbrev yX6_isNumber : MethodName := ⟨"XorOverlay", "isNumber", "(I)Z"⟩
abbrev rX6_isNumber : Room := { frames := 0, cells := 0, slots := 0, locals := 0 }
theorem kX6_isNumber : Cond.code yX6_isNumber prog_1_method_20_code 1 (Option.some .boolean) ∈ tw_T ∧ Cond.static yX6_isNumber ∈ tw_T ∧ Cond.initialized "XorOverlay" ∈ tw_T := ⟨(tw_1 64 rfl rfl), (tw_1 63 rfl rfl), (tw_1 1 rfl rfl)⟩
theorem hX6_isNumber : yX6_isNumber.cls = "XorOverlay" ∧ yX6_isNumber.cls ≠ "java/lang/invoke/MethodHandle" ∧ yX6_isNumber.cls ≠ "java/lang/invoke/VarHandle" ∧ (parseMethodDescriptor yX6_isNumber.desc).map (fun d => d.parameters.length) = some 1 := by decide +kernel
theorem dX6_isNumber_0 : decode prog_1_method_20_code 0 = .ok (.iload_n 0, 1) := by decide +kernel
theorem dX6_isNumber_1 : decode prog_1_method_20_code 1 = .ok (.ifCond .lt 14, 3) := by decide +kernel
theorem dX6_isNumber_4 : decode prog_1_method_20_code 4 = .ok (.iload_n 0, 1) := by decide +kernel
theorem dX6_isNumber_5 : decode prog_1_method_20_code 5 = .ok (.sipush 256, 3) := by decide +kernel
theorem dX6_isNumber_8 : decode prog_1_method_20_code 8 = .ok (.if_icmp .ge 7, 3) := by decide +kernel
theorem dX6_isNumber_11 : decode prog_1_method_20_code 11 = .ok (.iconst 1, 1) := by decide +kernel
theorem dX6_isNumber_12 : decode prog_1_method_20_code 12 = .ok (.goto 4, 3) := by decide +kernel
theorem dX6_isNumber_15 : decode prog_1_method_20_code 15 = .ok (.iconst 0, 1) := by decide +kernel
theorem dX6_isNumber_16 : decode prog_1_method_20_code 16 = .ok (.ireturn, 1) := by decide +kernel
def pX6_isNumber_0 (N : Nat) (G : mm_M) (x0 : Int32) : Option (mm_M × Int32) :=
  if x0 < 0 then
    some (G, (0 : Int32))
  else
    if (256 : Int32) ≤ x0 then
      some (G, (0 : Int32))
    else
      some (G, (1 : Int32))
set_option maxRecDepth 100000 in
set_option maxHeartbeats 4000000 in
theorem bX6_isNumber_0 {p : Program} {l : Launch} {e : Env} {s : State} {m : MethodId} {args : Array Value} {below : List Frame} {meth : Method} {c : Code} {E : mm_E} {N : Nat} {res : mm_M × Int32} (X : mm_X p s m args meth c prog_1_method_20_code 1 "XorOverlay" tw_T E) (hr : meth.sig.returnType = (Option.some .boolean)) {G : mm_M} {H : Heap} {locs : List Loc} {ls : Array Slot} {x0 : Int32} (V : mm_V E s G H locs) (hl : lx_has ls 1 [(0, .inl x0)]) (hp : pX6_isNumber_0 N G x0 = some res) : W p l e rX6_isNumber s m args below meth c H locs 0 0 (MQ below (mm_Qi E res.1 res.2) args s 0 0 (mm_A E)) (F0 m 0 ls []) := by
  have hx := X.1.1
  have hb := X.1.2.1
  unfold pX6_isNumber_0 at hp
  refine x_iload_n X dX6_isNumber_0 hl 0 rfl rfl ?_
  refine q_if hp (lv_if_lt (tgt := 15) hx hb dX6_isNumber_1 (by decide)) (fun hp => ?_) (fun hp => ?_)
  · refine lv_iconst (v := (0 : Int32)) hx hb dX6_isNumber_15 (by decide) ?_
    exact q_zret X V hr rfl ⟨by decide, by decide⟩ dX6_isNumber_16 hp
  · refine x_iload_n X dX6_isNumber_4 hl 0 rfl rfl ?_
    refine lv_sipush (v := (256 : Int32)) hx hb dX6_isNumber_5 (by decide) ?_
    refine q_if hp (lv_icmp_ge (tgt := 15) hx hb dX6_isNumber_8 (by decide)) (fun hp => ?_) (fun hp => ?_)
    · refine lv_iconst (v := (0 : Int32)) hx hb dX6_isNumber_15 (by decide) ?_
      exact q_zret X V hr rfl ⟨by decide, by decide⟩ dX6_isNumber_16 hp
    · refine lv_iconst (v := (1 : Int32)) hx hb dX6_isNumber_11 (by decide) ?_
      refine lv_goto (tgt := 16) hx hb dX6_isNumber_12 (by decide) ?_
      exact q_zret X V hr rfl ⟨by decide, by decide⟩ dX6_isNumber_16 hp
theorem cX6_isNumber (l : Launch) (E : mm_E) {N : Nat} {G : mm_M} {x0 : Int32} {res : mm_M × Int32} (hp : pX6_isNumber_0 N G x0 = some res) : Met l yX6_isNumber (Cond.code yX6_isNumber prog_1_method_20_code 1 (Option.some .boolean) :: tw_T) rX6_isNumber (mm_Pc E G [.int x0]) (mm_Qi E res.1 res.2) 0 0 (mm_A E) :=
  mm_met (own := "XorOverlay") E G [.inl x0] (by decide) rfl rfl (Nat.le_of_ble_eq_true rfl) (fun p e s m args below meth c ls X hr hi V hl => bX6_isNumber_0 X hr V hl hp)
abbrev yX6_knownPeer : MethodName := ⟨"XorOverlay", "knownPeer", "(I)LXorOverlay$Peer;"⟩
abbrev rX6_knownPeer : Room := { frames := 0, cells := 0, slots := 0, locals := 0 }
theorem kX6_knownPeer : Cond.code yX6_knownPeer prog_1_method_24_code 4 (Option.some (.object "XorOverlay$Peer")) ∈ tw_T ∧ Cond.instanceMethod yX6_knownPeer ∈ tw_T ∧ Cond.selects "XorOverlay" yX6_knownPeer yX6_knownPeer ∈ tw_T ∧ Cond.initialized "XorOverlay" ∈ tw_T := ⟨(tw_1 72 rfl rfl), (tw_1 71 rfl rfl), (tw_s 1 rfl rfl), (tw_1 1 rfl rfl)⟩
theorem hX6_knownPeer : yX6_knownPeer.cls = "XorOverlay" ∧ yX6_knownPeer.cls ≠ "java/lang/invoke/MethodHandle" ∧ yX6_knownPeer.cls ≠ "java/lang/invoke/VarHandle" ∧ (parseMethodDescriptor yX6_knownPeer.desc).map (fun d => d.parameters.length) = some 1 := by decide +kernel
theorem dX6_knownPeer_0 : decode prog_1_method_24_code 0 = .ok (.iconst 0, 1) := by decide +kernel
theorem dX6_knownPeer_1 : decode prog_1_method_24_code 1 = .ok (.istore_n 2, 1) := by decide +kernel
theorem dX6_knownPeer_2 : decode prog_1_method_24_code 2 = .ok (.iload_n 2, 1) := by decide +kernel
theorem dX6_knownPeer_3 : decode prog_1_method_24_code 3 = .ok (.aload_n 0, 1) := by decide +kernel
theorem dX6_knownPeer_4 : decode prog_1_method_24_code 4 = .ok (.getfield 29, 3) := by decide +kernel
theorem dX6_knownPeer_7 : decode prog_1_method_24_code 7 = .ok (.if_icmp .ge 30, 3) := by decide +kernel
theorem dX6_knownPeer_10 : decode prog_1_method_24_code 10 = .ok (.aload_n 0, 1) := by decide +kernel
theorem dX6_knownPeer_11 : decode prog_1_method_24_code 11 = .ok (.getfield 11, 3) := by decide +kernel
theorem dX6_knownPeer_14 : decode prog_1_method_24_code 14 = .ok (.iload_n 2, 1) := by decide +kernel
theorem dX6_knownPeer_15 : decode prog_1_method_24_code 15 = .ok (.aaload, 1) := by decide +kernel
theorem dX6_knownPeer_16 : decode prog_1_method_24_code 16 = .ok (.astore_n 3, 1) := by decide +kernel
theorem dX6_knownPeer_17 : decode prog_1_method_24_code 17 = .ok (.aload_n 3, 1) := by decide +kernel
theorem dX6_knownPeer_18 : decode prog_1_method_24_code 18 = .ok (.ifnull 13, 3) := by decide +kernel
theorem dX6_knownPeer_21 : decode prog_1_method_24_code 21 = .ok (.aload_n 3, 1) := by decide +kernel
theorem dX6_knownPeer_22 : decode prog_1_method_24_code 22 = .ok (.getfield 180, 3) := by decide +kernel
theorem dX6_knownPeer_25 : decode prog_1_method_24_code 25 = .ok (.iload_n 1, 1) := by decide +kernel
theorem dX6_knownPeer_26 : decode prog_1_method_24_code 26 = .ok (.if_icmp .ne 5, 3) := by decide +kernel
theorem dX6_knownPeer_29 : decode prog_1_method_24_code 29 = .ok (.aload_n 3, 1) := by decide +kernel
theorem dX6_knownPeer_30 : decode prog_1_method_24_code 30 = .ok (.areturn, 1) := by decide +kernel
theorem dX6_knownPeer_31 : decode prog_1_method_24_code 31 = .ok (.iinc 2 1, 3) := by decide +kernel
theorem dX6_knownPeer_34 : decode prog_1_method_24_code 34 = .ok (.goto (-32), 3) := by decide +kernel
theorem dX6_knownPeer_37 : decode prog_1_method_24_code 37 = .ok (.aconst_null, 1) := by decide +kernel
theorem dX6_knownPeer_38 : decode prog_1_method_24_code 38 = .ok (.areturn, 1) := by decide +kernel
def pX6_knownPeer_2_b (N a0 : Nat) (kb : mm_M → Int32 → Int32 → Option (mm_M × Option Nat)) (kx : mm_M → Option (mm_M × Option Nat)) (G : mm_M) (x1 : Int32) (x2 : Int32) : Option (mm_M × Option Nat) :=
  q_gI G a0 7 4 fun v4_1 =>
  if v4_1 ≤ x2 then
    kx G
  else
    q_gR G a0 7 0 fun r11_2 =>
    q_nn r11_2 fun b15_3 =>
    q_aR G b15_3 103 x2 fun r15_4 =>
    q_op r15_4 (
      kb G x1 (x2 + (1 : Int32))) fun b18_5 =>
    q_gI G b18_5 5 0 fun v22_6 =>
    if v22_6 = x1 then
      some (G, (some b18_5))
    else
      kb G x1 (x2 + (1 : Int32))
def pX6_knownPeer_2 (N a0 : Nat) (kx : mm_M → Option (mm_M × Option Nat)) : Nat → mm_M → Int32 → Int32 → Option (mm_M × Option Nat)
  | 0 => fun _ _ _ => none
  | n + 1 => pX6_knownPeer_2_b N a0 (pX6_knownPeer_2 N a0 kx n) kx
set_option maxRecDepth 100000 in
set_option maxHeartbeats 4000000 in
theorem bX6_knownPeer_2 {p : Program} {l : Launch} {e : Env} {s : State} {m : MethodId} {args : Array Value} {below : List Frame} {meth : Method} {c : Code} {E : mm_E} {N a0 : Nat} {res : mm_M × Option Nat} (X : mm_X p s m args meth c prog_1_method_24_code 4 "XorOverlay" tw_T E) (hr : meth.sig.returnType = (Option.some (.object "XorOverlay$Peer"))) {kx : mm_M → Option (mm_M × Option Nat)} (hkx : ∀ (G : mm_M) (H : Heap) (locs : List Loc) (ls : Array Slot), mm_V E s G H locs → lx_has ls 4 [(0, .inr (some a0))] → kx G = some res → W p l e rX6_knownPeer s m args below meth c H locs 0 0 (MQ below (mm_Qq E res.1 res.2) args s 0 0 (mm_A E)) (F0 m 37 ls [])) :
    ∀ (n : Nat) (G : mm_M) (H : Heap) (locs : List Loc) (ls : Array Slot) (x1 : Int32) (x2 : Int32), mm_V E s G H locs → lx_has ls 4 [(0, .inr (some a0)), (1, .inl x1), (2, .inl x2)] → pX6_knownPeer_2 N a0 kx n G x1 x2 = some res → W p l e rX6_knownPeer s m args below meth c H locs 0 0 (MQ below (mm_Qq E res.1 res.2) args s 0 0 (mm_A E)) (F0 m 2 ls []) := by
  have hx := X.1.1
  have hb := X.1.2.1
  intro n
  induction n with
  | zero =>
    intro G H locs ls x1 x2 V hl hp
    cases hp
  | succ n ih =>
    intro G H locs ls x1 x2 V hl hp
    have hp : pX6_knownPeer_2_b N a0 (pX6_knownPeer_2 N a0 kx n) kx G x1 x2 = some res := hp
    unfold pX6_knownPeer_2_b at hp
    refine x_iload_n X dX6_knownPeer_2 hl 2 rfl rfl ?_
    refine x_aload_n X dX6_knownPeer_3 hl 0 rfl rfl ?_
    refine q_getI (ci := 6) X V inX6 rfl (by decide) rfl 4 (by decide) rfl (tw_1 40 rfl rfl) rfl dX6_knownPeer_4 hp (fun v4_1 hp => ?_)
    refine q_if hp (lv_icmp_ge (tgt := 37) hx hb dX6_knownPeer_7 (by decide)) (fun hp => ?_) (fun hp => ?_)
    · exact hkx _ _ _ _ V (lx_sub hl [0] rfl) hp
    · refine x_aload_n X dX6_knownPeer_10 hl 0 rfl rfl ?_
      refine q_getR (ci := 6) X V inX6 rfl (by decide) rfl 0 (by decide) rfl (tw_1 36 rfl rfl) rfl dX6_knownPeer_11 hp (fun r11_2 hp => ?_)
      refine x_iload_n X dX6_knownPeer_14 hl 2 rfl rfl ?_
      obtain ⟨b15_3, e0, hp2⟩ := q_nn_of hp
      clear hp; subst e0; have hp := hp2; clear hp2
      refine q_aldP X V dX6_knownPeer_15 hp (fun r15_4 hp => ?_)
      refine x_astore_n (lst' := [(3, .inr r15_4), (0, .inr (some a0)), (1, .inl x1), (2, .inl x2)]) X dX6_knownPeer_16 hl rfl (by decide) rfl (fun ls hl => ?_)
      refine x_aload_n X dX6_knownPeer_17 hl 0 rfl rfl ?_
      refine q_ifnull (tgt := 31) X dX6_knownPeer_18 (by decide) hp (fun e0 hp2 => ?_) (fun b18_5 e0 hp2 => ?_)
      · clear hp; subst e0; have hp := hp2; clear hp2
        refine x_iinc (v := (1 : Int32)) (lst' := [(2, .inl (x2 + (1 : Int32))), (3, .inr none), (0, .inr (some a0)), (1, .inl x1)]) X dX6_knownPeer_31 hl 3 rfl (by decide) (by decide) rfl (fun ls hl => ?_)
        refine lv_goto (tgt := 2) hx hb dX6_knownPeer_34 (by decide) ?_
        exact ih _ _ _ _ _ _ V (lx_sub hl [2, 3, 0] rfl) hp
      · clear hp; subst e0; have hp := hp2; clear hp2
        refine x_aload_n X dX6_knownPeer_21 hl 0 rfl rfl ?_
        refine q_getI (ci := 4) X V inX4 rfl (by decide) rfl 0 (by decide) rfl (tw_1 213 rfl rfl) rfl dX6_knownPeer_22 hp (fun v22_6 hp => ?_)
        refine x_iload_n X dX6_knownPeer_25 hl 2 rfl rfl ?_
        refine q_ifn hp (lv_icmp_ne (tgt := 31) hx hb dX6_knownPeer_26 (by decide)) (fun hp => ?_) (fun hp => ?_)
        · refine x_iinc (v := (1 : Int32)) (lst' := [(2, .inl (x2 + (1 : Int32))), (3, .inr (some b18_5)), (0, .inr (some a0)), (1, .inl x1)]) X dX6_knownPeer_31 hl 3 rfl (by decide) (by decide) rfl (fun ls hl => ?_)
          refine lv_goto (tgt := 2) hx hb dX6_knownPeer_34 (by decide) ?_
          exact ih _ _ _ _ _ _ V (lx_sub hl [2, 3, 0] rfl) hp
        · refine x_aload_n X dX6_knownPeer_29 hl 0 rfl rfl ?_
          exact q_aret X V hr ⟨by decide, by decide⟩ dX6_knownPeer_30 hp
def pX6_knownPeer_0 (N a0 : Nat) (G : mm_M) (x1 : Int32) : Option (mm_M × Option Nat) :=
  pX6_knownPeer_2 N a0 (fun (G : mm_M) =>
    some (G, none)) N G x1 (0 : Int32)
set_option maxRecDepth 100000 in
set_option maxHeartbeats 4000000 in
theorem bX6_knownPeer_0 {p : Program} {l : Launch} {e : Env} {s : State} {m : MethodId} {args : Array Value} {below : List Frame} {meth : Method} {c : Code} {E : mm_E} {N a0 : Nat} {res : mm_M × Option Nat} (X : mm_X p s m args meth c prog_1_method_24_code 4 "XorOverlay" tw_T E) (hr : meth.sig.returnType = (Option.some (.object "XorOverlay$Peer"))) {G : mm_M} {H : Heap} {locs : List Loc} {ls : Array Slot} {x1 : Int32} (V : mm_V E s G H locs) (hl : lx_has ls 4 [(0, .inr (some a0)), (1, .inl x1)]) (hp : pX6_knownPeer_0 N a0 G x1 = some res) : W p l e rX6_knownPeer s m args below meth c H locs 0 0 (MQ below (mm_Qq E res.1 res.2) args s 0 0 (mm_A E)) (F0 m 0 ls []) := by
  have hx := X.1.1
  have hb := X.1.2.1
  unfold pX6_knownPeer_0 at hp
  refine lv_iconst (v := (0 : Int32)) hx hb dX6_knownPeer_0 (by decide) ?_
  refine x_istore_n (lst' := [(2, .inl (0 : Int32)), (0, .inr (some a0)), (1, .inl x1)]) X dX6_knownPeer_1 hl rfl (by decide) rfl (fun ls hl => ?_)
  refine bX6_knownPeer_2 X hr (fun G H locs ls V hl hp => ?_) _ _ _ _ _ _ _ V (lx_sub hl [1, 2, 0] rfl) hp
  refine lv_null hx hb dX6_knownPeer_37 ?_
  refine W.eq (g2 := F0 m 38 _ (va_rf none :: [])) rfl ?_
  exact q_aret X V hr ⟨by decide, by decide⟩ dX6_knownPeer_38 hp
theorem cX6_knownPeer (l : Launch) (E : mm_E) {N a0 : Nat} {G : mm_M} {x1 : Int32} {res : mm_M × Option Nat} (hp : pX6_knownPeer_0 N a0 G x1 = some res) : Met l yX6_knownPeer (Cond.code yX6_knownPeer prog_1_method_24_code 4 (Option.some (.object "XorOverlay$Peer")) :: tw_T) rX6_knownPeer (mm_Pc E G [.ref a0, .int x1]) (mm_Qq E res.1 res.2) 0 0 (mm_A E) :=
  mm_met (own := "XorOverlay") E G [.inr (some a0), .inl x1] (by decide) rfl rfl (Nat.le_of_ble_eq_true rfl) (fun p e s m args below meth c ls X hr hi V hl => bX6_knownPeer_0 X hr V hl hp)
abbrev yX6_upPeer : MethodName := ⟨"XorOverlay", "upPeer", "(I)LXorOverlay$Peer;"⟩
abbrev rX6_upPeer : Room := { frames := 1, cells := 0, slots := 0, locals := 23 }
theorem kX6_upPeer : Cond.code yX6_upPeer prog_1_method_23_code 3 (Option.some (.object "XorOverlay$Peer")) ∈ tw_T ∧ Cond.instanceMethod yX6_upPeer ∈ tw_T ∧ Cond.selects "XorOverlay" yX6_upPeer yX6_upPeer ∈ tw_T ∧ Cond.initialized "XorOverlay" ∈ tw_T := ⟨(tw_1 68 rfl rfl), (tw_1 67 rfl rfl), (tw_s 0 rfl rfl), (tw_1 1 rfl rfl)⟩
theorem hX6_upPeer : yX6_upPeer.cls = "XorOverlay" ∧ yX6_upPeer.cls ≠ "java/lang/invoke/MethodHandle" ∧ yX6_upPeer.cls ≠ "java/lang/invoke/VarHandle" ∧ (parseMethodDescriptor yX6_upPeer.desc).map (fun d => d.parameters.length) = some 1 := by decide +kernel
theorem dX6_upPeer_0 : decode prog_1_method_23_code 0 = .ok (.aload_n 0, 1) := by decide +kernel
theorem dX6_upPeer_1 : decode prog_1_method_23_code 1 = .ok (.iload_n 1, 1) := by decide +kernel
theorem dX6_upPeer_2 : decode prog_1_method_23_code 2 = .ok (.invokevirtual 177, 3) := by decide +kernel
theorem dX6_upPeer_5 : decode prog_1_method_23_code 5 = .ok (.astore_n 2, 1) := by decide +kernel
theorem dX6_upPeer_6 : decode prog_1_method_23_code 6 = .ok (.aload_n 2, 1) := by decide +kernel
theorem dX6_upPeer_7 : decode prog_1_method_23_code 7 = .ok (.ifnull 14, 3) := by decide +kernel
theorem dX6_upPeer_10 : decode prog_1_method_23_code 10 = .ok (.aload_n 2, 1) := by decide +kernel
theorem dX6_upPeer_11 : decode prog_1_method_23_code 11 = .ok (.getfield 68, 3) := by decide +kernel
theorem dX6_upPeer_14 : decode prog_1_method_23_code 14 = .ok (.ifCond .eq 7, 3) := by decide +kernel
theorem dX6_upPeer_17 : decode prog_1_method_23_code 17 = .ok (.aload_n 2, 1) := by decide +kernel
theorem dX6_upPeer_18 : decode prog_1_method_23_code 18 = .ok (.goto 4, 3) := by decide +kernel
theorem dX6_upPeer_21 : decode prog_1_method_23_code 21 = .ok (.aconst_null, 1) := by decide +kernel
theorem dX6_upPeer_22 : decode prog_1_method_23_code 22 = .ok (.areturn, 1) := by decide +kernel
def pX6_upPeer_0 (N a0 : Nat) (G : mm_M) (x1 : Int32) : Option (mm_M × Option Nat) :=
  q_is G a0 7 <|
  q_cl (pX6_knownPeer_0 N a0 G x1) fun G r2_2 =>
  q_op r2_2 (
    some (G, none)) fun b7_3 =>
  q_gI G b7_3 5 4 fun v11_4 =>
  if v11_4 = 0 then
    some (G, none)
  else
    some (G, (some b7_3))
set_option maxRecDepth 100000 in
set_option maxHeartbeats 4000000 in
theorem bX6_upPeer_0 {p : Program} {l : Launch} {e : Env} {s : State} {m : MethodId} {args : Array Value} {below : List Frame} {meth : Method} {c : Code} {E : mm_E} {N a0 : Nat} {res : mm_M × Option Nat} (X : mm_X p s m args meth c prog_1_method_23_code 3 "XorOverlay" tw_T E) (hr : meth.sig.returnType = (Option.some (.object "XorOverlay$Peer"))) {G : mm_M} {H : Heap} {locs : List Loc} {ls : Array Slot} {x1 : Int32} (V : mm_V E s G H locs) (hl : lx_has ls 3 [(0, .inr (some a0)), (1, .inl x1)]) (hp : pX6_upPeer_0 N a0 G x1 = some res) : W p l e rX6_upPeer s m args below meth c H locs 0 0 (MQ below (mm_Qq E res.1 res.2) args s 0 0 (mm_A E)) (F0 m 0 ls []) := by
  have hx := X.1.1
  have hb := X.1.2.1
  unfold pX6_upPeer_0 at hp
  refine x_aload_n X dX6_upPeer_0 hl 0 rfl rfl ?_
  refine x_iload_n X dX6_upPeer_1 hl 1 rfl rfl ?_
  obtain ⟨hk, hp⟩ := q_is_of hp
  obtain ⟨⟨G, r2_2⟩, hq, hp⟩ := q_cl_of hp
  dsimp only at hp
  refine q_goq (cells' := 0) (slots' := 0) (va_runV (As := [.int x1]) (rest := []) X.1 (cX6_knownPeer l E hq) (tw_cwV 1 X.1.2.2.2.2 (tw_1 69 rfl rfl) kX6_knownPeer.2.1 kX6_knownPeer.2.2.1 kX6_knownPeer.2.2.2 kX6_knownPeer.1 rfl rfl hX6_knownPeer ⟨Nat.le_of_ble_eq_true rfl, Nat.le_of_ble_eq_true rfl⟩) (mm_preV X V rfl (by decide) rfl hk) rfl rfl hl.1 rfl (lv_room (Nat.le_of_ble_eq_true rfl)) dX6_upPeer_2 ⟨by decide, by decide⟩) V ⟨rfl, rfl⟩ (fun H locs V => ?_)
  refine x_astore_n (lst' := [(2, .inr r2_2), (0, .inr (some a0)), (1, .inl x1)]) X dX6_upPeer_5 hl rfl (by decide) rfl (fun ls hl => ?_)
  refine x_aload_n X dX6_upPeer_6 hl 0 rfl rfl ?_
  refine q_ifnull (tgt := 21) X dX6_upPeer_7 (by decide) hp (fun e0 hp2 => ?_) (fun b7_3 e0 hp2 => ?_)
  · clear hp; subst e0; have hp := hp2; clear hp2
    refine lv_null hx hb dX6_upPeer_21 ?_
    refine W.eq (g2 := F0 m 22 _ (va_rf none :: [])) rfl ?_
    exact q_aret X V hr ⟨by decide, by decide⟩ dX6_upPeer_22 hp
  · clear hp; subst e0; have hp := hp2; clear hp2
    refine x_aload_n X dX6_upPeer_10 hl 0 rfl rfl ?_
    refine q_getI (ci := 4) X V inX4 rfl (by decide) rfl 4 (by decide) rfl (tw_1 221 rfl rfl) rfl dX6_upPeer_11 hp (fun v11_4 hp => ?_)
    refine q_if hp (lv_if_eq (tgt := 21) hx hb dX6_upPeer_14 (by decide)) (fun hp => ?_) (fun hp => ?_)
    · refine lv_null hx hb dX6_upPeer_21 ?_
      refine W.eq (g2 := F0 m 22 _ (va_rf none :: [])) rfl ?_
      exact q_aret X V hr ⟨by decide, by decide⟩ dX6_upPeer_22 hp
    · refine x_aload_n X dX6_upPeer_17 hl 0 rfl rfl ?_
      refine lv_goto (tgt := 22) hx hb dX6_upPeer_18 (by decide) ?_
      exact q_aret X V hr ⟨by decide, by decide⟩ dX6_upPeer_22 hp
theorem cX6_upPeer (l : Launch) (E : mm_E) {N a0 : Nat} {G : mm_M} {x1 : Int32} {res : mm_M × Option Nat} (hp : pX6_upPeer_0 N a0 G x1 = some res) : Met l yX6_upPeer (Cond.code yX6_upPeer prog_1_method_23_code 3 (Option.some (.object "XorOverlay$Peer")) :: tw_T) rX6_upPeer (mm_Pc E G [.ref a0, .int x1]) (mm_Qq E res.1 res.2) 0 0 (mm_A E) :=
  mm_met (own := "XorOverlay") E G [.inr (some a0), .inl x1] (by decide) rfl rfl (Nat.le_of_ble_eq_true rfl) (fun p e s m args below meth c ls X hr hi V hl => bX6_upPeer_0 X hr V hl hp)
abbrev yX0_init : MethodName := ⟨"XorOverlay$Bucket", "<init>", "()V"⟩
abbrev rX0_init : Room := { frames := 1, cells := 2, slots := 6, locals := 30 }
theorem kX0_init : Cond.code yX0_init prog_2_method_1_code 1 none ∈ tw_T ∧ Cond.instanceMethod yX0_init ∈ tw_T ∧ Cond.initialized "XorOverlay$Bucket" ∈ tw_T := ⟨(tw_1 93 rfl rfl), (tw_1 92 rfl rfl), (tw_1 6 rfl rfl)⟩
theorem hX0_init : yX0_init.cls = "XorOverlay$Bucket" ∧ yX0_init.cls ≠ "java/lang/invoke/MethodHandle" ∧ yX0_init.cls ≠ "java/lang/invoke/VarHandle" ∧ (parseMethodDescriptor yX0_init.desc).map (fun d => d.parameters.length) = some 0 := by decide +kernel
theorem dX0_init_0 : decode prog_2_method_1_code 0 = .ok (.aload_n 0, 1) := by decide +kernel
theorem dX0_init_1 : decode prog_2_method_1_code 1 = .ok (.invokespecial 3, 3) := by decide +kernel
theorem dX0_init_4 : decode prog_2_method_1_code 4 = .ok (.aload_n 0, 1) := by decide +kernel
theorem dX0_init_5 : decode prog_2_method_1_code 5 = .ok (.iconst 3, 1) := by decide +kernel
theorem dX0_init_6 : decode prog_2_method_1_code 6 = .ok (.newarray .int, 2) := by decide +kernel
theorem dX0_init_8 : decode prog_2_method_1_code 8 = .ok (.putfield 11, 3) := by decide +kernel
theorem dX0_init_11 : decode prog_2_method_1_code 11 = .ok (.aload_n 0, 1) := by decide +kernel
theorem dX0_init_12 : decode prog_2_method_1_code 12 = .ok (.iconst 3, 1) := by decide +kernel
theorem dX0_init_13 : decode prog_2_method_1_code 13 = .ok (.newarray .int, 2) := by decide +kernel
theorem dX0_init_15 : decode prog_2_method_1_code 15 = .ok (.putfield 15, 3) := by decide +kernel
theorem dX0_init_18 : decode prog_2_method_1_code 18 = .ok (.aload_n 0, 1) := by decide +kernel
theorem dX0_init_19 : decode prog_2_method_1_code 19 = .ok (.iconst 0, 1) := by decide +kernel
theorem dX0_init_20 : decode prog_2_method_1_code 20 = .ok (.putfield 18, 3) := by decide +kernel
theorem dX0_init_23 : decode prog_2_method_1_code 23 = .ok (.aload_n 0, 1) := by decide +kernel
theorem dX0_init_24 : decode prog_2_method_1_code 24 = .ok (.iconst 0, 1) := by decide +kernel
theorem dX0_init_25 : decode prog_2_method_1_code 25 = .ok (.putfield 22, 3) := by decide +kernel
theorem dX0_init_28 : decode prog_2_method_1_code 28 = .ok (.aload_n 0, 1) := by decide +kernel
theorem dX0_init_29 : decode prog_2_method_1_code 29 = .ok (.iconst 0, 1) := by decide +kernel
theorem dX0_init_30 : decode prog_2_method_1_code 30 = .ok (.putfield 25, 3) := by decide +kernel
theorem dX0_init_33 : decode prog_2_method_1_code 33 = .ok (.aload_n 0, 1) := by decide +kernel
theorem dX0_init_34 : decode prog_2_method_1_code 34 = .ok (.iconst 0, 1) := by decide +kernel
theorem dX0_init_35 : decode prog_2_method_1_code 35 = .ok (.putfield 28, 3) := by decide +kernel
theorem dX0_init_38 : decode prog_2_method_1_code 38 = .ok (.return_, 1) := by decide +kernel
def pX0_init_0 (N a0 : Nat) (G : mm_M) : Option (mm_M × Unit) :=
  q_arr G 101 3 fun G b6_1 =>
  q_pR G a0 1 0 (some b6_1) fun G =>
  q_arr G 101 3 fun G b13_2 =>
  q_pR G a0 1 1 (some b13_2) fun G =>
  q_pI G a0 1 2 (0 : Int32) fun G =>
  q_pI G a0 1 3 (0 : Int32) fun G =>
  q_pI G a0 1 4 (0 : Int32) fun G =>
  q_pI G a0 1 5 (0 : Int32) fun G =>
  some (G, ())
set_option maxRecDepth 100000 in
set_option maxHeartbeats 4000000 in
theorem bX0_init_0 {p : Program} {l : Launch} {e : Env} {s : State} {m : MethodId} {args : Array Value} {below : List Frame} {meth : Method} {c : Code} {E : mm_E} {N a0 : Nat} {res : mm_M × Unit} (X : mm_X p s m args meth c prog_2_method_1_code 1 "XorOverlay$Bucket" tw_T E) (hr : meth.sig.returnType = none) (hi : meth.name = "<init>") {G : mm_M} {H : Heap} {locs : List Loc} {ls : Array Slot} (V : mm_V E s G H locs) (hl : lx_has ls 1 [(0, .inr (some a0))]) (hp : pX0_init_0 N a0 G = some res) : W p l e rX0_init s m args below meth c H locs 0 0 (MQ below (mm_Qv E res.1) args s 2 6 (mm_A E)) (F0 m 0 ls []) := by
  have hx := X.1.1
  have hb := X.1.2.1
  unfold pX0_init_0 at hp
  refine x_aload_n X dX0_init_0 hl 0 rfl rfl ?_
  refine W.objInit hx hb X.1.2.2.2.1 (X.1.2.2.2.2 _ (tw_1 94 rfl rfl)) (X.1.2.2.2.2 _ (tw_1 17 rfl rfl)) (X.1.2.2.2.2 _ (tw_1 18 rfl rfl)) rfl (by rw [X.1.2.2.1]; exact hl.1) rfl dX0_init_1 (by decide) (Nat.le_of_ble_eq_true rfl) ?_
  refine W.eq (g2 := F0 m 4 ls ([])) rfl ?_
  refine x_aload_n X dX0_init_4 hl 0 rfl rfl ?_
  refine lv_iconst (v := (3 : Int32)) hx hb dX0_init_5 (by decide) ?_
  refine q_arrI (N := 3) X V (tw_1 35 rfl rfl) (by decide) (by decide) (by decide) (by decide) (by decide) rfl dX0_init_6 hp (fun G b6_1 H V hp => ?_)
  refine W.cs (cells' := 1) (slots' := 3) rfl rfl ?_
  refine q_putR (ci := 0) X V inX0 rfl tyX0 tyX0_ok nmX0 (by decide) rfl 0 (by decide) rfl (tw_1 95 rfl rfl) rfl (Or.inr ⟨rfl, hi, rfl⟩) (.array .int) rfl (va_rf_narrowA _ _) (va_rf_fitsA _ _) dX0_init_8 hp (fun G H locs V hp => ?_)
  refine x_aload_n X dX0_init_11 hl 0 rfl rfl ?_
  refine lv_iconst (v := (3 : Int32)) hx hb dX0_init_12 (by decide) ?_
  refine q_arrI (N := 3) X V (tw_1 35 rfl rfl) (by decide) (by decide) (by decide) (by decide) (by decide) rfl dX0_init_13 hp (fun G b13_2 H V hp => ?_)
  refine W.cs (cells' := 2) (slots' := 6) rfl rfl ?_
  refine q_putR (ci := 0) X V inX0 rfl tyX0 tyX0_ok nmX0 (by decide) rfl 1 (by decide) rfl (tw_1 98 rfl rfl) rfl (Or.inr ⟨rfl, hi, rfl⟩) (.array .int) rfl (va_rf_narrowA _ _) (va_rf_fitsA _ _) dX0_init_15 hp (fun G H locs V hp => ?_)
  refine x_aload_n X dX0_init_18 hl 0 rfl rfl ?_
  refine lv_iconst (v := (0 : Int32)) hx hb dX0_init_19 (by decide) ?_
  refine q_putI (ci := 0) X V inX0 rfl tyX0 tyX0_ok nmX0 (by decide) rfl 2 (by decide) rfl (tw_1 101 rfl rfl) rfl (Or.inl rfl) .int rfl rfl rfl dX0_init_20 hp (fun G H locs V hp => ?_)
  refine x_aload_n X dX0_init_23 hl 0 rfl rfl ?_
  refine lv_iconst (v := (0 : Int32)) hx hb dX0_init_24 (by decide) ?_
  refine q_putI (ci := 0) X V inX0 rfl tyX0 tyX0_ok nmX0 (by decide) rfl 3 (by decide) rfl (tw_1 104 rfl rfl) rfl (Or.inl rfl) .int rfl rfl rfl dX0_init_25 hp (fun G H locs V hp => ?_)
  refine x_aload_n X dX0_init_28 hl 0 rfl rfl ?_
  refine lv_iconst (v := (0 : Int32)) hx hb dX0_init_29 (by decide) ?_
  refine q_putI (ci := 0) X V inX0 rfl tyX0 tyX0_ok nmX0 (by decide) rfl 4 (by decide) rfl (tw_1 106 rfl rfl) rfl (Or.inl rfl) .int rfl rfl rfl dX0_init_30 hp (fun G H locs V hp => ?_)
  refine x_aload_n X dX0_init_33 hl 0 rfl rfl ?_
  refine lv_iconst (v := (0 : Int32)) hx hb dX0_init_34 (by decide) ?_
  refine q_putI (ci := 0) X V inX0 rfl tyX0 tyX0_ok nmX0 (by decide) rfl 5 (by decide) rfl (tw_1 109 rfl rfl) rfl (Or.inl rfl) .int rfl rfl rfl dX0_init_35 hp (fun G H locs V hp => ?_)
  exact q_vret X V hr ⟨by decide, by decide⟩ dX0_init_38 hp
theorem cX0_init (l : Launch) (E : mm_E) {N a0 : Nat} {G : mm_M} {res : mm_M × Unit} (hp : pX0_init_0 N a0 G = some res) : Met l yX0_init (Cond.code yX0_init prog_2_method_1_code 1 none :: tw_T) rX0_init (mm_Pc E G [.ref a0]) (mm_Qv E res.1) 2 6 (mm_A E) :=
  mm_met (own := "XorOverlay$Bucket") E G [.inr (some a0)] (by decide) rfl rfl (Nat.le_of_ble_eq_true rfl) (fun p e s m args below meth c ls X hr hi V hl => bX0_init_0 X hr hi V hl hp)
abbrev yX5_init : MethodName := ⟨"XorOverlay$Table", "<init>", "(I)V"⟩
abbrev rX5_init : Room := { frames := 2, cells := 31, slots := 129, locals := 50 }
theorem kX5_init : Cond.code yX5_init prog_7_method_1_code 3 none ∈ tw_T ∧ Cond.instanceMethod yX5_init ∈ tw_T ∧ Cond.initialized "XorOverlay$Table" ∈ tw_T := ⟨(tw_1 86 rfl rfl), (tw_1 85 rfl rfl), (tw_1 5 rfl rfl)⟩
theorem hX5_init : yX5_init.cls = "XorOverlay$Table" ∧ yX5_init.cls ≠ "java/lang/invoke/MethodHandle" ∧ yX5_init.cls ≠ "java/lang/invoke/VarHandle" ∧ (parseMethodDescriptor yX5_init.desc).map (fun d => d.parameters.length) = some 1 := by decide +kernel
theorem dX5_init_0 : decode prog_7_method_1_code 0 = .ok (.aload_n 0, 1) := by decide +kernel
theorem dX5_init_1 : decode prog_7_method_1_code 1 = .ok (.invokespecial 3, 3) := by decide +kernel
theorem dX5_init_4 : decode prog_7_method_1_code 4 = .ok (.aload_n 0, 1) := by decide +kernel
theorem dX5_init_5 : decode prog_7_method_1_code 5 = .ok (.iload_n 1, 1) := by decide +kernel
theorem dX5_init_6 : decode prog_7_method_1_code 6 = .ok (.putfield 9, 3) := by decide +kernel
theorem dX5_init_9 : decode prog_7_method_1_code 9 = .ok (.aload_n 0, 1) := by decide +kernel
theorem dX5_init_10 : decode prog_7_method_1_code 10 = .ok (.bipush 9, 2) := by decide +kernel
theorem dX5_init_12 : decode prog_7_method_1_code 12 = .ok (.anewarray 15, 3) := by decide +kernel
theorem dX5_init_15 : decode prog_7_method_1_code 15 = .ok (.putfield 17, 3) := by decide +kernel
theorem dX5_init_18 : decode prog_7_method_1_code 18 = .ok (.iconst 0, 1) := by decide +kernel
theorem dX5_init_19 : decode prog_7_method_1_code 19 = .ok (.istore_n 2, 1) := by decide +kernel
theorem dX5_init_20 : decode prog_7_method_1_code 20 = .ok (.iload_n 2, 1) := by decide +kernel
theorem dX5_init_21 : decode prog_7_method_1_code 21 = .ok (.bipush 9, 2) := by decide +kernel
theorem dX5_init_23 : decode prog_7_method_1_code 23 = .ok (.if_icmp .ge 22, 3) := by decide +kernel
theorem dX5_init_26 : decode prog_7_method_1_code 26 = .ok (.aload_n 0, 1) := by decide +kernel
theorem dX5_init_27 : decode prog_7_method_1_code 27 = .ok (.getfield 17, 3) := by decide +kernel
theorem dX5_init_30 : decode prog_7_method_1_code 30 = .ok (.iload_n 2, 1) := by decide +kernel
theorem dX5_init_31 : decode prog_7_method_1_code 31 = .ok (.new 15, 3) := by decide +kernel
theorem dX5_init_34 : decode prog_7_method_1_code 34 = .ok (.dup, 1) := by decide +kernel
theorem dX5_init_35 : decode prog_7_method_1_code 35 = .ok (.invokespecial 21, 3) := by decide +kernel
theorem dX5_init_38 : decode prog_7_method_1_code 38 = .ok (.aastore, 1) := by decide +kernel
theorem dX5_init_39 : decode prog_7_method_1_code 39 = .ok (.iinc 2 1, 3) := by decide +kernel
theorem dX5_init_42 : decode prog_7_method_1_code 42 = .ok (.goto (-22), 3) := by decide +kernel
theorem dX5_init_45 : decode prog_7_method_1_code 45 = .ok (.aload_n 0, 1) := by decide +kernel
theorem dX5_init_46 : decode prog_7_method_1_code 46 = .ok (.iconst 0, 1) := by decide +kernel
theorem dX5_init_47 : decode prog_7_method_1_code 47 = .ok (.putfield 22, 3) := by decide +kernel
theorem dX5_init_50 : decode prog_7_method_1_code 50 = .ok (.return_, 1) := by decide +kernel
def pX5_init_20_b (N a0 : Nat) (kb : mm_M → Int32 → Option (mm_M × Unit)) (kx : mm_M → Option (mm_M × Unit)) (G : mm_M) (x2 : Int32) : Option (mm_M × Unit) :=
  if (9 : Int32) ≤ x2 then
    kx G
  else
    q_gR G a0 6 1 fun r27_2 =>
    q_new G 1 fun G b31_3 =>
    q_cl (pX0_init_0 N b31_3 G) fun G _ =>
    q_nn r27_2 fun b38_5 =>
    q_sR G b38_5 104 1 x2 (some b31_3) fun G =>
    kb G (x2 + (1 : Int32))
def pX5_init_20 (N a0 : Nat) (kx : mm_M → Option (mm_M × Unit)) : Nat → mm_M → Int32 → Option (mm_M × Unit)
  | 0 => fun _ _ => none
  | n + 1 => pX5_init_20_b N a0 (pX5_init_20 N a0 kx n) kx
set_option maxRecDepth 100000 in
set_option maxHeartbeats 4000000 in
theorem bX5_init_20 {p : Program} {l : Launch} {e : Env} {s : State} {m : MethodId} {args : Array Value} {below : List Frame} {meth : Method} {c : Code} {E : mm_E} {N a0 : Nat} {res : mm_M × Unit} (X : mm_X p s m args meth c prog_7_method_1_code 3 "XorOverlay$Table" tw_T E) (hr : meth.sig.returnType = none) (hi : meth.name = "<init>") {kx : mm_M → Option (mm_M × Unit)} (hkx : ∀ (G : mm_M) (H : Heap) (locs : List Loc) (ls : Array Slot), mm_V E s G H locs → lx_has ls 3 [(0, .inr (some a0))] → kx G = some res → W p l e rX5_init s m args below meth c H locs 31 129 (MQ below (mm_Qv E res.1) args s 31 129 (mm_A E)) (F0 m 45 ls [])) :
    ∀ (n : Nat) (cells slots : Nat), cells + 3 * n ≤ 31 → slots + 12 * n ≤ 129 → ∀ (G : mm_M) (H : Heap) (locs : List Loc) (ls : Array Slot) (x2 : Int32), mm_V E s G H locs → lx_has ls 3 [(0, .inr (some a0)), (2, .inl x2)] → pX5_init_20 N a0 kx n G x2 = some res → W p l e rX5_init s m args below meth c H locs cells slots (MQ below (mm_Qv E res.1) args s 31 129 (mm_A E)) (F0 m 20 ls []) := by
  have hx := X.1.1
  have hb := X.1.2.1
  intro n
  induction n with
  | zero =>
    intro cells slots hcells hslots G H locs ls x2 V hl hp
    cases hp
  | succ n ih =>
    intro cells slots hcells hslots G H locs ls x2 V hl hp
    have hp : pX5_init_20_b N a0 (pX5_init_20 N a0 kx n) kx G x2 = some res := hp
    unfold pX5_init_20_b at hp
    refine x_iload_n X dX5_init_20 hl 1 rfl rfl ?_
    refine lv_bipush (v := (9 : Int32)) hx hb dX5_init_21 (by decide) ?_
    refine q_if hp (lv_icmp_ge (tgt := 45) hx hb dX5_init_23 (by decide)) (fun hp => ?_) (fun hp => ?_)
    · refine W.widen (k := 31) (n := 129) (by omega) (by omega) ?_
      exact hkx _ _ _ _ V (lx_sub hl [0] rfl) hp
    · refine x_aload_n X dX5_init_26 hl 0 rfl rfl ?_
      refine q_getR (ci := 5) X V inX5 rfl (by decide) rfl 1 (by decide) rfl (tw_1 126 rfl rfl) rfl dX5_init_27 hp (fun r27_2 hp => ?_)
      refine x_iload_n X dX5_init_30 hl 1 rfl rfl ?_
      refine q_newc (ci := 0) X V inX0 rfl tyX0 tyX0_ok (by decide) rfl rfl dfX0 (tw_1 88 rfl rfl) (tw_1 90 rfl rfl) (tw_1 6 rfl rfl) (show cells + 1 ≤ 31 by omega) (show slots + 6 ≤ 129 by omega) dX5_init_31 hp (fun G b31_3 H V hp => ?_)
      refine lv_dup hx hb dX5_init_34 (va_rf_cat _) ?_
      obtain ⟨⟨G, u⟩, hq, hp⟩ := q_cl_of hp
      dsimp only at hp
      refine q_gov (cells' := cells + 1 + 2) (slots' := slots + 6 + 6) (va_runI (As := []) (rest := [va_rf (some b31_3), .int x2, va_rf r27_2]) X.1 (cX0_init l E hq) (tw_cwI 0 X.1.2.2.2.2 (tw_1 91 rfl rfl) kX0_init.2.1 kX0_init.2.2 kX0_init.1 rfl rfl rfl hX0_init ⟨Nat.le_of_ble_eq_true rfl, Nat.le_of_ble_eq_true rfl⟩) (mm_preS X V) rfl rfl hl.1 rfl (lv_room (by simp [va_rf_cat, va_int_cat])) dX5_init_35 ⟨show cells + 1 + 2 ≤ 31 by omega, show slots + 6 + 6 ≤ 129 by omega⟩) V ⟨rfl, rfl⟩ (fun H locs V => ?_)
      obtain ⟨b38_5, e0, hp2⟩ := q_nn_of hp
      clear hp; subst e0; have hp := hp2; clear hp2
      refine q_astB (ci := 0) X V rfl rfl (by decide) rfl dX5_init_38 hp (fun G H locs V hp => ?_)
      refine x_iinc (v := (1 : Int32)) (lst' := [(2, .inl (x2 + (1 : Int32))), (0, .inr (some a0))]) X dX5_init_39 hl 1 rfl (by decide) (by decide) rfl (fun ls hl => ?_)
      refine lv_goto (tgt := 20) hx hb dX5_init_42 (by decide) ?_
      exact ih _ _ (by omega) (by omega) _ _ _ _ _ V (lx_sub hl [1, 0] rfl) hp
def pX5_init_0 (N a0 : Nat) (G : mm_M) (x1 : Int32) : Option (mm_M × Unit) :=
  q_pI G a0 6 0 x1 fun G =>
  q_arr G 104 9 fun G b12_1 =>
  q_pR G a0 6 1 (some b12_1) fun G =>
  pX5_init_20 N a0 (fun (G : mm_M) =>
    q_pI G a0 6 2 (0 : Int32) fun G =>
    some (G, ())) 10 G (0 : Int32)
set_option maxRecDepth 100000 in
set_option maxHeartbeats 4000000 in
theorem bX5_init_0 {p : Program} {l : Launch} {e : Env} {s : State} {m : MethodId} {args : Array Value} {below : List Frame} {meth : Method} {c : Code} {E : mm_E} {N a0 : Nat} {res : mm_M × Unit} (X : mm_X p s m args meth c prog_7_method_1_code 3 "XorOverlay$Table" tw_T E) (hr : meth.sig.returnType = none) (hi : meth.name = "<init>") {G : mm_M} {H : Heap} {locs : List Loc} {ls : Array Slot} {x1 : Int32} (V : mm_V E s G H locs) (hl : lx_has ls 3 [(0, .inr (some a0)), (1, .inl x1)]) (hp : pX5_init_0 N a0 G x1 = some res) : W p l e rX5_init s m args below meth c H locs 0 0 (MQ below (mm_Qv E res.1) args s 31 129 (mm_A E)) (F0 m 0 ls []) := by
  have hx := X.1.1
  have hb := X.1.2.1
  unfold pX5_init_0 at hp
  refine x_aload_n X dX5_init_0 hl 0 rfl rfl ?_
  refine W.objInit hx hb X.1.2.2.2.1 (X.1.2.2.2.2 _ (tw_1 87 rfl rfl)) (X.1.2.2.2.2 _ (tw_1 17 rfl rfl)) (X.1.2.2.2.2 _ (tw_1 18 rfl rfl)) rfl (by rw [X.1.2.2.1]; exact hl.1) rfl dX5_init_1 (by decide) (Nat.le_of_ble_eq_true rfl) ?_
  refine W.eq (g2 := F0 m 4 ls ([])) rfl ?_
  refine x_aload_n X dX5_init_4 hl 0 rfl rfl ?_
  refine x_iload_n X dX5_init_5 hl 1 rfl rfl ?_
  refine q_putI (ci := 5) X V inX5 rfl tyX5 tyX5_ok nmX5 (by decide) rfl 0 (by decide) rfl (tw_1 125 rfl rfl) rfl (Or.inr ⟨rfl, hi, rfl⟩) .int rfl rfl rfl dX5_init_6 hp (fun G H locs V hp => ?_)
  refine x_aload_n X dX5_init_9 hl 0 rfl rfl ?_
  refine lv_bipush (v := (9 : Int32)) hx hb dX5_init_10 (by decide) ?_
  refine q_arrB (N := 9) X V rfl (tw_1 88 rfl rfl) X.2.2.2.2.2 (by decide) (by decide) (by decide) (by decide) (by decide) dX5_init_12 hp (fun G b12_1 H V hp => ?_)
  refine W.cs (cells' := 1) (slots' := 9) rfl rfl ?_
  refine q_putR (ci := 5) X V inX5 rfl tyX5 tyX5_ok nmX5 (by decide) rfl 1 (by decide) rfl (tw_1 126 rfl rfl) rfl (Or.inr ⟨rfl, hi, rfl⟩) (.array (.object "XorOverlay$Bucket")) rfl (va_rf_narrowA _ _) (va_rf_fitsA _ _) dX5_init_15 hp (fun G H locs V hp => ?_)
  refine lv_iconst (v := (0 : Int32)) hx hb dX5_init_18 (by decide) ?_
  refine x_istore_n (lst' := [(2, .inl (0 : Int32)), (0, .inr (some a0)), (1, .inl x1)]) X dX5_init_19 hl rfl (by decide) rfl (fun ls hl => ?_)
  refine bX5_init_20 X hr hi (fun G H locs ls V hl hp => ?_) 10 1 9 (by omega) (by omega) _ _ _ _ _ V (lx_sub hl [1, 0] rfl) hp
  refine x_aload_n X dX5_init_45 hl 0 rfl rfl ?_
  refine lv_iconst (v := (0 : Int32)) hx hb dX5_init_46 (by decide) ?_
  refine q_putI (ci := 5) X V inX5 rfl tyX5 tyX5_ok nmX5 (by decide) rfl 2 (by decide) rfl (tw_1 128 rfl rfl) rfl (Or.inl rfl) .int rfl rfl rfl dX5_init_47 hp (fun G H locs V hp => ?_)
  exact q_vret X V hr ⟨by decide, by decide⟩ dX5_init_50 hp
theorem cX5_init (l : Launch) (E : mm_E) {N a0 : Nat} {G : mm_M} {x1 : Int32} {res : mm_M × Unit} (hp : pX5_init_0 N a0 G x1 = some res) : Met l yX5_init (Cond.code yX5_init prog_7_method_1_code 3 none :: tw_T) rX5_init (mm_Pc E G [.ref a0, .int x1]) (mm_Qv E res.1) 31 129 (mm_A E) :=
  mm_met (own := "XorOverlay$Table") E G [.inr (some a0), .inl x1] (by decide) rfl rfl (Nat.le_of_ble_eq_true rfl) (fun p e s m args below meth c ls X hr hi V hl => bX5_init_0 X hr hi V hl hp)
abbrev yX3_init : MethodName := ⟨"XorOverlay$Lookup", "<init>", "()V"⟩
abbrev rX3_init : Room := { frames := 1, cells := 5, slots := 60, locals := 30 }
theorem kX3_init : Cond.code yX3_init prog_5_method_1_code 1 none ∈ tw_T ∧ Cond.instanceMethod yX3_init ∈ tw_T ∧ Cond.initialized "XorOverlay$Lookup" ∈ tw_T := ⟨(tw_1 141 rfl rfl), (tw_1 140 rfl rfl), (tw_1 7 rfl rfl)⟩
theorem hX3_init : yX3_init.cls = "XorOverlay$Lookup" ∧ yX3_init.cls ≠ "java/lang/invoke/MethodHandle" ∧ yX3_init.cls ≠ "java/lang/invoke/VarHandle" ∧ (parseMethodDescriptor yX3_init.desc).map (fun d => d.parameters.length) = some 0 := by decide +kernel
theorem dX3_init_0 : decode prog_5_method_1_code 0 = .ok (.aload_n 0, 1) := by decide +kernel
theorem dX3_init_1 : decode prog_5_method_1_code 1 = .ok (.invokespecial 3, 3) := by decide +kernel
theorem dX3_init_4 : decode prog_5_method_1_code 4 = .ok (.aload_n 0, 1) := by decide +kernel
theorem dX3_init_5 : decode prog_5_method_1_code 5 = .ok (.bipush 12, 2) := by decide +kernel
theorem dX3_init_7 : decode prog_5_method_1_code 7 = .ok (.newarray .int, 2) := by decide +kernel
theorem dX3_init_9 : decode prog_5_method_1_code 9 = .ok (.putfield 9, 3) := by decide +kernel
theorem dX3_init_12 : decode prog_5_method_1_code 12 = .ok (.aload_n 0, 1) := by decide +kernel
theorem dX3_init_13 : decode prog_5_method_1_code 13 = .ok (.bipush 12, 2) := by decide +kernel
theorem dX3_init_15 : decode prog_5_method_1_code 15 = .ok (.newarray .int, 2) := by decide +kernel
theorem dX3_init_17 : decode prog_5_method_1_code 17 = .ok (.putfield 15, 3) := by decide +kernel
theorem dX3_init_20 : decode prog_5_method_1_code 20 = .ok (.aload_n 0, 1) := by decide +kernel
theorem dX3_init_21 : decode prog_5_method_1_code 21 = .ok (.bipush 12, 2) := by decide +kernel
theorem dX3_init_23 : decode prog_5_method_1_code 23 = .ok (.newarray .int, 2) := by decide +kernel
theorem dX3_init_25 : decode prog_5_method_1_code 25 = .ok (.putfield 18, 3) := by decide +kernel
theorem dX3_init_28 : decode prog_5_method_1_code 28 = .ok (.aload_n 0, 1) := by decide +kernel
theorem dX3_init_29 : decode prog_5_method_1_code 29 = .ok (.bipush 12, 2) := by decide +kernel
theorem dX3_init_31 : decode prog_5_method_1_code 31 = .ok (.newarray .int, 2) := by decide +kernel
theorem dX3_init_33 : decode prog_5_method_1_code 33 = .ok (.putfield 21, 3) := by decide +kernel
theorem dX3_init_36 : decode prog_5_method_1_code 36 = .ok (.aload_n 0, 1) := by decide +kernel
theorem dX3_init_37 : decode prog_5_method_1_code 37 = .ok (.bipush 12, 2) := by decide +kernel
theorem dX3_init_39 : decode prog_5_method_1_code 39 = .ok (.newarray .int, 2) := by decide +kernel
theorem dX3_init_41 : decode prog_5_method_1_code 41 = .ok (.putfield 24, 3) := by decide +kernel
theorem dX3_init_44 : decode prog_5_method_1_code 44 = .ok (.aload_n 0, 1) := by decide +kernel
theorem dX3_init_45 : decode prog_5_method_1_code 45 = .ok (.iconst 0, 1) := by decide +kernel
theorem dX3_init_46 : decode prog_5_method_1_code 46 = .ok (.putfield 27, 3) := by decide +kernel
theorem dX3_init_49 : decode prog_5_method_1_code 49 = .ok (.aload_n 0, 1) := by decide +kernel
theorem dX3_init_50 : decode prog_5_method_1_code 50 = .ok (.iconst 0, 1) := by decide +kernel
theorem dX3_init_51 : decode prog_5_method_1_code 51 = .ok (.putfield 31, 3) := by decide +kernel
theorem dX3_init_54 : decode prog_5_method_1_code 54 = .ok (.aload_n 0, 1) := by decide +kernel
theorem dX3_init_55 : decode prog_5_method_1_code 55 = .ok (.iconst 0, 1) := by decide +kernel
theorem dX3_init_56 : decode prog_5_method_1_code 56 = .ok (.putfield 34, 3) := by decide +kernel
theorem dX3_init_59 : decode prog_5_method_1_code 59 = .ok (.return_, 1) := by decide +kernel
def pX3_init_0 (N a0 : Nat) (G : mm_M) : Option (mm_M × Unit) :=
  q_arr G 101 12 fun G b7_1 =>
  q_pR G a0 4 0 (some b7_1) fun G =>
  q_arr G 101 12 fun G b15_2 =>
  q_pR G a0 4 1 (some b15_2) fun G =>
  q_arr G 101 12 fun G b23_3 =>
  q_pR G a0 4 2 (some b23_3) fun G =>
  q_arr G 101 12 fun G b31_4 =>
  q_pR G a0 4 3 (some b31_4) fun G =>
  q_arr G 101 12 fun G b39_5 =>
  q_pR G a0 4 4 (some b39_5) fun G =>
  q_pI G a0 4 5 (0 : Int32) fun G =>
  q_pI G a0 4 9 (0 : Int32) fun G =>
  q_pI G a0 4 10 (0 : Int32) fun G =>
  some (G, ())
set_option maxRecDepth 100000 in
set_option maxHeartbeats 4000000 in
theorem bX3_init_0 {p : Program} {l : Launch} {e : Env} {s : State} {m : MethodId} {args : Array Value} {below : List Frame} {meth : Method} {c : Code} {E : mm_E} {N a0 : Nat} {res : mm_M × Unit} (X : mm_X p s m args meth c prog_5_method_1_code 1 "XorOverlay$Lookup" tw_T E) (hr : meth.sig.returnType = none) (hi : meth.name = "<init>") {G : mm_M} {H : Heap} {locs : List Loc} {ls : Array Slot} (V : mm_V E s G H locs) (hl : lx_has ls 1 [(0, .inr (some a0))]) (hp : pX3_init_0 N a0 G = some res) : W p l e rX3_init s m args below meth c H locs 0 0 (MQ below (mm_Qv E res.1) args s 5 60 (mm_A E)) (F0 m 0 ls []) := by
  have hx := X.1.1
  have hb := X.1.2.1
  unfold pX3_init_0 at hp
  refine x_aload_n X dX3_init_0 hl 0 rfl rfl ?_
  refine W.objInit hx hb X.1.2.2.2.1 (X.1.2.2.2.2 _ (tw_1 142 rfl rfl)) (X.1.2.2.2.2 _ (tw_1 17 rfl rfl)) (X.1.2.2.2.2 _ (tw_1 18 rfl rfl)) rfl (by rw [X.1.2.2.1]; exact hl.1) rfl dX3_init_1 (by decide) (Nat.le_of_ble_eq_true rfl) ?_
  refine W.eq (g2 := F0 m 4 ls ([])) rfl ?_
  refine x_aload_n X dX3_init_4 hl 0 rfl rfl ?_
  refine lv_bipush (v := (12 : Int32)) hx hb dX3_init_5 (by decide) ?_
  refine q_arrI (N := 12) X V (tw_1 35 rfl rfl) (by decide) (by decide) (by decide) (by decide) (by decide) rfl dX3_init_7 hp (fun G b7_1 H V hp => ?_)
  refine W.cs (cells' := 1) (slots' := 12) rfl rfl ?_
  refine q_putR (ci := 3) X V inX3 rfl tyX3 tyX3_ok nmX3 (by decide) rfl 0 (by decide) rfl (tw_1 143 rfl rfl) rfl (Or.inr ⟨rfl, hi, rfl⟩) (.array .int) rfl (va_rf_narrowA _ _) (va_rf_fitsA _ _) dX3_init_9 hp (fun G H locs V hp => ?_)
  refine x_aload_n X dX3_init_12 hl 0 rfl rfl ?_
  refine lv_bipush (v := (12 : Int32)) hx hb dX3_init_13 (by decide) ?_
  refine q_arrI (N := 12) X V (tw_1 35 rfl rfl) (by decide) (by decide) (by decide) (by decide) (by decide) rfl dX3_init_15 hp (fun G b15_2 H V hp => ?_)
  refine W.cs (cells' := 2) (slots' := 24) rfl rfl ?_
  refine q_putR (ci := 3) X V inX3 rfl tyX3 tyX3_ok nmX3 (by decide) rfl 1 (by decide) rfl (tw_1 145 rfl rfl) rfl (Or.inr ⟨rfl, hi, rfl⟩) (.array .int) rfl (va_rf_narrowA _ _) (va_rf_fitsA _ _) dX3_init_17 hp (fun G H locs V hp => ?_)
  refine x_aload_n X dX3_init_20 hl 0 rfl rfl ?_
  refine lv_bipush (v := (12 : Int32)) hx hb dX3_init_21 (by decide) ?_
  refine q_arrI (N := 12) X V (tw_1 35 rfl rfl) (by decide) (by decide) (by decide) (by decide) (by decide) rfl dX3_init_23 hp (fun G b23_3 H V hp => ?_)
  refine W.cs (cells' := 3) (slots' := 36) rfl rfl ?_
  refine q_putR (ci := 3) X V inX3 rfl tyX3 tyX3_ok nmX3 (by decide) rfl 2 (by decide) rfl (tw_1 147 rfl rfl) rfl (Or.inr ⟨rfl, hi, rfl⟩) (.array .int) rfl (va_rf_narrowA _ _) (va_rf_fitsA _ _) dX3_init_25 hp (fun G H locs V hp => ?_)
  refine x_aload_n X dX3_init_28 hl 0 rfl rfl ?_
  refine lv_bipush (v := (12 : Int32)) hx hb dX3_init_29 (by decide) ?_
  refine q_arrI (N := 12) X V (tw_1 35 rfl rfl) (by decide) (by decide) (by decide) (by decide) (by decide) rfl dX3_init_31 hp (fun G b31_4 H V hp => ?_)
  refine W.cs (cells' := 4) (slots' := 48) rfl rfl ?_
  refine q_putR (ci := 3) X V inX3 rfl tyX3 tyX3_ok nmX3 (by decide) rfl 3 (by decide) rfl (tw_1 149 rfl rfl) rfl (Or.inr ⟨rfl, hi, rfl⟩) (.array .int) rfl (va_rf_narrowA _ _) (va_rf_fitsA _ _) dX3_init_33 hp (fun G H locs V hp => ?_)
  refine x_aload_n X dX3_init_36 hl 0 rfl rfl ?_
  refine lv_bipush (v := (12 : Int32)) hx hb dX3_init_37 (by decide) ?_
  refine q_arrI (N := 12) X V (tw_1 35 rfl rfl) (by decide) (by decide) (by decide) (by decide) (by decide) rfl dX3_init_39 hp (fun G b39_5 H V hp => ?_)
  refine W.cs (cells' := 5) (slots' := 60) rfl rfl ?_
  refine q_putR (ci := 3) X V inX3 rfl tyX3 tyX3_ok nmX3 (by decide) rfl 4 (by decide) rfl (tw_1 151 rfl rfl) rfl (Or.inr ⟨rfl, hi, rfl⟩) (.array .int) rfl (va_rf_narrowA _ _) (va_rf_fitsA _ _) dX3_init_41 hp (fun G H locs V hp => ?_)
  refine x_aload_n X dX3_init_44 hl 0 rfl rfl ?_
  refine lv_iconst (v := (0 : Int32)) hx hb dX3_init_45 (by decide) ?_
  refine q_putI (ci := 3) X V inX3 rfl tyX3 tyX3_ok nmX3 (by decide) rfl 5 (by decide) rfl (tw_1 153 rfl rfl) rfl (Or.inl rfl) .int rfl rfl rfl dX3_init_46 hp (fun G H locs V hp => ?_)
  refine x_aload_n X dX3_init_49 hl 0 rfl rfl ?_
  refine lv_iconst (v := (0 : Int32)) hx hb dX3_init_50 (by decide) ?_
  refine q_putI (ci := 3) X V inX3 rfl tyX3 tyX3_ok nmX3 (by decide) rfl 9 (by decide) rfl (tw_1 161 rfl rfl) rfl (Or.inl rfl) .int rfl rfl rfl dX3_init_51 hp (fun G H locs V hp => ?_)
  refine x_aload_n X dX3_init_54 hl 0 rfl rfl ?_
  refine lv_iconst (v := (0 : Int32)) hx hb dX3_init_55 (by decide) ?_
  refine q_putI (ci := 3) X V inX3 rfl tyX3 tyX3_ok nmX3 (by decide) rfl 10 (by decide) rfl (tw_1 163 rfl rfl) rfl (Or.inl rfl) .int rfl rfl rfl dX3_init_56 hp (fun G H locs V hp => ?_)
  exact q_vret X V hr ⟨by decide, by decide⟩ dX3_init_59 hp
theorem cX3_init (l : Launch) (E : mm_E) {N a0 : Nat} {G : mm_M} {res : mm_M × Unit} (hp : pX3_init_0 N a0 G = some res) : Met l yX3_init (Cond.code yX3_init prog_5_method_1_code 1 none :: tw_T) rX3_init (mm_Pc E G [.ref a0]) (mm_Qv E res.1) 5 60 (mm_A E) :=
  mm_met (own := "XorOverlay$Lookup") E G [.inr (some a0)] (by decide) rfl rfl (Nat.le_of_ble_eq_true rfl) (fun p e s m args below meth c ls X hr hi V hl => bX3_init_0 X hr hi V hl hp)
abbrev yX1_init : MethodName := ⟨"XorOverlay$Entries", "<init>", "()V"⟩
abbrev rX1_init : Room := { frames := 1, cells := 3, slots := 18, locals := 30 }
theorem kX1_init : Cond.code yX1_init prog_3_method_1_code 1 none ∈ tw_T ∧ Cond.instanceMethod yX1_init ∈ tw_T ∧ Cond.initialized "XorOverlay$Entries" ∈ tw_T := ⟨(tw_1 192 rfl rfl), (tw_1 191 rfl rfl), (tw_1 8 rfl rfl)⟩
theorem hX1_init : yX1_init.cls = "XorOverlay$Entries" ∧ yX1_init.cls ≠ "java/lang/invoke/MethodHandle" ∧ yX1_init.cls ≠ "java/lang/invoke/VarHandle" ∧ (parseMethodDescriptor yX1_init.desc).map (fun d => d.parameters.length) = some 0 := by decide +kernel
theorem dX1_init_0 : decode prog_3_method_1_code 0 = .ok (.aload_n 0, 1) := by decide +kernel
theorem dX1_init_1 : decode prog_3_method_1_code 1 = .ok (.invokespecial 1, 3) := by decide +kernel
theorem dX1_init_4 : decode prog_3_method_1_code 4 = .ok (.aload_n 0, 1) := by decide +kernel
theorem dX1_init_5 : decode prog_3_method_1_code 5 = .ok (.bipush 6, 2) := by decide +kernel
theorem dX1_init_7 : decode prog_3_method_1_code 7 = .ok (.newarray .int, 2) := by decide +kernel
theorem dX1_init_9 : decode prog_3_method_1_code 9 = .ok (.putfield 9, 3) := by decide +kernel
theorem dX1_init_12 : decode prog_3_method_1_code 12 = .ok (.aload_n 0, 1) := by decide +kernel
theorem dX1_init_13 : decode prog_3_method_1_code 13 = .ok (.bipush 6, 2) := by decide +kernel
theorem dX1_init_15 : decode prog_3_method_1_code 15 = .ok (.newarray .int, 2) := by decide +kernel
theorem dX1_init_17 : decode prog_3_method_1_code 17 = .ok (.putfield 13, 3) := by decide +kernel
theorem dX1_init_20 : decode prog_3_method_1_code 20 = .ok (.aload_n 0, 1) := by decide +kernel
theorem dX1_init_21 : decode prog_3_method_1_code 21 = .ok (.bipush 6, 2) := by decide +kernel
theorem dX1_init_23 : decode prog_3_method_1_code 23 = .ok (.newarray .int, 2) := by decide +kernel
theorem dX1_init_25 : decode prog_3_method_1_code 25 = .ok (.putfield 16, 3) := by decide +kernel
theorem dX1_init_28 : decode prog_3_method_1_code 28 = .ok (.aload_n 0, 1) := by decide +kernel
theorem dX1_init_29 : decode prog_3_method_1_code 29 = .ok (.iconst 0, 1) := by decide +kernel
theorem dX1_init_30 : decode prog_3_method_1_code 30 = .ok (.putfield 19, 3) := by decide +kernel
theorem dX1_init_33 : decode prog_3_method_1_code 33 = .ok (.return_, 1) := by decide +kernel
def pX1_init_0 (N a0 : Nat) (G : mm_M) : Option (mm_M × Unit) :=
  q_arr G 101 6 fun G b7_1 =>
  q_pR G a0 2 0 (some b7_1) fun G =>
  q_arr G 101 6 fun G b15_2 =>
  q_pR G a0 2 1 (some b15_2) fun G =>
  q_arr G 101 6 fun G b23_3 =>
  q_pR G a0 2 2 (some b23_3) fun G =>
  q_pI G a0 2 3 (0 : Int32) fun G =>
  some (G, ())
set_option maxRecDepth 100000 in
set_option maxHeartbeats 4000000 in
theorem bX1_init_0 {p : Program} {l : Launch} {e : Env} {s : State} {m : MethodId} {args : Array Value} {below : List Frame} {meth : Method} {c : Code} {E : mm_E} {N a0 : Nat} {res : mm_M × Unit} (X : mm_X p s m args meth c prog_3_method_1_code 1 "XorOverlay$Entries" tw_T E) (hr : meth.sig.returnType = none) (hi : meth.name = "<init>") {G : mm_M} {H : Heap} {locs : List Loc} {ls : Array Slot} (V : mm_V E s G H locs) (hl : lx_has ls 1 [(0, .inr (some a0))]) (hp : pX1_init_0 N a0 G = some res) : W p l e rX1_init s m args below meth c H locs 0 0 (MQ below (mm_Qv E res.1) args s 3 18 (mm_A E)) (F0 m 0 ls []) := by
  have hx := X.1.1
  have hb := X.1.2.1
  unfold pX1_init_0 at hp
  refine x_aload_n X dX1_init_0 hl 0 rfl rfl ?_
  refine W.objInit hx hb X.1.2.2.2.1 (X.1.2.2.2.2 _ (tw_1 193 rfl rfl)) (X.1.2.2.2.2 _ (tw_1 17 rfl rfl)) (X.1.2.2.2.2 _ (tw_1 18 rfl rfl)) rfl (by rw [X.1.2.2.1]; exact hl.1) rfl dX1_init_1 (by decide) (Nat.le_of_ble_eq_true rfl) ?_
  refine W.eq (g2 := F0 m 4 ls ([])) rfl ?_
  refine x_aload_n X dX1_init_4 hl 0 rfl rfl ?_
  refine lv_bipush (v := (6 : Int32)) hx hb dX1_init_5 (by decide) ?_
  refine q_arrI (N := 6) X V (tw_1 35 rfl rfl) (by decide) (by decide) (by decide) (by decide) (by decide) rfl dX1_init_7 hp (fun G b7_1 H V hp => ?_)
  refine W.cs (cells' := 1) (slots' := 6) rfl rfl ?_
  refine q_putR (ci := 1) X V inX1 rfl tyX1 tyX1_ok nmX1 (by decide) rfl 0 (by decide) rfl (tw_1 194 rfl rfl) rfl (Or.inr ⟨rfl, hi, rfl⟩) (.array .int) rfl (va_rf_narrowA _ _) (va_rf_fitsA _ _) dX1_init_9 hp (fun G H locs V hp => ?_)
  refine x_aload_n X dX1_init_12 hl 0 rfl rfl ?_
  refine lv_bipush (v := (6 : Int32)) hx hb dX1_init_13 (by decide) ?_
  refine q_arrI (N := 6) X V (tw_1 35 rfl rfl) (by decide) (by decide) (by decide) (by decide) (by decide) rfl dX1_init_15 hp (fun G b15_2 H V hp => ?_)
  refine W.cs (cells' := 2) (slots' := 12) rfl rfl ?_
  refine q_putR (ci := 1) X V inX1 rfl tyX1 tyX1_ok nmX1 (by decide) rfl 1 (by decide) rfl (tw_1 196 rfl rfl) rfl (Or.inr ⟨rfl, hi, rfl⟩) (.array .int) rfl (va_rf_narrowA _ _) (va_rf_fitsA _ _) dX1_init_17 hp (fun G H locs V hp => ?_)
  refine x_aload_n X dX1_init_20 hl 0 rfl rfl ?_
  refine lv_bipush (v := (6 : Int32)) hx hb dX1_init_21 (by decide) ?_
  refine q_arrI (N := 6) X V (tw_1 35 rfl rfl) (by decide) (by decide) (by decide) (by decide) (by decide) rfl dX1_init_23 hp (fun G b23_3 H V hp => ?_)
  refine W.cs (cells' := 3) (slots' := 18) rfl rfl ?_
  refine q_putR (ci := 1) X V inX1 rfl tyX1 tyX1_ok nmX1 (by decide) rfl 2 (by decide) rfl (tw_1 198 rfl rfl) rfl (Or.inr ⟨rfl, hi, rfl⟩) (.array .int) rfl (va_rf_narrowA _ _) (va_rf_fitsA _ _) dX1_init_25 hp (fun G H locs V hp => ?_)
  refine x_aload_n X dX1_init_28 hl 0 rfl rfl ?_
  refine lv_iconst (v := (0 : Int32)) hx hb dX1_init_29 (by decide) ?_
  refine q_putI (ci := 1) X V inX1 rfl tyX1 tyX1_ok nmX1 (by decide) rfl 3 (by decide) rfl (tw_1 200 rfl rfl) rfl (Or.inl rfl) .int rfl rfl rfl dX1_init_30 hp (fun G H locs V hp => ?_)
  exact q_vret X V hr ⟨by decide, by decide⟩ dX1_init_33 hp
theorem cX1_init (l : Launch) (E : mm_E) {N a0 : Nat} {G : mm_M} {res : mm_M × Unit} (hp : pX1_init_0 N a0 G = some res) : Met l yX1_init (Cond.code yX1_init prog_3_method_1_code 1 none :: tw_T) rX1_init (mm_Pc E G [.ref a0]) (mm_Qv E res.1) 3 18 (mm_A E) :=
  mm_met (own := "XorOverlay$Entries") E G [.inr (some a0)] (by decide) rfl rfl (Nat.le_of_ble_eq_true rfl) (fun p e s m args below meth c ls X hr hi V hl => bX1_init_0 X hr hi V hl hp)
abbrev yX4_init : MethodName := ⟨"XorOverlay$Peer", "<init>", "(I)V"⟩
abbrev rX4_init : Room := { frames := 3, cells := 42, slots := 225, locals := 72 }
theorem kX4_init : Cond.code yX4_init prog_6_method_1_code 2 none ∈ tw_T ∧ Cond.instanceMethod yX4_init ∈ tw_T ∧ Cond.initialized "XorOverlay$Peer" ∈ tw_T := ⟨(tw_1 80 rfl rfl), (tw_1 79 rfl rfl), (tw_1 4 rfl rfl)⟩
theorem hX4_init : yX4_init.cls = "XorOverlay$Peer" ∧ yX4_init.cls ≠ "java/lang/invoke/MethodHandle" ∧ yX4_init.cls ≠ "java/lang/invoke/VarHandle" ∧ (parseMethodDescriptor yX4_init.desc).map (fun d => d.parameters.length) = some 1 := by decide +kernel
theorem dX4_init_0 : decode prog_6_method_1_code 0 = .ok (.aload_n 0, 1) := by decide +kernel
theorem dX4_init_1 : decode prog_6_method_1_code 1 = .ok (.invokespecial 1, 3) := by decide +kernel
theorem dX4_init_4 : decode prog_6_method_1_code 4 = .ok (.aload_n 0, 1) := by decide +kernel
theorem dX4_init_5 : decode prog_6_method_1_code 5 = .ok (.iload_n 1, 1) := by decide +kernel
theorem dX4_init_6 : decode prog_6_method_1_code 6 = .ok (.putfield 7, 3) := by decide +kernel
theorem dX4_init_9 : decode prog_6_method_1_code 9 = .ok (.aload_n 0, 1) := by decide +kernel
theorem dX4_init_10 : decode prog_6_method_1_code 10 = .ok (.new 13, 3) := by decide +kernel
theorem dX4_init_13 : decode prog_6_method_1_code 13 = .ok (.dup, 1) := by decide +kernel
theorem dX4_init_14 : decode prog_6_method_1_code 14 = .ok (.iload_n 1, 1) := by decide +kernel
theorem dX4_init_15 : decode prog_6_method_1_code 15 = .ok (.invokespecial 15, 3) := by decide +kernel
theorem dX4_init_18 : decode prog_6_method_1_code 18 = .ok (.putfield 18, 3) := by decide +kernel
theorem dX4_init_21 : decode prog_6_method_1_code 21 = .ok (.aload_n 0, 1) := by decide +kernel
theorem dX4_init_22 : decode prog_6_method_1_code 22 = .ok (.new 22, 3) := by decide +kernel
theorem dX4_init_25 : decode prog_6_method_1_code 25 = .ok (.dup, 1) := by decide +kernel
theorem dX4_init_26 : decode prog_6_method_1_code 26 = .ok (.invokespecial 24, 3) := by decide +kernel
theorem dX4_init_29 : decode prog_6_method_1_code 29 = .ok (.putfield 25, 3) := by decide +kernel
theorem dX4_init_32 : decode prog_6_method_1_code 32 = .ok (.aload_n 0, 1) := by decide +kernel
theorem dX4_init_33 : decode prog_6_method_1_code 33 = .ok (.new 29, 3) := by decide +kernel
theorem dX4_init_36 : decode prog_6_method_1_code 36 = .ok (.dup, 1) := by decide +kernel
theorem dX4_init_37 : decode prog_6_method_1_code 37 = .ok (.invokespecial 31, 3) := by decide +kernel
theorem dX4_init_40 : decode prog_6_method_1_code 40 = .ok (.putfield 32, 3) := by decide +kernel
theorem dX4_init_43 : decode prog_6_method_1_code 43 = .ok (.aload_n 0, 1) := by decide +kernel
theorem dX4_init_44 : decode prog_6_method_1_code 44 = .ok (.iconst 0, 1) := by decide +kernel
theorem dX4_init_45 : decode prog_6_method_1_code 45 = .ok (.putfield 36, 3) := by decide +kernel
theorem dX4_init_48 : decode prog_6_method_1_code 48 = .ok (.return_, 1) := by decide +kernel
def pX4_init_0 (N a0 : Nat) (G : mm_M) (x1 : Int32) : Option (mm_M × Unit) :=
  q_pI G a0 5 0 x1 fun G =>
  q_new G 6 fun G b10_1 =>
  q_cl (pX5_init_0 N b10_1 G x1) fun G _ =>
  q_pR G a0 5 1 (some b10_1) fun G =>
  q_new G 4 fun G b22_3 =>
  q_cl (pX3_init_0 N b22_3 G) fun G _ =>
  q_pR G a0 5 2 (some b22_3) fun G =>
  q_new G 2 fun G b33_5 =>
  q_cl (pX1_init_0 N b33_5 G) fun G _ =>
  q_pR G a0 5 3 (some b33_5) fun G =>
  q_pI G a0 5 4 (0 : Int32) fun G =>
  some (G, ())
set_option maxRecDepth 100000 in
set_option maxHeartbeats 4000000 in
theorem bX4_init_0 {p : Program} {l : Launch} {e : Env} {s : State} {m : MethodId} {args : Array Value} {below : List Frame} {meth : Method} {c : Code} {E : mm_E} {N a0 : Nat} {res : mm_M × Unit} (X : mm_X p s m args meth c prog_6_method_1_code 2 "XorOverlay$Peer" tw_T E) (hr : meth.sig.returnType = none) (hi : meth.name = "<init>") {G : mm_M} {H : Heap} {locs : List Loc} {ls : Array Slot} {x1 : Int32} (V : mm_V E s G H locs) (hl : lx_has ls 2 [(0, .inr (some a0)), (1, .inl x1)]) (hp : pX4_init_0 N a0 G x1 = some res) : W p l e rX4_init s m args below meth c H locs 0 0 (MQ below (mm_Qv E res.1) args s 42 225 (mm_A E)) (F0 m 0 ls []) := by
  have hx := X.1.1
  have hb := X.1.2.1
  unfold pX4_init_0 at hp
  refine x_aload_n X dX4_init_0 hl 0 rfl rfl ?_
  refine W.objInit hx hb X.1.2.2.2.1 (X.1.2.2.2.2 _ (tw_1 81 rfl rfl)) (X.1.2.2.2.2 _ (tw_1 17 rfl rfl)) (X.1.2.2.2.2 _ (tw_1 18 rfl rfl)) rfl (by rw [X.1.2.2.1]; exact hl.1) rfl dX4_init_1 (by decide) (Nat.le_of_ble_eq_true rfl) ?_
  refine W.eq (g2 := F0 m 4 ls ([])) rfl ?_
  refine x_aload_n X dX4_init_4 hl 0 rfl rfl ?_
  refine x_iload_n X dX4_init_5 hl 1 rfl rfl ?_
  refine q_putI (ci := 4) X V inX4 rfl tyX4 tyX4_ok nmX4 (by decide) rfl 0 (by decide) rfl (tw_1 212 rfl rfl) rfl (Or.inr ⟨rfl, hi, rfl⟩) .int rfl rfl rfl dX4_init_6 hp (fun G H locs V hp => ?_)
  refine x_aload_n X dX4_init_9 hl 0 rfl rfl ?_
  refine q_newc (ci := 5) X V inX5 rfl tyX5 tyX5_ok (by decide) rfl rfl dfX5 (tw_1 82 rfl rfl) (tw_1 83 rfl rfl) (tw_1 5 rfl rfl) (by decide) (by decide) dX4_init_10 hp (fun G b10_1 H V hp => ?_)
  refine W.cs (cells' := 1) (slots' := 3) rfl rfl ?_
  refine lv_dup hx hb dX4_init_13 (va_rf_cat _) ?_
  refine x_iload_n X dX4_init_14 hl 1 rfl rfl ?_
  obtain ⟨⟨G, u⟩, hq, hp⟩ := q_cl_of hp
  dsimp only at hp
  refine q_gov (cells' := 32) (slots' := 132) (va_runI (As := [.int x1]) (rest := [va_rf (some b10_1), va_rf (some a0)]) X.1 (cX5_init l E hq) (tw_cwI 1 X.1.2.2.2.2 (tw_1 84 rfl rfl) kX5_init.2.1 kX5_init.2.2 kX5_init.1 rfl rfl rfl hX5_init ⟨Nat.le_of_ble_eq_true rfl, Nat.le_of_ble_eq_true rfl⟩) (mm_preS X V) rfl rfl hl.1 rfl (lv_room (Nat.le_of_ble_eq_true rfl)) dX4_init_15 ⟨by decide, by decide⟩) V ⟨rfl, rfl⟩ (fun H locs V => ?_)
  refine q_putR (ci := 4) X V inX4 rfl tyX4 tyX4_ok nmX4 (by decide) rfl 1 (by decide) rfl (tw_1 214 rfl rfl) rfl (Or.inr ⟨rfl, hi, rfl⟩) (.object "XorOverlay$Table") rfl (va_rf_narrow _ _) (va_rf_fits _ _) dX4_init_18 hp (fun G H locs V hp => ?_)
  refine x_aload_n X dX4_init_21 hl 0 rfl rfl ?_
  refine q_newc (ci := 3) X V inX3 rfl tyX3 tyX3_ok (by decide) rfl rfl dfX3 (tw_1 137 rfl rfl) (tw_1 138 rfl rfl) (tw_1 7 rfl rfl) (by decide) (by decide) dX4_init_22 hp (fun G b22_3 H V hp => ?_)
  refine W.cs (cells' := 33) (slots' := 143) rfl rfl ?_
  refine lv_dup hx hb dX4_init_25 (va_rf_cat _) ?_
  obtain ⟨⟨G, u⟩, hq, hp⟩ := q_cl_of hp
  dsimp only at hp
  refine q_gov (cells' := 38) (slots' := 203) (va_runI (As := []) (rest := [va_rf (some b22_3), va_rf (some a0)]) X.1 (cX3_init l E hq) (tw_cwI 0 X.1.2.2.2.2 (tw_1 139 rfl rfl) kX3_init.2.1 kX3_init.2.2 kX3_init.1 rfl rfl rfl hX3_init ⟨Nat.le_of_ble_eq_true rfl, Nat.le_of_ble_eq_true rfl⟩) (mm_preS X V) rfl rfl hl.1 rfl (lv_room (Nat.le_of_ble_eq_true rfl)) dX4_init_26 ⟨by decide, by decide⟩) V ⟨rfl, rfl⟩ (fun H locs V => ?_)
  refine q_putR (ci := 4) X V inX4 rfl tyX4 tyX4_ok nmX4 (by decide) rfl 2 (by decide) rfl (tw_1 216 rfl rfl) rfl (Or.inr ⟨rfl, hi, rfl⟩) (.object "XorOverlay$Lookup") rfl (va_rf_narrow _ _) (va_rf_fits _ _) dX4_init_29 hp (fun G H locs V hp => ?_)
  refine x_aload_n X dX4_init_32 hl 0 rfl rfl ?_
  refine q_newc (ci := 1) X V inX1 rfl tyX1 tyX1_ok (by decide) rfl rfl dfX1 (tw_1 188 rfl rfl) (tw_1 189 rfl rfl) (tw_1 8 rfl rfl) (by decide) (by decide) dX4_init_33 hp (fun G b33_5 H V hp => ?_)
  refine W.cs (cells' := 39) (slots' := 207) rfl rfl ?_
  refine lv_dup hx hb dX4_init_36 (va_rf_cat _) ?_
  obtain ⟨⟨G, u⟩, hq, hp⟩ := q_cl_of hp
  dsimp only at hp
  refine q_gov (cells' := 42) (slots' := 225) (va_runI (As := []) (rest := [va_rf (some b33_5), va_rf (some a0)]) X.1 (cX1_init l E hq) (tw_cwI 0 X.1.2.2.2.2 (tw_1 190 rfl rfl) kX1_init.2.1 kX1_init.2.2 kX1_init.1 rfl rfl rfl hX1_init ⟨Nat.le_of_ble_eq_true rfl, Nat.le_of_ble_eq_true rfl⟩) (mm_preS X V) rfl rfl hl.1 rfl (lv_room (Nat.le_of_ble_eq_true rfl)) dX4_init_37 ⟨by decide, by decide⟩) V ⟨rfl, rfl⟩ (fun H locs V => ?_)
  refine q_putR (ci := 4) X V inX4 rfl tyX4 tyX4_ok nmX4 (by decide) rfl 3 (by decide) rfl (tw_1 218 rfl rfl) rfl (Or.inr ⟨rfl, hi, rfl⟩) (.object "XorOverlay$Entries") rfl (va_rf_narrow _ _) (va_rf_fits _ _) dX4_init_40 hp (fun G H locs V hp => ?_)
  refine x_aload_n X dX4_init_43 hl 0 rfl rfl ?_
  refine lv_iconst (v := (0 : Int32)) hx hb dX4_init_44 (by decide) ?_
  refine q_putI (ci := 4) X V inX4 rfl tyX4 tyX4_ok nmX4 (by decide) rfl 4 (by decide) rfl (tw_1 220 rfl rfl) rfl (Or.inl rfl) .boolean rfl rfl rfl dX4_init_45 hp (fun G H locs V hp => ?_)
  exact q_vret X V hr ⟨by decide, by decide⟩ dX4_init_48 hp
theorem cX4_init (l : Launch) (E : mm_E) {N a0 : Nat} {G : mm_M} {x1 : Int32} {res : mm_M × Unit} (hp : pX4_init_0 N a0 G x1 = some res) : Met l yX4_init (Cond.code yX4_init prog_6_method_1_code 2 none :: tw_T) rX4_init (mm_Pc E G [.ref a0, .int x1]) (mm_Qv E res.1) 42 225 (mm_A E) :=
  mm_met (own := "XorOverlay$Peer") E G [.inr (some a0), .inl x1] (by decide) rfl rfl (Nat.le_of_ble_eq_true rfl) (fun p e s m args below meth c ls X hr hi V hl => bX4_init_0 X hr hi V hl hp)
abbrev yX6_enrolIfRoom : MethodName := ⟨"XorOverlay", "enrolIfRoom", "(I)LXorOverlay$Peer;"⟩
abbrev rX6_enrolIfRoom : Room := { frames := 4, cells := 43, slots := 230, locals := 93 }
theorem kX6_enrolIfRoom : Cond.code yX6_enrolIfRoom prog_1_method_25_code 4 (Option.some (.object "XorOverlay$Peer")) ∈ tw_T ∧ Cond.instanceMethod yX6_enrolIfRoom ∈ tw_T ∧ Cond.selects "XorOverlay" yX6_enrolIfRoom yX6_enrolIfRoom ∈ tw_T ∧ Cond.initialized "XorOverlay" ∈ tw_T := ⟨(tw_1 76 rfl rfl), (tw_1 75 rfl rfl), (tw_s 2 rfl rfl), (tw_1 1 rfl rfl)⟩
theorem hX6_enrolIfRoom : yX6_enrolIfRoom.cls = "XorOverlay" ∧ yX6_enrolIfRoom.cls ≠ "java/lang/invoke/MethodHandle" ∧ yX6_enrolIfRoom.cls ≠ "java/lang/invoke/VarHandle" ∧ (parseMethodDescriptor yX6_enrolIfRoom.desc).map (fun d => d.parameters.length) = some 1 := by decide +kernel
theorem dX6_enrolIfRoom_0 : decode prog_1_method_25_code 0 = .ok (.aload_n 0, 1) := by decide +kernel
theorem dX6_enrolIfRoom_1 : decode prog_1_method_25_code 1 = .ok (.iload_n 1, 1) := by decide +kernel
theorem dX6_enrolIfRoom_2 : decode prog_1_method_25_code 2 = .ok (.invokevirtual 177, 3) := by decide +kernel
theorem dX6_enrolIfRoom_5 : decode prog_1_method_25_code 5 = .ok (.astore_n 2, 1) := by decide +kernel
theorem dX6_enrolIfRoom_6 : decode prog_1_method_25_code 6 = .ok (.aload_n 2, 1) := by decide +kernel
theorem dX6_enrolIfRoom_7 : decode prog_1_method_25_code 7 = .ok (.ifnonnull 12, 3) := by decide +kernel
theorem dX6_enrolIfRoom_10 : decode prog_1_method_25_code 10 = .ok (.aload_n 0, 1) := by decide +kernel
theorem dX6_enrolIfRoom_11 : decode prog_1_method_25_code 11 = .ok (.getfield 29, 3) := by decide +kernel
theorem dX6_enrolIfRoom_14 : decode prog_1_method_25_code 14 = .ok (.bipush 12, 2) := by decide +kernel
theorem dX6_enrolIfRoom_16 : decode prog_1_method_25_code 16 = .ok (.if_icmp .lt 5, 3) := by decide +kernel
theorem dX6_enrolIfRoom_19 : decode prog_1_method_25_code 19 = .ok (.aload_n 2, 1) := by decide +kernel
theorem dX6_enrolIfRoom_20 : decode prog_1_method_25_code 20 = .ok (.areturn, 1) := by decide +kernel
theorem dX6_enrolIfRoom_21 : decode prog_1_method_25_code 21 = .ok (.new 9, 3) := by decide +kernel
theorem dX6_enrolIfRoom_24 : decode prog_1_method_25_code 24 = .ok (.dup, 1) := by decide +kernel
theorem dX6_enrolIfRoom_25 : decode prog_1_method_25_code 25 = .ok (.iload_n 1, 1) := by decide +kernel
theorem dX6_enrolIfRoom_26 : decode prog_1_method_25_code 26 = .ok (.invokespecial 183, 3) := by decide +kernel
theorem dX6_enrolIfRoom_29 : decode prog_1_method_25_code 29 = .ok (.astore_n 2, 1) := by decide +kernel
theorem dX6_enrolIfRoom_30 : decode prog_1_method_25_code 30 = .ok (.aload_n 0, 1) := by decide +kernel
theorem dX6_enrolIfRoom_31 : decode prog_1_method_25_code 31 = .ok (.getfield 29, 3) := by decide +kernel
theorem dX6_enrolIfRoom_34 : decode prog_1_method_25_code 34 = .ok (.istore_n 3, 1) := by decide +kernel
theorem dX6_enrolIfRoom_35 : decode prog_1_method_25_code 35 = .ok (.iload_n 3, 1) := by decide +kernel
theorem dX6_enrolIfRoom_36 : decode prog_1_method_25_code 36 = .ok (.ifCond .le 49, 3) := by decide +kernel
theorem dX6_enrolIfRoom_39 : decode prog_1_method_25_code 39 = .ok (.aload_n 0, 1) := by decide +kernel
theorem dX6_enrolIfRoom_40 : decode prog_1_method_25_code 40 = .ok (.getfield 11, 3) := by decide +kernel
theorem dX6_enrolIfRoom_43 : decode prog_1_method_25_code 43 = .ok (.iload_n 3, 1) := by decide +kernel
theorem dX6_enrolIfRoom_44 : decode prog_1_method_25_code 44 = .ok (.iconst 1, 1) := by decide +kernel
theorem dX6_enrolIfRoom_45 : decode prog_1_method_25_code 45 = .ok (.isub, 1) := by decide +kernel
theorem dX6_enrolIfRoom_46 : decode prog_1_method_25_code 46 = .ok (.aaload, 1) := by decide +kernel
theorem dX6_enrolIfRoom_47 : decode prog_1_method_25_code 47 = .ok (.ifnull 38, 3) := by decide +kernel
theorem dX6_enrolIfRoom_50 : decode prog_1_method_25_code 50 = .ok (.aload_n 0, 1) := by decide +kernel
theorem dX6_enrolIfRoom_51 : decode prog_1_method_25_code 51 = .ok (.getfield 11, 3) := by decide +kernel
theorem dX6_enrolIfRoom_54 : decode prog_1_method_25_code 54 = .ok (.iload_n 3, 1) := by decide +kernel
theorem dX6_enrolIfRoom_55 : decode prog_1_method_25_code 55 = .ok (.iconst 1, 1) := by decide +kernel
theorem dX6_enrolIfRoom_56 : decode prog_1_method_25_code 56 = .ok (.isub, 1) := by decide +kernel
theorem dX6_enrolIfRoom_57 : decode prog_1_method_25_code 57 = .ok (.aaload, 1) := by decide +kernel
theorem dX6_enrolIfRoom_58 : decode prog_1_method_25_code 58 = .ok (.getfield 180, 3) := by decide +kernel
theorem dX6_enrolIfRoom_61 : decode prog_1_method_25_code 61 = .ok (.iload_n 1, 1) := by decide +kernel
theorem dX6_enrolIfRoom_62 : decode prog_1_method_25_code 62 = .ok (.if_icmp .le 23, 3) := by decide +kernel
theorem dX6_enrolIfRoom_65 : decode prog_1_method_25_code 65 = .ok (.aload_n 0, 1) := by decide +kernel
theorem dX6_enrolIfRoom_66 : decode prog_1_method_25_code 66 = .ok (.getfield 11, 3) := by decide +kernel
theorem dX6_enrolIfRoom_69 : decode prog_1_method_25_code 69 = .ok (.iload_n 3, 1) := by decide +kernel
theorem dX6_enrolIfRoom_70 : decode prog_1_method_25_code 70 = .ok (.aload_n 0, 1) := by decide +kernel
theorem dX6_enrolIfRoom_71 : decode prog_1_method_25_code 71 = .ok (.getfield 11, 3) := by decide +kernel
theorem dX6_enrolIfRoom_74 : decode prog_1_method_25_code 74 = .ok (.iload_n 3, 1) := by decide +kernel
theorem dX6_enrolIfRoom_75 : decode prog_1_method_25_code 75 = .ok (.iconst 1, 1) := by decide +kernel
theorem dX6_enrolIfRoom_76 : decode prog_1_method_25_code 76 = .ok (.isub, 1) := by decide +kernel
theorem dX6_enrolIfRoom_77 : decode prog_1_method_25_code 77 = .ok (.aaload, 1) := by decide +kernel
theorem dX6_enrolIfRoom_78 : decode prog_1_method_25_code 78 = .ok (.aastore, 1) := by decide +kernel
theorem dX6_enrolIfRoom_79 : decode prog_1_method_25_code 79 = .ok (.iinc 3 (-1), 3) := by decide +kernel
theorem dX6_enrolIfRoom_82 : decode prog_1_method_25_code 82 = .ok (.goto (-47), 3) := by decide +kernel
theorem dX6_enrolIfRoom_85 : decode prog_1_method_25_code 85 = .ok (.aload_n 0, 1) := by decide +kernel
theorem dX6_enrolIfRoom_86 : decode prog_1_method_25_code 86 = .ok (.getfield 11, 3) := by decide +kernel
theorem dX6_enrolIfRoom_89 : decode prog_1_method_25_code 89 = .ok (.iload_n 3, 1) := by decide +kernel
theorem dX6_enrolIfRoom_90 : decode prog_1_method_25_code 90 = .ok (.aload_n 2, 1) := by decide +kernel
theorem dX6_enrolIfRoom_91 : decode prog_1_method_25_code 91 = .ok (.aastore, 1) := by decide +kernel
theorem dX6_enrolIfRoom_92 : decode prog_1_method_25_code 92 = .ok (.aload_n 0, 1) := by decide +kernel
theorem dX6_enrolIfRoom_93 : decode prog_1_method_25_code 93 = .ok (.dup, 1) := by decide +kernel
theorem dX6_enrolIfRoom_94 : decode prog_1_method_25_code 94 = .ok (.getfield 29, 3) := by decide +kernel
theorem dX6_enrolIfRoom_97 : decode prog_1_method_25_code 97 = .ok (.iconst 1, 1) := by decide +kernel
theorem dX6_enrolIfRoom_98 : decode prog_1_method_25_code 98 = .ok (.iadd, 1) := by decide +kernel
theorem dX6_enrolIfRoom_99 : decode prog_1_method_25_code 99 = .ok (.putfield 29, 3) := by decide +kernel
theorem dX6_enrolIfRoom_102 : decode prog_1_method_25_code 102 = .ok (.aload_n 2, 1) := by decide +kernel
theorem dX6_enrolIfRoom_103 : decode prog_1_method_25_code 103 = .ok (.areturn, 1) := by decide +kernel
def pX6_enrolIfRoom_35_b (N a0 : Nat) (kb : mm_M → Int32 → Option Nat → Int32 → Option (mm_M × Option Nat)) (kx : mm_M → Option Nat → Int32 → Option (mm_M × Option Nat)) (G : mm_M) (x1 : Int32) (x2 : Option Nat) (x3 : Int32) : Option (mm_M × Option Nat) :=
  if x3 ≤ 0 then
    kx G x2 x3
  else
    q_gR G a0 7 0 fun r40_8 =>
    q_nn r40_8 fun b46_9 =>
    q_aR G b46_9 103 (x3 - (1 : Int32)) fun r46_10 =>
    q_op r46_10 (
      kx G x2 x3) fun b47_11 =>
    q_gR G a0 7 0 fun r51_12 =>
    q_nn r51_12 fun b57_13 =>
    q_aR G b57_13 103 (x3 - (1 : Int32)) fun r57_14 =>
    q_nn r57_14 fun b58_15 =>
    q_gI G b58_15 5 0 fun v58_16 =>
    if v58_16 ≤ x1 then
      kx G x2 x3
    else
      q_gR G a0 7 0 fun r66_17 =>
      q_gR G a0 7 0 fun r71_18 =>
      q_nn r71_18 fun b77_19 =>
      q_aR G b77_19 103 (x3 - (1 : Int32)) fun r77_20 =>
      q_nn r66_17 fun b78_21 =>
      q_sR G b78_21 103 5 x3 r77_20 fun G =>
      kb G x1 x2 (x3 + (-1 : Int32))
def pX6_enrolIfRoom_35 (N a0 : Nat) (kx : mm_M → Option Nat → Int32 → Option (mm_M × Option Nat)) : Nat → mm_M → Int32 → Option Nat → Int32 → Option (mm_M × Option Nat)
  | 0 => fun _ _ _ _ => none
  | n + 1 => pX6_enrolIfRoom_35_b N a0 (pX6_enrolIfRoom_35 N a0 kx n) kx
set_option maxRecDepth 100000 in
set_option maxHeartbeats 4000000 in
theorem bX6_enrolIfRoom_35 {p : Program} {l : Launch} {e : Env} {s : State} {m : MethodId} {args : Array Value} {below : List Frame} {meth : Method} {c : Code} {E : mm_E} {N a0 : Nat} {res : mm_M × Option Nat} (X : mm_X p s m args meth c prog_1_method_25_code 4 "XorOverlay" tw_T E) (hr : meth.sig.returnType = (Option.some (.object "XorOverlay$Peer"))) {kx : mm_M → Option Nat → Int32 → Option (mm_M × Option Nat)} (hkx : ∀ (G : mm_M) (H : Heap) (locs : List Loc) (ls : Array Slot) (x2 : Option Nat) (x3 : Int32), mm_V E s G H locs → lx_has ls 4 [(0, .inr (some a0)), (2, .inr x2), (3, .inl x3)] → kx G x2 x3 = some res → W p l e rX6_enrolIfRoom s m args below meth c H locs 43 230 (MQ below (mm_Qq E res.1 res.2) args s 43 230 (mm_A E)) (F0 m 85 ls [])) :
    ∀ (n : Nat) (G : mm_M) (H : Heap) (locs : List Loc) (ls : Array Slot) (x1 : Int32) (x2 : Option Nat) (x3 : Int32), mm_V E s G H locs → lx_has ls 4 [(0, .inr (some a0)), (1, .inl x1), (2, .inr x2), (3, .inl x3)] → pX6_enrolIfRoom_35 N a0 kx n G x1 x2 x3 = some res → W p l e rX6_enrolIfRoom s m args below meth c H locs 43 230 (MQ below (mm_Qq E res.1 res.2) args s 43 230 (mm_A E)) (F0 m 35 ls []) := by
  have hx := X.1.1
  have hb := X.1.2.1
  intro n
  induction n with
  | zero =>
    intro G H locs ls x1 x2 x3 V hl hp
    cases hp
  | succ n ih =>
    intro G H locs ls x1 x2 x3 V hl hp
    have hp : pX6_enrolIfRoom_35_b N a0 (pX6_enrolIfRoom_35 N a0 kx n) kx G x1 x2 x3 = some res := hp
    unfold pX6_enrolIfRoom_35_b at hp
    refine x_iload_n X dX6_enrolIfRoom_35 hl 3 rfl rfl ?_
    refine q_if hp (lv_if_le (tgt := 85) hx hb dX6_enrolIfRoom_36 (by decide)) (fun hp => ?_) (fun hp => ?_)
    · exact hkx _ _ _ _ _ _ V (lx_sub hl [0, 2, 3] rfl) hp
    · refine x_aload_n X dX6_enrolIfRoom_39 hl 0 rfl rfl ?_
      refine q_getR (ci := 6) X V inX6 rfl (by decide) rfl 0 (by decide) rfl (tw_1 36 rfl rfl) rfl dX6_enrolIfRoom_40 hp (fun r40_8 hp => ?_)
      refine x_iload_n X dX6_enrolIfRoom_43 hl 3 rfl rfl ?_
      refine lv_iconst (v := (1 : Int32)) hx hb dX6_enrolIfRoom_44 (by decide) ?_
      refine lv_isub hx hb dX6_enrolIfRoom_45 ?_
      obtain ⟨b46_9, e0, hp2⟩ := q_nn_of hp
      clear hp; subst e0; have hp := hp2; clear hp2
      refine q_aldP X V dX6_enrolIfRoom_46 hp (fun r46_10 hp => ?_)
      refine q_ifnull (tgt := 85) X dX6_enrolIfRoom_47 (by decide) hp (fun e0 hp2 => ?_) (fun b47_11 e0 hp2 => ?_)
      · clear hp; subst e0; have hp := hp2; clear hp2
        exact hkx _ _ _ _ _ _ V (lx_sub hl [0, 2, 3] rfl) hp
      · clear hp; subst e0; have hp := hp2; clear hp2
        refine x_aload_n X dX6_enrolIfRoom_50 hl 0 rfl rfl ?_
        refine q_getR (ci := 6) X V inX6 rfl (by decide) rfl 0 (by decide) rfl (tw_1 36 rfl rfl) rfl dX6_enrolIfRoom_51 hp (fun r51_12 hp => ?_)
        refine x_iload_n X dX6_enrolIfRoom_54 hl 3 rfl rfl ?_
        refine lv_iconst (v := (1 : Int32)) hx hb dX6_enrolIfRoom_55 (by decide) ?_
        refine lv_isub hx hb dX6_enrolIfRoom_56 ?_
        obtain ⟨b57_13, e0, hp2⟩ := q_nn_of hp
        clear hp; subst e0; have hp := hp2; clear hp2
        refine q_aldP X V dX6_enrolIfRoom_57 hp (fun r57_14 hp => ?_)
        obtain ⟨b58_15, e0, hp2⟩ := q_nn_of hp
        clear hp; subst e0; have hp := hp2; clear hp2
        refine q_getI (ci := 4) X V inX4 rfl (by decide) rfl 0 (by decide) rfl (tw_1 213 rfl rfl) rfl dX6_enrolIfRoom_58 hp (fun v58_16 hp => ?_)
        refine x_iload_n X dX6_enrolIfRoom_61 hl 1 rfl rfl ?_
        refine q_if hp (lv_icmp_le (tgt := 85) hx hb dX6_enrolIfRoom_62 (by decide)) (fun hp => ?_) (fun hp => ?_)
        · exact hkx _ _ _ _ _ _ V (lx_sub hl [0, 2, 3] rfl) hp
        · refine x_aload_n X dX6_enrolIfRoom_65 hl 0 rfl rfl ?_
          refine q_getR (ci := 6) X V inX6 rfl (by decide) rfl 0 (by decide) rfl (tw_1 36 rfl rfl) rfl dX6_enrolIfRoom_66 hp (fun r66_17 hp => ?_)
          refine x_iload_n X dX6_enrolIfRoom_69 hl 3 rfl rfl ?_
          refine x_aload_n X dX6_enrolIfRoom_70 hl 0 rfl rfl ?_
          refine q_getR (ci := 6) X V inX6 rfl (by decide) rfl 0 (by decide) rfl (tw_1 36 rfl rfl) rfl dX6_enrolIfRoom_71 hp (fun r71_18 hp => ?_)
          refine x_iload_n X dX6_enrolIfRoom_74 hl 3 rfl rfl ?_
          refine lv_iconst (v := (1 : Int32)) hx hb dX6_enrolIfRoom_75 (by decide) ?_
          refine lv_isub hx hb dX6_enrolIfRoom_76 ?_
          obtain ⟨b77_19, e0, hp2⟩ := q_nn_of hp
          clear hp; subst e0; have hp := hp2; clear hp2
          refine q_aldP X V dX6_enrolIfRoom_77 hp (fun r77_20 hp => ?_)
          obtain ⟨b78_21, e0, hp2⟩ := q_nn_of hp
          clear hp; subst e0; have hp := hp2; clear hp2
          refine q_astP (ci := 4) X V rfl rfl (by decide) rfl dX6_enrolIfRoom_78 hp (fun G H locs V hp => ?_)
          refine x_iinc (v := (-1 : Int32)) (lst' := [(3, .inl (x3 + (-1 : Int32))), (0, .inr (some a0)), (1, .inl x1), (2, .inr x2)]) X dX6_enrolIfRoom_79 hl 3 rfl (by decide) (by decide) rfl (fun ls hl => ?_)
          refine lv_goto (tgt := 35) hx hb dX6_enrolIfRoom_82 (by decide) ?_
          exact ih _ _ _ _ _ _ _ V (lx_sub hl [1, 2, 3, 0] rfl) hp
def pX6_enrolIfRoom_0 (N a0 : Nat) (G : mm_M) (x1 : Int32) : Option (mm_M × Option Nat) :=
  q_is G a0 7 <|
  q_cl (pX6_knownPeer_0 N a0 G x1) fun G r2_2 =>
  q_op r2_2 (
    q_gI G a0 7 4 fun v11_4 =>
    if v11_4 < (12 : Int32) then
      q_new G 5 fun G b21_5 =>
      q_cl (pX4_init_0 N b21_5 G x1) fun G _ =>
      q_gI G a0 7 4 fun v31_7 =>
      pX6_enrolIfRoom_35 N a0 (fun (G : mm_M) (x2 : Option Nat) (x3 : Int32) =>
        q_gR G a0 7 0 fun r86_22 =>
        q_nn r86_22 fun b91_23 =>
        q_sR G b91_23 103 5 x3 x2 fun G =>
        q_gI G a0 7 4 fun v94_24 =>
        q_pI G a0 7 4 (v94_24 + (1 : Int32)) fun G =>
        some (G, x2)) N G x1 (some b21_5) v31_7
    else
      some (G, none)) fun b7_3 =>
  some (G, (some b7_3))
set_option maxRecDepth 100000 in
set_option maxHeartbeats 4000000 in
theorem bX6_enrolIfRoom_0 {p : Program} {l : Launch} {e : Env} {s : State} {m : MethodId} {args : Array Value} {below : List Frame} {meth : Method} {c : Code} {E : mm_E} {N a0 : Nat} {res : mm_M × Option Nat} (X : mm_X p s m args meth c prog_1_method_25_code 4 "XorOverlay" tw_T E) (hr : meth.sig.returnType = (Option.some (.object "XorOverlay$Peer"))) {G : mm_M} {H : Heap} {locs : List Loc} {ls : Array Slot} {x1 : Int32} (V : mm_V E s G H locs) (hl : lx_has ls 4 [(0, .inr (some a0)), (1, .inl x1)]) (hp : pX6_enrolIfRoom_0 N a0 G x1 = some res) : W p l e rX6_enrolIfRoom s m args below meth c H locs 0 0 (MQ below (mm_Qq E res.1 res.2) args s 43 230 (mm_A E)) (F0 m 0 ls []) := by
  have hx := X.1.1
  have hb := X.1.2.1
  unfold pX6_enrolIfRoom_0 at hp
  refine x_aload_n X dX6_enrolIfRoom_0 hl 0 rfl rfl ?_
  refine x_iload_n X dX6_enrolIfRoom_1 hl 1 rfl rfl ?_
  obtain ⟨hk, hp⟩ := q_is_of hp
  obtain ⟨⟨G, r2_2⟩, hq, hp⟩ := q_cl_of hp
  dsimp only at hp
  refine q_goq (cells' := 0) (slots' := 0) (va_runV (As := [.int x1]) (rest := []) X.1 (cX6_knownPeer l E hq) (tw_cwV 1 X.1.2.2.2.2 (tw_1 69 rfl rfl) kX6_knownPeer.2.1 kX6_knownPeer.2.2.1 kX6_knownPeer.2.2.2 kX6_knownPeer.1 rfl rfl hX6_knownPeer ⟨Nat.le_of_ble_eq_true rfl, Nat.le_of_ble_eq_true rfl⟩) (mm_preV X V rfl (by decide) rfl hk) rfl rfl hl.1 rfl (lv_room (Nat.le_of_ble_eq_true rfl)) dX6_enrolIfRoom_2 ⟨by decide, by decide⟩) V ⟨rfl, rfl⟩ (fun H locs V => ?_)
  refine x_astore_n (lst' := [(2, .inr r2_2), (0, .inr (some a0)), (1, .inl x1)]) X dX6_enrolIfRoom_5 hl rfl (by decide) rfl (fun ls hl => ?_)
  refine x_aload_n X dX6_enrolIfRoom_6 hl 0 rfl rfl ?_
  refine q_ifnonnull (tgt := 19) X dX6_enrolIfRoom_7 (by decide) hp (fun e0 hp2 => ?_) (fun b7_3 e0 hp2 => ?_)
  · clear hp; subst e0; have hp := hp2; clear hp2
    refine x_aload_n X dX6_enrolIfRoom_10 hl 1 rfl rfl ?_
    refine q_getI (ci := 6) X V inX6 rfl (by decide) rfl 4 (by decide) rfl (tw_1 40 rfl rfl) rfl dX6_enrolIfRoom_11 hp (fun v11_4 hp => ?_)
    refine lv_bipush (v := (12 : Int32)) hx hb dX6_enrolIfRoom_14 (by decide) ?_
    refine q_if hp (lv_icmp_lt (tgt := 21) hx hb dX6_enrolIfRoom_16 (by decide)) (fun hp => ?_) (fun hp => ?_)
    · refine q_newc (ci := 4) X V inX4 rfl tyX4 tyX4_ok (by decide) rfl rfl dfX4 (tw_1 19 rfl rfl) (tw_1 77 rfl rfl) (tw_1 4 rfl rfl) (by decide) (by decide) dX6_enrolIfRoom_21 hp (fun G b21_5 H V hp => ?_)
      refine W.cs (cells' := 1) (slots' := 5) rfl rfl ?_
      refine lv_dup hx hb dX6_enrolIfRoom_24 (va_rf_cat _) ?_
      refine x_iload_n X dX6_enrolIfRoom_25 hl 2 rfl rfl ?_
      obtain ⟨⟨G, u⟩, hq, hp⟩ := q_cl_of hp
      dsimp only at hp
      refine q_gov (cells' := 43) (slots' := 230) (va_runI (As := [.int x1]) (rest := [va_rf (some b21_5)]) X.1 (cX4_init l E hq) (tw_cwI 1 X.1.2.2.2.2 (tw_1 78 rfl rfl) kX4_init.2.1 kX4_init.2.2 kX4_init.1 rfl rfl rfl hX4_init ⟨Nat.le_of_ble_eq_true rfl, Nat.le_of_ble_eq_true rfl⟩) (mm_preS X V) rfl rfl hl.1 rfl (lv_room (Nat.le_of_ble_eq_true rfl)) dX6_enrolIfRoom_26 ⟨by decide, by decide⟩) V ⟨rfl, rfl⟩ (fun H locs V => ?_)
      refine x_astore_n (lst' := [(2, .inr (some b21_5)), (0, .inr (some a0)), (1, .inl x1)]) X dX6_enrolIfRoom_29 hl rfl (by decide) rfl (fun ls hl => ?_)
      refine x_aload_n X dX6_enrolIfRoom_30 hl 1 rfl rfl ?_
      refine q_getI (ci := 6) X V inX6 rfl (by decide) rfl 4 (by decide) rfl (tw_1 40 rfl rfl) rfl dX6_enrolIfRoom_31 hp (fun v31_7 hp => ?_)
      refine x_istore_n (lst' := [(3, .inl v31_7), (2, .inr (some b21_5)), (0, .inr (some a0)), (1, .inl x1)]) X dX6_enrolIfRoom_34 hl rfl (by decide) rfl (fun ls hl => ?_)
      refine bX6_enrolIfRoom_35 X hr (fun G H locs ls x2 x3 V hl hp => ?_) _ _ _ _ _ _ _ _ V (lx_sub hl [2, 3, 1, 0] rfl) hp
      refine x_aload_n X dX6_enrolIfRoom_85 hl 0 rfl rfl ?_
      refine q_getR (ci := 6) X V inX6 rfl (by decide) rfl 0 (by decide) rfl (tw_1 36 rfl rfl) rfl dX6_enrolIfRoom_86 hp (fun r86_22 hp => ?_)
      refine x_iload_n X dX6_enrolIfRoom_89 hl 2 rfl rfl ?_
      refine x_aload_n X dX6_enrolIfRoom_90 hl 1 rfl rfl ?_
      obtain ⟨b91_23, e0, hp2⟩ := q_nn_of hp
      clear hp; subst e0; have hp := hp2; clear hp2
      refine q_astP (ci := 4) X V rfl rfl (by decide) rfl dX6_enrolIfRoom_91 hp (fun G H locs V hp => ?_)
      refine x_aload_n X dX6_enrolIfRoom_92 hl 0 rfl rfl ?_
      refine lv_dup hx hb dX6_enrolIfRoom_93 (va_rf_cat _) ?_
      refine q_getI (ci := 6) X V inX6 rfl (by decide) rfl 4 (by decide) rfl (tw_1 40 rfl rfl) rfl dX6_enrolIfRoom_94 hp (fun v94_24 hp => ?_)
      refine lv_iconst (v := (1 : Int32)) hx hb dX6_enrolIfRoom_97 (by decide) ?_
      refine lv_iadd hx hb dX6_enrolIfRoom_98 ?_
      refine q_putI (ci := 6) X V inX6 rfl tyX6 tyX6_ok nmX6 (by decide) rfl 4 (by decide) rfl (tw_1 40 rfl rfl) rfl (Or.inl rfl) .int rfl rfl rfl dX6_enrolIfRoom_99 hp (fun G H locs V hp => ?_)
      refine x_aload_n X dX6_enrolIfRoom_102 hl 1 rfl rfl ?_
      exact q_aret X V hr ⟨by decide, by decide⟩ dX6_enrolIfRoom_103 hp
    · refine x_aload_n X dX6_enrolIfRoom_19 hl 0 rfl rfl ?_
      exact q_aret X V hr ⟨by decide, by decide⟩ dX6_enrolIfRoom_20 hp
  · clear hp; subst e0; have hp := hp2; clear hp2
    refine x_aload_n X dX6_enrolIfRoom_19 hl 0 rfl rfl ?_
    exact q_aret X V hr ⟨by decide, by decide⟩ dX6_enrolIfRoom_20 hp
theorem cX6_enrolIfRoom (l : Launch) (E : mm_E) {N a0 : Nat} {G : mm_M} {x1 : Int32} {res : mm_M × Option Nat} (hp : pX6_enrolIfRoom_0 N a0 G x1 = some res) : Met l yX6_enrolIfRoom (Cond.code yX6_enrolIfRoom prog_1_method_25_code 4 (Option.some (.object "XorOverlay$Peer")) :: tw_T) rX6_enrolIfRoom (mm_Pc E G [.ref a0, .int x1]) (mm_Qq E res.1 res.2) 43 230 (mm_A E) :=
  mm_met (own := "XorOverlay") E G [.inr (some a0), .inl x1] (by decide) rfl rfl (Nat.le_of_ble_eq_true rfl) (fun p e s m args below meth c ls X hr hi V hl => bX6_enrolIfRoom_0 X hr V hl hp)
abbrev yX0_open : MethodName := ⟨"XorOverlay$Bucket", "open", "(III)V"⟩
abbrev rX0_open : Room := { frames := 0, cells := 0, slots := 0, locals := 0 }
theorem kX0_open : Cond.code yX0_open prog_2_method_2_code 4 none ∈ tw_T ∧ Cond.instanceMethod yX0_open ∈ tw_T ∧ Cond.selects "XorOverlay$Bucket" yX0_open yX0_open ∈ tw_T ∧ Cond.initialized "XorOverlay$Bucket" ∈ tw_T := ⟨(tw_2 4 rfl rfl), (tw_2 2 rfl rfl), (tw_2 3 rfl rfl), (tw_1 6 rfl rfl)⟩
theorem hX0_open : yX0_open.cls = "XorOverlay$Bucket" ∧ yX0_open.cls ≠ "java/lang/invoke/MethodHandle" ∧ yX0_open.cls ≠ "java/lang/invoke/VarHandle" ∧ (parseMethodDescriptor yX0_open.desc).map (fun d => d.parameters.length) = some 3 := by decide +kernel
theorem dX0_open_0 : decode prog_2_method_2_code 0 = .ok (.aload_n 0, 1) := by decide +kernel
theorem dX0_open_1 : decode prog_2_method_2_code 1 = .ok (.iload_n 1, 1) := by decide +kernel
theorem dX0_open_2 : decode prog_2_method_2_code 2 = .ok (.putfield 18, 3) := by decide +kernel
theorem dX0_open_5 : decode prog_2_method_2_code 5 = .ok (.aload_n 0, 1) := by decide +kernel
theorem dX0_open_6 : decode prog_2_method_2_code 6 = .ok (.iload_n 2, 1) := by decide +kernel
theorem dX0_open_7 : decode prog_2_method_2_code 7 = .ok (.putfield 22, 3) := by decide +kernel
theorem dX0_open_10 : decode prog_2_method_2_code 10 = .ok (.aload_n 0, 1) := by decide +kernel
theorem dX0_open_11 : decode prog_2_method_2_code 11 = .ok (.iload_n 3, 1) := by decide +kernel
theorem dX0_open_12 : decode prog_2_method_2_code 12 = .ok (.putfield 25, 3) := by decide +kernel
theorem dX0_open_15 : decode prog_2_method_2_code 15 = .ok (.aload_n 0, 1) := by decide +kernel
theorem dX0_open_16 : decode prog_2_method_2_code 16 = .ok (.iconst 0, 1) := by decide +kernel
theorem dX0_open_17 : decode prog_2_method_2_code 17 = .ok (.putfield 28, 3) := by decide +kernel
theorem dX0_open_20 : decode prog_2_method_2_code 20 = .ok (.return_, 1) := by decide +kernel
def pX0_open_0 (N a0 : Nat) (G : mm_M) (x1 : Int32) (x2 : Int32) (x3 : Int32) : Option (mm_M × Unit) :=
  q_pI G a0 1 2 x1 fun G =>
  q_pI G a0 1 3 x2 fun G =>
  q_pI G a0 1 4 x3 fun G =>
  q_pI G a0 1 5 (0 : Int32) fun G =>
  some (G, ())
set_option maxRecDepth 100000 in
set_option maxHeartbeats 4000000 in
theorem bX0_open_0 {p : Program} {l : Launch} {e : Env} {s : State} {m : MethodId} {args : Array Value} {below : List Frame} {meth : Method} {c : Code} {E : mm_E} {N a0 : Nat} {res : mm_M × Unit} (X : mm_X p s m args meth c prog_2_method_2_code 4 "XorOverlay$Bucket" tw_T E) (hr : meth.sig.returnType = none) {G : mm_M} {H : Heap} {locs : List Loc} {ls : Array Slot} {x1 : Int32} {x2 : Int32} {x3 : Int32} (V : mm_V E s G H locs) (hl : lx_has ls 4 [(0, .inr (some a0)), (1, .inl x1), (2, .inl x2), (3, .inl x3)]) (hp : pX0_open_0 N a0 G x1 x2 x3 = some res) : W p l e rX0_open s m args below meth c H locs 0 0 (MQ below (mm_Qv E res.1) args s 0 0 (mm_A E)) (F0 m 0 ls []) := by
  have hx := X.1.1
  have hb := X.1.2.1
  unfold pX0_open_0 at hp
  refine x_aload_n X dX0_open_0 hl 0 rfl rfl ?_
  refine x_iload_n X dX0_open_1 hl 1 rfl rfl ?_
  refine q_putI (ci := 0) X V inX0 rfl tyX0 tyX0_ok nmX0 (by decide) rfl 2 (by decide) rfl (tw_1 101 rfl rfl) rfl (Or.inl rfl) .int rfl rfl rfl dX0_open_2 hp (fun G H locs V hp => ?_)
  refine x_aload_n X dX0_open_5 hl 0 rfl rfl ?_
  refine x_iload_n X dX0_open_6 hl 2 rfl rfl ?_
  refine q_putI (ci := 0) X V inX0 rfl tyX0 tyX0_ok nmX0 (by decide) rfl 3 (by decide) rfl (tw_1 104 rfl rfl) rfl (Or.inl rfl) .int rfl rfl rfl dX0_open_7 hp (fun G H locs V hp => ?_)
  refine x_aload_n X dX0_open_10 hl 0 rfl rfl ?_
  refine x_iload_n X dX0_open_11 hl 3 rfl rfl ?_
  refine q_putI (ci := 0) X V inX0 rfl tyX0 tyX0_ok nmX0 (by decide) rfl 4 (by decide) rfl (tw_1 106 rfl rfl) rfl (Or.inl rfl) .int rfl rfl rfl dX0_open_12 hp (fun G H locs V hp => ?_)
  refine x_aload_n X dX0_open_15 hl 0 rfl rfl ?_
  refine lv_iconst (v := (0 : Int32)) hx hb dX0_open_16 (by decide) ?_
  refine q_putI (ci := 0) X V inX0 rfl tyX0 tyX0_ok nmX0 (by decide) rfl 5 (by decide) rfl (tw_1 109 rfl rfl) rfl (Or.inl rfl) .int rfl rfl rfl dX0_open_17 hp (fun G H locs V hp => ?_)
  exact q_vret X V hr ⟨by decide, by decide⟩ dX0_open_20 hp
theorem cX0_open (l : Launch) (E : mm_E) {N a0 : Nat} {G : mm_M} {x1 : Int32} {x2 : Int32} {x3 : Int32} {res : mm_M × Unit} (hp : pX0_open_0 N a0 G x1 x2 x3 = some res) : Met l yX0_open (Cond.code yX0_open prog_2_method_2_code 4 none :: tw_T) rX0_open (mm_Pc E G [.ref a0, .int x1, .int x2, .int x3]) (mm_Qv E res.1) 0 0 (mm_A E) :=
  mm_met (own := "XorOverlay$Bucket") E G [.inr (some a0), .inl x1, .inl x2, .inl x3] (by decide) rfl rfl (Nat.le_of_ble_eq_true rfl) (fun p e s m args below meth c ls X hr hi V hl => bX0_open_0 X hr V hl hp)
abbrev yX5_reset : MethodName := ⟨"XorOverlay$Table", "reset", "(I)V"⟩
abbrev rX5_reset : Room := { frames := 1, cells := 0, slots := 0, locals := 23 }
theorem kX5_reset : Cond.code yX5_reset prog_7_method_2_code 2 none ∈ tw_T ∧ Cond.instanceMethod yX5_reset ∈ tw_T ∧ Cond.selects "XorOverlay$Table" yX5_reset yX5_reset ∈ tw_T ∧ Cond.initialized "XorOverlay$Table" ∈ tw_T := ⟨(tw_2 0 rfl rfl), (tw_1 238 rfl rfl), (tw_1 239 rfl rfl), (tw_1 5 rfl rfl)⟩
theorem hX5_reset : yX5_reset.cls = "XorOverlay$Table" ∧ yX5_reset.cls ≠ "java/lang/invoke/MethodHandle" ∧ yX5_reset.cls ≠ "java/lang/invoke/VarHandle" ∧ (parseMethodDescriptor yX5_reset.desc).map (fun d => d.parameters.length) = some 1 := by decide +kernel
theorem dX5_reset_0 : decode prog_7_method_2_code 0 = .ok (.aload_n 0, 1) := by decide +kernel
theorem dX5_reset_1 : decode prog_7_method_2_code 1 = .ok (.getfield 17, 3) := by decide +kernel
theorem dX5_reset_4 : decode prog_7_method_2_code 4 = .ok (.iconst 0, 1) := by decide +kernel
theorem dX5_reset_5 : decode prog_7_method_2_code 5 = .ok (.aaload, 1) := by decide +kernel
theorem dX5_reset_6 : decode prog_7_method_2_code 6 = .ok (.iconst 0, 1) := by decide +kernel
theorem dX5_reset_7 : decode prog_7_method_2_code 7 = .ok (.sipush 256, 3) := by decide +kernel
theorem dX5_reset_10 : decode prog_7_method_2_code 10 = .ok (.iload_n 1, 1) := by decide +kernel
theorem dX5_reset_11 : decode prog_7_method_2_code 11 = .ok (.invokevirtual 25, 3) := by decide +kernel
theorem dX5_reset_14 : decode prog_7_method_2_code 14 = .ok (.aload_n 0, 1) := by decide +kernel
theorem dX5_reset_15 : decode prog_7_method_2_code 15 = .ok (.iconst 1, 1) := by decide +kernel
theorem dX5_reset_16 : decode prog_7_method_2_code 16 = .ok (.putfield 22, 3) := by decide +kernel
theorem dX5_reset_19 : decode prog_7_method_2_code 19 = .ok (.return_, 1) := by decide +kernel
def pX5_reset_0 (N a0 : Nat) (G : mm_M) (x1 : Int32) : Option (mm_M × Unit) :=
  q_gR G a0 6 1 fun r1_1 =>
  q_nn r1_1 fun b5_2 =>
  q_aR G b5_2 104 (0 : Int32) fun r5_3 =>
  q_nn r5_3 fun b11_4 =>
  q_is G b11_4 1 <|
  q_cl (pX0_open_0 N b11_4 G (0 : Int32) (256 : Int32) x1) fun G _ =>
  q_pI G a0 6 2 (1 : Int32) fun G =>
  some (G, ())
set_option maxRecDepth 100000 in
set_option maxHeartbeats 4000000 in
theorem bX5_reset_0 {p : Program} {l : Launch} {e : Env} {s : State} {m : MethodId} {args : Array Value} {below : List Frame} {meth : Method} {c : Code} {E : mm_E} {N a0 : Nat} {res : mm_M × Unit} (X : mm_X p s m args meth c prog_7_method_2_code 2 "XorOverlay$Table" tw_T E) (hr : meth.sig.returnType = none) {G : mm_M} {H : Heap} {locs : List Loc} {ls : Array Slot} {x1 : Int32} (V : mm_V E s G H locs) (hl : lx_has ls 2 [(0, .inr (some a0)), (1, .inl x1)]) (hp : pX5_reset_0 N a0 G x1 = some res) : W p l e rX5_reset s m args below meth c H locs 0 0 (MQ below (mm_Qv E res.1) args s 0 0 (mm_A E)) (F0 m 0 ls []) := by
  have hx := X.1.1
  have hb := X.1.2.1
  unfold pX5_reset_0 at hp
  refine x_aload_n X dX5_reset_0 hl 0 rfl rfl ?_
  refine q_getR (ci := 5) X V inX5 rfl (by decide) rfl 1 (by decide) rfl (tw_1 126 rfl rfl) rfl dX5_reset_1 hp (fun r1_1 hp => ?_)
  refine lv_iconst (v := (0 : Int32)) hx hb dX5_reset_4 (by decide) ?_
  obtain ⟨b5_2, e0, hp2⟩ := q_nn_of hp
  clear hp; subst e0; have hp := hp2; clear hp2
  refine q_aldB X V dX5_reset_5 hp (fun r5_3 hp => ?_)
  refine lv_iconst (v := (0 : Int32)) hx hb dX5_reset_6 (by decide) ?_
  refine lv_sipush (v := (256 : Int32)) hx hb dX5_reset_7 (by decide) ?_
  refine x_iload_n X dX5_reset_10 hl 1 rfl rfl ?_
  obtain ⟨b11_4, e0, hp2⟩ := q_nn_of hp
  clear hp; subst e0; have hp := hp2; clear hp2
  obtain ⟨hk, hp⟩ := q_is_of hp
  obtain ⟨⟨G, u⟩, hq, hp⟩ := q_cl_of hp
  dsimp only at hp
  refine q_gov (cells' := 0) (slots' := 0) (va_runV (As := [.int (0 : Int32), .int (256 : Int32), .int x1]) (rest := []) X.1 (cX0_open l E hq) (tw_cwV 3 X.1.2.2.2.2 (tw_2 1 rfl rfl) kX0_open.2.1 kX0_open.2.2.1 kX0_open.2.2.2 kX0_open.1 rfl rfl hX0_open ⟨Nat.le_of_ble_eq_true rfl, Nat.le_of_ble_eq_true rfl⟩) (mm_preV X V rfl (by decide) rfl hk) rfl rfl hl.1 rfl (lv_room (Nat.le_of_ble_eq_true rfl)) dX5_reset_11 ⟨by decide, by decide⟩) V ⟨rfl, rfl⟩ (fun H locs V => ?_)
  refine x_aload_n X dX5_reset_14 hl 0 rfl rfl ?_
  refine lv_iconst (v := (1 : Int32)) hx hb dX5_reset_15 (by decide) ?_
  refine q_putI (ci := 5) X V inX5 rfl tyX5 tyX5_ok nmX5 (by decide) rfl 2 (by decide) rfl (tw_1 128 rfl rfl) rfl (Or.inl rfl) .int rfl rfl rfl dX5_reset_16 hp (fun G H locs V hp => ?_)
  exact q_vret X V hr ⟨by decide, by decide⟩ dX5_reset_19 hp
theorem cX5_reset (l : Launch) (E : mm_E) {N a0 : Nat} {G : mm_M} {x1 : Int32} {res : mm_M × Unit} (hp : pX5_reset_0 N a0 G x1 = some res) : Met l yX5_reset (Cond.code yX5_reset prog_7_method_2_code 2 none :: tw_T) rX5_reset (mm_Pc E G [.ref a0, .int x1]) (mm_Qv E res.1) 0 0 (mm_A E) :=
  mm_met (own := "XorOverlay$Table") E G [.inr (some a0), .inl x1] (by decide) rfl rfl (Nat.le_of_ble_eq_true rfl) (fun p e s m args below meth c ls X hr hi V hl => bX5_reset_0 X hr V hl hp)
abbrev yX3_forget : MethodName := ⟨"XorOverlay$Lookup", "forget", "()V"⟩
abbrev rX3_forget : Room := { frames := 0, cells := 0, slots := 0, locals := 0 }
theorem kX3_forget : Cond.code yX3_forget prog_5_method_2_code 1 none ∈ tw_T ∧ Cond.instanceMethod yX3_forget ∈ tw_T ∧ Cond.selects "XorOverlay$Lookup" yX3_forget yX3_forget ∈ tw_T ∧ Cond.initialized "XorOverlay$Lookup" ∈ tw_T := ⟨(tw_2 8 rfl rfl), (tw_2 6 rfl rfl), (tw_2 7 rfl rfl), (tw_1 7 rfl rfl)⟩
theorem hX3_forget : yX3_forget.cls = "XorOverlay$Lookup" ∧ yX3_forget.cls ≠ "java/lang/invoke/MethodHandle" ∧ yX3_forget.cls ≠ "java/lang/invoke/VarHandle" ∧ (parseMethodDescriptor yX3_forget.desc).map (fun d => d.parameters.length) = some 0 := by decide +kernel
theorem dX3_forget_0 : decode prog_5_method_2_code 0 = .ok (.aload_n 0, 1) := by decide +kernel
theorem dX3_forget_1 : decode prog_5_method_2_code 1 = .ok (.iconst 0, 1) := by decide +kernel
theorem dX3_forget_2 : decode prog_5_method_2_code 2 = .ok (.putfield 27, 3) := by decide +kernel
theorem dX3_forget_5 : decode prog_5_method_2_code 5 = .ok (.aload_n 0, 1) := by decide +kernel
theorem dX3_forget_6 : decode prog_5_method_2_code 6 = .ok (.iconst 0, 1) := by decide +kernel
theorem dX3_forget_7 : decode prog_5_method_2_code 7 = .ok (.putfield 31, 3) := by decide +kernel
theorem dX3_forget_10 : decode prog_5_method_2_code 10 = .ok (.aload_n 0, 1) := by decide +kernel
theorem dX3_forget_11 : decode prog_5_method_2_code 11 = .ok (.iconst 0, 1) := by decide +kernel
theorem dX3_forget_12 : decode prog_5_method_2_code 12 = .ok (.putfield 34, 3) := by decide +kernel
theorem dX3_forget_15 : decode prog_5_method_2_code 15 = .ok (.return_, 1) := by decide +kernel
def pX3_forget_0 (N a0 : Nat) (G : mm_M) : Option (mm_M × Unit) :=
  q_pI G a0 4 5 (0 : Int32) fun G =>
  q_pI G a0 4 9 (0 : Int32) fun G =>
  q_pI G a0 4 10 (0 : Int32) fun G =>
  some (G, ())
set_option maxRecDepth 100000 in
set_option maxHeartbeats 4000000 in
theorem bX3_forget_0 {p : Program} {l : Launch} {e : Env} {s : State} {m : MethodId} {args : Array Value} {below : List Frame} {meth : Method} {c : Code} {E : mm_E} {N a0 : Nat} {res : mm_M × Unit} (X : mm_X p s m args meth c prog_5_method_2_code 1 "XorOverlay$Lookup" tw_T E) (hr : meth.sig.returnType = none) {G : mm_M} {H : Heap} {locs : List Loc} {ls : Array Slot} (V : mm_V E s G H locs) (hl : lx_has ls 1 [(0, .inr (some a0))]) (hp : pX3_forget_0 N a0 G = some res) : W p l e rX3_forget s m args below meth c H locs 0 0 (MQ below (mm_Qv E res.1) args s 0 0 (mm_A E)) (F0 m 0 ls []) := by
  have hx := X.1.1
  have hb := X.1.2.1
  unfold pX3_forget_0 at hp
  refine x_aload_n X dX3_forget_0 hl 0 rfl rfl ?_
  refine lv_iconst (v := (0 : Int32)) hx hb dX3_forget_1 (by decide) ?_
  refine q_putI (ci := 3) X V inX3 rfl tyX3 tyX3_ok nmX3 (by decide) rfl 5 (by decide) rfl (tw_1 153 rfl rfl) rfl (Or.inl rfl) .int rfl rfl rfl dX3_forget_2 hp (fun G H locs V hp => ?_)
  refine x_aload_n X dX3_forget_5 hl 0 rfl rfl ?_
  refine lv_iconst (v := (0 : Int32)) hx hb dX3_forget_6 (by decide) ?_
  refine q_putI (ci := 3) X V inX3 rfl tyX3 tyX3_ok nmX3 (by decide) rfl 9 (by decide) rfl (tw_1 161 rfl rfl) rfl (Or.inl rfl) .int rfl rfl rfl dX3_forget_7 hp (fun G H locs V hp => ?_)
  refine x_aload_n X dX3_forget_10 hl 0 rfl rfl ?_
  refine lv_iconst (v := (0 : Int32)) hx hb dX3_forget_11 (by decide) ?_
  refine q_putI (ci := 3) X V inX3 rfl tyX3 tyX3_ok nmX3 (by decide) rfl 10 (by decide) rfl (tw_1 163 rfl rfl) rfl (Or.inl rfl) .int rfl rfl rfl dX3_forget_12 hp (fun G H locs V hp => ?_)
  exact q_vret X V hr ⟨by decide, by decide⟩ dX3_forget_15 hp
theorem cX3_forget (l : Launch) (E : mm_E) {N a0 : Nat} {G : mm_M} {res : mm_M × Unit} (hp : pX3_forget_0 N a0 G = some res) : Met l yX3_forget (Cond.code yX3_forget prog_5_method_2_code 1 none :: tw_T) rX3_forget (mm_Pc E G [.ref a0]) (mm_Qv E res.1) 0 0 (mm_A E) :=
  mm_met (own := "XorOverlay$Lookup") E G [.inr (some a0)] (by decide) rfl rfl (Nat.le_of_ble_eq_true rfl) (fun p e s m args below meth c ls X hr hi V hl => bX3_forget_0 X hr V hl hp)
abbrev yX4_startAnew : MethodName := ⟨"XorOverlay$Peer", "startAnew", "(I)V"⟩
abbrev rX4_startAnew : Room := { frames := 2, cells := 0, slots := 0, locals := 44 }
theorem kX4_startAnew : Cond.code yX4_startAnew prog_6_method_2_code 2 none ∈ tw_T ∧ Cond.instanceMethod yX4_startAnew ∈ tw_T ∧ Cond.selects "XorOverlay$Peer" yX4_startAnew yX4_startAnew ∈ tw_T ∧ Cond.initialized "XorOverlay$Peer" ∈ tw_T := ⟨(tw_1 236 rfl rfl), (tw_1 234 rfl rfl), (tw_1 235 rfl rfl), (tw_1 4 rfl rfl)⟩
theorem hX4_startAnew : yX4_startAnew.cls = "XorOverlay$Peer" ∧ yX4_startAnew.cls ≠ "java/lang/invoke/MethodHandle" ∧ yX4_startAnew.cls ≠ "java/lang/invoke/VarHandle" ∧ (parseMethodDescriptor yX4_startAnew.desc).map (fun d => d.parameters.length) = some 1 := by decide +kernel
theorem dX4_startAnew_0 : decode prog_6_method_2_code 0 = .ok (.aload_n 0, 1) := by decide +kernel
theorem dX4_startAnew_1 : decode prog_6_method_2_code 1 = .ok (.iconst 1, 1) := by decide +kernel
theorem dX4_startAnew_2 : decode prog_6_method_2_code 2 = .ok (.putfield 36, 3) := by decide +kernel
theorem dX4_startAnew_5 : decode prog_6_method_2_code 5 = .ok (.aload_n 0, 1) := by decide +kernel
theorem dX4_startAnew_6 : decode prog_6_method_2_code 6 = .ok (.getfield 18, 3) := by decide +kernel
theorem dX4_startAnew_9 : decode prog_6_method_2_code 9 = .ok (.iload_n 1, 1) := by decide +kernel
theorem dX4_startAnew_10 : decode prog_6_method_2_code 10 = .ok (.invokevirtual 40, 3) := by decide +kernel
theorem dX4_startAnew_13 : decode prog_6_method_2_code 13 = .ok (.aload_n 0, 1) := by decide +kernel
theorem dX4_startAnew_14 : decode prog_6_method_2_code 14 = .ok (.getfield 25, 3) := by decide +kernel
theorem dX4_startAnew_17 : decode prog_6_method_2_code 17 = .ok (.invokevirtual 43, 3) := by decide +kernel
theorem dX4_startAnew_20 : decode prog_6_method_2_code 20 = .ok (.aload_n 0, 1) := by decide +kernel
theorem dX4_startAnew_21 : decode prog_6_method_2_code 21 = .ok (.getfield 32, 3) := by decide +kernel
theorem dX4_startAnew_24 : decode prog_6_method_2_code 24 = .ok (.iconst 0, 1) := by decide +kernel
theorem dX4_startAnew_25 : decode prog_6_method_2_code 25 = .ok (.putfield 46, 3) := by decide +kernel
theorem dX4_startAnew_28 : decode prog_6_method_2_code 28 = .ok (.return_, 1) := by decide +kernel
def pX4_startAnew_0 (N a0 : Nat) (G : mm_M) (x1 : Int32) : Option (mm_M × Unit) :=
  q_pI G a0 5 4 (1 : Int32) fun G =>
  q_gR G a0 5 1 fun r6_1 =>
  q_nn r6_1 fun b10_2 =>
  q_is G b10_2 6 <|
  q_cl (pX5_reset_0 N b10_2 G x1) fun G _ =>
  q_gR G a0 5 2 fun r14_4 =>
  q_nn r14_4 fun b17_5 =>
  q_is G b17_5 4 <|
  q_cl (pX3_forget_0 N b17_5 G) fun G _ =>
  q_gR G a0 5 3 fun r21_7 =>
  q_nn r21_7 fun b25_8 =>
  q_pI G b25_8 2 3 (0 : Int32) fun G =>
  some (G, ())
set_option maxRecDepth 100000 in
set_option maxHeartbeats 4000000 in
theorem bX4_startAnew_0 {p : Program} {l : Launch} {e : Env} {s : State} {m : MethodId} {args : Array Value} {below : List Frame} {meth : Method} {c : Code} {E : mm_E} {N a0 : Nat} {res : mm_M × Unit} (X : mm_X p s m args meth c prog_6_method_2_code 2 "XorOverlay$Peer" tw_T E) (hr : meth.sig.returnType = none) {G : mm_M} {H : Heap} {locs : List Loc} {ls : Array Slot} {x1 : Int32} (V : mm_V E s G H locs) (hl : lx_has ls 2 [(0, .inr (some a0)), (1, .inl x1)]) (hp : pX4_startAnew_0 N a0 G x1 = some res) : W p l e rX4_startAnew s m args below meth c H locs 0 0 (MQ below (mm_Qv E res.1) args s 0 0 (mm_A E)) (F0 m 0 ls []) := by
  have hx := X.1.1
  have hb := X.1.2.1
  unfold pX4_startAnew_0 at hp
  refine x_aload_n X dX4_startAnew_0 hl 0 rfl rfl ?_
  refine lv_iconst (v := (1 : Int32)) hx hb dX4_startAnew_1 (by decide) ?_
  refine q_putI (ci := 4) X V inX4 rfl tyX4 tyX4_ok nmX4 (by decide) rfl 4 (by decide) rfl (tw_1 220 rfl rfl) rfl (Or.inl rfl) .boolean rfl rfl rfl dX4_startAnew_2 hp (fun G H locs V hp => ?_)
  refine x_aload_n X dX4_startAnew_5 hl 0 rfl rfl ?_
  refine q_getR (ci := 4) X V inX4 rfl (by decide) rfl 1 (by decide) rfl (tw_1 214 rfl rfl) rfl dX4_startAnew_6 hp (fun r6_1 hp => ?_)
  refine x_iload_n X dX4_startAnew_9 hl 1 rfl rfl ?_
  obtain ⟨b10_2, e0, hp2⟩ := q_nn_of hp
  clear hp; subst e0; have hp := hp2; clear hp2
  obtain ⟨hk, hp⟩ := q_is_of hp
  obtain ⟨⟨G, u⟩, hq, hp⟩ := q_cl_of hp
  dsimp only at hp
  refine q_gov (cells' := 0) (slots' := 0) (va_runV (As := [.int x1]) (rest := []) X.1 (cX5_reset l E hq) (tw_cwV 1 X.1.2.2.2.2 (tw_1 237 rfl rfl) kX5_reset.2.1 kX5_reset.2.2.1 kX5_reset.2.2.2 kX5_reset.1 rfl rfl hX5_reset ⟨Nat.le_of_ble_eq_true rfl, Nat.le_of_ble_eq_true rfl⟩) (mm_preV X V rfl (by decide) rfl hk) rfl rfl hl.1 rfl (lv_room (Nat.le_of_ble_eq_true rfl)) dX4_startAnew_10 ⟨by decide, by decide⟩) V ⟨rfl, rfl⟩ (fun H locs V => ?_)
  refine x_aload_n X dX4_startAnew_13 hl 0 rfl rfl ?_
  refine q_getR (ci := 4) X V inX4 rfl (by decide) rfl 2 (by decide) rfl (tw_1 216 rfl rfl) rfl dX4_startAnew_14 hp (fun r14_4 hp => ?_)
  obtain ⟨b17_5, e0, hp2⟩ := q_nn_of hp
  clear hp; subst e0; have hp := hp2; clear hp2
  obtain ⟨hk, hp⟩ := q_is_of hp
  obtain ⟨⟨G, u⟩, hq, hp⟩ := q_cl_of hp
  dsimp only at hp
  refine q_gov (cells' := 0) (slots' := 0) (va_runV (As := []) (rest := []) X.1 (cX3_forget l E hq) (tw_cwV 0 X.1.2.2.2.2 (tw_2 5 rfl rfl) kX3_forget.2.1 kX3_forget.2.2.1 kX3_forget.2.2.2 kX3_forget.1 rfl rfl hX3_forget ⟨Nat.le_of_ble_eq_true rfl, Nat.le_of_ble_eq_true rfl⟩) (mm_preV X V rfl (by decide) rfl hk) rfl rfl hl.1 rfl (lv_room (Nat.le_of_ble_eq_true rfl)) dX4_startAnew_17 ⟨by decide, by decide⟩) V ⟨rfl, rfl⟩ (fun H locs V => ?_)
  refine x_aload_n X dX4_startAnew_20 hl 0 rfl rfl ?_
  refine q_getR (ci := 4) X V inX4 rfl (by decide) rfl 3 (by decide) rfl (tw_1 218 rfl rfl) rfl dX4_startAnew_21 hp (fun r21_7 hp => ?_)
  refine lv_iconst (v := (0 : Int32)) hx hb dX4_startAnew_24 (by decide) ?_
  obtain ⟨b25_8, e0, hp2⟩ := q_nn_of hp
  clear hp; subst e0; have hp := hp2; clear hp2
  refine q_putI (ci := 1) X V inX1 rfl tyX1 tyX1_ok nmX1 (by decide) rfl 3 (by decide) rfl (tw_1 201 rfl rfl) rfl (Or.inl rfl) .int rfl rfl rfl dX4_startAnew_25 hp (fun G H locs V hp => ?_)
  exact q_vret X V hr ⟨by decide, by decide⟩ dX4_startAnew_28 hp
theorem cX4_startAnew (l : Launch) (E : mm_E) {N a0 : Nat} {G : mm_M} {x1 : Int32} {res : mm_M × Unit} (hp : pX4_startAnew_0 N a0 G x1 = some res) : Met l yX4_startAnew (Cond.code yX4_startAnew prog_6_method_2_code 2 none :: tw_T) rX4_startAnew (mm_Pc E G [.ref a0, .int x1]) (mm_Qv E res.1) 0 0 (mm_A E) :=
  mm_met (own := "XorOverlay$Peer") E G [.inr (some a0), .inl x1] (by decide) rfl rfl (Nat.le_of_ble_eq_true rfl) (fun p e s m args below meth c ls X hr hi V hl => bX4_startAnew_0 X hr V hl hp)
abbrev yX5_rangeOf : MethodName := ⟨"XorOverlay$Table", "rangeOf", "(I)I"⟩
abbrev rX5_rangeOf : Room := { frames := 0, cells := 0, slots := 0, locals := 0 }
theorem kX5_rangeOf : Cond.code yX5_rangeOf prog_7_method_8_code 3 (Option.some .int) ∈ tw_T ∧ Cond.instanceMethod yX5_rangeOf ∈ tw_T ∧ Cond.selects "XorOverlay$Table" yX5_rangeOf yX5_rangeOf ∈ tw_T ∧ Cond.initialized "XorOverlay$Table" ∈ tw_T := ⟨(tw_2 16 rfl rfl), (tw_2 15 rfl rfl), (tw_s 3 rfl rfl), (tw_1 5 rfl rfl)⟩
theorem hX5_rangeOf : yX5_rangeOf.cls = "XorOverlay$Table" ∧ yX5_rangeOf.cls ≠ "java/lang/invoke/MethodHandle" ∧ yX5_rangeOf.cls ≠ "java/lang/invoke/VarHandle" ∧ (parseMethodDescriptor yX5_rangeOf.desc).map (fun d => d.parameters.length) = some 1 := by decide +kernel
theorem dX5_rangeOf_0 : decode prog_7_method_8_code 0 = .ok (.iconst 0, 1) := by decide +kernel
theorem dX5_rangeOf_1 : decode prog_7_method_8_code 1 = .ok (.istore_n 2, 1) := by decide +kernel
theorem dX5_rangeOf_2 : decode prog_7_method_8_code 2 = .ok (.iload_n 2, 1) := by decide +kernel
theorem dX5_rangeOf_3 : decode prog_7_method_8_code 3 = .ok (.iconst 1, 1) := by decide +kernel
theorem dX5_rangeOf_4 : decode prog_7_method_8_code 4 = .ok (.iadd, 1) := by decide +kernel
theorem dX5_rangeOf_5 : decode prog_7_method_8_code 5 = .ok (.aload_n 0, 1) := by decide +kernel
theorem dX5_rangeOf_6 : decode prog_7_method_8_code 6 = .ok (.getfield 22, 3) := by decide +kernel
theorem dX5_rangeOf_9 : decode prog_7_method_8_code 9 = .ok (.if_icmp .ge 24, 3) := by decide +kernel
theorem dX5_rangeOf_12 : decode prog_7_method_8_code 12 = .ok (.aload_n 0, 1) := by decide +kernel
theorem dX5_rangeOf_13 : decode prog_7_method_8_code 13 = .ok (.getfield 17, 3) := by decide +kernel
theorem dX5_rangeOf_16 : decode prog_7_method_8_code 16 = .ok (.iload_n 2, 1) := by decide +kernel
theorem dX5_rangeOf_17 : decode prog_7_method_8_code 17 = .ok (.iconst 1, 1) := by decide +kernel
theorem dX5_rangeOf_18 : decode prog_7_method_8_code 18 = .ok (.iadd, 1) := by decide +kernel
theorem dX5_rangeOf_19 : decode prog_7_method_8_code 19 = .ok (.aaload, 1) := by decide +kernel
theorem dX5_rangeOf_20 : decode prog_7_method_8_code 20 = .ok (.getfield 69, 3) := by decide +kernel
theorem dX5_rangeOf_23 : decode prog_7_method_8_code 23 = .ok (.iload_n 1, 1) := by decide +kernel
theorem dX5_rangeOf_24 : decode prog_7_method_8_code 24 = .ok (.if_icmp .gt 9, 3) := by decide +kernel
theorem dX5_rangeOf_27 : decode prog_7_method_8_code 27 = .ok (.iinc 2 1, 3) := by decide +kernel
theorem dX5_rangeOf_30 : decode prog_7_method_8_code 30 = .ok (.goto (-28), 3) := by decide +kernel
theorem dX5_rangeOf_33 : decode prog_7_method_8_code 33 = .ok (.iload_n 2, 1) := by decide +kernel
theorem dX5_rangeOf_34 : decode prog_7_method_8_code 34 = .ok (.ireturn, 1) := by decide +kernel
def pX5_rangeOf_2_b (N a0 : Nat) (kb : mm_M → Int32 → Int32 → Option (mm_M × Int32)) (kx : mm_M → Int32 → Option (mm_M × Int32)) (G : mm_M) (x1 : Int32) (x2 : Int32) : Option (mm_M × Int32) :=
  q_gI G a0 6 2 fun v6_1 =>
  if v6_1 ≤ (x2 + (1 : Int32)) then
    kx G x2
  else
    q_gR G a0 6 1 fun r13_2 =>
    q_nn r13_2 fun b19_3 =>
    q_aR G b19_3 104 (x2 + (1 : Int32)) fun r19_4 =>
    q_nn r19_4 fun b20_5 =>
    q_gI G b20_5 1 2 fun v20_6 =>
    if x1 < v20_6 then
      kx G x2
    else
      kb G x1 (x2 + (1 : Int32))
def pX5_rangeOf_2 (N a0 : Nat) (kx : mm_M → Int32 → Option (mm_M × Int32)) : Nat → mm_M → Int32 → Int32 → Option (mm_M × Int32)
  | 0 => fun _ _ _ => none
  | n + 1 => pX5_rangeOf_2_b N a0 (pX5_rangeOf_2 N a0 kx n) kx
set_option maxRecDepth 100000 in
set_option maxHeartbeats 4000000 in
theorem bX5_rangeOf_2 {p : Program} {l : Launch} {e : Env} {s : State} {m : MethodId} {args : Array Value} {below : List Frame} {meth : Method} {c : Code} {E : mm_E} {N a0 : Nat} {res : mm_M × Int32} (X : mm_X p s m args meth c prog_7_method_8_code 3 "XorOverlay$Table" tw_T E) (hr : meth.sig.returnType = (Option.some .int)) {kx : mm_M → Int32 → Option (mm_M × Int32)} (hkx : ∀ (G : mm_M) (H : Heap) (locs : List Loc) (ls : Array Slot) (x2 : Int32), mm_V E s G H locs → lx_has ls 3 [(0, .inr (some a0)), (2, .inl x2)] → kx G x2 = some res → W p l e rX5_rangeOf s m args below meth c H locs 0 0 (MQ below (mm_Qi E res.1 res.2) args s 0 0 (mm_A E)) (F0 m 33 ls [])) :
    ∀ (n : Nat) (G : mm_M) (H : Heap) (locs : List Loc) (ls : Array Slot) (x1 : Int32) (x2 : Int32), mm_V E s G H locs → lx_has ls 3 [(0, .inr (some a0)), (1, .inl x1), (2, .inl x2)] → pX5_rangeOf_2 N a0 kx n G x1 x2 = some res → W p l e rX5_rangeOf s m args below meth c H locs 0 0 (MQ below (mm_Qi E res.1 res.2) args s 0 0 (mm_A E)) (F0 m 2 ls []) := by
  have hx := X.1.1
  have hb := X.1.2.1
  intro n
  induction n with
  | zero =>
    intro G H locs ls x1 x2 V hl hp
    cases hp
  | succ n ih =>
    intro G H locs ls x1 x2 V hl hp
    have hp : pX5_rangeOf_2_b N a0 (pX5_rangeOf_2 N a0 kx n) kx G x1 x2 = some res := hp
    unfold pX5_rangeOf_2_b at hp
    refine x_iload_n X dX5_rangeOf_2 hl 2 rfl rfl ?_
    refine lv_iconst (v := (1 : Int32)) hx hb dX5_rangeOf_3 (by decide) ?_
    refine lv_iadd hx hb dX5_rangeOf_4 ?_
    refine x_aload_n X dX5_rangeOf_5 hl 0 rfl rfl ?_
    refine q_getI (ci := 5) X V inX5 rfl (by decide) rfl 2 (by decide) rfl (tw_1 128 rfl rfl) rfl dX5_rangeOf_6 hp (fun v6_1 hp => ?_)
    refine q_if hp (lv_icmp_ge (tgt := 33) hx hb dX5_rangeOf_9 (by decide)) (fun hp => ?_) (fun hp => ?_)
    · exact hkx _ _ _ _ _ V (lx_sub hl [0, 2] rfl) hp
    · refine x_aload_n X dX5_rangeOf_12 hl 0 rfl rfl ?_
      refine q_getR (ci := 5) X V inX5 rfl (by decide) rfl 1 (by decide) rfl (tw_1 126 rfl rfl) rfl dX5_rangeOf_13 hp (fun r13_2 hp => ?_)
      refine x_iload_n X dX5_rangeOf_16 hl 2 rfl rfl ?_
      refine lv_iconst (v := (1 : Int32)) hx hb dX5_rangeOf_17 (by decide) ?_
      refine lv_iadd hx hb dX5_rangeOf_18 ?_
      obtain ⟨b19_3, e0, hp2⟩ := q_nn_of hp
      clear hp; subst e0; have hp := hp2; clear hp2
      refine q_aldB X V dX5_rangeOf_19 hp (fun r19_4 hp => ?_)
      obtain ⟨b20_5, e0, hp2⟩ := q_nn_of hp
      clear hp; subst e0; have hp := hp2; clear hp2
      refine q_getI (ci := 0) X V inX0 rfl (by decide) rfl 2 (by decide) rfl (tw_1 102 rfl rfl) rfl dX5_rangeOf_20 hp (fun v20_6 hp => ?_)
      refine x_iload_n X dX5_rangeOf_23 hl 1 rfl rfl ?_
      refine q_if hp (lv_icmp_gt (tgt := 33) hx hb dX5_rangeOf_24 (by decide)) (fun hp => ?_) (fun hp => ?_)
      · exact hkx _ _ _ _ _ V (lx_sub hl [0, 2] rfl) hp
      · refine x_iinc (v := (1 : Int32)) (lst' := [(2, .inl (x2 + (1 : Int32))), (0, .inr (some a0)), (1, .inl x1)]) X dX5_rangeOf_27 hl 2 rfl (by decide) (by decide) rfl (fun ls hl => ?_)
        refine lv_goto (tgt := 2) hx hb dX5_rangeOf_30 (by decide) ?_
        exact ih _ _ _ _ _ _ V (lx_sub hl [1, 2, 0] rfl) hp
def pX5_rangeOf_0 (N a0 : Nat) (G : mm_M) (x1 : Int32) : Option (mm_M × Int32) :=
  pX5_rangeOf_2 N a0 (fun (G : mm_M) (x2 : Int32) =>
    some (G, x2)) N G x1 (0 : Int32)
set_option maxRecDepth 100000 in
set_option maxHeartbeats 4000000 in
theorem bX5_rangeOf_0 {p : Program} {l : Launch} {e : Env} {s : State} {m : MethodId} {args : Array Value} {below : List Frame} {meth : Method} {c : Code} {E : mm_E} {N a0 : Nat} {res : mm_M × Int32} (X : mm_X p s m args meth c prog_7_method_8_code 3 "XorOverlay$Table" tw_T E) (hr : meth.sig.returnType = (Option.some .int)) {G : mm_M} {H : Heap} {locs : List Loc} {ls : Array Slot} {x1 : Int32} (V : mm_V E s G H locs) (hl : lx_has ls 3 [(0, .inr (some a0)), (1, .inl x1)]) (hp : pX5_rangeOf_0 N a0 G x1 = some res) : W p l e rX5_rangeOf s m args below meth c H locs 0 0 (MQ below (mm_Qi E res.1 res.2) args s 0 0 (mm_A E)) (F0 m 0 ls []) := by
  have hx := X.1.1
  have hb := X.1.2.1
  unfold pX5_rangeOf_0 at hp
  refine lv_iconst (v := (0 : Int32)) hx hb dX5_rangeOf_0 (by decide) ?_
  refine x_istore_n (lst' := [(2, .inl (0 : Int32)), (0, .inr (some a0)), (1, .inl x1)]) X dX5_rangeOf_1 hl rfl (by decide) rfl (fun ls hl => ?_)
  refine bX5_rangeOf_2 X hr (fun G H locs ls x2 V hl hp => ?_) _ _ _ _ _ _ _ V (lx_sub hl [1, 2, 0] rfl) hp
  refine x_iload_n X dX5_rangeOf_33 hl 1 rfl rfl ?_
  exact q_iret X V hr ⟨by decide, by decide⟩ dX5_rangeOf_34 hp
theorem cX5_rangeOf (l : Launch) (E : mm_E) {N a0 : Nat} {G : mm_M} {x1 : Int32} {res : mm_M × Int32} (hp : pX5_rangeOf_0 N a0 G x1 = some res) : Met l yX5_rangeOf (Cond.code yX5_rangeOf prog_7_method_8_code 3 (Option.some .int) :: tw_T) rX5_rangeOf (mm_Pc E G [.ref a0, .int x1]) (mm_Qi E res.1 res.2) 0 0 (mm_A E) :=
  mm_met (own := "XorOverlay$Table") E G [.inr (some a0), .inl x1] (by decide) rfl rfl (Nat.le_of_ble_eq_true rfl) (fun p e s m args below meth c ls X hr hi V hl => bX5_rangeOf_0 X hr V hl hp)
abbrev yX0_placeOf : MethodName := ⟨"XorOverlay$Bucket", "placeOf", "(I)I"⟩
abbrev rX0_placeOf : Room := { frames := 0, cells := 0, slots := 0, locals := 0 }
theorem kX0_placeOf : Cond.code yX0_placeOf prog_2_method_5_code 3 (Option.some .int) ∈ tw_T ∧ Cond.instanceMethod yX0_placeOf ∈ tw_T ∧ Cond.selects "XorOverlay$Bucket" yX0_placeOf yX0_placeOf ∈ tw_T ∧ Cond.initialized "XorOverlay$Bucket" ∈ tw_T := ⟨(tw_2 20 rfl rfl), (tw_2 18 rfl rfl), (tw_2 19 rfl rfl), (tw_1 6 rfl rfl)⟩
theorem hX0_placeOf : yX0_placeOf.cls = "XorOverlay$Bucket" ∧ yX0_placeOf.cls ≠ "java/lang/invoke/MethodHandle" ∧ yX0_placeOf.cls ≠ "java/lang/invoke/VarHandle" ∧ (parseMethodDescriptor yX0_placeOf.desc).map (fun d => d.parameters.length) = some 1 := by decide +kernel
theorem dX0_placeOf_0 : decode prog_2_method_5_code 0 = .ok (.iconst 0, 1) := by decide +kernel
theorem dX0_placeOf_1 : decode prog_2_method_5_code 1 = .ok (.istore_n 2, 1) := by decide +kernel
theorem dX0_placeOf_2 : decode prog_2_method_5_code 2 = .ok (.iload_n 2, 1) := by decide +kernel
theorem dX0_placeOf_3 : decode prog_2_method_5_code 3 = .ok (.aload_n 0, 1) := by decide +kernel
theorem dX0_placeOf_4 : decode prog_2_method_5_code 4 = .ok (.getfield 28, 3) := by decide +kernel
theorem dX0_placeOf_7 : decode prog_2_method_5_code 7 = .ok (.if_icmp .ge 21, 3) := by decide +kernel
theorem dX0_placeOf_10 : decode prog_2_method_5_code 10 = .ok (.aload_n 0, 1) := by decide +kernel
theorem dX0_placeOf_11 : decode prog_2_method_5_code 11 = .ok (.getfield 11, 3) := by decide +kernel
theorem dX0_placeOf_14 : decode prog_2_method_5_code 14 = .ok (.iload_n 2, 1) := by decide +kernel
theorem dX0_placeOf_15 : decode prog_2_method_5_code 15 = .ok (.iaload, 1) := by decide +kernel
theorem dX0_placeOf_16 : decode prog_2_method_5_code 16 = .ok (.iload_n 1, 1) := by decide +kernel
theorem dX0_placeOf_17 : decode prog_2_method_5_code 17 = .ok (.if_icmp .ne 5, 3) := by decide +kernel
theorem dX0_placeOf_20 : decode prog_2_method_5_code 20 = .ok (.iload_n 2, 1) := by decide +kernel
theorem dX0_placeOf_21 : decode prog_2_method_5_code 21 = .ok (.ireturn, 1) := by decide +kernel
theorem dX0_placeOf_22 : decode prog_2_method_5_code 22 = .ok (.iinc 2 1, 3) := by decide +kernel
theorem dX0_placeOf_25 : decode prog_2_method_5_code 25 = .ok (.goto (-23), 3) := by decide +kernel
theorem dX0_placeOf_28 : decode prog_2_method_5_code 28 = .ok (.iconst (-1), 1) := by decide +kernel
theorem dX0_placeOf_29 : decode prog_2_method_5_code 29 = .ok (.ireturn, 1) := by decide +kernel
def pX0_placeOf_2_b (N a0 : Nat) (kb : mm_M → Int32 → Int32 → Option (mm_M × Int32)) (kx : mm_M → Option (mm_M × Int32)) (G : mm_M) (x1 : Int32) (x2 : Int32) : Option (mm_M × Int32) :=
  q_gI G a0 1 5 fun v4_1 =>
  if v4_1 ≤ x2 then
    kx G
  else
    q_gR G a0 1 0 fun r11_2 =>
    q_nn r11_2 fun b15_3 =>
    q_aI G b15_3 101 x2 fun v15_4 =>
    if v15_4 = x1 then
      some (G, x2)
    else
      kb G x1 (x2 + (1 : Int32))
def pX0_placeOf_2 (N a0 : Nat) (kx : mm_M → Option (mm_M × Int32)) : Nat → mm_M → Int32 → Int32 → Option (mm_M × Int32)
  | 0 => fun _ _ _ => none
  | n + 1 => pX0_placeOf_2_b N a0 (pX0_placeOf_2 N a0 kx n) kx
set_option maxRecDepth 100000 in
set_option maxHeartbeats 4000000 in
theorem bX0_placeOf_2 {p : Program} {l : Launch} {e : Env} {s : State} {m : MethodId} {args : Array Value} {below : List Frame} {meth : Method} {c : Code} {E : mm_E} {N a0 : Nat} {res : mm_M × Int32} (X : mm_X p s m args meth c prog_2_method_5_code 3 "XorOverlay$Bucket" tw_T E) (hr : meth.sig.returnType = (Option.some .int)) {kx : mm_M → Option (mm_M × Int32)} (hkx : ∀ (G : mm_M) (H : Heap) (locs : List Loc) (ls : Array Slot), mm_V E s G H locs → lx_has ls 3 [(0, .inr (some a0))] → kx G = some res → W p l e rX0_placeOf s m args below meth c H locs 0 0 (MQ below (mm_Qi E res.1 res.2) args s 0 0 (mm_A E)) (F0 m 28 ls [])) :
    ∀ (n : Nat) (G : mm_M) (H : Heap) (locs : List Loc) (ls : Array Slot) (x1 : Int32) (x2 : Int32), mm_V E s G H locs → lx_has ls 3 [(0, .inr (some a0)), (1, .inl x1), (2, .inl x2)] → pX0_placeOf_2 N a0 kx n G x1 x2 = some res → W p l e rX0_placeOf s m args below meth c H locs 0 0 (MQ below (mm_Qi E res.1 res.2) args s 0 0 (mm_A E)) (F0 m 2 ls []) := by
  have hx := X.1.1
  have hb := X.1.2.1
  intro n
  induction n with
  | zero =>
    intro G H locs ls x1 x2 V hl hp
    cases hp
  | succ n ih =>
    intro G H locs ls x1 x2 V hl hp
    have hp : pX0_placeOf_2_b N a0 (pX0_placeOf_2 N a0 kx n) kx G x1 x2 = some res := hp
    unfold pX0_placeOf_2_b at hp
    refine x_iload_n X dX0_placeOf_2 hl 2 rfl rfl ?_
    refine x_aload_n X dX0_placeOf_3 hl 0 rfl rfl ?_
    refine q_getI (ci := 0) X V inX0 rfl (by decide) rfl 5 (by decide) rfl (tw_1 109 rfl rfl) rfl dX0_placeOf_4 hp (fun v4_1 hp => ?_)
    refine q_if hp (lv_icmp_ge (tgt := 28) hx hb dX0_placeOf_7 (by decide)) (fun hp => ?_) (fun hp => ?_)
    · exact hkx _ _ _ _ V (lx_sub hl [0] rfl) hp
    · refine x_aload_n X dX0_placeOf_10 hl 0 rfl rfl ?_
      refine q_getR (ci := 0) X V inX0 rfl (by decide) rfl 0 (by decide) rfl (tw_1 95 rfl rfl) rfl dX0_placeOf_11 hp (fun r11_2 hp => ?_)
      refine x_iload_n X dX0_placeOf_14 hl 2 rfl rfl ?_
      obtain ⟨b15_3, e0, hp2⟩ := q_nn_of hp
      clear hp; subst e0; have hp := hp2; clear hp2
      refine q_iald X V dX0_placeOf_15 hp (fun v15_4 hp => ?_)
      refine x_iload_n X dX0_placeOf_16 hl 1 rfl rfl ?_
      refine q_ifn hp (lv_icmp_ne (tgt := 22) hx hb dX0_placeOf_17 (by decide)) (fun hp => ?_) (fun hp => ?_)
      · refine x_iinc (v := (1 : Int32)) (lst' := [(2, .inl (x2 + (1 : Int32))), (0, .inr (some a0)), (1, .inl x1)]) X dX0_placeOf_22 hl 2 rfl (by decide) (by decide) rfl (fun ls hl => ?_)
        refine lv_goto (tgt := 2) hx hb dX0_placeOf_25 (by decide) ?_
        exact ih _ _ _ _ _ _ V (lx_sub hl [1, 2, 0] rfl) hp
      · refine x_iload_n X dX0_placeOf_20 hl 2 rfl rfl ?_
        exact q_iret X V hr ⟨by decide, by decide⟩ dX0_placeOf_21 hp
def pX0_placeOf_0 (N a0 : Nat) (G : mm_M) (x1 : Int32) : Option (mm_M × Int32) :=
  pX0_placeOf_2 N a0 (fun (G : mm_M) =>
    some (G, (-1 : Int32))) N G x1 (0 : Int32)
set_option maxRecDepth 100000 in
set_option maxHeartbeats 4000000 in
theorem bX0_placeOf_0 {p : Program} {l : Launch} {e : Env} {s : State} {m : MethodId} {args : Array Value} {below : List Frame} {meth : Method} {c : Code} {E : mm_E} {N a0 : Nat} {res : mm_M × Int32} (X : mm_X p s m args meth c prog_2_method_5_code 3 "XorOverlay$Bucket" tw_T E) (hr : meth.sig.returnType = (Option.some .int)) {G : mm_M} {H : Heap} {locs : List Loc} {ls : Array Slot} {x1 : Int32} (V : mm_V E s G H locs) (hl : lx_has ls 3 [(0, .inr (some a0)), (1, .inl x1)]) (hp : pX0_placeOf_0 N a0 G x1 = some res) : W p l e rX0_placeOf s m args below meth c H locs 0 0 (MQ below (mm_Qi E res.1 res.2) args s 0 0 (mm_A E)) (F0 m 0 ls []) := by
  have hx := X.1.1
  have hb := X.1.2.1
  unfold pX0_placeOf_0 at hp
  refine lv_iconst (v := (0 : Int32)) hx hb dX0_placeOf_0 (by decide) ?_
  refine x_istore_n (lst' := [(2, .inl (0 : Int32)), (0, .inr (some a0)), (1, .inl x1)]) X dX0_placeOf_1 hl rfl (by decide) rfl (fun ls hl => ?_)
  refine bX0_placeOf_2 X hr (fun G H locs ls V hl hp => ?_) _ _ _ _ _ _ _ V (lx_sub hl [1, 2, 0] rfl) hp
  refine lv_iconst (v := (-1 : Int32)) hx hb dX0_placeOf_28 (by decide) ?_
  exact q_iret X V hr ⟨by decide, by decide⟩ dX0_placeOf_29 hp
theorem cX0_placeOf (l : Launch) (E : mm_E) {N a0 : Nat} {G : mm_M} {x1 : Int32} {res : mm_M × Int32} (hp : pX0_placeOf_0 N a0 G x1 = some res) : Met l yX0_placeOf (Cond.code yX0_placeOf prog_2_method_5_code 3 (Option.some .int) :: tw_T) rX0_placeOf (mm_Pc E G [.ref a0, .int x1]) (mm_Qi E res.1 res.2) 0 0 (mm_A E) :=
  mm_met (own := "XorOverlay$Bucket") E G [.inr (some a0), .inl x1] (by decide) rfl rfl (Nat.le_of_ble_eq_true rfl) (fun p e s m args below meth c ls X hr hi V hl => bX0_placeOf_0 X hr V hl hp)
abbrev yX0_removeAt : MethodName := ⟨"XorOverlay$Bucket", "removeAt", "(I)V"⟩
abbrev rX0_removeAt : Room := { frames := 0, cells := 0, slots := 0, locals := 0 }
theorem kX0_removeAt : Cond.code yX0_removeAt prog_2_method_7_code 3 none ∈ tw_T ∧ Cond.instanceMethod yX0_removeAt ∈ tw_T ∧ Cond.selects "XorOverlay$Bucket" yX0_removeAt yX0_removeAt ∈ tw_T ∧ Cond.initialized "XorOverlay$Bucket" ∈ tw_T := ⟨(tw_2 24 rfl rfl), (tw_2 22 rfl rfl), (tw_2 23 rfl rfl), (tw_1 6 rfl rfl)⟩
theorem hX0_removeAt : yX0_removeAt.cls = "XorOverlay$Bucket" ∧ yX0_removeAt.cls ≠ "java/lang/invoke/MethodHandle" ∧ yX0_removeAt.cls ≠ "java/lang/invoke/VarHandle" ∧ (parseMethodDescriptor yX0_removeAt.desc).map (fun d => d.parameters.length) = some 1 := by decide +kernel
theorem dX0_removeAt_0 : decode prog_2_method_7_code 0 = .ok (.iload_n 1, 1) := by decide +kernel
theorem dX0_removeAt_1 : decode prog_2_method_7_code 1 = .ok (.istore_n 2, 1) := by decide +kernel
theorem dX0_removeAt_2 : decode prog_2_method_7_code 2 = .ok (.iload_n 2, 1) := by decide +kernel
theorem dX0_removeAt_3 : decode prog_2_method_7_code 3 = .ok (.iconst 1, 1) := by decide +kernel
theorem dX0_removeAt_4 : decode prog_2_method_7_code 4 = .ok (.iadd, 1) := by decide +kernel
theorem dX0_removeAt_5 : decode prog_2_method_7_code 5 = .ok (.aload_n 0, 1) := by decide +kernel
theorem dX0_removeAt_6 : decode prog_2_method_7_code 6 = .ok (.getfield 28, 3) := by decide +kernel
theorem dX0_removeAt_9 : decode prog_2_method_7_code 9 = .ok (.if_icmp .ge 37, 3) := by decide +kernel
theorem dX0_removeAt_12 : decode prog_2_method_7_code 12 = .ok (.aload_n 0, 1) := by decide +kernel
theorem dX0_removeAt_13 : decode prog_2_method_7_code 13 = .ok (.getfield 11, 3) := by decide +kernel
theorem dX0_removeAt_16 : decode prog_2_method_7_code 16 = .ok (.iload_n 2, 1) := by decide +kernel
theorem dX0_removeAt_17 : decode prog_2_method_7_code 17 = .ok (.aload_n 0, 1) := by decide +kernel
theorem dX0_removeAt_18 : decode prog_2_method_7_code 18 = .ok (.getfield 11, 3) := by decide +kernel
theorem dX0_removeAt_21 : decode prog_2_method_7_code 21 = .ok (.iload_n 2, 1) := by decide +kernel
theorem dX0_removeAt_22 : decode prog_2_method_7_code 22 = .ok (.iconst 1, 1) := by decide +kernel
theorem dX0_removeAt_23 : decode prog_2_method_7_code 23 = .ok (.iadd, 1) := by decide +kernel
theorem dX0_removeAt_24 : decode prog_2_method_7_code 24 = .ok (.iaload, 1) := by decide +kernel
theorem dX0_removeAt_25 : decode prog_2_method_7_code 25 = .ok (.iastore, 1) := by decide +kernel
theorem dX0_removeAt_26 : decode prog_2_method_7_code 26 = .ok (.aload_n 0, 1) := by decide +kernel
theorem dX0_removeAt_27 : decode prog_2_method_7_code 27 = .ok (.getfield 15, 3) := by decide +kernel
theorem dX0_removeAt_30 : decode prog_2_method_7_code 30 = .ok (.iload_n 2, 1) := by decide +kernel
theorem dX0_removeAt_31 : decode prog_2_method_7_code 31 = .ok (.aload_n 0, 1) := by decide +kernel
theorem dX0_removeAt_32 : decode prog_2_method_7_code 32 = .ok (.getfield 15, 3) := by decide +kernel
theorem dX0_removeAt_35 : decode prog_2_method_7_code 35 = .ok (.iload_n 2, 1) := by decide +kernel
theorem dX0_removeAt_36 : decode prog_2_method_7_code 36 = .ok (.iconst 1, 1) := by decide +kernel
theorem dX0_removeAt_37 : decode prog_2_method_7_code 37 = .ok (.iadd, 1) := by decide +kernel
theorem dX0_removeAt_38 : decode prog_2_method_7_code 38 = .ok (.iaload, 1) := by decide +kernel
theorem dX0_removeAt_39 : decode prog_2_method_7_code 39 = .ok (.iastore, 1) := by decide +kernel
theorem dX0_removeAt_40 : decode prog_2_method_7_code 40 = .ok (.iinc 2 1, 3) := by decide +kernel
theorem dX0_removeAt_43 : decode prog_2_method_7_code 43 = .ok (.goto (-41), 3) := by decide +kernel
theorem dX0_removeAt_46 : decode prog_2_method_7_code 46 = .ok (.aload_n 0, 1) := by decide +kernel
theorem dX0_removeAt_47 : decode prog_2_method_7_code 47 = .ok (.dup, 1) := by decide +kernel
theorem dX0_removeAt_48 : decode prog_2_method_7_code 48 = .ok (.getfield 28, 3) := by decide +kernel
theorem dX0_removeAt_51 : decode prog_2_method_7_code 51 = .ok (.iconst 1, 1) := by decide +kernel
theorem dX0_removeAt_52 : decode prog_2_method_7_code 52 = .ok (.isub, 1) := by decide +kernel
theorem dX0_removeAt_53 : decode prog_2_method_7_code 53 = .ok (.putfield 28, 3) := by decide +kernel
theorem dX0_removeAt_56 : decode prog_2_method_7_code 56 = .ok (.return_, 1) := by decide +kernel
def pX0_removeAt_2_b (N a0 : Nat) (kb : mm_M → Int32 → Option (mm_M × Unit)) (kx : mm_M → Option (mm_M × Unit)) (G : mm_M) (x2 : Int32) : Option (mm_M × Unit) :=
  q_gI G a0 1 5 fun v6_1 =>
  if v6_1 ≤ (x2 + (1 : Int32)) then
    kx G
  else
    q_gR G a0 1 0 fun r13_2 =>
    q_gR G a0 1 0 fun r18_3 =>
    q_nn r18_3 fun b24_4 =>
    q_aI G b24_4 101 (x2 + (1 : Int32)) fun v24_5 =>
    q_nn r13_2 fun b25_6 =>
    q_sI G b25_6 101 x2 v24_5 fun G =>
    q_gR G a0 1 1 fun r27_7 =>
    q_gR G a0 1 1 fun r32_8 =>
    q_nn r32_8 fun b38_9 =>
    q_aI G b38_9 101 (x2 + (1 : Int32)) fun v38_10 =>
    q_nn r27_7 fun b39_11 =>
    q_sI G b39_11 101 x2 v38_10 fun G =>
    kb G (x2 + (1 : Int32))
def pX0_removeAt_2 (N a0 : Nat) (kx : mm_M → Option (mm_M × Unit)) : Nat → mm_M → Int32 → Option (mm_M × Unit)
  | 0 => fun _ _ => none
  | n + 1 => pX0_removeAt_2_b N a0 (pX0_removeAt_2 N a0 kx n) kx
set_option maxRecDepth 100000 in
set_option maxHeartbeats 4000000 in
theorem bX0_removeAt_2 {p : Program} {l : Launch} {e : Env} {s : State} {m : MethodId} {args : Array Value} {below : List Frame} {meth : Method} {c : Code} {E : mm_E} {N a0 : Nat} {res : mm_M × Unit} (X : mm_X p s m args meth c prog_2_method_7_code 3 "XorOverlay$Bucket" tw_T E) (hr : meth.sig.returnType = none) {kx : mm_M → Option (mm_M × Unit)} (hkx : ∀ (G : mm_M) (H : Heap) (locs : List Loc) (ls : Array Slot), mm_V E s G H locs → lx_has ls 3 [(0, .inr (some a0))] → kx G = some res → W p l e rX0_removeAt s m args below meth c H locs 0 0 (MQ below (mm_Qv E res.1) args s 0 0 (mm_A E)) (F0 m 46 ls [])) :
    ∀ (n : Nat) (G : mm_M) (H : Heap) (locs : List Loc) (ls : Array Slot) (x2 : Int32), mm_V E s G H locs → lx_has ls 3 [(0, .inr (some a0)), (2, .inl x2)] → pX0_removeAt_2 N a0 kx n G x2 = some res → W p l e rX0_removeAt s m args below meth c H locs 0 0 (MQ below (mm_Qv E res.1) args s 0 0 (mm_A E)) (F0 m 2 ls []) := by
  have hx := X.1.1
  have hb := X.1.2.1
  intro n
  induction n with
  | zero =>
    intro G H locs ls x2 V hl hp
    cases hp
  | succ n ih =>
    intro G H locs ls x2 V hl hp
    have hp : pX0_removeAt_2_b N a0 (pX0_removeAt_2 N a0 kx n) kx G x2 = some res := hp
    unfold pX0_removeAt_2_b at hp
    refine x_iload_n X dX0_removeAt_2 hl 1 rfl rfl ?_
    refine lv_iconst (v := (1 : Int32)) hx hb dX0_removeAt_3 (by decide) ?_
    refine lv_iadd hx hb dX0_removeAt_4 ?_
    refine x_aload_n X dX0_removeAt_5 hl 0 rfl rfl ?_
    refine q_getI (ci := 0) X V inX0 rfl (by decide) rfl 5 (by decide) rfl (tw_1 109 rfl rfl) rfl dX0_removeAt_6 hp (fun v6_1 hp => ?_)
    refine q_if hp (lv_icmp_ge (tgt := 46) hx hb dX0_removeAt_9 (by decide)) (fun hp => ?_) (fun hp => ?_)
    · exact hkx _ _ _ _ V (lx_sub hl [0] rfl) hp
    · refine x_aload_n X dX0_removeAt_12 hl 0 rfl rfl ?_
      refine q_getR (ci := 0) X V inX0 rfl (by decide) rfl 0 (by decide) rfl (tw_1 95 rfl rfl) rfl dX0_removeAt_13 hp (fun r13_2 hp => ?_)
      refine x_iload_n X dX0_removeAt_16 hl 1 rfl rfl ?_
      refine x_aload_n X dX0_removeAt_17 hl 0 rfl rfl ?_
      refine q_getR (ci := 0) X V inX0 rfl (by decide) rfl 0 (by decide) rfl (tw_1 95 rfl rfl) rfl dX0_removeAt_18 hp (fun r18_3 hp => ?_)
      refine x_iload_n X dX0_removeAt_21 hl 1 rfl rfl ?_
      refine lv_iconst (v := (1 : Int32)) hx hb dX0_removeAt_22 (by decide) ?_
      refine lv_iadd hx hb dX0_removeAt_23 ?_
      obtain ⟨b24_4, e0, hp2⟩ := q_nn_of hp
      clear hp; subst e0; have hp := hp2; clear hp2
      refine q_iald X V dX0_removeAt_24 hp (fun v24_5 hp => ?_)
      obtain ⟨b25_6, e0, hp2⟩ := q_nn_of hp
      clear hp; subst e0; have hp := hp2; clear hp2
      refine q_iast X V dX0_removeAt_25 hp (fun G H locs V hp => ?_)
      refine x_aload_n X dX0_removeAt_26 hl 0 rfl rfl ?_
      refine q_getR (ci := 0) X V inX0 rfl (by decide) rfl 1 (by decide) rfl (tw_1 98 rfl rfl) rfl dX0_removeAt_27 hp (fun r27_7 hp => ?_)
      refine x_iload_n X dX0_removeAt_30 hl 1 rfl rfl ?_
      refine x_aload_n X dX0_removeAt_31 hl 0 rfl rfl ?_
      refine q_getR (ci := 0) X V inX0 rfl (by decide) rfl 1 (by decide) rfl (tw_1 98 rfl rfl) rfl dX0_removeAt_32 hp (fun r32_8 hp => ?_)
      refine x_iload_n X dX0_removeAt_35 hl 1 rfl rfl ?_
      refine lv_iconst (v := (1 : Int32)) hx hb dX0_removeAt_36 (by decide) ?_
      refine lv_iadd hx hb dX0_removeAt_37 ?_
      obtain ⟨b38_9, e0, hp2⟩ := q_nn_of hp
      clear hp; subst e0; have hp := hp2; clear hp2
      refine q_iald X V dX0_removeAt_38 hp (fun v38_10 hp => ?_)
      obtain ⟨b39_11, e0, hp2⟩ := q_nn_of hp
      clear hp; subst e0; have hp := hp2; clear hp2
      refine q_iast X V dX0_removeAt_39 hp (fun G H locs V hp => ?_)
      refine x_iinc (v := (1 : Int32)) (lst' := [(2, .inl (x2 + (1 : Int32))), (0, .inr (some a0))]) X dX0_removeAt_40 hl 1 rfl (by decide) (by decide) rfl (fun ls hl => ?_)
      refine lv_goto (tgt := 2) hx hb dX0_removeAt_43 (by decide) ?_
      exact ih _ _ _ _ _ V (lx_sub hl [1, 0] rfl) hp
def pX0_removeAt_0 (N a0 : Nat) (G : mm_M) (x1 : Int32) : Option (mm_M × Unit) :=
  pX0_removeAt_2 N a0 (fun (G : mm_M) =>
    q_gI G a0 1 5 fun v48_12 =>
    q_pI G a0 1 5 (v48_12 - (1 : Int32)) fun G =>
    some (G, ())) N G x1
set_option maxRecDepth 100000 in
set_option maxHeartbeats 4000000 in
theorem bX0_removeAt_0 {p : Program} {l : Launch} {e : Env} {s : State} {m : MethodId} {args : Array Value} {below : List Frame} {meth : Method} {c : Code} {E : mm_E} {N a0 : Nat} {res : mm_M × Unit} (X : mm_X p s m args meth c prog_2_method_7_code 3 "XorOverlay$Bucket" tw_T E) (hr : meth.sig.returnType = none) {G : mm_M} {H : Heap} {locs : List Loc} {ls : Array Slot} {x1 : Int32} (V : mm_V E s G H locs) (hl : lx_has ls 3 [(0, .inr (some a0)), (1, .inl x1)]) (hp : pX0_removeAt_0 N a0 G x1 = some res) : W p l e rX0_removeAt s m args below meth c H locs 0 0 (MQ below (mm_Qv E res.1) args s 0 0 (mm_A E)) (F0 m 0 ls []) := by
  have hx := X.1.1
  have hb := X.1.2.1
  unfold pX0_removeAt_0 at hp
  refine x_iload_n X dX0_removeAt_0 hl 1 rfl rfl ?_
  refine x_istore_n (lst' := [(2, .inl x1), (0, .inr (some a0)), (1, .inl x1)]) X dX0_removeAt_1 hl rfl (by decide) rfl (fun ls hl => ?_)
  refine bX0_removeAt_2 X hr (fun G H locs ls V hl hp => ?_) _ _ _ _ _ _ V (lx_sub hl [1, 0] rfl) hp
  refine x_aload_n X dX0_removeAt_46 hl 0 rfl rfl ?_
  refine lv_dup hx hb dX0_removeAt_47 (va_rf_cat _) ?_
  refine q_getI (ci := 0) X V inX0 rfl (by decide) rfl 5 (by decide) rfl (tw_1 109 rfl rfl) rfl dX0_removeAt_48 hp (fun v48_12 hp => ?_)
  refine lv_iconst (v := (1 : Int32)) hx hb dX0_removeAt_51 (by decide) ?_
  refine lv_isub hx hb dX0_removeAt_52 ?_
  refine q_putI (ci := 0) X V inX0 rfl tyX0 tyX0_ok nmX0 (by decide) rfl 5 (by decide) rfl (tw_1 109 rfl rfl) rfl (Or.inl rfl) .int rfl rfl rfl dX0_removeAt_53 hp (fun G H locs V hp => ?_)
  exact q_vret X V hr ⟨by decide, by decide⟩ dX0_removeAt_56 hp
theorem cX0_removeAt (l : Launch) (E : mm_E) {N a0 : Nat} {G : mm_M} {x1 : Int32} {res : mm_M × Unit} (hp : pX0_removeAt_0 N a0 G x1 = some res) : Met l yX0_removeAt (Cond.code yX0_removeAt prog_2_method_7_code 3 none :: tw_T) rX0_removeAt (mm_Pc E G [.ref a0, .int x1]) (mm_Qv E res.1) 0 0 (mm_A E) :=
  mm_met (own := "XorOverlay$Bucket") E G [.inr (some a0), .inl x1] (by decide) rfl rfl (Nat.le_of_ble_eq_true rfl) (fun p e s m args below meth c ls X hr hi V hl => bX0_removeAt_0 X hr V hl hp)
end
section
abbrev yX0_append : MethodName := ⟨"XorOverlay$Bucket", "append", "(II)V"⟩
abbrev rX0_append : Room := { frames := 0, cells := 0, slots := 0, locals := 0 }
theorem kX0_append : Cond.code yX0_append prog_2_method_6_code 3 none ∈ tw_T ∧ Cond.instanceMethod yX0_append ∈ tw_T ∧ Cond.selects "XorOverlay$Bucket" yX0_append yX0_append ∈ tw_T ∧ Cond.initialized "XorOverlay$Bucket" ∈ tw_T := ⟨(tw_2 28 rfl rfl), (tw_2 26 rfl rfl), (tw_2 27 rfl rfl), (tw_1 6 rfl rfl)⟩
theorem hX0_append : yX0_append.cls = "XorOverlay$Bucket" ∧ yX0_append.cls ≠ "java/lang/invoke/MethodHandle" ∧ yX0_append.cls ≠ "java/lang/invoke/VarHandle" ∧ (parseMethodDescriptor yX0_append.desc).map (fun d => d.parameters.length) = some 2 := by decide +kernel
theorem dX0_append_0 : decode prog_2_method_6_code 0 = .ok (.aload_n 0, 1) := by decide +kernel
theorem dX0_append_1 : decode prog_2_method_6_code 1 = .ok (.getfield 28, 3) := by decide +kernel
theorem dX0_append_4 : decode prog_2_method_6_code 4 = .ok (.iconst 3, 1) := by decide +kernel
theorem dX0_append_5 : decode prog_2_method_6_code 5 = .ok (.if_icmp .ge 33, 3) := by decide +kernel
theorem dX0_append_8 : decode prog_2_method_6_code 8 = .ok (.aload_n 0, 1) := by decide +kernel
theorem dX0_append_9 : decode prog_2_method_6_code 9 = .ok (.getfield 11, 3) := by decide +kernel
theorem dX0_append_12 : decode prog_2_method_6_code 12 = .ok (.aload_n 0, 1) := by decide +kernel
theorem dX0_append_13 : decode prog_2_method_6_code 13 = .ok (.getfield 28, 3) := by decide +kernel
theorem dX0_append_16 : decode prog_2_method_6_code 16 = .ok (.iload_n 1, 1) := by decide +kernel
theorem dX0_append_17 : decode prog_2_method_6_code 17 = .ok (.iastore, 1) := by decide +kernel
theorem dX0_append_18 : decode prog_2_method_6_code 18 = .ok (.aload_n 0, 1) := by decide +kernel
theorem dX0_append_19 : decode prog_2_method_6_code 19 = .ok (.getfield 15, 3) := by decide +kernel
theorem dX0_append_22 : decode prog_2_method_6_code 22 = .ok (.aload_n 0, 1) := by decide +kernel
theorem dX0_append_23 : decode prog_2_method_6_code 23 = .ok (.getfield 28, 3) := by decide +kernel
theorem dX0_append_26 : decode prog_2_method_6_code 26 = .ok (.iload_n 2, 1) := by decide +kernel
theorem dX0_append_27 : decode prog_2_method_6_code 27 = .ok (.iastore, 1) := by decide +kernel
theorem dX0_append_28 : decode prog_2_method_6_code 28 = .ok (.aload_n 0, 1) := by decide +kernel
theorem dX0_append_29 : decode prog_2_method_6_code 29 = .ok (.dup, 1) := by decide +kernel
theorem dX0_append_30 : decode prog_2_method_6_code 30 = .ok (.getfield 28, 3) := by decide +kernel
theorem dX0_append_33 : decode prog_2_method_6_code 33 = .ok (.iconst 1, 1) := by decide +kernel
theorem dX0_append_34 : decode prog_2_method_6_code 34 = .ok (.iadd, 1) := by decide +kernel
theorem dX0_append_35 : decode prog_2_method_6_code 35 = .ok (.putfield 28, 3) := by decide +kernel
theorem dX0_append_38 : decode prog_2_method_6_code 38 = .ok (.return_, 1) := by decide +kernel
def pX0_append_0 (N a0 : Nat) (G : mm_M) (x1 : Int32) (x2 : Int32) : Option (mm_M × Unit) :=
  q_gI G a0 1 5 fun v1_1 =>
  if (3 : Int32) ≤ v1_1 then
    some (G, ())
  else
    q_gR G a0 1 0 fun r9_2 =>
    q_gI G a0 1 5 fun v13_3 =>
    q_nn r9_2 fun b17_4 =>
    q_sI G b17_4 101 v13_3 x1 fun G =>
    q_gR G a0 1 1 fun r19_5 =>
    q_gI G a0 1 5 fun v23_6 =>
    q_nn r19_5 fun b27_7 =>
    q_sI G b27_7 101 v23_6 x2 fun G =>
    q_gI G a0 1 5 fun v30_8 =>
    q_pI G a0 1 5 (v30_8 + (1 : Int32)) fun G =>
    some (G, ())
set_option maxRecDepth 100000 in
set_option maxHeartbeats 4000000 in
theorem bX0_append_0 {p : Program} {l : Launch} {e : Env} {s : State} {m : MethodId} {args : Array Value} {below : List Frame} {meth : Method} {c : Code} {E : mm_E} {N a0 : Nat} {res : mm_M × Unit} (X : mm_X p s m args meth c prog_2_method_6_code 3 "XorOverlay$Bucket" tw_T E) (hr : meth.sig.returnType = none) {G : mm_M} {H : Heap} {locs : List Loc} {ls : Array Slot} {x1 : Int32} {x2 : Int32} (V : mm_V E s G H locs) (hl : lx_has ls 3 [(0, .inr (some a0)), (1, .inl x1), (2, .inl x2)]) (hp : pX0_append_0 N a0 G x1 x2 = some res) : W p l e rX0_append s m args below meth c H locs 0 0 (MQ below (mm_Qv E res.1) args s 0 0 (mm_A E)) (F0 m 0 ls []) := by
  have hx := X.1.1
  have hb := X.1.2.1
  unfold pX0_append_0 at hp
  refine x_aload_n X dX0_append_0 hl 0 rfl rfl ?_
  refine q_getI (ci := 0) X V inX0 rfl (by decide) rfl 5 (by decide) rfl (tw_1 109 rfl rfl) rfl dX0_append_1 hp (fun v1_1 hp => ?_)
  refine lv_iconst (v := (3 : Int32)) hx hb dX0_append_4 (by decide) ?_
  refine q_if hp (lv_icmp_ge (tgt := 38) hx hb dX0_append_5 (by decide)) (fun hp => ?_) (fun hp => ?_)
  · exact q_vret X V hr ⟨by decide, by decide⟩ dX0_append_38 hp
  · refine x_aload_n X dX0_append_8 hl 0 rfl rfl ?_
    refine q_getR (ci := 0) X V inX0 rfl (by decide) rfl 0 (by decide) rfl (tw_1 95 rfl rfl) rfl dX0_append_9 hp (fun r9_2 hp => ?_)
    refine x_aload_n X dX0_append_12 hl 0 rfl rfl ?_
    refine q_getI (ci := 0) X V inX0 rfl (by decide) rfl 5 (by decide) rfl (tw_1 109 rfl rfl) rfl dX0_append_13 hp (fun v13_3 hp => ?_)
    refine x_iload_n X dX0_append_16 hl 1 rfl rfl ?_
    obtain ⟨b17_4, e0, hp2⟩ := q_nn_of hp
    clear hp; subst e0; have hp := hp2; clear hp2
    refine q_iast X V dX0_append_17 hp (fun G H locs V hp => ?_)
    refine x_aload_n X dX0_append_18 hl 0 rfl rfl ?_
    refine q_getR (ci := 0) X V inX0 rfl (by decide) rfl 1 (by decide) rfl (tw_1 98 rfl rfl) rfl dX0_append_19 hp (fun r19_5 hp => ?_)
    refine x_aload_n X dX0_append_22 hl 0 rfl rfl ?_
    refine q_getI (ci := 0) X V inX0 rfl (by decide) rfl 5 (by decide) rfl (tw_1 109 rfl rfl) rfl dX0_append_23 hp (fun v23_6 hp => ?_)
    refine x_iload_n X dX0_append_26 hl 2 rfl rfl ?_
    obtain ⟨b27_7, e0, hp2⟩ := q_nn_of hp
    clear hp; subst e0; have hp := hp2; clear hp2
    refine q_iast X V dX0_append_27 hp (fun G H locs V hp => ?_)
    refine x_aload_n X dX0_append_28 hl 0 rfl rfl ?_
    refine lv_dup hx hb dX0_append_29 (va_rf_cat _) ?_
    refine q_getI (ci := 0) X V inX0 rfl (by decide) rfl 5 (by decide) rfl (tw_1 109 rfl rfl) rfl dX0_append_30 hp (fun v30_8 hp => ?_)
    refine lv_iconst (v := (1 : Int32)) hx hb dX0_append_33 (by decide) ?_
    refine lv_iadd hx hb dX0_append_34 ?_
    refine q_putI (ci := 0) X V inX0 rfl tyX0 tyX0_ok nmX0 (by decide) rfl 5 (by decide) rfl (tw_1 109 rfl rfl) rfl (Or.inl rfl) .int rfl rfl rfl dX0_append_35 hp (fun G H locs V hp => ?_)
    exact q_vret X V hr ⟨by decide, by decide⟩ dX0_append_38 hp
theorem cX0_append (l : Launch) (E : mm_E) {N a0 : Nat} {G : mm_M} {x1 : Int32} {x2 : Int32} {res : mm_M × Unit} (hp : pX0_append_0 N a0 G x1 x2 = some res) : Met l yX0_append (Cond.code yX0_append prog_2_method_6_code 3 none :: tw_T) rX0_append (mm_Pc E G [.ref a0, .int x1, .int x2]) (mm_Qv E res.1) 0 0 (mm_A E) :=
  mm_met (own := "XorOverlay$Bucket") E G [.inr (some a0), .inl x1, .inl x2] (by decide) rfl rfl (Nat.le_of_ble_eq_true rfl) (fun p e s m args below meth c ls X hr hi V hl => bX0_append_0 X hr V hl hp)
abbrev yX0_isFull : MethodName := ⟨"XorOverlay$Bucket", "isFull", "()Z"⟩
abbrev rX0_isFull : Room := { frames := 0, cells := 0, slots := 0, locals := 0 }
theorem kX0_isFull : Cond.code yX0_isFull prog_2_method_4_code 1 (Option.some .boolean) ∈ tw_T ∧ Cond.instanceMethod yX0_isFull ∈ tw_T ∧ Cond.selects "XorOverlay$Bucket" yX0_isFull yX0_isFull ∈ tw_T ∧ Cond.initialized "XorOverlay$Bucket" ∈ tw_T := ⟨(tw_2 36 rfl rfl), (tw_2 34 rfl rfl), (tw_2 35 rfl rfl), (tw_1 6 rfl rfl)⟩
theorem hX0_isFull : yX0_isFull.cls = "XorOverlay$Bucket" ∧ yX0_isFull.cls ≠ "java/lang/invoke/MethodHandle" ∧ yX0_isFull.cls ≠ "java/lang/invoke/VarHandle" ∧ (parseMethodDescriptor yX0_isFull.desc).map (fun d => d.parameters.length) = some 0 := by decide +kernel
theorem dX0_isFull_0 : decode prog_2_method_4_code 0 = .ok (.aload_n 0, 1) := by decide +kernel
theorem dX0_isFull_1 : decode prog_2_method_4_code 1 = .ok (.getfield 28, 3) := by decide +kernel
theorem dX0_isFull_4 : decode prog_2_method_4_code 4 = .ok (.iconst 3, 1) := by decide +kernel
theorem dX0_isFull_5 : decode prog_2_method_4_code 5 = .ok (.if_icmp .lt 7, 3) := by decide +kernel
theorem dX0_isFull_8 : decode prog_2_method_4_code 8 = .ok (.iconst 1, 1) := by decide +kernel
theorem dX0_isFull_9 : decode prog_2_method_4_code 9 = .ok (.goto 4, 3) := by decide +kernel
theorem dX0_isFull_12 : decode prog_2_method_4_code 12 = .ok (.iconst 0, 1) := by decide +kernel
theorem dX0_isFull_13 : decode prog_2_method_4_code 13 = .ok (.ireturn, 1) := by decide +kernel
def pX0_isFull_0 (N a0 : Nat) (G : mm_M) : Option (mm_M × Int32) :=
  q_gI G a0 1 5 fun v1_1 =>
  if v1_1 < (3 : Int32) then
    some (G, (0 : Int32))
  else
    some (G, (1 : Int32))
set_option maxRecDepth 100000 in
set_option maxHeartbeats 4000000 in
theorem bX0_isFull_0 {p : Program} {l : Launch} {e : Env} {s : State} {m : MethodId} {args : Array Value} {below : List Frame} {meth : Method} {c : Code} {E : mm_E} {N a0 : Nat} {res : mm_M × Int32} (X : mm_X p s m args meth c prog_2_method_4_code 1 "XorOverlay$Bucket" tw_T E) (hr : meth.sig.returnType = (Option.some .boolean)) {G : mm_M} {H : Heap} {locs : List Loc} {ls : Array Slot} (V : mm_V E s G H locs) (hl : lx_has ls 1 [(0, .inr (some a0))]) (hp : pX0_isFull_0 N a0 G = some res) : W p l e rX0_isFull s m args below meth c H locs 0 0 (MQ below (mm_Qi E res.1 res.2) args s 0 0 (mm_A E)) (F0 m 0 ls []) := by
  have hx := X.1.1
  have hb := X.1.2.1
  unfold pX0_isFull_0 at hp
  refine x_aload_n X dX0_isFull_0 hl 0 rfl rfl ?_
  refine q_getI (ci := 0) X V inX0 rfl (by decide) rfl 5 (by decide) rfl (tw_1 109 rfl rfl) rfl dX0_isFull_1 hp (fun v1_1 hp => ?_)
  refine lv_iconst (v := (3 : Int32)) hx hb dX0_isFull_4 (by decide) ?_
  refine q_if hp (lv_icmp_lt (tgt := 12) hx hb dX0_isFull_5 (by decide)) (fun hp => ?_) (fun hp => ?_)
  · refine lv_iconst (v := (0 : Int32)) hx hb dX0_isFull_12 (by decide) ?_
    exact q_zret X V hr rfl ⟨by decide, by decide⟩ dX0_isFull_13 hp
  · refine lv_iconst (v := (1 : Int32)) hx hb dX0_isFull_8 (by decide) ?_
    refine lv_goto (tgt := 13) hx hb dX0_isFull_9 (by decide) ?_
    exact q_zret X V hr rfl ⟨by decide, by decide⟩ dX0_isFull_13 hp
theorem cX0_isFull (l : Launch) (E : mm_E) {N a0 : Nat} {G : mm_M} {res : mm_M × Int32} (hp : pX0_isFull_0 N a0 G = some res) : Met l yX0_isFull (Cond.code yX0_isFull prog_2_method_4_code 1 (Option.some .boolean) :: tw_T) rX0_isFull (mm_Pc E G [.ref a0]) (mm_Qi E res.1 res.2) 0 0 (mm_A E) :=
  mm_met (own := "XorOverlay$Bucket") E G [.inr (some a0)] (by decide) rfl rfl (Nat.le_of_ble_eq_true rfl) (fun p e s m args below meth c ls X hr hi V hl => bX0_isFull_0 X hr V hl hp)
abbrev yX0_mustSplitFor : MethodName := ⟨"XorOverlay$Bucket", "mustSplitFor", "(I)Z"⟩
abbrev rX0_mustSplitFor : Room := { frames := 1, cells := 0, slots := 0, locals := 20 }
theorem kX0_mustSplitFor : Cond.code yX0_mustSplitFor prog_2_method_3_code 2 (Option.some .boolean) ∈ tw_T ∧ Cond.instanceMethod yX0_mustSplitFor ∈ tw_T ∧ Cond.selects "XorOverlay$Bucket" yX0_mustSplitFor yX0_mustSplitFor ∈ tw_T ∧ Cond.initialized "XorOverlay$Bucket" ∈ tw_T := ⟨(tw_2 32 rfl rfl), (tw_2 30 rfl rfl), (tw_2 31 rfl rfl), (tw_1 6 rfl rfl)⟩
theorem hX0_mustSplitFor : yX0_mustSplitFor.cls = "XorOverlay$Bucket" ∧ yX0_mustSplitFor.cls ≠ "java/lang/invoke/MethodHandle" ∧ yX0_mustSplitFor.cls ≠ "java/lang/invoke/VarHandle" ∧ (parseMethodDescriptor yX0_mustSplitFor.desc).map (fun d => d.parameters.length) = some 1 := by decide +kernel
theorem dX0_mustSplitFor_0 : decode prog_2_method_3_code 0 = .ok (.aload_n 0, 1) := by decide +kernel
theorem dX0_mustSplitFor_1 : decode prog_2_method_3_code 1 = .ok (.invokevirtual 31, 3) := by decide +kernel
theorem dX0_mustSplitFor_4 : decode prog_2_method_3_code 4 = .ok (.ifCond .eq 28, 3) := by decide +kernel
theorem dX0_mustSplitFor_7 : decode prog_2_method_3_code 7 = .ok (.iload_n 1, 1) := by decide +kernel
theorem dX0_mustSplitFor_8 : decode prog_2_method_3_code 8 = .ok (.aload_n 0, 1) := by decide +kernel
theorem dX0_mustSplitFor_9 : decode prog_2_method_3_code 9 = .ok (.getfield 18, 3) := by decide +kernel
theorem dX0_mustSplitFor_12 : decode prog_2_method_3_code 12 = .ok (.if_icmp .lt 20, 3) := by decide +kernel
theorem dX0_mustSplitFor_15 : decode prog_2_method_3_code 15 = .ok (.iload_n 1, 1) := by decide +kernel
theorem dX0_mustSplitFor_16 : decode prog_2_method_3_code 16 = .ok (.aload_n 0, 1) := by decide +kernel
theorem dX0_mustSplitFor_17 : decode prog_2_method_3_code 17 = .ok (.getfield 18, 3) := by decide +kernel
theorem dX0_mustSplitFor_20 : decode prog_2_method_3_code 20 = .ok (.aload_n 0, 1) := by decide +kernel
theorem dX0_mustSplitFor_21 : decode prog_2_method_3_code 21 = .ok (.getfield 22, 3) := by decide +kernel
theorem dX0_mustSplitFor_24 : decode prog_2_method_3_code 24 = .ok (.iadd, 1) := by decide +kernel
theorem dX0_mustSplitFor_25 : decode prog_2_method_3_code 25 = .ok (.if_icmp .ge 7, 3) := by decide +kernel
theorem dX0_mustSplitFor_28 : decode prog_2_method_3_code 28 = .ok (.iconst 1, 1) := by decide +kernel
theorem dX0_mustSplitFor_29 : decode prog_2_method_3_code 29 = .ok (.goto 4, 3) := by decide +kernel
theorem dX0_mustSplitFor_32 : decode prog_2_method_3_code 32 = .ok (.iconst 0, 1) := by decide +kernel
theorem dX0_mustSplitFor_33 : decode prog_2_method_3_code 33 = .ok (.ireturn, 1) := by decide +kernel
def pX0_mustSplitFor_0 (N a0 : Nat) (G : mm_M) (x1 : Int32) : Option (mm_M × Int32) :=
  q_is G a0 1 <|
  q_cl (pX0_isFull_0 N a0 G) fun G v1_2 =>
  if v1_2 = 0 then
    some (G, (0 : Int32))
  else
    q_gI G a0 1 2 fun v9_3 =>
    if x1 < v9_3 then
      some (G, (0 : Int32))
    else
      q_gI G a0 1 2 fun v17_4 =>
      q_gI G a0 1 3 fun v21_5 =>
      if (v17_4 + v21_5) ≤ x1 then
        some (G, (0 : Int32))
      else
        some (G, (1 : Int32))
set_option maxRecDepth 100000 in
set_option maxHeartbeats 4000000 in
theorem bX0_mustSplitFor_0 {p : Program} {l : Launch} {e : Env} {s : State} {m : MethodId} {args : Array Value} {below : List Frame} {meth : Method} {c : Code} {E : mm_E} {N a0 : Nat} {res : mm_M × Int32} (X : mm_X p s m args meth c prog_2_method_3_code 2 "XorOverlay$Bucket" tw_T E) (hr : meth.sig.returnType = (Option.some .boolean)) {G : mm_M} {H : Heap} {locs : List Loc} {ls : Array Slot} {x1 : Int32} (V : mm_V E s G H locs) (hl : lx_has ls 2 [(0, .inr (some a0)), (1, .inl x1)]) (hp : pX0_mustSplitFor_0 N a0 G x1 = some res) : W p l e rX0_mustSplitFor s m args below meth c H locs 0 0 (MQ below (mm_Qi E res.1 res.2) args s 0 0 (mm_A E)) (F0 m 0 ls []) := by
  have hx := X.1.1
  have hb := X.1.2.1
  unfold pX0_mustSplitFor_0 at hp
  refine x_aload_n X dX0_mustSplitFor_0 hl 0 rfl rfl ?_
  obtain ⟨hk, hp⟩ := q_is_of hp
  obtain ⟨⟨G, v1_2⟩, hq, hp⟩ := q_cl_of hp
  dsimp only at hp
  refine q_goi (cells' := 0) (slots' := 0) (va_runV (As := []) (rest := []) X.1 (cX0_isFull l E hq) (tw_cwV 0 X.1.2.2.2.2 (tw_2 33 rfl rfl) kX0_isFull.2.1 kX0_isFull.2.2.1 kX0_isFull.2.2.2 kX0_isFull.1 rfl rfl hX0_isFull ⟨Nat.le_of_ble_eq_true rfl, Nat.le_of_ble_eq_true rfl⟩) (mm_preV X V rfl (by decide) rfl hk) rfl rfl hl.1 rfl (lv_room (Nat.le_of_ble_eq_true rfl)) dX0_mustSplitFor_1 ⟨by decide, by decide⟩) V ⟨rfl, rfl⟩ (fun H locs V => ?_)
  refine q_if hp (lv_if_eq (tgt := 32) hx hb dX0_mustSplitFor_4 (by decide)) (fun hp => ?_) (fun hp => ?_)
  · refine lv_iconst (v := (0 : Int32)) hx hb dX0_mustSplitFor_32 (by decide) ?_
    exact q_zret X V hr rfl ⟨by decide, by decide⟩ dX0_mustSplitFor_33 hp
  · refine x_iload_n X dX0_mustSplitFor_7 hl 1 rfl rfl ?_
    refine x_aload_n X dX0_mustSplitFor_8 hl 0 rfl rfl ?_
    refine q_getI (ci := 0) X V inX0 rfl (by decide) rfl 2 (by decide) rfl (tw_1 101 rfl rfl) rfl dX0_mustSplitFor_9 hp (fun v9_3 hp => ?_)
    refine q_if hp (lv_icmp_lt (tgt := 32) hx hb dX0_mustSplitFor_12 (by decide)) (fun hp => ?_) (fun hp => ?_)
    · refine lv_iconst (v := (0 : Int32)) hx hb dX0_mustSplitFor_32 (by decide) ?_
      exact q_zret X V hr rfl ⟨by decide, by decide⟩ dX0_mustSplitFor_33 hp
    · refine x_iload_n X dX0_mustSplitFor_15 hl 1 rfl rfl ?_
      refine x_aload_n X dX0_mustSplitFor_16 hl 0 rfl rfl ?_
      refine q_getI (ci := 0) X V inX0 rfl (by decide) rfl 2 (by decide) rfl (tw_1 101 rfl rfl) rfl dX0_mustSplitFor_17 hp (fun v17_4 hp => ?_)
      refine x_aload_n X dX0_mustSplitFor_20 hl 0 rfl rfl ?_
      refine q_getI (ci := 0) X V inX0 rfl (by decide) rfl 3 (by decide) rfl (tw_1 104 rfl rfl) rfl dX0_mustSplitFor_21 hp (fun v21_5 hp => ?_)
      refine lv_iadd hx hb dX0_mustSplitFor_24 ?_
      refine q_if hp (lv_icmp_ge (tgt := 32) hx hb dX0_mustSplitFor_25 (by decide)) (fun hp => ?_) (fun hp => ?_)
      · refine lv_iconst (v := (0 : Int32)) hx hb dX0_mustSplitFor_32 (by decide) ?_
        exact q_zret X V hr rfl ⟨by decide, by decide⟩ dX0_mustSplitFor_33 hp
      · refine lv_iconst (v := (1 : Int32)) hx hb dX0_mustSplitFor_28 (by decide) ?_
        refine lv_goto (tgt := 33) hx hb dX0_mustSplitFor_29 (by decide) ?_
        exact q_zret X V hr rfl ⟨by decide, by decide⟩ dX0_mustSplitFor_33 hp
theorem cX0_mustSplitFor (l : Launch) (E : mm_E) {N a0 : Nat} {G : mm_M} {x1 : Int32} {res : mm_M × Int32} (hp : pX0_mustSplitFor_0 N a0 G x1 = some res) : Met l yX0_mustSplitFor (Cond.code yX0_mustSplitFor prog_2_method_3_code 2 (Option.some .boolean) :: tw_T) rX0_mustSplitFor (mm_Pc E G [.ref a0, .int x1]) (mm_Qi E res.1 res.2) 0 0 (mm_A E) :=
  mm_met (own := "XorOverlay$Bucket") E G [.inr (some a0), .inl x1] (by decide) rfl rfl (Nat.le_of_ble_eq_true rfl) (fun p e s m args below meth c ls X hr hi V hl => bX0_mustSplitFor_0 X hr V hl hp)
abbrev yX0_moveUpperHalf : MethodName := ⟨"XorOverlay$Bucket", "moveUpperHalf", "(LXorOverlay$Bucket;)V"⟩
abbrev rX0_moveUpperHalf : Room := { frames := 1, cells := 0, slots := 0, locals := 23 }
theorem kX0_moveUpperHalf : Cond.code yX0_moveUpperHalf prog_2_method_9_code 5 none ∈ tw_T ∧ Cond.instanceMethod yX0_moveUpperHalf ∈ tw_T ∧ Cond.selects "XorOverlay$Bucket" yX0_moveUpperHalf yX0_moveUpperHalf ∈ tw_T ∧ Cond.initialized "XorOverlay$Bucket" ∈ tw_T := ⟨(tw_2 44 rfl rfl), (tw_2 42 rfl rfl), (tw_2 43 rfl rfl), (tw_1 6 rfl rfl)⟩
theorem hX0_moveUpperHalf : yX0_moveUpperHalf.cls = "XorOverlay$Bucket" ∧ yX0_moveUpperHalf.cls ≠ "java/lang/invoke/MethodHandle" ∧ yX0_moveUpperHalf.cls ≠ "java/lang/invoke/VarHandle" ∧ (parseMethodDescriptor yX0_moveUpperHalf.desc).map (fun d => d.parameters.length) = some 1 := by decide +kernel
theorem dX0_moveUpperHalf_0 : decode prog_2_method_9_code 0 = .ok (.aload_n 0, 1) := by decide +kernel
theorem dX0_moveUpperHalf_1 : decode prog_2_method_9_code 1 = .ok (.getfield 28, 3) := by decide +kernel
theorem dX0_moveUpperHalf_4 : decode prog_2_method_9_code 4 = .ok (.istore_n 2, 1) := by decide +kernel
theorem dX0_moveUpperHalf_5 : decode prog_2_method_9_code 5 = .ok (.aload_n 0, 1) := by decide +kernel
theorem dX0_moveUpperHalf_6 : decode prog_2_method_9_code 6 = .ok (.aload_n 0, 1) := by decide +kernel
theorem dX0_moveUpperHalf_7 : decode prog_2_method_9_code 7 = .ok (.getfield 22, 3) := by decide +kernel
theorem dX0_moveUpperHalf_10 : decode prog_2_method_9_code 10 = .ok (.iconst 2, 1) := by decide +kernel
theorem dX0_moveUpperHalf_11 : decode prog_2_method_9_code 11 = .ok (.idiv, 1) := by decide +kernel
theorem dX0_moveUpperHalf_12 : decode prog_2_method_9_code 12 = .ok (.putfield 22, 3) := by decide +kernel
theorem dX0_moveUpperHalf_15 : decode prog_2_method_9_code 15 = .ok (.aload_n 0, 1) := by decide +kernel
theorem dX0_moveUpperHalf_16 : decode prog_2_method_9_code 16 = .ok (.iconst 0, 1) := by decide +kernel
theorem dX0_moveUpperHalf_17 : decode prog_2_method_9_code 17 = .ok (.putfield 28, 3) := by decide +kernel
theorem dX0_moveUpperHalf_20 : decode prog_2_method_9_code 20 = .ok (.aload_n 1, 1) := by decide +kernel
theorem dX0_moveUpperHalf_21 : decode prog_2_method_9_code 21 = .ok (.aload_n 0, 1) := by decide +kernel
theorem dX0_moveUpperHalf_22 : decode prog_2_method_9_code 22 = .ok (.getfield 18, 3) := by decide +kernel
theorem dX0_moveUpperHalf_25 : decode prog_2_method_9_code 25 = .ok (.aload_n 0, 1) := by decide +kernel
theorem dX0_moveUpperHalf_26 : decode prog_2_method_9_code 26 = .ok (.getfield 22, 3) := by decide +kernel
theorem dX0_moveUpperHalf_29 : decode prog_2_method_9_code 29 = .ok (.iadd, 1) := by decide +kernel
theorem dX0_moveUpperHalf_30 : decode prog_2_method_9_code 30 = .ok (.aload_n 0, 1) := by decide +kernel
theorem dX0_moveUpperHalf_31 : decode prog_2_method_9_code 31 = .ok (.getfield 22, 3) := by decide +kernel
theorem dX0_moveUpperHalf_34 : decode prog_2_method_9_code 34 = .ok (.aload_n 0, 1) := by decide +kernel
theorem dX0_moveUpperHalf_35 : decode prog_2_method_9_code 35 = .ok (.getfield 25, 3) := by decide +kernel
theorem dX0_moveUpperHalf_38 : decode prog_2_method_9_code 38 = .ok (.invokevirtual 39, 3) := by decide +kernel
theorem dX0_moveUpperHalf_41 : decode prog_2_method_9_code 41 = .ok (.iconst 0, 1) := by decide +kernel
theorem dX0_moveUpperHalf_42 : decode prog_2_method_9_code 42 = .ok (.istore_n 3, 1) := by decide +kernel
theorem dX0_moveUpperHalf_43 : decode prog_2_method_9_code 43 = .ok (.iload_n 3, 1) := by decide +kernel
theorem dX0_moveUpperHalf_44 : decode prog_2_method_9_code 44 = .ok (.iload_n 2, 1) := by decide +kernel
theorem dX0_moveUpperHalf_45 : decode prog_2_method_9_code 45 = .ok (.if_icmp .ge 46, 3) := by decide +kernel
theorem dX0_moveUpperHalf_48 : decode prog_2_method_9_code 48 = .ok (.aload_n 0, 1) := by decide +kernel
theorem dX0_moveUpperHalf_49 : decode prog_2_method_9_code 49 = .ok (.getfield 11, 3) := by decide +kernel
theorem dX0_moveUpperHalf_52 : decode prog_2_method_9_code 52 = .ok (.iload_n 3, 1) := by decide +kernel
theorem dX0_moveUpperHalf_53 : decode prog_2_method_9_code 53 = .ok (.iaload, 1) := by decide +kernel
theorem dX0_moveUpperHalf_54 : decode prog_2_method_9_code 54 = .ok (.aload_n 1, 1) := by decide +kernel
theorem dX0_moveUpperHalf_55 : decode prog_2_method_9_code 55 = .ok (.getfield 18, 3) := by decide +kernel
theorem dX0_moveUpperHalf_58 : decode prog_2_method_9_code 58 = .ok (.if_icmp .ge 7, 3) := by decide +kernel
theorem dX0_moveUpperHalf_61 : decode prog_2_method_9_code 61 = .ok (.aload_n 0, 1) := by decide +kernel
theorem dX0_moveUpperHalf_62 : decode prog_2_method_9_code 62 = .ok (.goto 4, 3) := by decide +kernel
theorem dX0_moveUpperHalf_65 : decode prog_2_method_9_code 65 = .ok (.aload_n 1, 1) := by decide +kernel
theorem dX0_moveUpperHalf_66 : decode prog_2_method_9_code 66 = .ok (.astore 4, 2) := by decide +kernel
theorem dX0_moveUpperHalf_68 : decode prog_2_method_9_code 68 = .ok (.aload 4, 2) := by decide +kernel
theorem dX0_moveUpperHalf_70 : decode prog_2_method_9_code 70 = .ok (.aload_n 0, 1) := by decide +kernel
theorem dX0_moveUpperHalf_71 : decode prog_2_method_9_code 71 = .ok (.getfield 11, 3) := by decide +kernel
theorem dX0_moveUpperHalf_74 : decode prog_2_method_9_code 74 = .ok (.iload_n 3, 1) := by decide +kernel
theorem dX0_moveUpperHalf_75 : decode prog_2_method_9_code 75 = .ok (.iaload, 1) := by decide +kernel
theorem dX0_moveUpperHalf_76 : decode prog_2_method_9_code 76 = .ok (.aload_n 0, 1) := by decide +kernel
theorem dX0_moveUpperHalf_77 : decode prog_2_method_9_code 77 = .ok (.getfield 15, 3) := by decide +kernel
theorem dX0_moveUpperHalf_80 : decode prog_2_method_9_code 80 = .ok (.iload_n 3, 1) := by decide +kernel
theorem dX0_moveUpperHalf_81 : decode prog_2_method_9_code 81 = .ok (.iaload, 1) := by decide +kernel
theorem dX0_moveUpperHalf_82 : decode prog_2_method_9_code 82 = .ok (.invokevirtual 43, 3) := by decide +kernel
theorem dX0_moveUpperHalf_85 : decode prog_2_method_9_code 85 = .ok (.iinc 3 1, 3) := by decide +kernel
theorem dX0_moveUpperHalf_88 : decode prog_2_method_9_code 88 = .ok (.goto (-45), 3) := by decide +kernel
theorem dX0_moveUpperHalf_91 : decode prog_2_method_9_code 91 = .ok (.return_, 1) := by decide +kernel
def pX0_moveUpperHalf_43_b (N a0 : Nat) (kb : mm_M → Option Nat → Int32 → Int32 → Option (mm_M × Unit)) (kx : mm_M → Option (mm_M × Unit)) (G : mm_M) (x1 : Option Nat) (x2 : Int32) (x3 : Int32) : Option (mm_M × Unit) :=
  if x2 ≤ x3 then
    kx G
  else
    q_gR G a0 1 0 fun r49_9 =>
    q_nn r49_9 fun b53_10 =>
    q_aI G b53_10 101 x3 fun v53_11 =>
    q_nn x1 fun b55_12 =>
    q_gI G b55_12 1 2 fun v55_13 =>
    if v55_13 ≤ v53_11 then
      q_gR G a0 1 0 fun r71_14 =>
      q_nn r71_14 fun b75_15 =>
      q_aI G b75_15 101 x3 fun v75_16 =>
      q_gR G a0 1 1 fun r77_17 =>
      q_nn r77_17 fun b81_18 =>
      q_aI G b81_18 101 x3 fun v81_19 =>
      q_is G b55_12 1 <|
      q_cl (pX0_append_0 N b55_12 G v75_16 v81_19) fun G _ =>
      kb G (some b55_12) x2 (x3 + (1 : Int32))
    else
      q_gR G a0 1 0 fun r71_21 =>
      q_nn r71_21 fun b75_22 =>
      q_aI G b75_22 101 x3 fun v75_23 =>
      q_gR G a0 1 1 fun r77_24 =>
      q_nn r77_24 fun b81_25 =>
      q_aI G b81_25 101 x3 fun v81_26 =>
      q_is G a0 1 <|
      q_cl (pX0_append_0 N a0 G v75_23 v81_26) fun G _ =>
      kb G (some b55_12) x2 (x3 + (1 : Int32))
def pX0_moveUpperHalf_43 (N a0 : Nat) (kx : mm_M → Option (mm_M × Unit)) : Nat → mm_M → Option Nat → Int32 → Int32 → Option (mm_M × Unit)
  | 0 => fun _ _ _ _ => none
  | n + 1 => pX0_moveUpperHalf_43_b N a0 (pX0_moveUpperHalf_43 N a0 kx n) kx
set_option maxRecDepth 100000 in
set_option maxHeartbeats 4000000 in
theorem bX0_moveUpperHalf_43 {p : Program} {l : Launch} {e : Env} {s : State} {m : MethodId} {args : Array Value} {below : List Frame} {meth : Method} {c : Code} {E : mm_E} {N a0 : Nat} {res : mm_M × Unit} (X : mm_X p s m args meth c prog_2_method_9_code 5 "XorOverlay$Bucket" tw_T E) (hr : meth.sig.returnType = none) {kx : mm_M → Option (mm_M × Unit)} (hkx : ∀ (G : mm_M) (H : Heap) (locs : List Loc) (ls : Array Slot), mm_V E s G H locs → lx_has ls 5 [(0, .inr (some a0))] → kx G = some res → W p l e rX0_moveUpperHalf s m args below meth c H locs 0 0 (MQ below (mm_Qv E res.1) args s 0 0 (mm_A E)) (F0 m 91 ls [])) :
    ∀ (n : Nat) (G : mm_M) (H : Heap) (locs : List Loc) (ls : Array Slot) (x1 : Option Nat) (x2 : Int32) (x3 : Int32), mm_V E s G H locs → lx_has ls 5 [(0, .inr (some a0)), (1, .inr x1), (2, .inl x2), (3, .inl x3)] → pX0_moveUpperHalf_43 N a0 kx n G x1 x2 x3 = some res → W p l e rX0_moveUpperHalf s m args below meth c H locs 0 0 (MQ below (mm_Qv E res.1) args s 0 0 (mm_A E)) (F0 m 43 ls []) := by
  have hx := X.1.1
  have hb := X.1.2.1
  intro n
  induction n with
  | zero =>
    intro G H locs ls x1 x2 x3 V hl hp
    cases hp
  | succ n ih =>
    intro G H locs ls x1 x2 x3 V hl hp
    have hp : pX0_moveUpperHalf_43_b N a0 (pX0_moveUpperHalf_43 N a0 kx n) kx G x1 x2 x3 = some res := hp
    unfold pX0_moveUpperHalf_43_b at hp
    refine x_iload_n X dX0_moveUpperHalf_43 hl 3 rfl rfl ?_
    refine x_iload_n X dX0_moveUpperHalf_44 hl 2 rfl rfl ?_
    refine q_if hp (lv_icmp_ge (tgt := 91) hx hb dX0_moveUpperHalf_45 (by decide)) (fun hp => ?_) (fun hp => ?_)
    · exact hkx _ _ _ _ V (lx_sub hl [0] rfl) hp
    · refine x_aload_n X dX0_moveUpperHalf_48 hl 0 rfl rfl ?_
      refine q_getR (ci := 0) X V inX0 rfl (by decide) rfl 0 (by decide) rfl (tw_1 95 rfl rfl) rfl dX0_moveUpperHalf_49 hp (fun r49_9 hp => ?_)
      refine x_iload_n X dX0_moveUpperHalf_52 hl 3 rfl rfl ?_
      obtain ⟨b53_10, e0, hp2⟩ := q_nn_of hp
      clear hp; subst e0; have hp := hp2; clear hp2
      refine q_iald X V dX0_moveUpperHalf_53 hp (fun v53_11 hp => ?_)
      refine x_aload_n X dX0_moveUpperHalf_54 hl 1 rfl rfl ?_
      obtain ⟨b55_12, e0, hp2⟩ := q_nn_of hp
      clear hp; subst e0; have hp := hp2; clear hp2
      refine q_getI (ci := 0) X V inX0 rfl (by decide) rfl 2 (by decide) rfl (tw_1 101 rfl rfl) rfl dX0_moveUpperHalf_55 hp (fun v55_13 hp => ?_)
      refine q_if hp (lv_icmp_ge (tgt := 65) hx hb dX0_moveUpperHalf_58 (by decide)) (fun hp => ?_) (fun hp => ?_)
      · refine x_aload_n X dX0_moveUpperHalf_65 hl 1 rfl rfl ?_
        refine x_astore (lst' := [(4, .inr (some b55_12)), (0, .inr (some a0)), (1, .inr (some b55_12)), (2, .inl x2), (3, .inl x3)]) X dX0_moveUpperHalf_66 hl (by decide) rfl (fun ls hl => ?_)
        refine x_aload X dX0_moveUpperHalf_68 hl 0 rfl ?_
        refine x_aload_n X dX0_moveUpperHalf_70 hl 1 rfl rfl ?_
        refine q_getR (ci := 0) X V inX0 rfl (by decide) rfl 0 (by decide) rfl (tw_1 95 rfl rfl) rfl dX0_moveUpperHalf_71 hp (fun r71_14 hp => ?_)
        refine x_iload_n X dX0_moveUpperHalf_74 hl 4 rfl rfl ?_
        obtain ⟨b75_15, e0, hp2⟩ := q_nn_of hp
        clear hp; subst e0; have hp := hp2; clear hp2
        refine q_iald X V dX0_moveUpperHalf_75 hp (fun v75_16 hp => ?_)
        refine x_aload_n X dX0_moveUpperHalf_76 hl 1 rfl rfl ?_
        refine q_getR (ci := 0) X V inX0 rfl (by decide) rfl 1 (by decide) rfl (tw_1 98 rfl rfl) rfl dX0_moveUpperHalf_77 hp (fun r77_17 hp => ?_)
        refine x_iload_n X dX0_moveUpperHalf_80 hl 4 rfl rfl ?_
        obtain ⟨b81_18, e0, hp2⟩ := q_nn_of hp
        clear hp; subst e0; have hp := hp2; clear hp2
        refine q_iald X V dX0_moveUpperHalf_81 hp (fun v81_19 hp => ?_)
        obtain ⟨hk, hp⟩ := q_is_of hp
        obtain ⟨⟨G, u⟩, hq, hp⟩ := q_cl_of hp
        dsimp only at hp
        refine q_gov (cells' := 0) (slots' := 0) (va_runV (As := [.int v75_16, .int v81_19]) (rest := []) X.1 (cX0_append l E hq) (tw_cwV 2 X.1.2.2.2.2 (tw_2 46 rfl rfl) kX0_append.2.1 kX0_append.2.2.1 kX0_append.2.2.2 kX0_append.1 rfl rfl hX0_append ⟨Nat.le_of_ble_eq_true rfl, Nat.le_of_ble_eq_true rfl⟩) (mm_preV X V rfl (by decide) rfl hk) rfl rfl hl.1 rfl (lv_room (Nat.le_of_ble_eq_true rfl)) dX0_moveUpperHalf_82 ⟨by decide, by decide⟩) V ⟨rfl, rfl⟩ (fun H locs V => ?_)
        refine x_iinc (v := (1 : Int32)) (lst' := [(3, .inl (x3 + (1 : Int32))), (4, .inr (some b55_12)), (0, .inr (some a0)), (1, .inr (some b55_12)), (2, .inl x2)]) X dX0_moveUpperHalf_85 hl 4 rfl (by decide) (by decide) rfl (fun ls hl => ?_)
        refine lv_goto (tgt := 43) hx hb dX0_moveUpperHalf_88 (by decide) ?_
        exact ih _ _ _ _ _ _ _ V (lx_sub hl [2, 3, 4, 0] rfl) hp
      · refine x_aload_n X dX0_moveUpperHalf_61 hl 0 rfl rfl ?_
        refine lv_goto (tgt := 66) hx hb dX0_moveUpperHalf_62 (by decide) ?_
        refine x_astore (lst' := [(4, .inr (some a0)), (0, .inr (some a0)), (1, .inr (some b55_12)), (2, .inl x2), (3, .inl x3)]) X dX0_moveUpperHalf_66 hl (by decide) rfl (fun ls hl => ?_)
        refine x_aload X dX0_moveUpperHalf_68 hl 0 rfl ?_
        refine x_aload_n X dX0_moveUpperHalf_70 hl 1 rfl rfl ?_
        refine q_getR (ci := 0) X V inX0 rfl (by decide) rfl 0 (by decide) rfl (tw_1 95 rfl rfl) rfl dX0_moveUpperHalf_71 hp (fun r71_21 hp => ?_)
        refine x_iload_n X dX0_moveUpperHalf_74 hl 4 rfl rfl ?_
        obtain ⟨b75_22, e0, hp2⟩ := q_nn_of hp
        clear hp; subst e0; have hp := hp2; clear hp2
        refine q_iald X V dX0_moveUpperHalf_75 hp (fun v75_23 hp => ?_)
        refine x_aload_n X dX0_moveUpperHalf_76 hl 1 rfl rfl ?_
        refine q_getR (ci := 0) X V inX0 rfl (by decide) rfl 1 (by decide) rfl (tw_1 98 rfl rfl) rfl dX0_moveUpperHalf_77 hp (fun r77_24 hp => ?_)
        refine x_iload_n X dX0_moveUpperHalf_80 hl 4 rfl rfl ?_
        obtain ⟨b81_25, e0, hp2⟩ := q_nn_of hp
        clear hp; subst e0; have hp := hp2; clear hp2
        refine q_iald X V dX0_moveUpperHalf_81 hp (fun v81_26 hp => ?_)
        obtain ⟨hk, hp⟩ := q_is_of hp
        obtain ⟨⟨G, u⟩, hq, hp⟩ := q_cl_of hp
        dsimp only at hp
        refine q_gov (cells' := 0) (slots' := 0) (va_runV (As := [.int v75_23, .int v81_26]) (rest := []) X.1 (cX0_append l E hq) (tw_cwV 2 X.1.2.2.2.2 (tw_2 46 rfl rfl) kX0_append.2.1 kX0_append.2.2.1 kX0_append.2.2.2 kX0_append.1 rfl rfl hX0_append ⟨Nat.le_of_ble_eq_true rfl, Nat.le_of_ble_eq_true rfl⟩) (mm_preV X V rfl (by decide) rfl hk) rfl rfl hl.1 rfl (lv_room (Nat.le_of_ble_eq_true rfl)) dX0_moveUpperHalf_82 ⟨by decide, by decide⟩) V ⟨rfl, rfl⟩ (fun H locs V => ?_)
        refine x_iinc (v := (1 : Int32)) (lst' := [(3, .inl (x3 + (1 : Int32))), (4, .inr (some a0)), (0, .inr (some a0)), (1, .inr (some b55_12)), (2, .inl x2)]) X dX0_moveUpperHalf_85 hl 4 rfl (by decide) (by decide) rfl (fun ls hl => ?_)
        refine lv_goto (tgt := 43) hx hb dX0_moveUpperHalf_88 (by decide) ?_
        exact ih _ _ _ _ _ _ _ V (lx_sub hl [2, 3, 4, 0] rfl) hp
def pX0_moveUpperHalf_0 (N a0 : Nat) (G : mm_M) (x1 : Option Nat) : Option (mm_M × Unit) :=
  q_gI G a0 1 5 fun v1_1 =>
  q_gI G a0 1 3 fun v7_2 =>
  q_pI G a0 1 3 (v7_2 / (2 : Int32)) fun G =>
  q_pI G a0 1 5 (0 : Int32) fun G =>
  q_gI G a0 1 2 fun v22_3 =>
  q_gI G a0 1 3 fun v26_4 =>
  q_gI G a0 1 3 fun v31_5 =>
  q_gI G a0 1 4 fun v35_6 =>
  q_nn x1 fun b38_7 =>
  q_is G b38_7 1 <|
  q_cl (pX0_open_0 N b38_7 G (v22_3 + v26_4) v31_5 v35_6) fun G _ =>
  pX0_moveUpperHalf_43 N a0 (fun (G : mm_M) =>
    some (G, ())) N G (some b38_7) v1_1 (0 : Int32)
set_option maxRecDepth 100000 in
set_option maxHeartbeats 4000000 in
theorem bX0_moveUpperHalf_0 {p : Program} {l : Launch} {e : Env} {s : State} {m : MethodId} {args : Array Value} {below : List Frame} {meth : Method} {c : Code} {E : mm_E} {N a0 : Nat} {res : mm_M × Unit} (X : mm_X p s m args meth c prog_2_method_9_code 5 "XorOverlay$Bucket" tw_T E) (hr : meth.sig.returnType = none) {G : mm_M} {H : Heap} {locs : List Loc} {ls : Array Slot} {x1 : Option Nat} (V : mm_V E s G H locs) (hl : lx_has ls 5 [(0, .inr (some a0)), (1, .inr x1)]) (hp : pX0_moveUpperHalf_0 N a0 G x1 = some res) : W p l e rX0_moveUpperHalf s m args below meth c H locs 0 0 (MQ below (mm_Qv E res.1) args s 0 0 (mm_A E)) (F0 m 0 ls []) := by
  have hx := X.1.1
  have hb := X.1.2.1
  unfold pX0_moveUpperHalf_0 at hp
  refine x_aload_n X dX0_moveUpperHalf_0 hl 0 rfl rfl ?_
  refine q_getI (ci := 0) X V inX0 rfl (by decide) rfl 5 (by decide) rfl (tw_1 109 rfl rfl) rfl dX0_moveUpperHalf_1 hp (fun v1_1 hp => ?_)
  refine x_istore_n (lst' := [(2, .inl v1_1), (0, .inr (some a0)), (1, .inr x1)]) X dX0_moveUpperHalf_4 hl rfl (by decide) rfl (fun ls hl => ?_)
  refine x_aload_n X dX0_moveUpperHalf_5 hl 1 rfl rfl ?_
  refine x_aload_n X dX0_moveUpperHalf_6 hl 1 rfl rfl ?_
  refine q_getI (ci := 0) X V inX0 rfl (by decide) rfl 3 (by decide) rfl (tw_1 104 rfl rfl) rfl dX0_moveUpperHalf_7 hp (fun v7_2 hp => ?_)
  refine lv_iconst (v := (2 : Int32)) hx hb dX0_moveUpperHalf_10 (by decide) ?_
  refine lv_idiv hx hb dX0_moveUpperHalf_11 (by decide) ?_
  refine q_putI (ci := 0) X V inX0 rfl tyX0 tyX0_ok nmX0 (by decide) rfl 3 (by decide) rfl (tw_1 104 rfl rfl) rfl (Or.inl rfl) .int rfl rfl rfl dX0_moveUpperHalf_12 hp (fun G H locs V hp => ?_)
  refine x_aload_n X dX0_moveUpperHalf_15 hl 1 rfl rfl ?_
  refine lv_iconst (v := (0 : Int32)) hx hb dX0_moveUpperHalf_16 (by decide) ?_
  refine q_putI (ci := 0) X V inX0 rfl tyX0 tyX0_ok nmX0 (by decide) rfl 5 (by decide) rfl (tw_1 109 rfl rfl) rfl (Or.inl rfl) .int rfl rfl rfl dX0_moveUpperHalf_17 hp (fun G H locs V hp => ?_)
  refine x_aload_n X dX0_moveUpperHalf_20 hl 2 rfl rfl ?_
  refine x_aload_n X dX0_moveUpperHalf_21 hl 1 rfl rfl ?_
  refine q_getI (ci := 0) X V inX0 rfl (by decide) rfl 2 (by decide) rfl (tw_1 101 rfl rfl) rfl dX0_moveUpperHalf_22 hp (fun v22_3 hp => ?_)
  refine x_aload_n X dX0_moveUpperHalf_25 hl 1 rfl rfl ?_
  refine q_getI (ci := 0) X V inX0 rfl (by decide) rfl 3 (by decide) rfl (tw_1 104 rfl rfl) rfl dX0_moveUpperHalf_26 hp (fun v26_4 hp => ?_)
  refine lv_iadd hx hb dX0_moveUpperHalf_29 ?_
  refine x_aload_n X dX0_moveUpperHalf_30 hl 1 rfl rfl ?_
  refine q_getI (ci := 0) X V inX0 rfl (by decide) rfl 3 (by decide) rfl (tw_1 104 rfl rfl) rfl dX0_moveUpperHalf_31 hp (fun v31_5 hp => ?_)
  refine x_aload_n X dX0_moveUpperHalf_34 hl 1 rfl rfl ?_
  refine q_getI (ci := 0) X V inX0 rfl (by decide) rfl 4 (by decide) rfl (tw_1 106 rfl rfl) rfl dX0_moveUpperHalf_35 hp (fun v35_6 hp => ?_)
  obtain ⟨b38_7, e0, hp2⟩ := q_nn_of hp
  clear hp; subst e0; have hp := hp2; clear hp2
  obtain ⟨hk, hp⟩ := q_is_of hp
  obtain ⟨⟨G, u⟩, hq, hp⟩ := q_cl_of hp
  dsimp only at hp
  refine q_gov (cells' := 0) (slots' := 0) (va_runV (As := [.int (v22_3 + v26_4), .int v31_5, .int v35_6]) (rest := []) X.1 (cX0_open l E hq) (tw_cwV 3 X.1.2.2.2.2 (tw_2 45 rfl rfl) kX0_open.2.1 kX0_open.2.2.1 kX0_open.2.2.2 kX0_open.1 rfl rfl hX0_open ⟨Nat.le_of_ble_eq_true rfl, Nat.le_of_ble_eq_true rfl⟩) (mm_preV X V rfl (by decide) rfl hk) rfl rfl hl.1 rfl (lv_room (Nat.le_of_ble_eq_true rfl)) dX0_moveUpperHalf_38 ⟨by decide, by decide⟩) V ⟨rfl, rfl⟩ (fun H locs V => ?_)
  refine lv_iconst (v := (0 : Int32)) hx hb dX0_moveUpperHalf_41 (by decide) ?_
  refine x_istore_n (lst' := [(3, .inl (0 : Int32)), (2, .inl v1_1), (0, .inr (some a0)), (1, .inr (some b38_7))]) X dX0_moveUpperHalf_42 hl rfl (by decide) rfl (fun ls hl => ?_)
  refine bX0_moveUpperHalf_43 X hr (fun G H locs ls V hl hp => ?_) _ _ _ _ _ _ _ _ V (lx_sub hl [2, 3, 1, 0] rfl) hp
  exact q_vret X V hr ⟨by decide, by decide⟩ dX0_moveUpperHalf_91 hp
theorem cX0_moveUpperHalf (l : Launch) (E : mm_E) {N a0 : Nat} {G : mm_M} {x1 : Option Nat} {res : mm_M × Unit} (hp : pX0_moveUpperHalf_0 N a0 G x1 = some res) : Met l yX0_moveUpperHalf (Cond.code yX0_moveUpperHalf prog_2_method_9_code 5 none :: tw_T) rX0_moveUpperHalf (mm_Pc E G [.ref a0, va_rf x1]) (mm_Qv E res.1) 0 0 (mm_A E) :=
  mm_met (own := "XorOverlay$Bucket") E G [.inr (some a0), .inr x1] (by decide) rfl rfl (Nat.le_of_ble_eq_true rfl) (fun p e s m args below meth c ls X hr hi V hl => bX0_moveUpperHalf_0 X hr V hl hp)
abbrev yX5_split : MethodName := ⟨"XorOverlay$Table", "split", "(I)V"⟩
abbrev rX5_split : Room := { frames := 2, cells := 0, slots := 0, locals := 47 }
theorem kX5_split : Cond.code yX5_split prog_7_method_9_code 4 none ∈ tw_T ∧ Cond.instanceMethod yX5_split ∈ tw_T ∧ Cond.selects "XorOverlay$Table" yX5_split yX5_split ∈ tw_T ∧ Cond.initialized "XorOverlay$Table" ∈ tw_T := ⟨(tw_2 40 rfl rfl), (tw_2 39 rfl rfl), (tw_s 4 rfl rfl), (tw_1 5 rfl rfl)⟩
theorem hX5_split : yX5_split.cls = "XorOverlay$Table" ∧ yX5_split.cls ≠ "java/lang/invoke/MethodHandle" ∧ yX5_split.cls ≠ "java/lang/invoke/VarHandle" ∧ (parseMethodDescriptor yX5_split.desc).map (fun d => d.parameters.length) = some 1 := by decide +kernel
theorem dX5_split_0 : decode prog_7_method_9_code 0 = .ok (.aload_n 0, 1) := by decide +kernel
theorem dX5_split_1 : decode prog_7_method_9_code 1 = .ok (.getfield 17, 3) := by decide +kernel
theorem dX5_split_4 : decode prog_7_method_9_code 4 = .ok (.aload_n 0, 1) := by decide +kernel
theorem dX5_split_5 : decode prog_7_method_9_code 5 = .ok (.getfield 22, 3) := by decide +kernel
theorem dX5_split_8 : decode prog_7_method_9_code 8 = .ok (.aaload, 1) := by decide +kernel
theorem dX5_split_9 : decode prog_7_method_9_code 9 = .ok (.astore_n 2, 1) := by decide +kernel
theorem dX5_split_10 : decode prog_7_method_9_code 10 = .ok (.aload_n 0, 1) := by decide +kernel
theorem dX5_split_11 : decode prog_7_method_9_code 11 = .ok (.getfield 22, 3) := by decide +kernel
theorem dX5_split_14 : decode prog_7_method_9_code 14 = .ok (.istore_n 3, 1) := by decide +kernel
theorem dX5_split_15 : decode prog_7_method_9_code 15 = .ok (.iload_n 3, 1) := by decide +kernel
theorem dX5_split_16 : decode prog_7_method_9_code 16 = .ok (.iload_n 1, 1) := by decide +kernel
theorem dX5_split_17 : decode prog_7_method_9_code 17 = .ok (.iconst 1, 1) := by decide +kernel
theorem dX5_split_18 : decode prog_7_method_9_code 18 = .ok (.iadd, 1) := by decide +kernel
theorem dX5_split_19 : decode prog_7_method_9_code 19 = .ok (.if_icmp .le 23, 3) := by decide +kernel
theorem dX5_split_22 : decode prog_7_method_9_code 22 = .ok (.aload_n 0, 1) := by decide +kernel
theorem dX5_split_23 : decode prog_7_method_9_code 23 = .ok (.getfield 17, 3) := by decide +kernel
theorem dX5_split_26 : decode prog_7_method_9_code 26 = .ok (.iload_n 3, 1) := by decide +kernel
theorem dX5_split_27 : decode prog_7_method_9_code 27 = .ok (.aload_n 0, 1) := by decide +kernel
theorem dX5_split_28 : decode prog_7_method_9_code 28 = .ok (.getfield 17, 3) := by decide +kernel
theorem dX5_split_31 : decode prog_7_method_9_code 31 = .ok (.iload_n 3, 1) := by decide +kernel
theorem dX5_split_32 : decode prog_7_method_9_code 32 = .ok (.iconst 1, 1) := by decide +kernel
theorem dX5_split_33 : decode prog_7_method_9_code 33 = .ok (.isub, 1) := by decide +kernel
theorem dX5_split_34 : decode prog_7_method_9_code 34 = .ok (.aaload, 1) := by decide +kernel
theorem dX5_split_35 : decode prog_7_method_9_code 35 = .ok (.aastore, 1) := by decide +kernel
theorem dX5_split_36 : decode prog_7_method_9_code 36 = .ok (.iinc 3 (-1), 3) := by decide +kernel
theorem dX5_split_39 : decode prog_7_method_9_code 39 = .ok (.goto (-24), 3) := by decide +kernel
theorem dX5_split_42 : decode prog_7_method_9_code 42 = .ok (.aload_n 0, 1) := by decide +kernel
theorem dX5_split_43 : decode prog_7_method_9_code 43 = .ok (.getfield 17, 3) := by decide +kernel
theorem dX5_split_46 : decode prog_7_method_9_code 46 = .ok (.iload_n 1, 1) := by decide +kernel
theorem dX5_split_47 : decode prog_7_method_9_code 47 = .ok (.iconst 1, 1) := by decide +kernel
theorem dX5_split_48 : decode prog_7_method_9_code 48 = .ok (.iadd, 1) := by decide +kernel
theorem dX5_split_49 : decode prog_7_method_9_code 49 = .ok (.aload_n 2, 1) := by decide +kernel
theorem dX5_split_50 : decode prog_7_method_9_code 50 = .ok (.aastore, 1) := by decide +kernel
theorem dX5_split_51 : decode prog_7_method_9_code 51 = .ok (.aload_n 0, 1) := by decide +kernel
theorem dX5_split_52 : decode prog_7_method_9_code 52 = .ok (.dup, 1) := by decide +kernel
theorem dX5_split_53 : decode prog_7_method_9_code 53 = .ok (.getfield 22, 3) := by decide +kernel
theorem dX5_split_56 : decode prog_7_method_9_code 56 = .ok (.iconst 1, 1) := by decide +kernel
theorem dX5_split_57 : decode prog_7_method_9_code 57 = .ok (.iadd, 1) := by decide +kernel
theorem dX5_split_58 : decode prog_7_method_9_code 58 = .ok (.putfield 22, 3) := by decide +kernel
theorem dX5_split_61 : decode prog_7_method_9_code 61 = .ok (.aload_n 0, 1) := by decide +kernel
theorem dX5_split_62 : decode prog_7_method_9_code 62 = .ok (.getfield 17, 3) := by decide +kernel
theorem dX5_split_65 : decode prog_7_method_9_code 65 = .ok (.iload_n 1, 1) := by decide +kernel
theorem dX5_split_66 : decode prog_7_method_9_code 66 = .ok (.aaload, 1) := by decide +kernel
theorem dX5_split_67 : decode prog_7_method_9_code 67 = .ok (.aload_n 2, 1) := by decide +kernel
theorem dX5_split_68 : decode prog_7_method_9_code 68 = .ok (.invokevirtual 72, 3) := by decide +kernel
theorem dX5_split_71 : decode prog_7_method_9_code 71 = .ok (.return_, 1) := by decide +kernel
def pX5_split_15_b (N a0 : Nat) (kb : mm_M → Int32 → Option Nat → Int32 → Option (mm_M × Unit)) (kx : mm_M → Int32 → Option Nat → Option (mm_M × Unit)) (G : mm_M) (x1 : Int32) (x2 : Option Nat) (x3 : Int32) : Option (mm_M × Unit) :=
  if x3 ≤ (x1 + (1 : Int32)) then
    kx G x1 x2
  else
    q_gR G a0 6 1 fun r23_6 =>
    q_gR G a0 6 1 fun r28_7 =>
    q_nn r28_7 fun b34_8 =>
    q_aR G b34_8 104 (x3 - (1 : Int32)) fun r34_9 =>
    q_nn r23_6 fun b35_10 =>
    q_sR G b35_10 104 1 x3 r34_9 fun G =>
    kb G x1 x2 (x3 + (-1 : Int32))
def pX5_split_15 (N a0 : Nat) (kx : mm_M → Int32 → Option Nat → Option (mm_M × Unit)) : Nat → mm_M → Int32 → Option Nat → Int32 → Option (mm_M × Unit)
  | 0 => fun _ _ _ _ => none
  | n + 1 => pX5_split_15_b N a0 (pX5_split_15 N a0 kx n) kx
set_option maxRecDepth 100000 in
set_option maxHeartbeats 4000000 in
theorem bX5_split_15 {p : Program} {l : Launch} {e : Env} {s : State} {m : MethodId} {args : Array Value} {below : List Frame} {meth : Method} {c : Code} {E : mm_E} {N a0 : Nat} {res : mm_M × Unit} (X : mm_X p s m args meth c prog_7_method_9_code 4 "XorOverlay$Table" tw_T E) (hr : meth.sig.returnType = none) {kx : mm_M → Int32 → Option Nat → Option (mm_M × Unit)} (hkx : ∀ (G : mm_M) (H : Heap) (locs : List Loc) (ls : Array Slot) (x1 : Int32) (x2 : Option Nat), mm_V E s G H locs → lx_has ls 4 [(0, .inr (some a0)), (1, .inl x1), (2, .inr x2)] → kx G x1 x2 = some res → W p l e rX5_split s m args below meth c H locs 0 0 (MQ below (mm_Qv E res.1) args s 0 0 (mm_A E)) (F0 m 42 ls [])) :
    ∀ (n : Nat) (G : mm_M) (H : Heap) (locs : List Loc) (ls : Array Slot) (x1 : Int32) (x2 : Option Nat) (x3 : Int32), mm_V E s G H locs → lx_has ls 4 [(0, .inr (some a0)), (1, .inl x1), (2, .inr x2), (3, .inl x3)] → pX5_split_15 N a0 kx n G x1 x2 x3 = some res → W p l e rX5_split s m args below meth c H locs 0 0 (MQ below (mm_Qv E res.1) args s 0 0 (mm_A E)) (F0 m 15 ls []) := by
  have hx := X.1.1
  have hb := X.1.2.1
  intro n
  induction n with
  | zero =>
    intro G H locs ls x1 x2 x3 V hl hp
    cases hp
  | succ n ih =>
    intro G H locs ls x1 x2 x3 V hl hp
    have hp : pX5_split_15_b N a0 (pX5_split_15 N a0 kx n) kx G x1 x2 x3 = some res := hp
    unfold pX5_split_15_b at hp
    refine x_iload_n X dX5_split_15 hl 3 rfl rfl ?_
    refine x_iload_n X dX5_split_16 hl 1 rfl rfl ?_
    refine lv_iconst (v := (1 : Int32)) hx hb dX5_split_17 (by decide) ?_
    refine lv_iadd hx hb dX5_split_18 ?_
    refine q_if hp (lv_icmp_le (tgt := 42) hx hb dX5_split_19 (by decide)) (fun hp => ?_) (fun hp => ?_)
    · exact hkx _ _ _ _ _ _ V (lx_sub hl [0, 1, 2] rfl) hp
    · refine x_aload_n X dX5_split_22 hl 0 rfl rfl ?_
      refine q_getR (ci := 5) X V inX5 rfl (by decide) rfl 1 (by decide) rfl (tw_1 126 rfl rfl) rfl dX5_split_23 hp (fun r23_6 hp => ?_)
      refine x_iload_n X dX5_split_26 hl 3 rfl rfl ?_
      refine x_aload_n X dX5_split_27 hl 0 rfl rfl ?_
      refine q_getR (ci := 5) X V inX5 rfl (by decide) rfl 1 (by decide) rfl (tw_1 126 rfl rfl) rfl dX5_split_28 hp (fun r28_7 hp => ?_)
      refine x_iload_n X dX5_split_31 hl 3 rfl rfl ?_
      refine lv_iconst (v := (1 : Int32)) hx hb dX5_split_32 (by decide) ?_
      refine lv_isub hx hb dX5_split_33 ?_
      obtain ⟨b34_8, e0, hp2⟩ := q_nn_of hp
      clear hp; subst e0; have hp := hp2; clear hp2
      refine q_aldB X V dX5_split_34 hp (fun r34_9 hp => ?_)
      obtain ⟨b35_10, e0, hp2⟩ := q_nn_of hp
      clear hp; subst e0; have hp := hp2; clear hp2
      refine q_astB (ci := 0) X V rfl rfl (by decide) rfl dX5_split_35 hp (fun G H locs V hp => ?_)
      refine x_iinc (v := (-1 : Int32)) (lst' := [(3, .inl (x3 + (-1 : Int32))), (0, .inr (some a0)), (1, .inl x1), (2, .inr x2)]) X dX5_split_36 hl 3 rfl (by decide) (by decide) rfl (fun ls hl => ?_)
      refine lv_goto (tgt := 15) hx hb dX5_split_39 (by decide) ?_
      exact ih _ _ _ _ _ _ _ V (lx_sub hl [1, 2, 3, 0] rfl) hp
def pX5_split_0 (N a0 : Nat) (G : mm_M) (x1 : Int32) : Option (mm_M × Unit) :=
  q_gR G a0 6 1 fun r1_1 =>
  q_gI G a0 6 2 fun v5_2 =>
  q_nn r1_1 fun b8_3 =>
  q_aR G b8_3 104 v5_2 fun r8_4 =>
  q_gI G a0 6 2 fun v11_5 =>
  pX5_split_15 N a0 (fun (G : mm_M) (x1 : Int32) (x2 : Option Nat) =>
    q_gR G a0 6 1 fun r43_11 =>
    q_nn r43_11 fun b50_12 =>
    q_sR G b50_12 104 1 (x1 + (1 : Int32)) x2 fun G =>
    q_gI G a0 6 2 fun v53_13 =>
    q_pI G a0 6 2 (v53_13 + (1 : Int32)) fun G =>
    q_gR G a0 6 1 fun r62_14 =>
    q_nn r62_14 fun b66_15 =>
    q_aR G b66_15 104 x1 fun r66_16 =>
    q_nn r66_16 fun b68_17 =>
    q_is G b68_17 1 <|
    q_cl (pX0_moveUpperHalf_0 N b68_17 G x2) fun G _ =>
    some (G, ())) N G x1 r8_4 v11_5
set_option maxRecDepth 100000 in
set_option maxHeartbeats 4000000 in
theorem bX5_split_0 {p : Program} {l : Launch} {e : Env} {s : State} {m : MethodId} {args : Array Value} {below : List Frame} {meth : Method} {c : Code} {E : mm_E} {N a0 : Nat} {res : mm_M × Unit} (X : mm_X p s m args meth c prog_7_method_9_code 4 "XorOverlay$Table" tw_T E) (hr : meth.sig.returnType = none) {G : mm_M} {H : Heap} {locs : List Loc} {ls : Array Slot} {x1 : Int32} (V : mm_V E s G H locs) (hl : lx_has ls 4 [(0, .inr (some a0)), (1, .inl x1)]) (hp : pX5_split_0 N a0 G x1 = some res) : W p l e rX5_split s m args below meth c H locs 0 0 (MQ below (mm_Qv E res.1) args s 0 0 (mm_A E)) (F0 m 0 ls []) := by
  have hx := X.1.1
  have hb := X.1.2.1
  unfold pX5_split_0 at hp
  refine x_aload_n X dX5_split_0 hl 0 rfl rfl ?_
  refine q_getR (ci := 5) X V inX5 rfl (by decide) rfl 1 (by decide) rfl (tw_1 126 rfl rfl) rfl dX5_split_1 hp (fun r1_1 hp => ?_)
  refine x_aload_n X dX5_split_4 hl 0 rfl rfl ?_
  refine q_getI (ci := 5) X V inX5 rfl (by decide) rfl 2 (by decide) rfl (tw_1 128 rfl rfl) rfl dX5_split_5 hp (fun v5_2 hp => ?_)
  obtain ⟨b8_3, e0, hp2⟩ := q_nn_of hp
  clear hp; subst e0; have hp := hp2; clear hp2
  refine q_aldB X V dX5_split_8 hp (fun r8_4 hp => ?_)
  refine x_astore_n (lst' := [(2, .inr r8_4), (0, .inr (some a0)), (1, .inl x1)]) X dX5_split_9 hl rfl (by decide) rfl (fun ls hl => ?_)
  refine x_aload_n X dX5_split_10 hl 1 rfl rfl ?_
  refine q_getI (ci := 5) X V inX5 rfl (by decide) rfl 2 (by decide) rfl (tw_1 128 rfl rfl) rfl dX5_split_11 hp (fun v11_5 hp => ?_)
  refine x_istore_n (lst' := [(3, .inl v11_5), (2, .inr r8_4), (0, .inr (some a0)), (1, .inl x1)]) X dX5_split_14 hl rfl (by decide) rfl (fun ls hl => ?_)
  refine bX5_split_15 X hr (fun G H locs ls x1 x2 V hl hp => ?_) _ _ _ _ _ _ _ _ V (lx_sub hl [2, 3, 1, 0] rfl) hp
  refine x_aload_n X dX5_split_42 hl 0 rfl rfl ?_
  refine q_getR (ci := 5) X V inX5 rfl (by decide) rfl 1 (by decide) rfl (tw_1 126 rfl rfl) rfl dX5_split_43 hp (fun r43_11 hp => ?_)
  refine x_iload_n X dX5_split_46 hl 1 rfl rfl ?_
  refine lv_iconst (v := (1 : Int32)) hx hb dX5_split_47 (by decide) ?_
  refine lv_iadd hx hb dX5_split_48 ?_
  refine x_aload_n X dX5_split_49 hl 2 rfl rfl ?_
  obtain ⟨b50_12, e0, hp2⟩ := q_nn_of hp
  clear hp; subst e0; have hp := hp2; clear hp2
  refine q_astB (ci := 0) X V rfl rfl (by decide) rfl dX5_split_50 hp (fun G H locs V hp => ?_)
  refine x_aload_n X dX5_split_51 hl 0 rfl rfl ?_
  refine lv_dup hx hb dX5_split_52 (va_rf_cat _) ?_
  refine q_getI (ci := 5) X V inX5 rfl (by decide) rfl 2 (by decide) rfl (tw_1 128 rfl rfl) rfl dX5_split_53 hp (fun v53_13 hp => ?_)
  refine lv_iconst (v := (1 : Int32)) hx hb dX5_split_56 (by decide) ?_
  refine lv_iadd hx hb dX5_split_57 ?_
  refine q_putI (ci := 5) X V inX5 rfl tyX5 tyX5_ok nmX5 (by decide) rfl 2 (by decide) rfl (tw_1 128 rfl rfl) rfl (Or.inl rfl) .int rfl rfl rfl dX5_split_58 hp (fun G H locs V hp => ?_)
  refine x_aload_n X dX5_split_61 hl 0 rfl rfl ?_
  refine q_getR (ci := 5) X V inX5 rfl (by decide) rfl 1 (by decide) rfl (tw_1 126 rfl rfl) rfl dX5_split_62 hp (fun r62_14 hp => ?_)
  refine x_iload_n X dX5_split_65 hl 1 rfl rfl ?_
  obtain ⟨b66_15, e0, hp2⟩ := q_nn_of hp
  clear hp; subst e0; have hp := hp2; clear hp2
  refine q_aldB X V dX5_split_66 hp (fun r66_16 hp => ?_)
  refine x_aload_n X dX5_split_67 hl 2 rfl rfl ?_
  obtain ⟨b68_17, e0, hp2⟩ := q_nn_of hp
  clear hp; subst e0; have hp := hp2; clear hp2
  obtain ⟨hk, hp⟩ := q_is_of hp
  obtain ⟨⟨G, u⟩, hq, hp⟩ := q_cl_of hp
  dsimp only at hp
  refine q_gov (cells' := 0) (slots' := 0) (va_runV (As := [va_rf x2]) (rest := []) X.1 (cX0_moveUpperHalf l E hq) (tw_cwV 1 X.1.2.2.2.2 (tw_2 41 rfl rfl) kX0_moveUpperHalf.2.1 kX0_moveUpperHalf.2.2.1 kX0_moveUpperHalf.2.2.2 kX0_moveUpperHalf.1 rfl rfl hX0_moveUpperHalf ⟨Nat.le_of_ble_eq_true rfl, Nat.le_of_ble_eq_true rfl⟩) (mm_preV X V rfl (by decide) rfl hk) rfl rfl hl.1 rfl (lv_room (Nat.le_of_ble_eq_true rfl)) dX5_split_68 ⟨by decide, by decide⟩) V ⟨rfl, rfl⟩ (fun H locs V => ?_)
  exact q_vret X V hr ⟨by decide, by decide⟩ dX5_split_71 hp
theorem cX5_split (l : Launch) (E : mm_E) {N a0 : Nat} {G : mm_M} {x1 : Int32} {res : mm_M × Unit} (hp : pX5_split_0 N a0 G x1 = some res) : Met l yX5_split (Cond.code yX5_split prog_7_method_9_code 4 none :: tw_T) rX5_split (mm_Pc E G [.ref a0, .int x1]) (mm_Qv E res.1) 0 0 (mm_A E) :=
  mm_met (own := "XorOverlay$Table") E G [.inr (some a0), .inl x1] (by decide) rfl rfl (Nat.le_of_ble_eq_true rfl) (fun p e s m args below meth c ls X hr hi V hl => bX5_split_0 X hr V hl hp)
abbrev yX0_makeRoom : MethodName := ⟨"XorOverlay$Bucket", "makeRoom", "()Z"⟩
abbrev rX0_makeRoom : Room := { frames := 1, cells := 0, slots := 0, locals := 22 }
theorem kX0_makeRoom : Cond.code yX0_makeRoom prog_2_method_8_code 2 (Option.some .boolean) ∈ tw_T ∧ Cond.instanceMethod yX0_makeRoom ∈ tw_T ∧ Cond.selects "XorOverlay$Bucket" yX0_makeRoom yX0_makeRoom ∈ tw_T ∧ Cond.initialized "XorOverlay$Bucket" ∈ tw_T := ⟨(tw_2 50 rfl rfl), (tw_2 48 rfl rfl), (tw_2 49 rfl rfl), (tw_1 6 rfl rfl)⟩
theorem hX0_makeRoom : yX0_makeRoom.cls = "XorOverlay$Bucket" ∧ yX0_makeRoom.cls ≠ "java/lang/invoke/MethodHandle" ∧ yX0_makeRoom.cls ≠ "java/lang/invoke/VarHandle" ∧ (parseMethodDescriptor yX0_makeRoom.desc).map (fun d => d.parameters.length) = some 0 := by decide +kernel
theorem dX0_makeRoom_0 : decode prog_2_method_8_code 0 = .ok (.iconst 0, 1) := by decide +kernel
theorem dX0_makeRoom_1 : decode prog_2_method_8_code 1 = .ok (.istore_n 1, 1) := by decide +kernel
theorem dX0_makeRoom_2 : decode prog_2_method_8_code 2 = .ok (.iload_n 1, 1) := by decide +kernel
theorem dX0_makeRoom_3 : decode prog_2_method_8_code 3 = .ok (.aload_n 0, 1) := by decide +kernel
theorem dX0_makeRoom_4 : decode prog_2_method_8_code 4 = .ok (.getfield 28, 3) := by decide +kernel
theorem dX0_makeRoom_7 : decode prog_2_method_8_code 7 = .ok (.if_icmp .ge 31, 3) := by decide +kernel
theorem dX0_makeRoom_10 : decode prog_2_method_8_code 10 = .ok (.aload_n 0, 1) := by decide +kernel
theorem dX0_makeRoom_11 : decode prog_2_method_8_code 11 = .ok (.invokevirtual 31, 3) := by decide +kernel
theorem dX0_makeRoom_14 : decode prog_2_method_8_code 14 = .ok (.ifCond .eq 24, 3) := by decide +kernel
theorem dX0_makeRoom_17 : decode prog_2_method_8_code 17 = .ok (.aload_n 0, 1) := by decide +kernel
theorem dX0_makeRoom_18 : decode prog_2_method_8_code 18 = .ok (.getfield 15, 3) := by decide +kernel
theorem dX0_makeRoom_21 : decode prog_2_method_8_code 21 = .ok (.iload_n 1, 1) := by decide +kernel
theorem dX0_makeRoom_22 : decode prog_2_method_8_code 22 = .ok (.iaload, 1) := by decide +kernel
theorem dX0_makeRoom_23 : decode prog_2_method_8_code 23 = .ok (.iconst 2, 1) := by decide +kernel
theorem dX0_makeRoom_24 : decode prog_2_method_8_code 24 = .ok (.if_icmp .lt 8, 3) := by decide +kernel
theorem dX0_makeRoom_27 : decode prog_2_method_8_code 27 = .ok (.aload_n 0, 1) := by decide +kernel
theorem dX0_makeRoom_28 : decode prog_2_method_8_code 28 = .ok (.iload_n 1, 1) := by decide +kernel
theorem dX0_makeRoom_29 : decode prog_2_method_8_code 29 = .ok (.invokevirtual 35, 3) := by decide +kernel
theorem dX0_makeRoom_32 : decode prog_2_method_8_code 32 = .ok (.iinc 1 1, 3) := by decide +kernel
theorem dX0_makeRoom_35 : decode prog_2_method_8_code 35 = .ok (.goto (-33), 3) := by decide +kernel
theorem dX0_makeRoom_38 : decode prog_2_method_8_code 38 = .ok (.aload_n 0, 1) := by decide +kernel
theorem dX0_makeRoom_39 : decode prog_2_method_8_code 39 = .ok (.invokevirtual 31, 3) := by decide +kernel
theorem dX0_makeRoom_42 : decode prog_2_method_8_code 42 = .ok (.ifCond .ne 7, 3) := by decide +kernel
theorem dX0_makeRoom_45 : decode prog_2_method_8_code 45 = .ok (.iconst 1, 1) := by decide +kernel
theorem dX0_makeRoom_46 : decode prog_2_method_8_code 46 = .ok (.goto 4, 3) := by decide +kernel
theorem dX0_makeRoom_49 : decode prog_2_method_8_code 49 = .ok (.iconst 0, 1) := by decide +kernel
theorem dX0_makeRoom_50 : decode prog_2_method_8_code 50 = .ok (.ireturn, 1) := by decide +kernel
def pX0_makeRoom_2_b (N a0 : Nat) (kb : mm_M → Int32 → Option (mm_M × Int32)) (kx : mm_M → Option (mm_M × Int32)) (G : mm_M) (x1 : Int32) : Option (mm_M × Int32) :=
  q_gI G a0 1 5 fun v4_1 =>
  if v4_1 ≤ x1 then
    kx G
  else
    q_is G a0 1 <|
    q_cl (pX0_isFull_0 N a0 G) fun G v11_3 =>
    if v11_3 = 0 then
      kx G
    else
      q_gR G a0 1 1 fun r18_4 =>
      q_nn r18_4 fun b22_5 =>
      q_aI G b22_5 101 x1 fun v22_6 =>
      if v22_6 < (2 : Int32) then
        kb G (x1 + (1 : Int32))
      else
        q_is G a0 1 <|
        q_cl (pX0_removeAt_0 N a0 G x1) fun G _ =>
        kb G (x1 + (1 : Int32))
def pX0_makeRoom_2 (N a0 : Nat) (kx : mm_M → Option (mm_M × Int32)) : Nat → mm_M → Int32 → Option (mm_M × Int32)
  | 0 => fun _ _ => none
  | n + 1 => pX0_makeRoom_2_b N a0 (pX0_makeRoom_2 N a0 kx n) kx
set_option maxRecDepth 100000 in
set_option maxHeartbeats 4000000 in
theorem bX0_makeRoom_2 {p : Program} {l : Launch} {e : Env} {s : State} {m : MethodId} {args : Array Value} {below : List Frame} {meth : Method} {c : Code} {E : mm_E} {N a0 : Nat} {res : mm_M × Int32} (X : mm_X p s m args meth c prog_2_method_8_code 2 "XorOverlay$Bucket" tw_T E) (hr : meth.sig.returnType = (Option.some .boolean)) {kx : mm_M → Option (mm_M × Int32)} (hkx : ∀ (G : mm_M) (H : Heap) (locs : List Loc) (ls : Array Slot), mm_V E s G H locs → lx_has ls 2 [(0, .inr (some a0))] → kx G = some res → W p l e rX0_makeRoom s m args below meth c H locs 0 0 (MQ below (mm_Qi E res.1 res.2) args s 0 0 (mm_A E)) (F0 m 38 ls [])) :
    ∀ (n : Nat) (G : mm_M) (H : Heap) (locs : List Loc) (ls : Array Slot) (x1 : Int32), mm_V E s G H locs → lx_has ls 2 [(0, .inr (some a0)), (1, .inl x1)] → pX0_makeRoom_2 N a0 kx n G x1 = some res → W p l e rX0_makeRoom s m args below meth c H locs 0 0 (MQ below (mm_Qi E res.1 res.2) args s 0 0 (mm_A E)) (F0 m 2 ls []) := by
  have hx := X.1.1
  have hb := X.1.2.1
  intro n
  induction n with
  | zero =>
    intro G H locs ls x1 V hl hp
    cases hp
  | succ n ih =>
    intro G H locs ls x1 V hl hp
    have hp : pX0_makeRoom_2_b N a0 (pX0_makeRoom_2 N a0 kx n) kx G x1 = some res := hp
    unfold pX0_makeRoom_2_b at hp
    refine x_iload_n X dX0_makeRoom_2 hl 1 rfl rfl ?_
    refine x_aload_n X dX0_makeRoom_3 hl 0 rfl rfl ?_
    refine q_getI (ci := 0) X V inX0 rfl (by decide) rfl 5 (by decide) rfl (tw_1 109 rfl rfl) rfl dX0_makeRoom_4 hp (fun v4_1 hp => ?_)
    refine q_if hp (lv_icmp_ge (tgt := 38) hx hb dX0_makeRoom_7 (by decide)) (fun hp => ?_) (fun hp => ?_)
    · exact hkx _ _ _ _ V (lx_sub hl [0] rfl) hp
    · refine x_aload_n X dX0_makeRoom_10 hl 0 rfl rfl ?_
      obtain ⟨hk, hp⟩ := q_is_of hp
      obtain ⟨⟨G, v11_3⟩, hq, hp⟩ := q_cl_of hp
      dsimp only at hp
      refine q_goi (cells' := 0) (slots' := 0) (va_runV (As := []) (rest := []) X.1 (cX0_isFull l E hq) (tw_cwV 0 X.1.2.2.2.2 (tw_2 33 rfl rfl) kX0_isFull.2.1 kX0_isFull.2.2.1 kX0_isFull.2.2.2 kX0_isFull.1 rfl rfl hX0_isFull ⟨Nat.le_of_ble_eq_true rfl, Nat.le_of_ble_eq_true rfl⟩) (mm_preV X V rfl (by decide) rfl hk) rfl rfl hl.1 rfl (lv_room (Nat.le_of_ble_eq_true rfl)) dX0_makeRoom_11 ⟨by decide, by decide⟩) V ⟨rfl, rfl⟩ (fun H locs V => ?_)
      refine q_if hp (lv_if_eq (tgt := 38) hx hb dX0_makeRoom_14 (by decide)) (fun hp => ?_) (fun hp => ?_)
      · exact hkx _ _ _ _ V (lx_sub hl [0] rfl) hp
      · refine x_aload_n X dX0_makeRoom_17 hl 0 rfl rfl ?_
        refine q_getR (ci := 0) X V inX0 rfl (by decide) rfl 1 (by decide) rfl (tw_1 98 rfl rfl) rfl dX0_makeRoom_18 hp (fun r18_4 hp => ?_)
        refine x_iload_n X dX0_makeRoom_21 hl 1 rfl rfl ?_
        obtain ⟨b22_5, e0, hp2⟩ := q_nn_of hp
        clear hp; subst e0; have hp := hp2; clear hp2
        refine q_iald X V dX0_makeRoom_22 hp (fun v22_6 hp => ?_)
        refine lv_iconst (v := (2 : Int32)) hx hb dX0_makeRoom_23 (by decide) ?_
        refine q_if hp (lv_icmp_lt (tgt := 32) hx hb dX0_makeRoom_24 (by decide)) (fun hp => ?_) (fun hp => ?_)
        · refine x_iinc (v := (1 : Int32)) (lst' := [(1, .inl (x1 + (1 : Int32))), (0, .inr (some a0))]) X dX0_makeRoom_32 hl 1 rfl (by decide) (by decide) rfl (fun ls hl => ?_)
          refine lv_goto (tgt := 2) hx hb dX0_makeRoom_35 (by decide) ?_
          exact ih _ _ _ _ _ V (lx_sub hl [1, 0] rfl) hp
        · refine x_aload_n X dX0_makeRoom_27 hl 0 rfl rfl ?_
          refine x_iload_n X dX0_makeRoom_28 hl 1 rfl rfl ?_
          obtain ⟨hk, hp⟩ := q_is_of hp
          obtain ⟨⟨G, u⟩, hq, hp⟩ := q_cl_of hp
          dsimp only at hp
          refine q_gov (cells' := 0) (slots' := 0) (va_runV (As := [.int x1]) (rest := []) X.1 (cX0_removeAt l E hq) (tw_cwV 1 X.1.2.2.2.2 (tw_2 51 rfl rfl) kX0_removeAt.2.1 kX0_removeAt.2.2.1 kX0_removeAt.2.2.2 kX0_removeAt.1 rfl rfl hX0_removeAt ⟨Nat.le_of_ble_eq_true rfl, Nat.le_of_ble_eq_true rfl⟩) (mm_preV X V rfl (by decide) rfl hk) rfl rfl hl.1 rfl (lv_room (Nat.le_of_ble_eq_true rfl)) dX0_makeRoom_29 ⟨by decide, by decide⟩) V ⟨rfl, rfl⟩ (fun H locs V => ?_)
          refine x_iinc (v := (1 : Int32)) (lst' := [(1, .inl (x1 + (1 : Int32))), (0, .inr (some a0))]) X dX0_makeRoom_32 hl 1 rfl (by decide) (by decide) rfl (fun ls hl => ?_)
          refine lv_goto (tgt := 2) hx hb dX0_makeRoom_35 (by decide) ?_
          exact ih _ _ _ _ _ V (lx_sub hl [1, 0] rfl) hp
def pX0_makeRoom_0 (N a0 : Nat) (G : mm_M) : Option (mm_M × Int32) :=
  pX0_makeRoom_2 N a0 (fun (G : mm_M) =>
    q_is G a0 1 <|
    q_cl (pX0_isFull_0 N a0 G) fun G v39_9 =>
    if v39_9 = 0 then
      some (G, (1 : Int32))
    else
      some (G, (0 : Int32))) N G (0 : Int32)
set_option maxRecDepth 100000 in
set_option maxHeartbeats 4000000 in
theorem bX0_makeRoom_0 {p : Program} {l : Launch} {e : Env} {s : State} {m : MethodId} {args : Array Value} {below : List Frame} {meth : Method} {c : Code} {E : mm_E} {N a0 : Nat} {res : mm_M × Int32} (X : mm_X p s m args meth c prog_2_method_8_code 2 "XorOverlay$Bucket" tw_T E) (hr : meth.sig.returnType = (Option.some .boolean)) {G : mm_M} {H : Heap} {locs : List Loc} {ls : Array Slot} (V : mm_V E s G H locs) (hl : lx_has ls 2 [(0, .inr (some a0))]) (hp : pX0_makeRoom_0 N a0 G = some res) : W p l e rX0_makeRoom s m args below meth c H locs 0 0 (MQ below (mm_Qi E res.1 res.2) args s 0 0 (mm_A E)) (F0 m 0 ls []) := by
  have hx := X.1.1
  have hb := X.1.2.1
  unfold pX0_makeRoom_0 at hp
  refine lv_iconst (v := (0 : Int32)) hx hb dX0_makeRoom_0 (by decide) ?_
  refine x_istore_n (lst' := [(1, .inl (0 : Int32)), (0, .inr (some a0))]) X dX0_makeRoom_1 hl rfl (by decide) rfl (fun ls hl => ?_)
  refine bX0_makeRoom_2 X hr (fun G H locs ls V hl hp => ?_) _ _ _ _ _ _ V (lx_sub hl [1, 0] rfl) hp
  refine x_aload_n X dX0_makeRoom_38 hl 0 rfl rfl ?_
  obtain ⟨hk, hp⟩ := q_is_of hp
  obtain ⟨⟨G, v39_9⟩, hq, hp⟩ := q_cl_of hp
  dsimp only at hp
  refine q_goi (cells' := 0) (slots' := 0) (va_runV (As := []) (rest := []) X.1 (cX0_isFull l E hq) (tw_cwV 0 X.1.2.2.2.2 (tw_2 33 rfl rfl) kX0_isFull.2.1 kX0_isFull.2.2.1 kX0_isFull.2.2.2 kX0_isFull.1 rfl rfl hX0_isFull ⟨Nat.le_of_ble_eq_true rfl, Nat.le_of_ble_eq_true rfl⟩) (mm_preV X V rfl (by decide) rfl hk) rfl rfl hl.1 rfl (lv_room (Nat.le_of_ble_eq_true rfl)) dX0_makeRoom_39 ⟨by decide, by decide⟩) V ⟨rfl, rfl⟩ (fun H locs V => ?_)
  refine q_ifn hp (lv_if_ne (tgt := 49) hx hb dX0_makeRoom_42 (by decide)) (fun hp => ?_) (fun hp => ?_)
  · refine lv_iconst (v := (0 : Int32)) hx hb dX0_makeRoom_49 (by decide) ?_
    exact q_zret X V hr rfl ⟨by decide, by decide⟩ dX0_makeRoom_50 hp
  · refine lv_iconst (v := (1 : Int32)) hx hb dX0_makeRoom_45 (by decide) ?_
    refine lv_goto (tgt := 50) hx hb dX0_makeRoom_46 (by decide) ?_
    exact q_zret X V hr rfl ⟨by decide, by decide⟩ dX0_makeRoom_50 hp
theorem cX0_makeRoom (l : Launch) (E : mm_E) {N a0 : Nat} {G : mm_M} {res : mm_M × Int32} (hp : pX0_makeRoom_0 N a0 G = some res) : Met l yX0_makeRoom (Cond.code yX0_makeRoom prog_2_method_8_code 2 (Option.some .boolean) :: tw_T) rX0_makeRoom (mm_Pc E G [.ref a0]) (mm_Qi E res.1 res.2) 0 0 (mm_A E) :=
  mm_met (own := "XorOverlay$Bucket") E G [.inr (some a0)] (by decide) rfl rfl (Nat.le_of_ble_eq_true rfl) (fun p e s m args below meth c ls X hr hi V hl => bX0_makeRoom_0 X hr V hl hp)
abbrev yX5_see : MethodName := ⟨"XorOverlay$Table", "see", "(II)V"⟩
abbrev rX5_see : Room := { frames := 3, cells := 0, slots := 0, locals := 70 }
theorem kX5_see : Cond.code yX5_see prog_7_method_3_code 6 none ∈ tw_T ∧ Cond.instanceMethod yX5_see ∈ tw_T ∧ Cond.selects "XorOverlay$Table" yX5_see yX5_see ∈ tw_T ∧ Cond.initialized "XorOverlay$Table" ∈ tw_T := ⟨(tw_2 12 rfl rfl), (tw_2 10 rfl rfl), (tw_2 11 rfl rfl), (tw_1 5 rfl rfl)⟩
theorem hX5_see : yX5_see.cls = "XorOverlay$Table" ∧ yX5_see.cls ≠ "java/lang/invoke/MethodHandle" ∧ yX5_see.cls ≠ "java/lang/invoke/VarHandle" ∧ (parseMethodDescriptor yX5_see.desc).map (fun d => d.parameters.length) = some 2 := by decide +kernel
theorem dX5_see_0 : decode prog_7_method_3_code 0 = .ok (.iload_n 1, 1) := by decide +kernel
theorem dX5_see_1 : decode prog_7_method_3_code 1 = .ok (.aload_n 0, 1) := by decide +kernel
theorem dX5_see_2 : decode prog_7_method_3_code 2 = .ok (.getfield 9, 3) := by decide +kernel
theorem dX5_see_5 : decode prog_7_method_3_code 5 = .ok (.if_icmp .ne 4, 3) := by decide +kernel
theorem dX5_see_8 : decode prog_7_method_3_code 8 = .ok (.return_, 1) := by decide +kernel
theorem dX5_see_9 : decode prog_7_method_3_code 9 = .ok (.aload_n 0, 1) := by decide +kernel
theorem dX5_see_10 : decode prog_7_method_3_code 10 = .ok (.iload_n 1, 1) := by decide +kernel
theorem dX5_see_11 : decode prog_7_method_3_code 11 = .ok (.invokevirtual 29, 3) := by decide +kernel
theorem dX5_see_14 : decode prog_7_method_3_code 14 = .ok (.istore_n 3, 1) := by decide +kernel
theorem dX5_see_15 : decode prog_7_method_3_code 15 = .ok (.aload_n 0, 1) := by decide +kernel
theorem dX5_see_16 : decode prog_7_method_3_code 16 = .ok (.getfield 17, 3) := by decide +kernel
theorem dX5_see_19 : decode prog_7_method_3_code 19 = .ok (.iload_n 3, 1) := by decide +kernel
theorem dX5_see_20 : decode prog_7_method_3_code 20 = .ok (.aaload, 1) := by decide +kernel
theorem dX5_see_21 : decode prog_7_method_3_code 21 = .ok (.iload_n 1, 1) := by decide +kernel
theorem dX5_see_22 : decode prog_7_method_3_code 22 = .ok (.invokevirtual 33, 3) := by decide +kernel
theorem dX5_see_25 : decode prog_7_method_3_code 25 = .ok (.istore 4, 2) := by decide +kernel
theorem dX5_see_27 : decode prog_7_method_3_code 27 = .ok (.iload 4, 2) := by decide +kernel
theorem dX5_see_29 : decode prog_7_method_3_code 29 = .ok (.iconst (-1), 1) := by decide +kernel
theorem dX5_see_30 : decode prog_7_method_3_code 30 = .ok (.if_icmp .eq 36, 3) := by decide +kernel
theorem dX5_see_33 : decode prog_7_method_3_code 33 = .ok (.aload_n 0, 1) := by decide +kernel
theorem dX5_see_34 : decode prog_7_method_3_code 34 = .ok (.getfield 17, 3) := by decide +kernel
theorem dX5_see_37 : decode prog_7_method_3_code 37 = .ok (.iload_n 3, 1) := by decide +kernel
theorem dX5_see_38 : decode prog_7_method_3_code 38 = .ok (.aaload, 1) := by decide +kernel
theorem dX5_see_39 : decode prog_7_method_3_code 39 = .ok (.iload 4, 2) := by decide +kernel
theorem dX5_see_41 : decode prog_7_method_3_code 41 = .ok (.invokevirtual 36, 3) := by decide +kernel
theorem dX5_see_44 : decode prog_7_method_3_code 44 = .ok (.aload_n 0, 1) := by decide +kernel
theorem dX5_see_45 : decode prog_7_method_3_code 45 = .ok (.getfield 17, 3) := by decide +kernel
theorem dX5_see_48 : decode prog_7_method_3_code 48 = .ok (.iload_n 3, 1) := by decide +kernel
theorem dX5_see_49 : decode prog_7_method_3_code 49 = .ok (.aaload, 1) := by decide +kernel
theorem dX5_see_50 : decode prog_7_method_3_code 50 = .ok (.iload_n 1, 1) := by decide +kernel
theorem dX5_see_51 : decode prog_7_method_3_code 51 = .ok (.iconst 0, 1) := by decide +kernel
theorem dX5_see_52 : decode prog_7_method_3_code 52 = .ok (.invokevirtual 40, 3) := by decide +kernel
theorem dX5_see_55 : decode prog_7_method_3_code 55 = .ok (.aload_n 0, 1) := by decide +kernel
theorem dX5_see_56 : decode prog_7_method_3_code 56 = .ok (.getfield 17, 3) := by decide +kernel
theorem dX5_see_59 : decode prog_7_method_3_code 59 = .ok (.iload_n 3, 1) := by decide +kernel
theorem dX5_see_60 : decode prog_7_method_3_code 60 = .ok (.aaload, 1) := by decide +kernel
theorem dX5_see_61 : decode prog_7_method_3_code 61 = .ok (.iload_n 2, 1) := by decide +kernel
theorem dX5_see_62 : decode prog_7_method_3_code 62 = .ok (.putfield 44, 3) := by decide +kernel
theorem dX5_see_65 : decode prog_7_method_3_code 65 = .ok (.return_, 1) := by decide +kernel
theorem dX5_see_66 : decode prog_7_method_3_code 66 = .ok (.aload_n 0, 1) := by decide +kernel
theorem dX5_see_67 : decode prog_7_method_3_code 67 = .ok (.getfield 22, 3) := by decide +kernel
theorem dX5_see_70 : decode prog_7_method_3_code 70 = .ok (.istore 5, 2) := by decide +kernel
theorem dX5_see_72 : decode prog_7_method_3_code 72 = .ok (.iload 5, 2) := by decide +kernel
theorem dX5_see_74 : decode prog_7_method_3_code 74 = .ok (.bipush 9, 2) := by decide +kernel
theorem dX5_see_76 : decode prog_7_method_3_code 76 = .ok (.if_icmp .ge 36, 3) := by decide +kernel
theorem dX5_see_79 : decode prog_7_method_3_code 79 = .ok (.aload_n 0, 1) := by decide +kernel
theorem dX5_see_80 : decode prog_7_method_3_code 80 = .ok (.getfield 17, 3) := by decide +kernel
theorem dX5_see_83 : decode prog_7_method_3_code 83 = .ok (.iload_n 3, 1) := by decide +kernel
theorem dX5_see_84 : decode prog_7_method_3_code 84 = .ok (.aaload, 1) := by decide +kernel
theorem dX5_see_85 : decode prog_7_method_3_code 85 = .ok (.aload_n 0, 1) := by decide +kernel
theorem dX5_see_86 : decode prog_7_method_3_code 86 = .ok (.getfield 9, 3) := by decide +kernel
theorem dX5_see_89 : decode prog_7_method_3_code 89 = .ok (.invokevirtual 47, 3) := by decide +kernel
theorem dX5_see_92 : decode prog_7_method_3_code 92 = .ok (.ifCond .eq 20, 3) := by decide +kernel
theorem dX5_see_95 : decode prog_7_method_3_code 95 = .ok (.aload_n 0, 1) := by decide +kernel
theorem dX5_see_96 : decode prog_7_method_3_code 96 = .ok (.iload_n 3, 1) := by decide +kernel
theorem dX5_see_97 : decode prog_7_method_3_code 97 = .ok (.invokevirtual 51, 3) := by decide +kernel
theorem dX5_see_100 : decode prog_7_method_3_code 100 = .ok (.aload_n 0, 1) := by decide +kernel
theorem dX5_see_101 : decode prog_7_method_3_code 101 = .ok (.iload_n 1, 1) := by decide +kernel
theorem dX5_see_102 : decode prog_7_method_3_code 102 = .ok (.invokevirtual 29, 3) := by decide +kernel
theorem dX5_see_105 : decode prog_7_method_3_code 105 = .ok (.istore_n 3, 1) := by decide +kernel
theorem dX5_see_106 : decode prog_7_method_3_code 106 = .ok (.iinc 5 1, 3) := by decide +kernel
theorem dX5_see_109 : decode prog_7_method_3_code 109 = .ok (.goto (-37), 3) := by decide +kernel
theorem dX5_see_112 : decode prog_7_method_3_code 112 = .ok (.aload_n 0, 1) := by decide +kernel
theorem dX5_see_113 : decode prog_7_method_3_code 113 = .ok (.getfield 17, 3) := by decide +kernel
theorem dX5_see_116 : decode prog_7_method_3_code 116 = .ok (.iload_n 3, 1) := by decide +kernel
theorem dX5_see_117 : decode prog_7_method_3_code 117 = .ok (.aaload, 1) := by decide +kernel
theorem dX5_see_118 : decode prog_7_method_3_code 118 = .ok (.invokevirtual 54, 3) := by decide +kernel
theorem dX5_see_121 : decode prog_7_method_3_code 121 = .ok (.ifCond .eq 24, 3) := by decide +kernel
theorem dX5_see_124 : decode prog_7_method_3_code 124 = .ok (.aload_n 0, 1) := by decide +kernel
theorem dX5_see_125 : decode prog_7_method_3_code 125 = .ok (.getfield 17, 3) := by decide +kernel
theorem dX5_see_128 : decode prog_7_method_3_code 128 = .ok (.iload_n 3, 1) := by decide +kernel
theorem dX5_see_129 : decode prog_7_method_3_code 129 = .ok (.aaload, 1) := by decide +kernel
theorem dX5_see_130 : decode prog_7_method_3_code 130 = .ok (.iload_n 1, 1) := by decide +kernel
theorem dX5_see_131 : decode prog_7_method_3_code 131 = .ok (.iconst 0, 1) := by decide +kernel
theorem dX5_see_132 : decode prog_7_method_3_code 132 = .ok (.invokevirtual 40, 3) := by decide +kernel
theorem dX5_see_135 : decode prog_7_method_3_code 135 = .ok (.aload_n 0, 1) := by decide +kernel
theorem dX5_see_136 : decode prog_7_method_3_code 136 = .ok (.getfield 17, 3) := by decide +kernel
theorem dX5_see_139 : decode prog_7_method_3_code 139 = .ok (.iload_n 3, 1) := by decide +kernel
theorem dX5_see_140 : decode prog_7_method_3_code 140 = .ok (.aaload, 1) := by decide +kernel
theorem dX5_see_141 : decode prog_7_method_3_code 141 = .ok (.iload_n 2, 1) := by decide +kernel
theorem dX5_see_142 : decode prog_7_method_3_code 142 = .ok (.putfield 44, 3) := by decide +kernel
theorem dX5_see_145 : decode prog_7_method_3_code 145 = .ok (.return_, 1) := by decide +kernel
def pX5_see_72_b (N a0 : Nat) (kb : mm_M → Int32 → Int32 → Int32 → Int32 → Option (mm_M × Unit)) (kx : mm_M → Int32 → Int32 → Int32 → Option (mm_M × Unit)) (G : mm_M) (x1 : Int32) (x2 : Int32) (x3 : Int32) (x5 : Int32) : Option (mm_M × Unit) :=
  if (9 : Int32) ≤ x5 then
    kx G x1 x2 x3
  else
    q_gR G a0 6 1 fun r80_11 =>
    q_nn r80_11 fun b84_12 =>
    q_aR G b84_12 104 x3 fun r84_13 =>
    q_gI G a0 6 0 fun v86_14 =>
    q_nn r84_13 fun b89_15 =>
    q_is G b89_15 1 <|
    q_cl (pX0_mustSplitFor_0 N b89_15 G v86_14) fun G v89_17 =>
    if v89_17 = 0 then
      kx G x1 x2 x3
    else
      q_is G a0 6 <|
      q_cl (pX5_split_0 N a0 G x3) fun G _ =>
      q_is G a0 6 <|
      q_cl (pX5_rangeOf_0 N a0 G x1) fun G v102_20 =>
      kb G x1 x2 v102_20 (x5 + (1 : Int32))
def pX5_see_72 (N a0 : Nat) (kx : mm_M → Int32 → Int32 → Int32 → Option (mm_M × Unit)) : Nat → mm_M → Int32 → Int32 → Int32 → Int32 → Option (mm_M × Unit)
  | 0 => fun _ _ _ _ _ => none
  | n + 1 => pX5_see_72_b N a0 (pX5_see_72 N a0 kx n) kx
set_option maxRecDepth 100000 in
set_option maxHeartbeats 4000000 in
theorem bX5_see_72 {p : Program} {l : Launch} {e : Env} {s : State} {m : MethodId} {args : Array Value} {below : List Frame} {meth : Method} {c : Code} {E : mm_E} {N a0 : Nat} {res : mm_M × Unit} (X : mm_X p s m args meth c prog_7_method_3_code 6 "XorOverlay$Table" tw_T E) (hr : meth.sig.returnType = none) {kx : mm_M → Int32 → Int32 → Int32 → Option (mm_M × Unit)} (hkx : ∀ (G : mm_M) (H : Heap) (locs : List Loc) (ls : Array Slot) (x1 : Int32) (x2 : Int32) (x3 : Int32), mm_V E s G H locs → lx_has ls 6 [(0, .inr (some a0)), (1, .inl x1), (2, .inl x2), (3, .inl x3)] → kx G x1 x2 x3 = some res → W p l e rX5_see s m args below meth c H locs 0 0 (MQ below (mm_Qv E res.1) args s 0 0 (mm_A E)) (F0 m 112 ls [])) :
    ∀ (n : Nat) (G : mm_M) (H : Heap) (locs : List Loc) (ls : Array Slot) (x1 : Int32) (x2 : Int32) (x3 : Int32) (x5 : Int32), mm_V E s G H locs → lx_has ls 6 [(0, .inr (some a0)), (1, .inl x1), (2, .inl x2), (3, .inl x3), (5, .inl x5)] → pX5_see_72 N a0 kx n G x1 x2 x3 x5 = some res → W p l e rX5_see s m args below meth c H locs 0 0 (MQ below (mm_Qv E res.1) args s 0 0 (mm_A E)) (F0 m 72 ls []) := by
  have hx := X.1.1
  have hb := X.1.2.1
  intro n
  induction n with
  | zero =>
    intro G H locs ls x1 x2 x3 x5 V hl hp
    cases hp
  | succ n ih =>
    intro G H locs ls x1 x2 x3 x5 V hl hp
    have hp : pX5_see_72_b N a0 (pX5_see_72 N a0 kx n) kx G x1 x2 x3 x5 = some res := hp
    unfold pX5_see_72_b at hp
    refine x_iload X dX5_see_72 hl 4 rfl ?_
    refine lv_bipush (v := (9 : Int32)) hx hb dX5_see_74 (by decide) ?_
    refine q_if hp (lv_icmp_ge (tgt := 112) hx hb dX5_see_76 (by decide)) (fun hp => ?_) (fun hp => ?_)
    · exact hkx _ _ _ _ _ _ _ V (lx_sub hl [0, 1, 2, 3] rfl) hp
    · refine x_aload_n X dX5_see_79 hl 0 rfl rfl ?_
      refine q_getR (ci := 5) X V inX5 rfl (by decide) rfl 1 (by decide) rfl (tw_1 126 rfl rfl) rfl dX5_see_80 hp (fun r80_11 hp => ?_)
      refine x_iload_n X dX5_see_83 hl 3 rfl rfl ?_
      obtain ⟨b84_12, e0, hp2⟩ := q_nn_of hp
      clear hp; subst e0; have hp := hp2; clear hp2
      refine q_aldB X V dX5_see_84 hp (fun r84_13 hp => ?_)
      refine x_aload_n X dX5_see_85 hl 0 rfl rfl ?_
      refine q_getI (ci := 5) X V inX5 rfl (by decide) rfl 0 (by decide) rfl (tw_1 125 rfl rfl) rfl dX5_see_86 hp (fun v86_14 hp => ?_)
      obtain ⟨b89_15, e0, hp2⟩ := q_nn_of hp
      clear hp; subst e0; have hp := hp2; clear hp2
      obtain ⟨hk, hp⟩ := q_is_of hp
      obtain ⟨⟨G, v89_17⟩, hq, hp⟩ := q_cl_of hp
      dsimp only at hp
      refine q_goi (cells' := 0) (slots' := 0) (va_runV (As := [.int v86_14]) (rest := []) X.1 (cX0_mustSplitFor l E hq) (tw_cwV 1 X.1.2.2.2.2 (tw_2 29 rfl rfl) kX0_mustSplitFor.2.1 kX0_mustSplitFor.2.2.1 kX0_mustSplitFor.2.2.2 kX0_mustSplitFor.1 rfl rfl hX0_mustSplitFor ⟨Nat.le_of_ble_eq_true rfl, Nat.le_of_ble_eq_true rfl⟩) (mm_preV X V rfl (by decide) rfl hk) rfl rfl hl.1 rfl (lv_room (Nat.le_of_ble_eq_true rfl)) dX5_see_89 ⟨by decide, by decide⟩) V ⟨rfl, rfl⟩ (fun H locs V => ?_)
      refine q_if hp (lv_if_eq (tgt := 112) hx hb dX5_see_92 (by decide)) (fun hp => ?_) (fun hp => ?_)
      · exact hkx _ _ _ _ _ _ _ V (lx_sub hl [0, 1, 2, 3] rfl) hp
      · refine x_aload_n X dX5_see_95 hl 0 rfl rfl ?_
        refine x_iload_n X dX5_see_96 hl 3 rfl rfl ?_
        obtain ⟨hk, hp⟩ := q_is_of hp
        obtain ⟨⟨G, u⟩, hq, hp⟩ := q_cl_of hp
        dsimp only at hp
        refine q_gov (cells' := 0) (slots' := 0) (va_runV (As := [.int x3]) (rest := []) X.1 (cX5_split l E hq) (tw_cwV 1 X.1.2.2.2.2 (tw_2 37 rfl rfl) kX5_split.2.1 kX5_split.2.2.1 kX5_split.2.2.2 kX5_split.1 rfl rfl hX5_split ⟨Nat.le_of_ble_eq_true rfl, Nat.le_of_ble_eq_true rfl⟩) (mm_preV X V rfl (by decide) rfl hk) rfl rfl hl.1 rfl (lv_room (Nat.le_of_ble_eq_true rfl)) dX5_see_97 ⟨by decide, by decide⟩) V ⟨rfl, rfl⟩ (fun H locs V => ?_)
        refine x_aload_n X dX5_see_100 hl 0 rfl rfl ?_
        refine x_iload_n X dX5_see_101 hl 1 rfl rfl ?_
        obtain ⟨hk, hp⟩ := q_is_of hp
        obtain ⟨⟨G, v102_20⟩, hq, hp⟩ := q_cl_of hp
        dsimp only at hp
        refine q_goi (cells' := 0) (slots' := 0) (va_runV (As := [.int x1]) (rest := []) X.1 (cX5_rangeOf l E hq) (tw_cwV 1 X.1.2.2.2.2 (tw_2 13 rfl rfl) kX5_rangeOf.2.1 kX5_rangeOf.2.2.1 kX5_rangeOf.2.2.2 kX5_rangeOf.1 rfl rfl hX5_rangeOf ⟨Nat.le_of_ble_eq_true rfl, Nat.le_of_ble_eq_true rfl⟩) (mm_preV X V rfl (by decide) rfl hk) rfl rfl hl.1 rfl (lv_room (Nat.le_of_ble_eq_true rfl)) dX5_see_102 ⟨by decide, by decide⟩) V ⟨rfl, rfl⟩ (fun H locs V => ?_)
        refine x_istore_n (lst' := [(3, .inl v102_20), (0, .inr (some a0)), (1, .inl x1), (2, .inl x2), (5, .inl x5)]) X dX5_see_105 hl rfl (by decide) rfl (fun ls hl => ?_)
        refine x_iinc (v := (1 : Int32)) (lst' := [(5, .inl (x5 + (1 : Int32))), (3, .inl v102_20), (0, .inr (some a0)), (1, .inl x1), (2, .inl x2)]) X dX5_see_106 hl 4 rfl (by decide) (by decide) rfl (fun ls hl => ?_)
        refine lv_goto (tgt := 72) hx hb dX5_see_109 (by decide) ?_
        exact ih _ _ _ _ _ _ _ _ V (lx_sub hl [2, 3, 4, 1, 0] rfl) hp
def pX5_see_112 (N a0 : Nat) (G : mm_M) (x1 : Int32) (x2 : Int32) (x3 : Int32) : Option (mm_M × Unit) :=
  q_gR G a0 6 1 fun r113_21 =>
  q_nn r113_21 fun b117_22 =>
  q_aR G b117_22 104 x3 fun r117_23 =>
  q_nn r117_23 fun b118_24 =>
  q_is G b118_24 1 <|
  q_cl (pX0_makeRoom_0 N b118_24 G) fun G v118_26 =>
  if v118_26 = 0 then
    some (G, ())
  else
    q_gR G a0 6 1 fun r125_27 =>
    q_nn r125_27 fun b129_28 =>
    q_aR G b129_28 104 x3 fun r129_29 =>
    q_nn r129_29 fun b132_30 =>
    q_is G b132_30 1 <|
    q_cl (pX0_append_0 N b132_30 G x1 (0 : Int32)) fun G _ =>
    q_gR G a0 6 1 fun r136_32 =>
    q_nn r136_32 fun b140_33 =>
    q_aR G b140_33 104 x3 fun r140_34 =>
    q_nn r140_34 fun b142_35 =>
    q_pI G b142_35 1 4 x2 fun G =>
    some (G, ())
set_option maxRecDepth 100000 in
set_option maxHeartbeats 4000000 in
theorem bX5_see_112 {p : Program} {l : Launch} {e : Env} {s : State} {m : MethodId} {args : Array Value} {below : List Frame} {meth : Method} {c : Code} {E : mm_E} {N a0 : Nat} {res : mm_M × Unit} (X : mm_X p s m args meth c prog_7_method_3_code 6 "XorOverlay$Table" tw_T E) (hr : meth.sig.returnType = none) {G : mm_M} {H : Heap} {locs : List Loc} {ls : Array Slot} {x1 : Int32} {x2 : Int32} {x3 : Int32} (V : mm_V E s G H locs) (hl : lx_has ls 6 [(0, .inr (some a0)), (1, .inl x1), (2, .inl x2), (3, .inl x3)]) (hp : pX5_see_112 N a0 G x1 x2 x3 = some res) : W p l e rX5_see s m args below meth c H locs 0 0 (MQ below (mm_Qv E res.1) args s 0 0 (mm_A E)) (F0 m 112 ls []) := by
  have hx := X.1.1
  have hb := X.1.2.1
  unfold pX5_see_112 at hp
  refine x_aload_n X dX5_see_112 hl 0 rfl rfl ?_
  refine q_getR (ci := 5) X V inX5 rfl (by decide) rfl 1 (by decide) rfl (tw_1 126 rfl rfl) rfl dX5_see_113 hp (fun r113_21 hp => ?_)
  refine x_iload_n X dX5_see_116 hl 3 rfl rfl ?_
  obtain ⟨b117_22, e0, hp2⟩ := q_nn_of hp
  clear hp; subst e0; have hp := hp2; clear hp2
  refine q_aldB X V dX5_see_117 hp (fun r117_23 hp => ?_)
  obtain ⟨b118_24, e0, hp2⟩ := q_nn_of hp
  clear hp; subst e0; have hp := hp2; clear hp2
  obtain ⟨hk, hp⟩ := q_is_of hp
  obtain ⟨⟨G, v118_26⟩, hq, hp⟩ := q_cl_of hp
  dsimp only at hp
  refine q_goi (cells' := 0) (slots' := 0) (va_runV (As := []) (rest := []) X.1 (cX0_makeRoom l E hq) (tw_cwV 0 X.1.2.2.2.2 (tw_2 47 rfl rfl) kX0_makeRoom.2.1 kX0_makeRoom.2.2.1 kX0_makeRoom.2.2.2 kX0_makeRoom.1 rfl rfl hX0_makeRoom ⟨Nat.le_of_ble_eq_true rfl, Nat.le_of_ble_eq_true rfl⟩) (mm_preV X V rfl (by decide) rfl hk) rfl rfl hl.1 rfl (lv_room (Nat.le_of_ble_eq_true rfl)) dX5_see_118 ⟨by decide, by decide⟩) V ⟨rfl, rfl⟩ (fun H locs V => ?_)
  refine q_if hp (lv_if_eq (tgt := 145) hx hb dX5_see_121 (by decide)) (fun hp => ?_) (fun hp => ?_)
  · exact q_vret X V hr ⟨by decide, by decide⟩ dX5_see_145 hp
  · refine x_aload_n X dX5_see_124 hl 0 rfl rfl ?_
    refine q_getR (ci := 5) X V inX5 rfl (by decide) rfl 1 (by decide) rfl (tw_1 126 rfl rfl) rfl dX5_see_125 hp (fun r125_27 hp => ?_)
    refine x_iload_n X dX5_see_128 hl 3 rfl rfl ?_
    obtain ⟨b129_28, e0, hp2⟩ := q_nn_of hp
    clear hp; subst e0; have hp := hp2; clear hp2
    refine q_aldB X V dX5_see_129 hp (fun r129_29 hp => ?_)
    refine x_iload_n X dX5_see_130 hl 1 rfl rfl ?_
    refine lv_iconst (v := (0 : Int32)) hx hb dX5_see_131 (by decide) ?_
    obtain ⟨b132_30, e0, hp2⟩ := q_nn_of hp
    clear hp; subst e0; have hp := hp2; clear hp2
    obtain ⟨hk, hp⟩ := q_is_of hp
    obtain ⟨⟨G, u⟩, hq, hp⟩ := q_cl_of hp
    dsimp only at hp
    refine q_gov (cells' := 0) (slots' := 0) (va_runV (As := [.int x1, .int (0 : Int32)]) (rest := []) X.1 (cX0_append l E hq) (tw_cwV 2 X.1.2.2.2.2 (tw_2 25 rfl rfl) kX0_append.2.1 kX0_append.2.2.1 kX0_append.2.2.2 kX0_append.1 rfl rfl hX0_append ⟨Nat.le_of_ble_eq_true rfl, Nat.le_of_ble_eq_true rfl⟩) (mm_preV X V rfl (by decide) rfl hk) rfl rfl hl.1 rfl (lv_room (Nat.le_of_ble_eq_true rfl)) dX5_see_132 ⟨by decide, by decide⟩) V ⟨rfl, rfl⟩ (fun H locs V => ?_)
    refine x_aload_n X dX5_see_135 hl 0 rfl rfl ?_
    refine q_getR (ci := 5) X V inX5 rfl (by decide) rfl 1 (by decide) rfl (tw_1 126 rfl rfl) rfl dX5_see_136 hp (fun r136_32 hp => ?_)
    refine x_iload_n X dX5_see_139 hl 3 rfl rfl ?_
    obtain ⟨b140_33, e0, hp2⟩ := q_nn_of hp
    clear hp; subst e0; have hp := hp2; clear hp2
    refine q_aldB X V dX5_see_140 hp (fun r140_34 hp => ?_)
    refine x_iload_n X dX5_see_141 hl 2 rfl rfl ?_
    obtain ⟨b142_35, e0, hp2⟩ := q_nn_of hp
    clear hp; subst e0; have hp := hp2; clear hp2
    refine q_putI (ci := 0) X V inX0 rfl tyX0 tyX0_ok nmX0 (by decide) rfl 4 (by decide) rfl (tw_1 107 rfl rfl) rfl (Or.inl rfl) .int rfl rfl rfl dX5_see_142 hp (fun G H locs V hp => ?_)
    exact q_vret X V hr ⟨by decide, by decide⟩ dX5_see_145 hp
def pX5_see_0 (N a0 : Nat) (G : mm_M) (x1 : Int32) (x2 : Int32) : Option (mm_M × Unit) :=
  q_gI G a0 6 0 fun v2_1 =>
  if x1 = v2_1 then
    some (G, ())
  else
    q_is G a0 6 <|
    q_cl (pX5_rangeOf_0 N a0 G x1) fun G v11_3 =>
    q_gR G a0 6 1 fun r16_4 =>
    q_nn r16_4 fun b20_5 =>
    q_aR G b20_5 104 v11_3 fun r20_6 =>
    q_nn r20_6 fun b22_7 =>
    q_is G b22_7 1 <|
    q_cl (pX0_placeOf_0 N b22_7 G x1) fun G v22_9 =>
    if v22_9 = (-1 : Int32) then
      q_gI G a0 6 2 fun v67_10 =>
      pX5_see_72 N a0 (fun (G : mm_M) (x1 : Int32) (x2 : Int32) (x3 : Int32) =>
        pX5_see_112 N a0 G x1 x2 x3) N G x1 x2 v11_3 v67_10
    else
      q_gR G a0 6 1 fun r34_36 =>
      q_nn r34_36 fun b38_37 =>
      q_aR G b38_37 104 v11_3 fun r38_38 =>
      q_nn r38_38 fun b41_39 =>
      q_is G b41_39 1 <|
      q_cl (pX0_removeAt_0 N b41_39 G v22_9) fun G _ =>
      q_gR G a0 6 1 fun r45_41 =>
      q_nn r45_41 fun b49_42 =>
      q_aR G b49_42 104 v11_3 fun r49_43 =>
      q_nn r49_43 fun b52_44 =>
      q_is G b52_44 1 <|
      q_cl (pX0_append_0 N b52_44 G x1 (0 : Int32)) fun G _ =>
      q_gR G a0 6 1 fun r56_46 =>
      q_nn r56_46 fun b60_47 =>
      q_aR G b60_47 104 v11_3 fun r60_48 =>
      q_nn r60_48 fun b62_49 =>
      q_pI G b62_49 1 4 x2 fun G =>
      some (G, ())
set_option maxRecDepth 100000 in
set_option maxHeartbeats 4000000 in
theorem bX5_see_0 {p : Program} {l : Launch} {e : Env} {s : State} {m : MethodId} {args : Array Value} {below : List Frame} {meth : Method} {c : Code} {E : mm_E} {N a0 : Nat} {res : mm_M × Unit} (X : mm_X p s m args meth c prog_7_method_3_code 6 "XorOverlay$Table" tw_T E) (hr : meth.sig.returnType = none) {G : mm_M} {H : Heap} {locs : List Loc} {ls : Array Slot} {x1 : Int32} {x2 : Int32} (V : mm_V E s G H locs) (hl : lx_has ls 6 [(0, .inr (some a0)), (1, .inl x1), (2, .inl x2)]) (hp : pX5_see_0 N a0 G x1 x2 = some res) : W p l e rX5_see s m args below meth c H locs 0 0 (MQ below (mm_Qv E res.1) args s 0 0 (mm_A E)) (F0 m 0 ls []) := by
  have hx := X.1.1
  have hb := X.1.2.1
  unfold pX5_see_0 at hp
  refine x_iload_n X dX5_see_0 hl 1 rfl rfl ?_
  refine x_aload_n X dX5_see_1 hl 0 rfl rfl ?_
  refine q_getI (ci := 5) X V inX5 rfl (by decide) rfl 0 (by decide) rfl (tw_1 125 rfl rfl) rfl dX5_see_2 hp (fun v2_1 hp => ?_)
  refine q_ifn hp (lv_icmp_ne (tgt := 9) hx hb dX5_see_5 (by decide)) (fun hp => ?_) (fun hp => ?_)
  · refine x_aload_n X dX5_see_9 hl 0 rfl rfl ?_
    refine x_iload_n X dX5_see_10 hl 1 rfl rfl ?_
    obtain ⟨hk, hp⟩ := q_is_of hp
    obtain ⟨⟨G, v11_3⟩, hq, hp⟩ := q_cl_of hp
    dsimp only at hp
    refine q_goi (cells' := 0) (slots' := 0) (va_runV (As := [.int x1]) (rest := []) X.1 (cX5_rangeOf l E hq) (tw_cwV 1 X.1.2.2.2.2 (tw_2 13 rfl rfl) kX5_rangeOf.2.1 kX5_rangeOf.2.2.1 kX5_rangeOf.2.2.2 kX5_rangeOf.1 rfl rfl hX5_rangeOf ⟨Nat.le_of_ble_eq_true rfl, Nat.le_of_ble_eq_true rfl⟩) (mm_preV X V rfl (by decide) rfl hk) rfl rfl hl.1 rfl (lv_room (Nat.le_of_ble_eq_true rfl)) dX5_see_11 ⟨by decide, by decide⟩) V ⟨rfl, rfl⟩ (fun H locs V => ?_)
    refine x_istore_n (lst' := [(3, .inl v11_3), (0, .inr (some a0)), (1, .inl x1), (2, .inl x2)]) X dX5_see_14 hl rfl (by decide) rfl (fun ls hl => ?_)
    refine x_aload_n X dX5_see_15 hl 1 rfl rfl ?_
    refine q_getR (ci := 5) X V inX5 rfl (by decide) rfl 1 (by decide) rfl (tw_1 126 rfl rfl) rfl dX5_see_16 hp (fun r16_4 hp => ?_)
    refine x_iload_n X dX5_see_19 hl 0 rfl rfl ?_
    obtain ⟨b20_5, e0, hp2⟩ := q_nn_of hp
    clear hp; subst e0; have hp := hp2; clear hp2
    refine q_aldB X V dX5_see_20 hp (fun r20_6 hp => ?_)
    refine x_iload_n X dX5_see_21 hl 2 rfl rfl ?_
    obtain ⟨b22_7, e0, hp2⟩ := q_nn_of hp
    clear hp; subst e0; have hp := hp2; clear hp2
    obtain ⟨hk, hp⟩ := q_is_of hp
    obtain ⟨⟨G, v22_9⟩, hq, hp⟩ := q_cl_of hp
    dsimp only at hp
    refine q_goi (cells' := 0) (slots' := 0) (va_runV (As := [.int x1]) (rest := []) X.1 (cX0_placeOf l E hq) (tw_cwV 1 X.1.2.2.2.2 (tw_2 17 rfl rfl) kX0_placeOf.2.1 kX0_placeOf.2.2.1 kX0_placeOf.2.2.2 kX0_placeOf.1 rfl rfl hX0_placeOf ⟨Nat.le_of_ble_eq_true rfl, Nat.le_of_ble_eq_true rfl⟩) (mm_preV X V rfl (by decide) rfl hk) rfl rfl hl.1 rfl (lv_room (Nat.le_of_ble_eq_true rfl)) dX5_see_22 ⟨by decide, by decide⟩) V ⟨rfl, rfl⟩ (fun H locs V => ?_)
    refine x_istore (lst' := [(4, .inl v22_9), (3, .inl v11_3), (0, .inr (some a0)), (1, .inl x1), (2, .inl x2)]) X dX5_see_25 hl (by decide) rfl (fun ls hl => ?_)
    refine x_iload X dX5_see_27 hl 0 rfl ?_
    refine lv_iconst (v := (-1 : Int32)) hx hb dX5_see_29 (by decide) ?_
    refine q_if hp (lv_icmp_eq (tgt := 66) hx hb dX5_see_30 (by decide)) (fun hp => ?_) (fun hp => ?_)
    · refine x_aload_n X dX5_see_66 hl 2 rfl rfl ?_
      refine q_getI (ci := 5) X V inX5 rfl (by decide) rfl 2 (by decide) rfl (tw_1 128 rfl rfl) rfl dX5_see_67 hp (fun v67_10 hp => ?_)
      refine x_istore (lst' := [(5, .inl v67_10), (4, .inl v22_9), (3, .inl v11_3), (0, .inr (some a0)), (1, .inl x1), (2, .inl x2)]) X dX5_see_70 hl (by decide) rfl (fun ls hl => ?_)
      refine bX5_see_72 X hr (fun G H locs ls x1 x2 x3 V hl hp => ?_) _ _ _ _ _ _ _ _ _ V (lx_sub hl [3, 4, 5, 2, 0] rfl) hp
      exact bX5_see_112 X hr V (lx_sub hl [0, 1, 2, 3] rfl) hp
    · refine x_aload_n X dX5_see_33 hl 2 rfl rfl ?_
      refine q_getR (ci := 5) X V inX5 rfl (by decide) rfl 1 (by decide) rfl (tw_1 126 rfl rfl) rfl dX5_see_34 hp (fun r34_36 hp => ?_)
      refine x_iload_n X dX5_see_37 hl 1 rfl rfl ?_
      obtain ⟨b38_37, e0, hp2⟩ := q_nn_of hp
      clear hp; subst e0; have hp := hp2; clear hp2
      refine q_aldB X V dX5_see_38 hp (fun r38_38 hp => ?_)
      refine x_iload X dX5_see_39 hl 0 rfl ?_
      obtain ⟨b41_39, e0, hp2⟩ := q_nn_of hp
      clear hp; subst e0; have hp := hp2; clear hp2
      obtain ⟨hk, hp⟩ := q_is_of hp
      obtain ⟨⟨G, u⟩, hq, hp⟩ := q_cl_of hp
      dsimp only at hp
      refine q_gov (cells' := 0) (slots' := 0) (va_runV (As := [.int v22_9]) (rest := []) X.1 (cX0_removeAt l E hq) (tw_cwV 1 X.1.2.2.2.2 (tw_2 21 rfl rfl) kX0_removeAt.2.1 kX0_removeAt.2.2.1 kX0_removeAt.2.2.2 kX0_removeAt.1 rfl rfl hX0_removeAt ⟨Nat.le_of_ble_eq_true rfl, Nat.le_of_ble_eq_true rfl⟩) (mm_preV X V rfl (by decide) rfl hk) rfl rfl hl.1 rfl (lv_room (Nat.le_of_ble_eq_true rfl)) dX5_see_41 ⟨by decide, by decide⟩) V ⟨rfl, rfl⟩ (fun H locs V => ?_)
      refine x_aload_n X dX5_see_44 hl 2 rfl rfl ?_
      refine q_getR (ci := 5) X V inX5 rfl (by decide) rfl 1 (by decide) rfl (tw_1 126 rfl rfl) rfl dX5_see_45 hp (fun r45_41 hp => ?_)
      refine x_iload_n X dX5_see_48 hl 1 rfl rfl ?_
      obtain ⟨b49_42, e0, hp2⟩ := q_nn_of hp
      clear hp; subst e0; have hp := hp2; clear hp2
      refine q_aldB X V dX5_see_49 hp (fun r49_43 hp => ?_)
      refine x_iload_n X dX5_see_50 hl 3 rfl rfl ?_
      refine lv_iconst (v := (0 : Int32)) hx hb dX5_see_51 (by decide) ?_
      obtain ⟨b52_44, e0, hp2⟩ := q_nn_of hp
      clear hp; subst e0; have hp := hp2; clear hp2
      obtain ⟨hk, hp⟩ := q_is_of hp
      obtain ⟨⟨G, u⟩, hq, hp⟩ := q_cl_of hp
      dsimp only at hp
      refine q_gov (cells' := 0) (slots' := 0) (va_runV (As := [.int x1, .int (0 : Int32)]) (rest := []) X.1 (cX0_append l E hq) (tw_cwV 2 X.1.2.2.2.2 (tw_2 25 rfl rfl) kX0_append.2.1 kX0_append.2.2.1 kX0_append.2.2.2 kX0_append.1 rfl rfl hX0_append ⟨Nat.le_of_ble_eq_true rfl, Nat.le_of_ble_eq_true rfl⟩) (mm_preV X V rfl (by decide) rfl hk) rfl rfl hl.1 rfl (lv_room (Nat.le_of_ble_eq_true rfl)) dX5_see_52 ⟨by decide, by decide⟩) V ⟨rfl, rfl⟩ (fun H locs V => ?_)
      refine x_aload_n X dX5_see_55 hl 2 rfl rfl ?_
      refine q_getR (ci := 5) X V inX5 rfl (by decide) rfl 1 (by decide) rfl (tw_1 126 rfl rfl) rfl dX5_see_56 hp (fun r56_46 hp => ?_)
      refine x_iload_n X dX5_see_59 hl 1 rfl rfl ?_
      obtain ⟨b60_47, e0, hp2⟩ := q_nn_of hp
      clear hp; subst e0; have hp := hp2; clear hp2
      refine q_aldB X V dX5_see_60 hp (fun r60_48 hp => ?_)
      refine x_iload_n X dX5_see_61 hl 4 rfl rfl ?_
      obtain ⟨b62_49, e0, hp2⟩ := q_nn_of hp
      clear hp; subst e0; have hp := hp2; clear hp2
      refine q_putI (ci := 0) X V inX0 rfl tyX0 tyX0_ok nmX0 (by decide) rfl 4 (by decide) rfl (tw_1 107 rfl rfl) rfl (Or.inl rfl) .int rfl rfl rfl dX5_see_62 hp (fun G H locs V hp => ?_)
      exact q_vret X V hr ⟨by decide, by decide⟩ dX5_see_65 hp
  · exact q_vret X V hr ⟨by decide, by decide⟩ dX5_see_8 hp
theorem cX5_see (l : Launch) (E : mm_E) {N a0 : Nat} {G : mm_M} {x1 : Int32} {x2 : Int32} {res : mm_M × Unit} (hp : pX5_see_0 N a0 G x1 x2 = some res) : Met l yX5_see (Cond.code yX5_see prog_7_method_3_code 6 none :: tw_T) rX5_see (mm_Pc E G [.ref a0, .int x1, .int x2]) (mm_Qv E res.1) 0 0 (mm_A E) :=
  mm_met (own := "XorOverlay$Table") E G [.inr (some a0), .inl x1, .inl x2] (by decide) rfl rfl (Nat.le_of_ble_eq_true rfl) (fun p e s m args below meth c ls X hr hi V hl => bX5_see_0 X hr V hl hp)
abbrev yX5_touch : MethodName := ⟨"XorOverlay$Table", "touch", "(II)V"⟩
abbrev rX5_touch : Room := { frames := 1, cells := 0, slots := 0, locals := 22 }
theorem kX5_touch : Cond.code yX5_touch prog_7_method_4_code 3 none ∈ tw_T ∧ Cond.instanceMethod yX5_touch ∈ tw_T ∧ Cond.selects "XorOverlay$Table" yX5_touch yX5_touch ∈ tw_T ∧ Cond.initialized "XorOverlay$Table" ∈ tw_T := ⟨(tw_2 59 rfl rfl), (tw_2 57 rfl rfl), (tw_2 58 rfl rfl), (tw_1 5 rfl rfl)⟩
theorem hX5_touch : yX5_touch.cls = "XorOverlay$Table" ∧ yX5_touch.cls ≠ "java/lang/invoke/MethodHandle" ∧ yX5_touch.cls ≠ "java/lang/invoke/VarHandle" ∧ (parseMethodDescriptor yX5_touch.desc).map (fun d => d.parameters.length) = some 2 := by decide +kernel
theorem dX5_touch_0 : decode prog_7_method_4_code 0 = .ok (.aload_n 0, 1) := by decide +kernel
theorem dX5_touch_1 : decode prog_7_method_4_code 1 = .ok (.getfield 17, 3) := by decide +kernel
theorem dX5_touch_4 : decode prog_7_method_4_code 4 = .ok (.aload_n 0, 1) := by decide +kernel
theorem dX5_touch_5 : decode prog_7_method_4_code 5 = .ok (.iload_n 1, 1) := by decide +kernel
theorem dX5_touch_6 : decode prog_7_method_4_code 6 = .ok (.invokevirtual 29, 3) := by decide +kernel
theorem dX5_touch_9 : decode prog_7_method_4_code 9 = .ok (.aaload, 1) := by decide +kernel
theorem dX5_touch_10 : decode prog_7_method_4_code 10 = .ok (.iload_n 2, 1) := by decide +kernel
theorem dX5_touch_11 : decode prog_7_method_4_code 11 = .ok (.putfield 44, 3) := by decide +kernel
theorem dX5_touch_14 : decode prog_7_method_4_code 14 = .ok (.return_, 1) := by decide +kernel
def pX5_touch_0 (N a0 : Nat) (G : mm_M) (x1 : Int32) (x2 : Int32) : Option (mm_M × Unit) :=
  q_gR G a0 6 1 fun r1_1 =>
  q_is G a0 6 <|
  q_cl (pX5_rangeOf_0 N a0 G x1) fun G v6_3 =>
  q_nn r1_1 fun b9_4 =>
  q_aR G b9_4 104 v6_3 fun r9_5 =>
  q_nn r9_5 fun b11_6 =>
  q_pI G b11_6 1 4 x2 fun G =>
  some (G, ())
set_option maxRecDepth 100000 in
set_option maxHeartbeats 4000000 in
theorem bX5_touch_0 {p : Program} {l : Launch} {e : Env} {s : State} {m : MethodId} {args : Array Value} {below : List Frame} {meth : Method} {c : Code} {E : mm_E} {N a0 : Nat} {res : mm_M × Unit} (X : mm_X p s m args meth c prog_7_method_4_code 3 "XorOverlay$Table" tw_T E) (hr : meth.sig.returnType = none) {G : mm_M} {H : Heap} {locs : List Loc} {ls : Array Slot} {x1 : Int32} {x2 : Int32} (V : mm_V E s G H locs) (hl : lx_has ls 3 [(0, .inr (some a0)), (1, .inl x1), (2, .inl x2)]) (hp : pX5_touch_0 N a0 G x1 x2 = some res) : W p l e rX5_touch s m args below meth c H locs 0 0 (MQ below (mm_Qv E res.1) args s 0 0 (mm_A E)) (F0 m 0 ls []) := by
  have hx := X.1.1
  have hb := X.1.2.1
  unfold pX5_touch_0 at hp
  refine x_aload_n X dX5_touch_0 hl 0 rfl rfl ?_
  refine q_getR (ci := 5) X V inX5 rfl (by decide) rfl 1 (by decide) rfl (tw_1 126 rfl rfl) rfl dX5_touch_1 hp (fun r1_1 hp => ?_)
  refine x_aload_n X dX5_touch_4 hl 0 rfl rfl ?_
  refine x_iload_n X dX5_touch_5 hl 1 rfl rfl ?_
  obtain ⟨hk, hp⟩ := q_is_of hp
  obtain ⟨⟨G, v6_3⟩, hq, hp⟩ := q_cl_of hp
  dsimp only at hp
  refine q_goi (cells' := 0) (slots' := 0) (va_runV (As := [.int x1]) (rest := [va_rf r1_1]) X.1 (cX5_rangeOf l E hq) (tw_cwV 1 X.1.2.2.2.2 (tw_2 13 rfl rfl) kX5_rangeOf.2.1 kX5_rangeOf.2.2.1 kX5_rangeOf.2.2.2 kX5_rangeOf.1 rfl rfl hX5_rangeOf ⟨Nat.le_of_ble_eq_true rfl, Nat.le_of_ble_eq_true rfl⟩) (mm_preV X V rfl (by decide) rfl hk) rfl rfl hl.1 rfl (lv_room (by simp [va_rf_cat, va_int_cat])) dX5_touch_6 ⟨by decide, by decide⟩) V ⟨rfl, rfl⟩ (fun H locs V => ?_)
  obtain ⟨b9_4, e0, hp2⟩ := q_nn_of hp
  clear hp; subst e0; have hp := hp2; clear hp2
  refine q_aldB X V dX5_touch_9 hp (fun r9_5 hp => ?_)
  refine x_iload_n X dX5_touch_10 hl 2 rfl rfl ?_
  obtain ⟨b11_6, e0, hp2⟩ := q_nn_of hp
  clear hp; subst e0; have hp := hp2; clear hp2
  refine q_putI (ci := 0) X V inX0 rfl tyX0 tyX0_ok nmX0 (by decide) rfl 4 (by decide) rfl (tw_1 107 rfl rfl) rfl (Or.inl rfl) .int rfl rfl rfl dX5_touch_11 hp (fun G H locs V hp => ?_)
  exact q_vret X V hr ⟨by decide, by decide⟩ dX5_touch_14 hp
theorem cX5_touch (l : Launch) (E : mm_E) {N a0 : Nat} {G : mm_M} {x1 : Int32} {x2 : Int32} {res : mm_M × Unit} (hp : pX5_touch_0 N a0 G x1 x2 = some res) : Met l yX5_touch (Cond.code yX5_touch prog_7_method_4_code 3 none :: tw_T) rX5_touch (mm_Pc E G [.ref a0, .int x1, .int x2]) (mm_Qv E res.1) 0 0 (mm_A E) :=
  mm_met (own := "XorOverlay$Table") E G [.inr (some a0), .inl x1, .inl x2] (by decide) rfl rfl (Nat.le_of_ble_eq_true rfl) (fun p e s m args below meth c ls X hr hi V hl => bX5_touch_0 X hr V hl hp)
abbrev yX3_start : MethodName := ⟨"XorOverlay$Lookup", "start", "(III)V"⟩
abbrev rX3_start : Room := { frames := 1, cells := 0, slots := 0, locals := 20 }
theorem kX3_start : Cond.code yX3_start prog_5_method_3_code 4 none ∈ tw_T ∧ Cond.instanceMethod yX3_start ∈ tw_T ∧ Cond.selects "XorOverlay$Lookup" yX3_start yX3_start ∈ tw_T ∧ Cond.initialized "XorOverlay$Lookup" ∈ tw_T := ⟨(tw_2 63 rfl rfl), (tw_2 61 rfl rfl), (tw_2 62 rfl rfl), (tw_1 7 rfl rfl)⟩
theorem hX3_start : yX3_start.cls = "XorOverlay$Lookup" ∧ yX3_start.cls ≠ "java/lang/invoke/MethodHandle" ∧ yX3_start.cls ≠ "java/lang/invoke/VarHandle" ∧ (parseMethodDescriptor yX3_start.desc).map (fun d => d.parameters.length) = some 3 := by decide +kernel
theorem dX3_start_0 : decode prog_5_method_3_code 0 = .ok (.aload_n 0, 1) := by decide +kernel
theorem dX3_start_1 : decode prog_5_method_3_code 1 = .ok (.invokevirtual 37, 3) := by decide +kernel
theorem dX3_start_4 : decode prog_5_method_3_code 4 = .ok (.aload_n 0, 1) := by decide +kernel
theorem dX3_start_5 : decode prog_5_method_3_code 5 = .ok (.iload_n 1, 1) := by decide +kernel
theorem dX3_start_6 : decode prog_5_method_3_code 6 = .ok (.putfield 40, 3) := by decide +kernel
theorem dX3_start_9 : decode prog_5_method_3_code 9 = .ok (.aload_n 0, 1) := by decide +kernel
theorem dX3_start_10 : decode prog_5_method_3_code 10 = .ok (.iload_n 2, 1) := by decide +kernel
theorem dX3_start_11 : decode prog_5_method_3_code 11 = .ok (.putfield 43, 3) := by decide +kernel
theorem dX3_start_14 : decode prog_5_method_3_code 14 = .ok (.aload_n 0, 1) := by decide +kernel
theorem dX3_start_15 : decode prog_5_method_3_code 15 = .ok (.iload_n 3, 1) := by decide +kernel
theorem dX3_start_16 : decode prog_5_method_3_code 16 = .ok (.putfield 46, 3) := by decide +kernel
theorem dX3_start_19 : decode prog_5_method_3_code 19 = .ok (.aload_n 0, 1) := by decide +kernel
theorem dX3_start_20 : decode prog_5_method_3_code 20 = .ok (.iconst 1, 1) := by decide +kernel
theorem dX3_start_21 : decode prog_5_method_3_code 21 = .ok (.putfield 27, 3) := by decide +kernel
theorem dX3_start_24 : decode prog_5_method_3_code 24 = .ok (.return_, 1) := by decide +kernel
def pX3_start_0 (N a0 : Nat) (G : mm_M) (x1 : Int32) (x2 : Int32) (x3 : Int32) : Option (mm_M × Unit) :=
  q_is G a0 4 <|
  q_cl (pX3_forget_0 N a0 G) fun G _ =>
  q_pI G a0 4 6 x1 fun G =>
  q_pI G a0 4 7 x2 fun G =>
  q_pI G a0 4 8 x3 fun G =>
  q_pI G a0 4 5 (1 : Int32) fun G =>
  some (G, ())
set_option maxRecDepth 100000 in
set_option maxHeartbeats 4000000 in
theorem bX3_start_0 {p : Program} {l : Launch} {e : Env} {s : State} {m : MethodId} {args : Array Value} {below : List Frame} {meth : Method} {c : Code} {E : mm_E} {N a0 : Nat} {res : mm_M × Unit} (X : mm_X p s m args meth c prog_5_method_3_code 4 "XorOverlay$Lookup" tw_T E) (hr : meth.sig.returnType = none) {G : mm_M} {H : Heap} {locs : List Loc} {ls : Array Slot} {x1 : Int32} {x2 : Int32} {x3 : Int32} (V : mm_V E s G H locs) (hl : lx_has ls 4 [(0, .inr (some a0)), (1, .inl x1), (2, .inl x2), (3, .inl x3)]) (hp : pX3_start_0 N a0 G x1 x2 x3 = some res) : W p l e rX3_start s m args below meth c H locs 0 0 (MQ below (mm_Qv E res.1) args s 0 0 (mm_A E)) (F0 m 0 ls []) := by
  have hx := X.1.1
  have hb := X.1.2.1
  unfold pX3_start_0 at hp
  refine x_aload_n X dX3_start_0 hl 0 rfl rfl ?_
  obtain ⟨hk, hp⟩ := q_is_of hp
  obtain ⟨⟨G, u⟩, hq, hp⟩ := q_cl_of hp
  dsimp only at hp
  refine q_gov (cells' := 0) (slots' := 0) (va_runV (As := []) (rest := []) X.1 (cX3_forget l E hq) (tw_cwV 0 X.1.2.2.2.2 (tw_2 64 rfl rfl) kX3_forget.2.1 kX3_forget.2.2.1 kX3_forget.2.2.2 kX3_forget.1 rfl rfl hX3_forget ⟨Nat.le_of_ble_eq_true rfl, Nat.le_of_ble_eq_true rfl⟩) (mm_preV X V rfl (by decide) rfl hk) rfl rfl hl.1 rfl (lv_room (Nat.le_of_ble_eq_true rfl)) dX3_start_1 ⟨by decide, by decide⟩) V ⟨rfl, rfl⟩ (fun H locs V => ?_)
  refine x_aload_n X dX3_start_4 hl 0 rfl rfl ?_
  refine x_iload_n X dX3_start_5 hl 1 rfl rfl ?_
  refine q_putI (ci := 3) X V inX3 rfl tyX3 tyX3_ok nmX3 (by decide) rfl 6 (by decide) rfl (tw_1 155 rfl rfl) rfl (Or.inl rfl) .int rfl rfl rfl dX3_start_6 hp (fun G H locs V hp => ?_)
  refine x_aload_n X dX3_start_9 hl 0 rfl rfl ?_
  refine x_iload_n X dX3_start_10 hl 2 rfl rfl ?_
  refine q_putI (ci := 3) X V inX3 rfl tyX3 tyX3_ok nmX3 (by decide) rfl 7 (by decide) rfl (tw_1 157 rfl rfl) rfl (Or.inl rfl) .int rfl rfl rfl dX3_start_11 hp (fun G H locs V hp => ?_)
  refine x_aload_n X dX3_start_14 hl 0 rfl rfl ?_
  refine x_iload_n X dX3_start_15 hl 3 rfl rfl ?_
  refine q_putI (ci := 3) X V inX3 rfl tyX3 tyX3_ok nmX3 (by decide) rfl 8 (by decide) rfl (tw_1 159 rfl rfl) rfl (Or.inl rfl) .int rfl rfl rfl dX3_start_16 hp (fun G H locs V hp => ?_)
  refine x_aload_n X dX3_start_19 hl 0 rfl rfl ?_
  refine lv_iconst (v := (1 : Int32)) hx hb dX3_start_20 (by decide) ?_
  refine q_putI (ci := 3) X V inX3 rfl tyX3 tyX3_ok nmX3 (by decide) rfl 5 (by decide) rfl (tw_1 153 rfl rfl) rfl (Or.inl rfl) .int rfl rfl rfl dX3_start_21 hp (fun G H locs V hp => ?_)
  exact q_vret X V hr ⟨by decide, by decide⟩ dX3_start_24 hp
theorem cX3_start (l : Launch) (E : mm_E) {N a0 : Nat} {G : mm_M} {x1 : Int32} {x2 : Int32} {x3 : Int32} {res : mm_M × Unit} (hp : pX3_start_0 N a0 G x1 x2 x3 = some res) : Met l yX3_start (Cond.code yX3_start prog_5_method_3_code 4 none :: tw_T) rX3_start (mm_Pc E G [.ref a0, .int x1, .int x2, .int x3]) (mm_Qv E res.1) 0 0 (mm_A E) :=
  mm_met (own := "XorOverlay$Lookup") E G [.inr (some a0), .inl x1, .inl x2, .inl x3] (by decide) rfl rfl (Nat.le_of_ble_eq_true rfl) (fun p e s m args below meth c ls X hr hi V hl => bX3_start_0 X hr V hl hp)
abbrev yX5_closestBeyond : MethodName := ⟨"XorOverlay$Table", "closestBeyond", "(III)I"⟩
abbrev rX5_closestBeyond : Room := { frames := 0, cells := 0, slots := 0, locals := 0 }
theorem kX5_closestBeyond : Cond.code yX5_closestBeyond prog_7_method_6_code 9 (Option.some .int) ∈ tw_T ∧ Cond.instanceMethod yX5_closestBeyond ∈ tw_T ∧ Cond.selects "XorOverlay$Table" yX5_closestBeyond yX5_closestBeyond ∈ tw_T ∧ Cond.initialized "XorOverlay$Table" ∈ tw_T := ⟨(tw_2 68 rfl rfl), (tw_2 66 rfl rfl), (tw_2 67 rfl rfl), (tw_1 5 rfl rfl)⟩
theorem hX5_closestBeyond : yX5_closestBeyond.cls = "XorOverlay$Table" ∧ yX5_closestBeyond.cls ≠ "java/lang/invoke/MethodHandle" ∧ yX5_closestBeyond.cls ≠ "java/lang/invoke/VarHandle" ∧ (parseMethodDescriptor yX5_closestBeyond.desc).map (fun d => d.parameters.length) = some 3 := by decide +kernel
theorem dX5_closestBeyond_0 : decode prog_7_method_6_code 0 = .ok (.iconst (-1), 1) := by decide +kernel
theorem dX5_closestBeyond_1 : decode prog_7_method_6_code 1 = .ok (.istore 4, 2) := by decide +kernel
theorem dX5_closestBeyond_3 : decode prog_7_method_6_code 3 = .ok (.iconst 0, 1) := by decide +kernel
theorem dX5_closestBeyond_4 : decode prog_7_method_6_code 4 = .ok (.istore 5, 2) := by decide +kernel
theorem dX5_closestBeyond_6 : decode prog_7_method_6_code 6 = .ok (.iload 5, 2) := by decide +kernel
theorem dX5_closestBeyond_8 : decode prog_7_method_6_code 8 = .ok (.aload_n 0, 1) := by decide +kernel
theorem dX5_closestBeyond_9 : decode prog_7_method_6_code 9 = .ok (.getfield 22, 3) := by decide +kernel
theorem dX5_closestBeyond_12 : decode prog_7_method_6_code 12 = .ok (.if_icmp .ge 82, 3) := by decide +kernel
theorem dX5_closestBeyond_15 : decode prog_7_method_6_code 15 = .ok (.aload_n 0, 1) := by decide +kernel
theorem dX5_closestBeyond_16 : decode prog_7_method_6_code 16 = .ok (.getfield 17, 3) := by decide +kernel
theorem dX5_closestBeyond_19 : decode prog_7_method_6_code 19 = .ok (.iload 5, 2) := by decide +kernel
theorem dX5_closestBeyond_21 : decode prog_7_method_6_code 21 = .ok (.aaload, 1) := by decide +kernel
theorem dX5_closestBeyond_22 : decode prog_7_method_6_code 22 = .ok (.astore 6, 2) := by decide +kernel
theorem dX5_closestBeyond_24 : decode prog_7_method_6_code 24 = .ok (.iconst 0, 1) := by decide +kernel
theorem dX5_closestBeyond_25 : decode prog_7_method_6_code 25 = .ok (.istore 7, 2) := by decide +kernel
theorem dX5_closestBeyond_27 : decode prog_7_method_6_code 27 = .ok (.iload 7, 2) := by decide +kernel
theorem dX5_closestBeyond_29 : decode prog_7_method_6_code 29 = .ok (.aload 6, 2) := by decide +kernel
theorem dX5_closestBeyond_31 : decode prog_7_method_6_code 31 = .ok (.getfield 62, 3) := by decide +kernel
theorem dX5_closestBeyond_34 : decode prog_7_method_6_code 34 = .ok (.if_icmp .ge 54, 3) := by decide +kernel
theorem dX5_closestBeyond_37 : decode prog_7_method_6_code 37 = .ok (.aload 6, 2) := by decide +kernel
theorem dX5_closestBeyond_39 : decode prog_7_method_6_code 39 = .ok (.getfield 63, 3) := by decide +kernel
theorem dX5_closestBeyond_42 : decode prog_7_method_6_code 42 = .ok (.iload 7, 2) := by decide +kernel
theorem dX5_closestBeyond_44 : decode prog_7_method_6_code 44 = .ok (.iaload, 1) := by decide +kernel
theorem dX5_closestBeyond_45 : decode prog_7_method_6_code 45 = .ok (.istore 8, 2) := by decide +kernel
theorem dX5_closestBeyond_47 : decode prog_7_method_6_code 47 = .ok (.iload 8, 2) := by decide +kernel
theorem dX5_closestBeyond_49 : decode prog_7_method_6_code 49 = .ok (.iload_n 3, 1) := by decide +kernel
theorem dX5_closestBeyond_50 : decode prog_7_method_6_code 50 = .ok (.if_icmp .eq 32, 3) := by decide +kernel
theorem dX5_closestBeyond_53 : decode prog_7_method_6_code 53 = .ok (.iload 8, 2) := by decide +kernel
theorem dX5_closestBeyond_55 : decode prog_7_method_6_code 55 = .ok (.iload_n 1, 1) := by decide +kernel
theorem dX5_closestBeyond_56 : decode prog_7_method_6_code 56 = .ok (.ixor, 1) := by decide +kernel
theorem dX5_closestBeyond_57 : decode prog_7_method_6_code 57 = .ok (.iload_n 2, 1) := by decide +kernel
theorem dX5_closestBeyond_58 : decode prog_7_method_6_code 58 = .ok (.if_icmp .le 24, 3) := by decide +kernel
theorem dX5_closestBeyond_61 : decode prog_7_method_6_code 61 = .ok (.iload 4, 2) := by decide +kernel
theorem dX5_closestBeyond_63 : decode prog_7_method_6_code 63 = .ok (.iconst (-1), 1) := by decide +kernel
theorem dX5_closestBeyond_64 : decode prog_7_method_6_code 64 = .ok (.if_icmp .eq 14, 3) := by decide +kernel
theorem dX5_closestBeyond_67 : decode prog_7_method_6_code 67 = .ok (.iload 8, 2) := by decide +kernel
theorem dX5_closestBeyond_69 : decode prog_7_method_6_code 69 = .ok (.iload_n 1, 1) := by decide +kernel
theorem dX5_closestBeyond_70 : decode prog_7_method_6_code 70 = .ok (.ixor, 1) := by decide +kernel
theorem dX5_closestBeyond_71 : decode prog_7_method_6_code 71 = .ok (.iload 4, 2) := by decide +kernel
theorem dX5_closestBeyond_73 : decode prog_7_method_6_code 73 = .ok (.iload_n 1, 1) := by decide +kernel
theorem dX5_closestBeyond_74 : decode prog_7_method_6_code 74 = .ok (.ixor, 1) := by decide +kernel
theorem dX5_closestBeyond_75 : decode prog_7_method_6_code 75 = .ok (.if_icmp .ge 7, 3) := by decide +kernel
theorem dX5_closestBeyond_78 : decode prog_7_method_6_code 78 = .ok (.iload 8, 2) := by decide +kernel
theorem dX5_closestBeyond_80 : decode prog_7_method_6_code 80 = .ok (.istore 4, 2) := by decide +kernel
theorem dX5_closestBeyond_82 : decode prog_7_method_6_code 82 = .ok (.iinc 7 1, 3) := by decide +kernel
theorem dX5_closestBeyond_85 : decode prog_7_method_6_code 85 = .ok (.goto (-58), 3) := by decide +kernel
theorem dX5_closestBeyond_88 : decode prog_7_method_6_code 88 = .ok (.iinc 5 1, 3) := by decide +kernel
theorem dX5_closestBeyond_91 : decode prog_7_method_6_code 91 = .ok (.goto (-85), 3) := by decide +kernel
theorem dX5_closestBeyond_94 : decode prog_7_method_6_code 94 = .ok (.iload 4, 2) := by decide +kernel
theorem dX5_closestBeyond_96 : decode prog_7_method_6_code 96 = .ok (.ireturn, 1) := by decide +kernel
def pX5_closestBeyond_27_b (N a0 : Nat) (kb : mm_M → Int32 → Int32 → Int32 → Int32 → Int32 → Option Nat → Int32 → Option (mm_M × Int32)) (kx : mm_M → Int32 → Int32 → Int32 → Int32 → Int32 → Option (mm_M × Int32)) (G : mm_M) (x1 : Int32) (x2 : Int32) (x3 : Int32) (x4 : Int32) (x5 : Int32) (x6 : Option Nat) (x7 : Int32) : Option (mm_M × Int32) :=
  q_nn x6 fun b31_5 =>
  q_gI G b31_5 1 5 fun v31_6 =>
  if v31_6 ≤ x7 then
    kx G x1 x2 x3 x4 x5
  else
    q_gR G b31_5 1 0 fun r39_7 =>
    q_nn r39_7 fun b44_8 =>
    q_aI G b44_8 101 x7 fun v44_9 =>
    if v44_9 = x3 then
      kb G x1 x2 x3 x4 x5 (some b31_5) (x7 + (1 : Int32))
    else
      if (v44_9 ^^^ x1) ≤ x2 then
        kb G x1 x2 x3 x4 x5 (some b31_5) (x7 + (1 : Int32))
      else
        if x4 = (-1 : Int32) then
          kb G x1 x2 x3 v44_9 x5 (some b31_5) (x7 + (1 : Int32))
        else
          if (x4 ^^^ x1) ≤ (v44_9 ^^^ x1) then
            kb G x1 x2 x3 x4 x5 (some b31_5) (x7 + (1 : Int32))
          else
            kb G x1 x2 x3 v44_9 x5 (some b31_5) (x7 + (1 : Int32))
def pX5_closestBeyond_27 (N a0 : Nat) (kx : mm_M → Int32 → Int32 → Int32 → Int32 → Int32 → Option (mm_M × Int32)) : Nat → mm_M → Int32 → Int32 → Int32 → Int32 → Int32 → Option Nat → Int32 → Option (mm_M × Int32)
  | 0 => fun _ _ _ _ _ _ _ _ => none
  | n + 1 => pX5_closestBeyond_27_b N a0 (pX5_closestBeyond_27 N a0 kx n) kx
set_option maxRecDepth 100000 in
set_option maxHeartbeats 4000000 in
theorem bX5_closestBeyond_27 {p : Program} {l : Launch} {e : Env} {s : State} {m : MethodId} {args : Array Value} {below : List Frame} {meth : Method} {c : Code} {E : mm_E} {N a0 : Nat} {res : mm_M × Int32} (X : mm_X p s m args meth c prog_7_method_6_code 9 "XorOverlay$Table" tw_T E) (hr : meth.sig.returnType = (Option.some .int)) {kx : mm_M → Int32 → Int32 → Int32 → Int32 → Int32 → Option (mm_M × Int32)} (hkx : ∀ (G : mm_M) (H : Heap) (locs : List Loc) (ls : Array Slot) (x1 : Int32) (x2 : Int32) (x3 : Int32) (x4 : Int32) (x5 : Int32), mm_V E s G H locs → lx_has ls 9 [(0, .inr (some a0)), (1, .inl x1), (2, .inl x2), (3, .inl x3), (4, .inl x4), (5, .inl x5)] → kx G x1 x2 x3 x4 x5 = some res → W p l e rX5_closestBeyond s m args below meth c H locs 0 0 (MQ below (mm_Qi E res.1 res.2) args s 0 0 (mm_A E)) (F0 m 88 ls [])) :
    ∀ (n : Nat) (G : mm_M) (H : Heap) (locs : List Loc) (ls : Array Slot) (x1 : Int32) (x2 : Int32) (x3 : Int32) (x4 : Int32) (x5 : Int32) (x6 : Option Nat) (x7 : Int32), mm_V E s G H locs → lx_has ls 9 [(0, .inr (some a0)), (1, .inl x1), (2, .inl x2), (3, .inl x3), (4, .inl x4), (5, .inl x5), (6, .inr x6), (7, .inl x7)] → pX5_closestBeyond_27 N a0 kx n G x1 x2 x3 x4 x5 x6 x7 = some res → W p l e rX5_closestBeyond s m args below meth c H locs 0 0 (MQ below (mm_Qi E res.1 res.2) args s 0 0 (mm_A E)) (F0 m 27 ls []) := by
  have hx := X.1.1
  have hb := X.1.2.1
  intro n
  induction n with
  | zero =>
    intro G H locs ls x1 x2 x3 x4 x5 x6 x7 V hl hp
    cases hp
  | succ n ih =>
    intro G H locs ls x1 x2 x3 x4 x5 x6 x7 V hl hp
    have hp : pX5_closestBeyond_27_b N a0 (pX5_closestBeyond_27 N a0 kx n) kx G x1 x2 x3 x4 x5 x6 x7 = some res := hp
    unfold pX5_closestBeyond_27_b at hp
    refine x_iload X dX5_closestBeyond_27 hl 7 rfl ?_
    refine x_aload X dX5_closestBeyond_29 hl 6 rfl ?_
    obtain ⟨b31_5, e0, hp2⟩ := q_nn_of hp
    clear hp; subst e0; have hp := hp2; clear hp2
    refine q_getI (ci := 0) X V inX0 rfl (by decide) rfl 5 (by decide) rfl (tw_1 110 rfl rfl) rfl dX5_closestBeyond_31 hp (fun v31_6 hp => ?_)
    refine q_if hp (lv_icmp_ge (tgt := 88) hx hb dX5_closestBeyond_34 (by decide)) (fun hp => ?_) (fun hp => ?_)
    · exact hkx _ _ _ _ _ _ _ _ _ V (lx_sub hl [0, 1, 2, 3, 4, 5] rfl) hp
    · refine x_aload X dX5_closestBeyond_37 hl 6 rfl ?_
      refine q_getR (ci := 0) X V inX0 rfl (by decide) rfl 0 (by decide) rfl (tw_1 96 rfl rfl) rfl dX5_closestBeyond_39 hp (fun r39_7 hp => ?_)
      refine x_iload X dX5_closestBeyond_42 hl 7 rfl ?_
      obtain ⟨b44_8, e0, hp2⟩ := q_nn_of hp
      clear hp; subst e0; have hp := hp2; clear hp2
      refine q_iald X V dX5_closestBeyond_44 hp (fun v44_9 hp => ?_)
      refine x_istore (lst' := [(8, .inl v44_9), (0, .inr (some a0)), (1, .inl x1), (2, .inl x2), (3, .inl x3), (4, .inl x4), (5, .inl x5), (6, .inr (some b31_5)), (7, .inl x7)]) X dX5_closestBeyond_45 hl (by decide) rfl (fun ls hl => ?_)
      refine x_iload X dX5_closestBeyond_47 hl 0 rfl ?_
      refine x_iload_n X dX5_closestBeyond_49 hl 4 rfl rfl ?_
      refine q_if hp (lv_icmp_eq (tgt := 82) hx hb dX5_closestBeyond_50 (by decide)) (fun hp => ?_) (fun hp => ?_)
      · refine x_iinc (v := (1 : Int32)) (lst' := [(7, .inl (x7 + (1 : Int32))), (8, .inl v44_9), (0, .inr (some a0)), (1, .inl x1), (2, .inl x2), (3, .inl x3), (4, .inl x4), (5, .inl x5), (6, .inr (some b31_5))]) X dX5_closestBeyond_82 hl 8 rfl (by decide) (by decide) rfl (fun ls hl => ?_)
        refine lv_goto (tgt := 27) hx hb dX5_closestBeyond_85 (by decide) ?_
        exact ih _ _ _ _ _ _ _ _ _ _ _ V (lx_sub hl [2, 3, 4, 5, 6, 7, 8, 0] rfl) hp
      · refine x_iload X dX5_closestBeyond_53 hl 0 rfl ?_
        refine x_iload_n X dX5_closestBeyond_55 hl 2 rfl rfl ?_
        refine lv_ixor hx hb dX5_closestBeyond_56 ?_
        refine x_iload_n X dX5_closestBeyond_57 hl 3 rfl rfl ?_
        refine q_if hp (lv_icmp_le (tgt := 82) hx hb dX5_closestBeyond_58 (by decide)) (fun hp => ?_) (fun hp => ?_)
        · refine x_iinc (v := (1 : Int32)) (lst' := [(7, .inl (x7 + (1 : Int32))), (8, .inl v44_9), (0, .inr (some a0)), (1, .inl x1), (2, .inl x2), (3, .inl x3), (4, .inl x4), (5, .inl x5), (6, .inr (some b31_5))]) X dX5_closestBeyond_82 hl 8 rfl (by decide) (by decide) rfl (fun ls hl => ?_)
          refine lv_goto (tgt := 27) hx hb dX5_closestBeyond_85 (by decide) ?_
          exact ih _ _ _ _ _ _ _ _ _ _ _ V (lx_sub hl [2, 3, 4, 5, 6, 7, 8, 0] rfl) hp
        · refine x_iload X dX5_closestBeyond_61 hl 5 rfl ?_
          refine lv_iconst (v := (-1 : Int32)) hx hb dX5_closestBeyond_63 (by decide) ?_
          refine q_if hp (lv_icmp_eq (tgt := 78) hx hb dX5_closestBeyond_64 (by decide)) (fun hp => ?_) (fun hp => ?_)
          · refine x_iload X dX5_closestBeyond_78 hl 0 rfl ?_
            refine x_istore (lst' := [(4, .inl v44_9), (8, .inl v44_9), (0, .inr (some a0)), (1, .inl x1), (2, .inl x2), (3, .inl x3), (5, .inl x5), (6, .inr (some b31_5)), (7, .inl x7)]) X dX5_closestBeyond_80 hl (by decide) rfl (fun ls hl => ?_)
            refine x_iinc (v := (1 : Int32)) (lst' := [(7, .inl (x7 + (1 : Int32))), (4, .inl v44_9), (8, .inl v44_9), (0, .inr (some a0)), (1, .inl x1), (2, .inl x2), (3, .inl x3), (5, .inl x5), (6, .inr (some b31_5))]) X dX5_closestBeyond_82 hl 8 rfl (by decide) (by decide) rfl (fun ls hl => ?_)
            refine lv_goto (tgt := 27) hx hb dX5_closestBeyond_85 (by decide) ?_
            exact ih _ _ _ _ _ _ _ _ _ _ _ V (lx_sub hl [3, 4, 5, 6, 1, 7, 8, 0] rfl) hp
          · refine x_iload X dX5_closestBeyond_67 hl 0 rfl ?_
            refine x_iload_n X dX5_closestBeyond_69 hl 2 rfl rfl ?_
            refine lv_ixor hx hb dX5_closestBeyond_70 ?_
            refine x_iload X dX5_closestBeyond_71 hl 5 rfl ?_
            refine x_iload_n X dX5_closestBeyond_73 hl 2 rfl rfl ?_
            refine lv_ixor hx hb dX5_closestBeyond_74 ?_
            refine q_if hp (lv_icmp_ge (tgt := 82) hx hb dX5_closestBeyond_75 (by decide)) (fun hp => ?_) (fun hp => ?_)
            · refine x_iinc (v := (1 : Int32)) (lst' := [(7, .inl (x7 + (1 : Int32))), (8, .inl v44_9), (0, .inr (some a0)), (1, .inl x1), (2, .inl x2), (3, .inl x3), (4, .inl x4), (5, .inl x5), (6, .inr (some b31_5))]) X dX5_closestBeyond_82 hl 8 rfl (by decide) (by decide) rfl (fun ls hl => ?_)
              refine lv_goto (tgt := 27) hx hb dX5_closestBeyond_85 (by decide) ?_
              exact ih _ _ _ _ _ _ _ _ _ _ _ V (lx_sub hl [2, 3, 4, 5, 6, 7, 8, 0] rfl) hp
            · refine x_iload X dX5_closestBeyond_78 hl 0 rfl ?_
              refine x_istore (lst' := [(4, .inl v44_9), (8, .inl v44_9), (0, .inr (some a0)), (1, .inl x1), (2, .inl x2), (3, .inl x3), (5, .inl x5), (6, .inr (some b31_5)), (7, .inl x7)]) X dX5_closestBeyond_80 hl (by decide) rfl (fun ls hl => ?_)
              refine x_iinc (v := (1 : Int32)) (lst' := [(7, .inl (x7 + (1 : Int32))), (4, .inl v44_9), (8, .inl v44_9), (0, .inr (some a0)), (1, .inl x1), (2, .inl x2), (3, .inl x3), (5, .inl x5), (6, .inr (some b31_5))]) X dX5_closestBeyond_82 hl 8 rfl (by decide) (by decide) rfl (fun ls hl => ?_)
              refine lv_goto (tgt := 27) hx hb dX5_closestBeyond_85 (by decide) ?_
              exact ih _ _ _ _ _ _ _ _ _ _ _ V (lx_sub hl [3, 4, 5, 6, 1, 7, 8, 0] rfl) hp
def pX5_closestBeyond_6_b (N a0 : Nat) (kb : mm_M → Int32 → Int32 → Int32 → Int32 → Int32 → Option (mm_M × Int32)) (kx : mm_M → Int32 → Option (mm_M × Int32)) (G : mm_M) (x1 : Int32) (x2 : Int32) (x3 : Int32) (x4 : Int32) (x5 : Int32) : Option (mm_M × Int32) :=
  q_gI G a0 6 2 fun v9_1 =>
  if v9_1 ≤ x5 then
    kx G x4
  else
    q_gR G a0 6 1 fun r16_2 =>
    q_nn r16_2 fun b21_3 =>
    q_aR G b21_3 104 x5 fun r21_4 =>
    pX5_closestBeyond_27 N a0 (fun (G : mm_M) (x1 : Int32) (x2 : Int32) (x3 : Int32) (x4 : Int32) (x5 : Int32) =>
      kb G x1 x2 x3 x4 (x5 + (1 : Int32))) N G x1 x2 x3 x4 x5 r21_4 (0 : Int32)
def pX5_closestBeyond_6 (N a0 : Nat) (kx : mm_M → Int32 → Option (mm_M × Int32)) : Nat → mm_M → Int32 → Int32 → Int32 → Int32 → Int32 → Option (mm_M × Int32)
  | 0 => fun _ _ _ _ _ _ => none
  | n + 1 => pX5_closestBeyond_6_b N a0 (pX5_closestBeyond_6 N a0 kx n) kx
set_option maxRecDepth 100000 in
set_option maxHeartbeats 4000000 in
theorem bX5_closestBeyond_6 {p : Program} {l : Launch} {e : Env} {s : State} {m : MethodId} {args : Array Value} {below : List Frame} {meth : Method} {c : Code} {E : mm_E} {N a0 : Nat} {res : mm_M × Int32} (X : mm_X p s m args meth c prog_7_method_6_code 9 "XorOverlay$Table" tw_T E) (hr : meth.sig.returnType = (Option.some .int)) {kx : mm_M → Int32 → Option (mm_M × Int32)} (hkx : ∀ (G : mm_M) (H : Heap) (locs : List Loc) (ls : Array Slot) (x4 : Int32), mm_V E s G H locs → lx_has ls 9 [(0, .inr (some a0)), (4, .inl x4)] → kx G x4 = some res → W p l e rX5_closestBeyond s m args below meth c H locs 0 0 (MQ below (mm_Qi E res.1 res.2) args s 0 0 (mm_A E)) (F0 m 94 ls [])) :
    ∀ (n : Nat) (G : mm_M) (H : Heap) (locs : List Loc) (ls : Array Slot) (x1 : Int32) (x2 : Int32) (x3 : Int32) (x4 : Int32) (x5 : Int32), mm_V E s G H locs → lx_has ls 9 [(0, .inr (some a0)), (1, .inl x1), (2, .inl x2), (3, .inl x3), (4, .inl x4), (5, .inl x5)] → pX5_closestBeyond_6 N a0 kx n G x1 x2 x3 x4 x5 = some res → W p l e rX5_closestBeyond s m args below meth c H locs 0 0 (MQ below (mm_Qi E res.1 res.2) args s 0 0 (mm_A E)) (F0 m 6 ls []) := by
  have hx := X.1.1
  have hb := X.1.2.1
  intro n
  induction n with
  | zero =>
    intro G H locs ls x1 x2 x3 x4 x5 V hl hp
    cases hp
  | succ n ih =>
    intro G H locs ls x1 x2 x3 x4 x5 V hl hp
    have hp : pX5_closestBeyond_6_b N a0 (pX5_closestBeyond_6 N a0 kx n) kx G x1 x2 x3 x4 x5 = some res := hp
    unfold pX5_closestBeyond_6_b at hp
    refine x_iload X dX5_closestBeyond_6 hl 5 rfl ?_
    refine x_aload_n X dX5_closestBeyond_8 hl 0 rfl rfl ?_
    refine q_getI (ci := 5) X V inX5 rfl (by decide) rfl 2 (by decide) rfl (tw_1 128 rfl rfl) rfl dX5_closestBeyond_9 hp (fun v9_1 hp => ?_)
    refine q_if hp (lv_icmp_ge (tgt := 94) hx hb dX5_closestBeyond_12 (by decide)) (fun hp => ?_) (fun hp => ?_)
    · exact hkx _ _ _ _ _ V (lx_sub hl [0, 4] rfl) hp
    · refine x_aload_n X dX5_closestBeyond_15 hl 0 rfl rfl ?_
      refine q_getR (ci := 5) X V inX5 rfl (by decide) rfl 1 (by decide) rfl (tw_1 126 rfl rfl) rfl dX5_closestBeyond_16 hp (fun r16_2 hp => ?_)
      refine x_iload X dX5_closestBeyond_19 hl 5 rfl ?_
      obtain ⟨b21_3, e0, hp2⟩ := q_nn_of hp
      clear hp; subst e0; have hp := hp2; clear hp2
      refine q_aldB X V dX5_closestBeyond_21 hp (fun r21_4 hp => ?_)
      refine x_astore (lst' := [(6, .inr r21_4), (0, .inr (some a0)), (1, .inl x1), (2, .inl x2), (3, .inl x3), (4, .inl x4), (5, .inl x5)]) X dX5_closestBeyond_22 hl (by decide) rfl (fun ls hl => ?_)
      refine lv_iconst (v := (0 : Int32)) hx hb dX5_closestBeyond_24 (by decide) ?_
      refine x_istore (lst' := [(7, .inl (0 : Int32)), (6, .inr r21_4), (0, .inr (some a0)), (1, .inl x1), (2, .inl x2), (3, .inl x3), (4, .inl x4), (5, .inl x5)]) X dX5_closestBeyond_25 hl (by decide) rfl (fun ls hl => ?_)
      refine bX5_closestBeyond_27 X hr (fun G H locs ls x1 x2 x3 x4 x5 V hl hp => ?_) _ _ _ _ _ _ _ _ _ _ _ _ V (lx_sub hl [2, 3, 4, 5, 6, 7, 1, 0] rfl) hp
      refine x_iinc (v := (1 : Int32)) (lst' := [(5, .inl (x5 + (1 : Int32))), (0, .inr (some a0)), (1, .inl x1), (2, .inl x2), (3, .inl x3), (4, .inl x4)]) X dX5_closestBeyond_88 hl 5 rfl (by decide) (by decide) rfl (fun ls hl => ?_)
      refine lv_goto (tgt := 6) hx hb dX5_closestBeyond_91 (by decide) ?_
      exact ih _ _ _ _ _ _ _ _ _ V (lx_sub hl [1, 2, 3, 4, 5, 0] rfl) hp
def pX5_closestBeyond_0 (N a0 : Nat) (G : mm_M) (x1 : Int32) (x2 : Int32) (x3 : Int32) : Option (mm_M × Int32) :=
  pX5_closestBeyond_6 N a0 (fun (G : mm_M) (x4 : Int32) =>
    some (G, x4)) N G x1 x2 x3 (-1 : Int32) (0 : Int32)
set_option maxRecDepth 100000 in
set_option maxHeartbeats 4000000 in
theorem bX5_closestBeyond_0 {p : Program} {l : Launch} {e : Env} {s : State} {m : MethodId} {args : Array Value} {below : List Frame} {meth : Method} {c : Code} {E : mm_E} {N a0 : Nat} {res : mm_M × Int32} (X : mm_X p s m args meth c prog_7_method_6_code 9 "XorOverlay$Table" tw_T E) (hr : meth.sig.returnType = (Option.some .int)) {G : mm_M} {H : Heap} {locs : List Loc} {ls : Array Slot} {x1 : Int32} {x2 : Int32} {x3 : Int32} (V : mm_V E s G H locs) (hl : lx_has ls 9 [(0, .inr (some a0)), (1, .inl x1), (2, .inl x2), (3, .inl x3)]) (hp : pX5_closestBeyond_0 N a0 G x1 x2 x3 = some res) : W p l e rX5_closestBeyond s m args below meth c H locs 0 0 (MQ below (mm_Qi E res.1 res.2) args s 0 0 (mm_A E)) (F0 m 0 ls []) := by
  have hx := X.1.1
  have hb := X.1.2.1
  unfold pX5_closestBeyond_0 at hp
  refine lv_iconst (v := (-1 : Int32)) hx hb dX5_closestBeyond_0 (by decide) ?_
  refine x_istore (lst' := [(4, .inl (-1 : Int32)), (0, .inr (some a0)), (1, .inl x1), (2, .inl x2), (3, .inl x3)]) X dX5_closestBeyond_1 hl (by decide) rfl (fun ls hl => ?_)
  refine lv_iconst (v := (0 : Int32)) hx hb dX5_closestBeyond_3 (by decide) ?_
  refine x_istore (lst' := [(5, .inl (0 : Int32)), (4, .inl (-1 : Int32)), (0, .inr (some a0)), (1, .inl x1), (2, .inl x2), (3, .inl x3)]) X dX5_closestBeyond_4 hl (by decide) rfl (fun ls hl => ?_)
  refine bX5_closestBeyond_6 X hr (fun G H locs ls x4 V hl hp => ?_) _ _ _ _ _ _ _ _ _ _ V (lx_sub hl [2, 3, 4, 5, 1, 0] rfl) hp
  refine x_iload X dX5_closestBeyond_94 hl 1 rfl ?_
  exact q_iret X V hr ⟨by decide, by decide⟩ dX5_closestBeyond_96 hp
theorem cX5_closestBeyond (l : Launch) (E : mm_E) {N a0 : Nat} {G : mm_M} {x1 : Int32} {x2 : Int32} {x3 : Int32} {res : mm_M × Int32} (hp : pX5_closestBeyond_0 N a0 G x1 x2 x3 = some res) : Met l yX5_closestBeyond (Cond.code yX5_closestBeyond prog_7_method_6_code 9 (Option.some .int) :: tw_T) rX5_closestBeyond (mm_Pc E G [.ref a0, .int x1, .int x2, .int x3]) (mm_Qi E res.1 res.2) 0 0 (mm_A E) :=
  mm_met (own := "XorOverlay$Table") E G [.inr (some a0), .inl x1, .inl x2, .inl x3] (by decide) rfl rfl (Nat.le_of_ble_eq_true rfl) (fun p e s m args below meth c ls X hr hi V hl => bX5_closestBeyond_0 X hr V hl hp)
abbrev yX3_placeOf : MethodName := ⟨"XorOverlay$Lookup", "placeOf", "(I)I"⟩
abbrev rX3_placeOf : Room := { frames := 0, cells := 0, slots := 0, locals := 0 }
theorem kX3_placeOf : Cond.code yX3_placeOf prog_5_method_6_code 3 (Option.some .int) ∈ tw_T ∧ Cond.instanceMethod yX3_placeOf ∈ tw_T ∧ Cond.selects "XorOverlay$Lookup" yX3_placeOf yX3_placeOf ∈ tw_T ∧ Cond.initialized "XorOverlay$Lookup" ∈ tw_T := ⟨(tw_2 76 rfl rfl), (tw_2 74 rfl rfl), (tw_2 75 rfl rfl), (tw_1 7 rfl rfl)⟩
theorem hX3_placeOf : yX3_placeOf.cls = "XorOverlay$Lookup" ∧ yX3_placeOf.cls ≠ "java/lang/invoke/MethodHandle" ∧ yX3_placeOf.cls ≠ "java/lang/invoke/VarHandle" ∧ (parseMethodDescriptor yX3_placeOf.desc).map (fun d => d.parameters.length) = some 1 := by decide +kernel
theorem dX3_placeOf_0 : decode prog_5_method_6_code 0 = .ok (.iconst 0, 1) := by decide +kernel
theorem dX3_placeOf_1 : decode prog_5_method_6_code 1 = .ok (.istore_n 2, 1) := by decide +kernel
theorem dX3_placeOf_2 : decode prog_5_method_6_code 2 = .ok (.iload_n 2, 1) := by decide +kernel
theorem dX3_placeOf_3 : decode prog_5_method_6_code 3 = .ok (.aload_n 0, 1) := by decide +kernel
theorem dX3_placeOf_4 : decode prog_5_method_6_code 4 = .ok (.getfield 31, 3) := by decide +kernel
theorem dX3_placeOf_7 : decode prog_5_method_6_code 7 = .ok (.if_icmp .ge 21, 3) := by decide +kernel
theorem dX3_placeOf_10 : decode prog_5_method_6_code 10 = .ok (.aload_n 0, 1) := by decide +kernel
theorem dX3_placeOf_11 : decode prog_5_method_6_code 11 = .ok (.getfield 9, 3) := by decide +kernel
theorem dX3_placeOf_14 : decode prog_5_method_6_code 14 = .ok (.iload_n 2, 1) := by decide +kernel
theorem dX3_placeOf_15 : decode prog_5_method_6_code 15 = .ok (.iaload, 1) := by decide +kernel
theorem dX3_placeOf_16 : decode prog_5_method_6_code 16 = .ok (.iload_n 1, 1) := by decide +kernel
theorem dX3_placeOf_17 : decode prog_5_method_6_code 17 = .ok (.if_icmp .ne 5, 3) := by decide +kernel
theorem dX3_placeOf_20 : decode prog_5_method_6_code 20 = .ok (.iload_n 2, 1) := by decide +kernel
theorem dX3_placeOf_21 : decode prog_5_method_6_code 21 = .ok (.ireturn, 1) := by decide +kernel
theorem dX3_placeOf_22 : decode prog_5_method_6_code 22 = .ok (.iinc 2 1, 3) := by decide +kernel
theorem dX3_placeOf_25 : decode prog_5_method_6_code 25 = .ok (.goto (-23), 3) := by decide +kernel
theorem dX3_placeOf_28 : decode prog_5_method_6_code 28 = .ok (.iconst (-1), 1) := by decide +kernel
theorem dX3_placeOf_29 : decode prog_5_method_6_code 29 = .ok (.ireturn, 1) := by decide +kernel
def pX3_placeOf_2_b (N a0 : Nat) (kb : mm_M → Int32 → Int32 → Option (mm_M × Int32)) (kx : mm_M → Option (mm_M × Int32)) (G : mm_M) (x1 : Int32) (x2 : Int32) : Option (mm_M × Int32) :=
  q_gI G a0 4 9 fun v4_1 =>
  if v4_1 ≤ x2 then
    kx G
  else
    q_gR G a0 4 0 fun r11_2 =>
    q_nn r11_2 fun b15_3 =>
    q_aI G b15_3 101 x2 fun v15_4 =>
    if v15_4 = x1 then
      some (G, x2)
    else
      kb G x1 (x2 + (1 : Int32))
def pX3_placeOf_2 (N a0 : Nat) (kx : mm_M → Option (mm_M × Int32)) : Nat → mm_M → Int32 → Int32 → Option (mm_M × Int32)
  | 0 => fun _ _ _ => none
  | n + 1 => pX3_placeOf_2_b N a0 (pX3_placeOf_2 N a0 kx n) kx
set_option maxRecDepth 100000 in
set_option maxHeartbeats 4000000 in
theorem bX3_placeOf_2 {p : Program} {l : Launch} {e : Env} {s : State} {m : MethodId} {args : Array Value} {below : List Frame} {meth : Method} {c : Code} {E : mm_E} {N a0 : Nat} {res : mm_M × Int32} (X : mm_X p s m args meth c prog_5_method_6_code 3 "XorOverlay$Lookup" tw_T E) (hr : meth.sig.returnType = (Option.some .int)) {kx : mm_M → Option (mm_M × Int32)} (hkx : ∀ (G : mm_M) (H : Heap) (locs : List Loc) (ls : Array Slot), mm_V E s G H locs → lx_has ls 3 [(0, .inr (some a0))] → kx G = some res → W p l e rX3_placeOf s m args below meth c H locs 0 0 (MQ below (mm_Qi E res.1 res.2) args s 0 0 (mm_A E)) (F0 m 28 ls [])) :
    ∀ (n : Nat) (G : mm_M) (H : Heap) (locs : List Loc) (ls : Array Slot) (x1 : Int32) (x2 : Int32), mm_V E s G H locs → lx_has ls 3 [(0, .inr (some a0)), (1, .inl x1), (2, .inl x2)] → pX3_placeOf_2 N a0 kx n G x1 x2 = some res → W p l e rX3_placeOf s m args below meth c H locs 0 0 (MQ below (mm_Qi E res.1 res.2) args s 0 0 (mm_A E)) (F0 m 2 ls []) := by
  have hx := X.1.1
  have hb := X.1.2.1
  intro n
  induction n with
  | zero =>
    intro G H locs ls x1 x2 V hl hp
    cases hp
  | succ n ih =>
    intro G H locs ls x1 x2 V hl hp
    have hp : pX3_placeOf_2_b N a0 (pX3_placeOf_2 N a0 kx n) kx G x1 x2 = some res := hp
    unfold pX3_placeOf_2_b at hp
    refine x_iload_n X dX3_placeOf_2 hl 2 rfl rfl ?_
    refine x_aload_n X dX3_placeOf_3 hl 0 rfl rfl ?_
    refine q_getI (ci := 3) X V inX3 rfl (by decide) rfl 9 (by decide) rfl (tw_1 161 rfl rfl) rfl dX3_placeOf_4 hp (fun v4_1 hp => ?_)
    refine q_if hp (lv_icmp_ge (tgt := 28) hx hb dX3_placeOf_7 (by decide)) (fun hp => ?_) (fun hp => ?_)
    · exact hkx _ _ _ _ V (lx_sub hl [0] rfl) hp
    · refine x_aload_n X dX3_placeOf_10 hl 0 rfl rfl ?_
      refine q_getR (ci := 3) X V inX3 rfl (by decide) rfl 0 (by decide) rfl (tw_1 143 rfl rfl) rfl dX3_placeOf_11 hp (fun r11_2 hp => ?_)
      refine x_iload_n X dX3_placeOf_14 hl 2 rfl rfl ?_
      obtain ⟨b15_3, e0, hp2⟩ := q_nn_of hp
      clear hp; subst e0; have hp := hp2; clear hp2
      refine q_iald X V dX3_placeOf_15 hp (fun v15_4 hp => ?_)
      refine x_iload_n X dX3_placeOf_16 hl 1 rfl rfl ?_
      refine q_ifn hp (lv_icmp_ne (tgt := 22) hx hb dX3_placeOf_17 (by decide)) (fun hp => ?_) (fun hp => ?_)
      · refine x_iinc (v := (1 : Int32)) (lst' := [(2, .inl (x2 + (1 : Int32))), (0, .inr (some a0)), (1, .inl x1)]) X dX3_placeOf_22 hl 2 rfl (by decide) (by decide) rfl (fun ls hl => ?_)
        refine lv_goto (tgt := 2) hx hb dX3_placeOf_25 (by decide) ?_
        exact ih _ _ _ _ _ _ V (lx_sub hl [1, 2, 0] rfl) hp
      · refine x_iload_n X dX3_placeOf_20 hl 2 rfl rfl ?_
        exact q_iret X V hr ⟨by decide, by decide⟩ dX3_placeOf_21 hp
def pX3_placeOf_0 (N a0 : Nat) (G : mm_M) (x1 : Int32) : Option (mm_M × Int32) :=
  pX3_placeOf_2 N a0 (fun (G : mm_M) =>
    some (G, (-1 : Int32))) N G x1 (0 : Int32)
set_option maxRecDepth 100000 in
set_option maxHeartbeats 4000000 in
theorem bX3_placeOf_0 {p : Program} {l : Launch} {e : Env} {s : State} {m : MethodId} {args : Array Value} {below : List Frame} {meth : Method} {c : Code} {E : mm_E} {N a0 : Nat} {res : mm_M × Int32} (X : mm_X p s m args meth c prog_5_method_6_code 3 "XorOverlay$Lookup" tw_T E) (hr : meth.sig.returnType = (Option.some .int)) {G : mm_M} {H : Heap} {locs : List Loc} {ls : Array Slot} {x1 : Int32} (V : mm_V E s G H locs) (hl : lx_has ls 3 [(0, .inr (some a0)), (1, .inl x1)]) (hp : pX3_placeOf_0 N a0 G x1 = some res) : W p l e rX3_placeOf s m args below meth c H locs 0 0 (MQ below (mm_Qi E res.1 res.2) args s 0 0 (mm_A E)) (F0 m 0 ls []) := by
  have hx := X.1.1
  have hb := X.1.2.1
  unfold pX3_placeOf_0 at hp
  refine lv_iconst (v := (0 : Int32)) hx hb dX3_placeOf_0 (by decide) ?_
  refine x_istore_n (lst' := [(2, .inl (0 : Int32)), (0, .inr (some a0)), (1, .inl x1)]) X dX3_placeOf_1 hl rfl (by decide) rfl (fun ls hl => ?_)
  refine bX3_placeOf_2 X hr (fun G H locs ls V hl hp => ?_) _ _ _ _ _ _ _ V (lx_sub hl [1, 2, 0] rfl) hp
  refine lv_iconst (v := (-1 : Int32)) hx hb dX3_placeOf_28 (by decide) ?_
  exact q_iret X V hr ⟨by decide, by decide⟩ dX3_placeOf_29 hp
theorem cX3_placeOf (l : Launch) (E : mm_E) {N a0 : Nat} {G : mm_M} {x1 : Int32} {res : mm_M × Int32} (hp : pX3_placeOf_0 N a0 G x1 = some res) : Met l yX3_placeOf (Cond.code yX3_placeOf prog_5_method_6_code 3 (Option.some .int) :: tw_T) rX3_placeOf (mm_Pc E G [.ref a0, .int x1]) (mm_Qi E res.1 res.2) 0 0 (mm_A E) :=
  mm_met (own := "XorOverlay$Lookup") E G [.inr (some a0), .inl x1] (by decide) rfl rfl (Nat.le_of_ble_eq_true rfl) (fun p e s m args below meth c ls X hr hi V hl => bX3_placeOf_0 X hr V hl hp)
end
section
abbrev yX3_addCandidate : MethodName := ⟨"XorOverlay$Lookup", "addCandidate", "(I)V"⟩
abbrev rX3_addCandidate : Room := { frames := 1, cells := 0, slots := 0, locals := 22 }
theorem kX3_addCandidate : Cond.code yX3_addCandidate prog_5_method_7_code 3 none ∈ tw_T ∧ Cond.instanceMethod yX3_addCandidate ∈ tw_T ∧ Cond.selects "XorOverlay$Lookup" yX3_addCandidate yX3_addCandidate ∈ tw_T ∧ Cond.initialized "XorOverlay$Lookup" ∈ tw_T := ⟨(tw_2 72 rfl rfl), (tw_2 70 rfl rfl), (tw_2 71 rfl rfl), (tw_1 7 rfl rfl)⟩
theorem hX3_addCandidate : yX3_addCandidate.cls = "XorOverlay$Lookup" ∧ yX3_addCandidate.cls ≠ "java/lang/invoke/MethodHandle" ∧ yX3_addCandidate.cls ≠ "java/lang/invoke/VarHandle" ∧ (parseMethodDescriptor yX3_addCandidate.desc).map (fun d => d.parameters.length) = some 1 := by decide +kernel
theorem dX3_addCandidate_0 : decode prog_5_method_7_code 0 = .ok (.iload_n 1, 1) := by decide +kernel
theorem dX3_addCandidate_1 : decode prog_5_method_7_code 1 = .ok (.iconst (-1), 1) := by decide +kernel
theorem dX3_addCandidate_2 : decode prog_5_method_7_code 2 = .ok (.if_icmp .eq 21, 3) := by decide +kernel
theorem dX3_addCandidate_5 : decode prog_5_method_7_code 5 = .ok (.aload_n 0, 1) := by decide +kernel
theorem dX3_addCandidate_6 : decode prog_5_method_7_code 6 = .ok (.getfield 31, 3) := by decide +kernel
theorem dX3_addCandidate_9 : decode prog_5_method_7_code 9 = .ok (.bipush 12, 2) := by decide +kernel
theorem dX3_addCandidate_11 : decode prog_5_method_7_code 11 = .ok (.if_icmp .ge 12, 3) := by decide +kernel
theorem dX3_addCandidate_14 : decode prog_5_method_7_code 14 = .ok (.aload_n 0, 1) := by decide +kernel
theorem dX3_addCandidate_15 : decode prog_5_method_7_code 15 = .ok (.iload_n 1, 1) := by decide +kernel
theorem dX3_addCandidate_16 : decode prog_5_method_7_code 16 = .ok (.invokevirtual 49, 3) := by decide +kernel
theorem dX3_addCandidate_19 : decode prog_5_method_7_code 19 = .ok (.iconst (-1), 1) := by decide +kernel
theorem dX3_addCandidate_20 : decode prog_5_method_7_code 20 = .ok (.if_icmp .eq 4, 3) := by decide +kernel
theorem dX3_addCandidate_23 : decode prog_5_method_7_code 23 = .ok (.return_, 1) := by decide +kernel
theorem dX3_addCandidate_24 : decode prog_5_method_7_code 24 = .ok (.aload_n 0, 1) := by decide +kernel
theorem dX3_addCandidate_25 : decode prog_5_method_7_code 25 = .ok (.getfield 31, 3) := by decide +kernel
theorem dX3_addCandidate_28 : decode prog_5_method_7_code 28 = .ok (.istore_n 2, 1) := by decide +kernel
theorem dX3_addCandidate_29 : decode prog_5_method_7_code 29 = .ok (.iload_n 2, 1) := by decide +kernel
theorem dX3_addCandidate_30 : decode prog_5_method_7_code 30 = .ok (.ifCond .le 87, 3) := by decide +kernel
theorem dX3_addCandidate_33 : decode prog_5_method_7_code 33 = .ok (.aload_n 0, 1) := by decide +kernel
theorem dX3_addCandidate_34 : decode prog_5_method_7_code 34 = .ok (.getfield 9, 3) := by decide +kernel
theorem dX3_addCandidate_37 : decode prog_5_method_7_code 37 = .ok (.iload_n 2, 1) := by decide +kernel
theorem dX3_addCandidate_38 : decode prog_5_method_7_code 38 = .ok (.iconst 1, 1) := by decide +kernel
theorem dX3_addCandidate_39 : decode prog_5_method_7_code 39 = .ok (.isub, 1) := by decide +kernel
theorem dX3_addCandidate_40 : decode prog_5_method_7_code 40 = .ok (.iaload, 1) := by decide +kernel
theorem dX3_addCandidate_41 : decode prog_5_method_7_code 41 = .ok (.aload_n 0, 1) := by decide +kernel
theorem dX3_addCandidate_42 : decode prog_5_method_7_code 42 = .ok (.getfield 43, 3) := by decide +kernel
theorem dX3_addCandidate_45 : decode prog_5_method_7_code 45 = .ok (.ixor, 1) := by decide +kernel
theorem dX3_addCandidate_46 : decode prog_5_method_7_code 46 = .ok (.iload_n 1, 1) := by decide +kernel
theorem dX3_addCandidate_47 : decode prog_5_method_7_code 47 = .ok (.aload_n 0, 1) := by decide +kernel
theorem dX3_addCandidate_48 : decode prog_5_method_7_code 48 = .ok (.getfield 43, 3) := by decide +kernel
theorem dX3_addCandidate_51 : decode prog_5_method_7_code 51 = .ok (.ixor, 1) := by decide +kernel
theorem dX3_addCandidate_52 : decode prog_5_method_7_code 52 = .ok (.if_icmp .le 65, 3) := by decide +kernel
theorem dX3_addCandidate_55 : decode prog_5_method_7_code 55 = .ok (.aload_n 0, 1) := by decide +kernel
theorem dX3_addCandidate_56 : decode prog_5_method_7_code 56 = .ok (.getfield 9, 3) := by decide +kernel
theorem dX3_addCandidate_59 : decode prog_5_method_7_code 59 = .ok (.iload_n 2, 1) := by decide +kernel
theorem dX3_addCandidate_60 : decode prog_5_method_7_code 60 = .ok (.aload_n 0, 1) := by decide +kernel
theorem dX3_addCandidate_61 : decode prog_5_method_7_code 61 = .ok (.getfield 9, 3) := by decide +kernel
theorem dX3_addCandidate_64 : decode prog_5_method_7_code 64 = .ok (.iload_n 2, 1) := by decide +kernel
theorem dX3_addCandidate_65 : decode prog_5_method_7_code 65 = .ok (.iconst 1, 1) := by decide +kernel
theorem dX3_addCandidate_66 : decode prog_5_method_7_code 66 = .ok (.isub, 1) := by decide +kernel
theorem dX3_addCandidate_67 : decode prog_5_method_7_code 67 = .ok (.iaload, 1) := by decide +kernel
theorem dX3_addCandidate_68 : decode prog_5_method_7_code 68 = .ok (.iastore, 1) := by decide +kernel
theorem dX3_addCandidate_69 : decode prog_5_method_7_code 69 = .ok (.aload_n 0, 1) := by decide +kernel
theorem dX3_addCandidate_70 : decode prog_5_method_7_code 70 = .ok (.getfield 15, 3) := by decide +kernel
theorem dX3_addCandidate_73 : decode prog_5_method_7_code 73 = .ok (.iload_n 2, 1) := by decide +kernel
theorem dX3_addCandidate_74 : decode prog_5_method_7_code 74 = .ok (.aload_n 0, 1) := by decide +kernel
theorem dX3_addCandidate_75 : decode prog_5_method_7_code 75 = .ok (.getfield 15, 3) := by decide +kernel
theorem dX3_addCandidate_78 : decode prog_5_method_7_code 78 = .ok (.iload_n 2, 1) := by decide +kernel
theorem dX3_addCandidate_79 : decode prog_5_method_7_code 79 = .ok (.iconst 1, 1) := by decide +kernel
theorem dX3_addCandidate_80 : decode prog_5_method_7_code 80 = .ok (.isub, 1) := by decide +kernel
theorem dX3_addCandidate_81 : decode prog_5_method_7_code 81 = .ok (.iaload, 1) := by decide +kernel
theorem dX3_addCandidate_82 : decode prog_5_method_7_code 82 = .ok (.iastore, 1) := by decide +kernel
theorem dX3_addCandidate_83 : decode prog_5_method_7_code 83 = .ok (.aload_n 0, 1) := by decide +kernel
theorem dX3_addCandidate_84 : decode prog_5_method_7_code 84 = .ok (.getfield 18, 3) := by decide +kernel
theorem dX3_addCandidate_87 : decode prog_5_method_7_code 87 = .ok (.iload_n 2, 1) := by decide +kernel
theorem dX3_addCandidate_88 : decode prog_5_method_7_code 88 = .ok (.aload_n 0, 1) := by decide +kernel
theorem dX3_addCandidate_89 : decode prog_5_method_7_code 89 = .ok (.getfield 18, 3) := by decide +kernel
theorem dX3_addCandidate_92 : decode prog_5_method_7_code 92 = .ok (.iload_n 2, 1) := by decide +kernel
theorem dX3_addCandidate_93 : decode prog_5_method_7_code 93 = .ok (.iconst 1, 1) := by decide +kernel
theorem dX3_addCandidate_94 : decode prog_5_method_7_code 94 = .ok (.isub, 1) := by decide +kernel
theorem dX3_addCandidate_95 : decode prog_5_method_7_code 95 = .ok (.iaload, 1) := by decide +kernel
theorem dX3_addCandidate_96 : decode prog_5_method_7_code 96 = .ok (.iastore, 1) := by decide +kernel
theorem dX3_addCandidate_97 : decode prog_5_method_7_code 97 = .ok (.aload_n 0, 1) := by decide +kernel
theorem dX3_addCandidate_98 : decode prog_5_method_7_code 98 = .ok (.getfield 21, 3) := by decide +kernel
theorem dX3_addCandidate_101 : decode prog_5_method_7_code 101 = .ok (.iload_n 2, 1) := by decide +kernel
theorem dX3_addCandidate_102 : decode prog_5_method_7_code 102 = .ok (.aload_n 0, 1) := by decide +kernel
theorem dX3_addCandidate_103 : decode prog_5_method_7_code 103 = .ok (.getfield 21, 3) := by decide +kernel
theorem dX3_addCandidate_106 : decode prog_5_method_7_code 106 = .ok (.iload_n 2, 1) := by decide +kernel
theorem dX3_addCandidate_107 : decode prog_5_method_7_code 107 = .ok (.iconst 1, 1) := by decide +kernel
theorem dX3_addCandidate_108 : decode prog_5_method_7_code 108 = .ok (.isub, 1) := by decide +kernel
theorem dX3_addCandidate_109 : decode prog_5_method_7_code 109 = .ok (.iaload, 1) := by decide +kernel
theorem dX3_addCandidate_110 : decode prog_5_method_7_code 110 = .ok (.iastore, 1) := by decide +kernel
theorem dX3_addCandidate_111 : decode prog_5_method_7_code 111 = .ok (.iinc 2 (-1), 3) := by decide +kernel
theorem dX3_addCandidate_114 : decode prog_5_method_7_code 114 = .ok (.goto (-85), 3) := by decide +kernel
theorem dX3_addCandidate_117 : decode prog_5_method_7_code 117 = .ok (.aload_n 0, 1) := by decide +kernel
theorem dX3_addCandidate_118 : decode prog_5_method_7_code 118 = .ok (.getfield 9, 3) := by decide +kernel
theorem dX3_addCandidate_121 : decode prog_5_method_7_code 121 = .ok (.iload_n 2, 1) := by decide +kernel
theorem dX3_addCandidate_122 : decode prog_5_method_7_code 122 = .ok (.iload_n 1, 1) := by decide +kernel
theorem dX3_addCandidate_123 : decode prog_5_method_7_code 123 = .ok (.iastore, 1) := by decide +kernel
theorem dX3_addCandidate_124 : decode prog_5_method_7_code 124 = .ok (.aload_n 0, 1) := by decide +kernel
theorem dX3_addCandidate_125 : decode prog_5_method_7_code 125 = .ok (.getfield 15, 3) := by decide +kernel
theorem dX3_addCandidate_128 : decode prog_5_method_7_code 128 = .ok (.iload_n 2, 1) := by decide +kernel
theorem dX3_addCandidate_129 : decode prog_5_method_7_code 129 = .ok (.iconst 0, 1) := by decide +kernel
theorem dX3_addCandidate_130 : decode prog_5_method_7_code 130 = .ok (.iastore, 1) := by decide +kernel
theorem dX3_addCandidate_131 : decode prog_5_method_7_code 131 = .ok (.aload_n 0, 1) := by decide +kernel
theorem dX3_addCandidate_132 : decode prog_5_method_7_code 132 = .ok (.getfield 18, 3) := by decide +kernel
theorem dX3_addCandidate_135 : decode prog_5_method_7_code 135 = .ok (.iload_n 2, 1) := by decide +kernel
theorem dX3_addCandidate_136 : decode prog_5_method_7_code 136 = .ok (.iconst (-1), 1) := by decide +kernel
theorem dX3_addCandidate_137 : decode prog_5_method_7_code 137 = .ok (.iastore, 1) := by decide +kernel
theorem dX3_addCandidate_138 : decode prog_5_method_7_code 138 = .ok (.aload_n 0, 1) := by decide +kernel
theorem dX3_addCandidate_139 : decode prog_5_method_7_code 139 = .ok (.getfield 21, 3) := by decide +kernel
theorem dX3_addCandidate_142 : decode prog_5_method_7_code 142 = .ok (.iload_n 2, 1) := by decide +kernel
theorem dX3_addCandidate_143 : decode prog_5_method_7_code 143 = .ok (.iconst (-1), 1) := by decide +kernel
theorem dX3_addCandidate_144 : decode prog_5_method_7_code 144 = .ok (.iastore, 1) := by decide +kernel
theorem dX3_addCandidate_145 : decode prog_5_method_7_code 145 = .ok (.aload_n 0, 1) := by decide +kernel
theorem dX3_addCandidate_146 : decode prog_5_method_7_code 146 = .ok (.dup, 1) := by decide +kernel
theorem dX3_addCandidate_147 : decode prog_5_method_7_code 147 = .ok (.getfield 31, 3) := by decide +kernel
theorem dX3_addCandidate_150 : decode prog_5_method_7_code 150 = .ok (.iconst 1, 1) := by decide +kernel
theorem dX3_addCandidate_151 : decode prog_5_method_7_code 151 = .ok (.iadd, 1) := by decide +kernel
theorem dX3_addCandidate_152 : decode prog_5_method_7_code 152 = .ok (.putfield 31, 3) := by decide +kernel
theorem dX3_addCandidate_155 : decode prog_5_method_7_code 155 = .ok (.return_, 1) := by decide +kernel
def pX3_addCandidate_29_b (N a0 : Nat) (kb : mm_M → Int32 → Int32 → Option (mm_M × Unit)) (kx : mm_M → Int32 → Int32 → Option (mm_M × Unit)) (G : mm_M) (x1 : Int32) (x2 : Int32) : Option (mm_M × Unit) :=
  if x2 ≤ 0 then
    kx G x1 x2
  else
    q_gR G a0 4 0 fun r34_5 =>
    q_nn r34_5 fun b40_6 =>
    q_aI G b40_6 101 (x2 - (1 : Int32)) fun v40_7 =>
    q_gI G a0 4 7 fun v42_8 =>
    q_gI G a0 4 7 fun v48_9 =>
    if (v40_7 ^^^ v42_8) ≤ (x1 ^^^ v48_9) then
      kx G x1 x2
    else
      q_gR G a0 4 0 fun r56_10 =>
      q_gR G a0 4 0 fun r61_11 =>
      q_nn r61_11 fun b67_12 =>
      q_aI G b67_12 101 (x2 - (1 : Int32)) fun v67_13 =>
      q_nn r56_10 fun b68_14 =>
      q_sI G b68_14 101 x2 v67_13 fun G =>
      q_gR G a0 4 1 fun r70_15 =>
      q_gR G a0 4 1 fun r75_16 =>
      q_nn r75_16 fun b81_17 =>
      q_aI G b81_17 101 (x2 - (1 : Int32)) fun v81_18 =>
      q_nn r70_15 fun b82_19 =>
      q_sI G b82_19 101 x2 v81_18 fun G =>
      q_gR G a0 4 2 fun r84_20 =>
      q_gR G a0 4 2 fun r89_21 =>
      q_nn r89_21 fun b95_22 =>
      q_aI G b95_22 101 (x2 - (1 : Int32)) fun v95_23 =>
      q_nn r84_20 fun b96_24 =>
      q_sI G b96_24 101 x2 v95_23 fun G =>
      q_gR G a0 4 3 fun r98_25 =>
      q_gR G a0 4 3 fun r103_26 =>
      q_nn r103_26 fun b109_27 =>
      q_aI G b109_27 101 (x2 - (1 : Int32)) fun v109_28 =>
      q_nn r98_25 fun b110_29 =>
      q_sI G b110_29 101 x2 v109_28 fun G =>
      kb G x1 (x2 + (-1 : Int32))
def pX3_addCandidate_29 (N a0 : Nat) (kx : mm_M → Int32 → Int32 → Option (mm_M × Unit)) : Nat → mm_M → Int32 → Int32 → Option (mm_M × Unit)
  | 0 => fun _ _ _ => none
  | n + 1 => pX3_addCandidate_29_b N a0 (pX3_addCandidate_29 N a0 kx n) kx
set_option maxRecDepth 100000 in
set_option maxHeartbeats 4000000 in
theorem bX3_addCandidate_29 {p : Program} {l : Launch} {e : Env} {s : State} {m : MethodId} {args : Array Value} {below : List Frame} {meth : Method} {c : Code} {E : mm_E} {N a0 : Nat} {res : mm_M × Unit} (X : mm_X p s m args meth c prog_5_method_7_code 3 "XorOverlay$Lookup" tw_T E) (hr : meth.sig.returnType = none) {kx : mm_M → Int32 → Int32 → Option (mm_M × Unit)} (hkx : ∀ (G : mm_M) (H : Heap) (locs : List Loc) (ls : Array Slot) (x1 : Int32) (x2 : Int32), mm_V E s G H locs → lx_has ls 3 [(0, .inr (some a0)), (1, .inl x1), (2, .inl x2)] → kx G x1 x2 = some res → W p l e rX3_addCandidate s m args below meth c H locs 0 0 (MQ below (mm_Qv E res.1) args s 0 0 (mm_A E)) (F0 m 117 ls [])) :
    ∀ (n : Nat) (G : mm_M) (H : Heap) (locs : List Loc) (ls : Array Slot) (x1 : Int32) (x2 : Int32), mm_V E s G H locs → lx_has ls 3 [(0, .inr (some a0)), (1, .inl x1), (2, .inl x2)] → pX3_addCandidate_29 N a0 kx n G x1 x2 = some res → W p l e rX3_addCandidate s m args below meth c H locs 0 0 (MQ below (mm_Qv E res.1) args s 0 0 (mm_A E)) (F0 m 29 ls []) := by
  have hx := X.1.1
  have hb := X.1.2.1
  intro n
  induction n with
  | zero =>
    intro G H locs ls x1 x2 V hl hp
    cases hp
  | succ n ih =>
    intro G H locs ls x1 x2 V hl hp
    have hp : pX3_addCandidate_29_b N a0 (pX3_addCandidate_29 N a0 kx n) kx G x1 x2 = some res := hp
    unfold pX3_addCandidate_29_b at hp
    refine x_iload_n X dX3_addCandidate_29 hl 2 rfl rfl ?_
    refine q_if hp (lv_if_le (tgt := 117) hx hb dX3_addCandidate_30 (by decide)) (fun hp => ?_) (fun hp => ?_)
    · exact hkx _ _ _ _ _ _ V (lx_sub hl [0, 1, 2] rfl) hp
    · refine x_aload_n X dX3_addCandidate_33 hl 0 rfl rfl ?_
      refine q_getR (ci := 3) X V inX3 rfl (by decide) rfl 0 (by decide) rfl (tw_1 143 rfl rfl) rfl dX3_addCandidate_34 hp (fun r34_5 hp => ?_)
      refine x_iload_n X dX3_addCandidate_37 hl 2 rfl rfl ?_
      refine lv_iconst (v := (1 : Int32)) hx hb dX3_addCandidate_38 (by decide) ?_
      refine lv_isub hx hb dX3_addCandidate_39 ?_
      obtain ⟨b40_6, e0, hp2⟩ := q_nn_of hp
      clear hp; subst e0; have hp := hp2; clear hp2
      refine q_iald X V dX3_addCandidate_40 hp (fun v40_7 hp => ?_)
      refine x_aload_n X dX3_addCandidate_41 hl 0 rfl rfl ?_
      refine q_getI (ci := 3) X V inX3 rfl (by decide) rfl 7 (by decide) rfl (tw_1 157 rfl rfl) rfl dX3_addCandidate_42 hp (fun v42_8 hp => ?_)
      refine lv_ixor hx hb dX3_addCandidate_45 ?_
      refine x_iload_n X dX3_addCandidate_46 hl 1 rfl rfl ?_
      refine x_aload_n X dX3_addCandidate_47 hl 0 rfl rfl ?_
      refine q_getI (ci := 3) X V inX3 rfl (by decide) rfl 7 (by decide) rfl (tw_1 157 rfl rfl) rfl dX3_addCandidate_48 hp (fun v48_9 hp => ?_)
      refine lv_ixor hx hb dX3_addCandidate_51 ?_
      refine q_if hp (lv_icmp_le (tgt := 117) hx hb dX3_addCandidate_52 (by decide)) (fun hp => ?_) (fun hp => ?_)
      · exact hkx _ _ _ _ _ _ V (lx_sub hl [0, 1, 2] rfl) hp
      · refine x_aload_n X dX3_addCandidate_55 hl 0 rfl rfl ?_
        refine q_getR (ci := 3) X V inX3 rfl (by decide) rfl 0 (by decide) rfl (tw_1 143 rfl rfl) rfl dX3_addCandidate_56 hp (fun r56_10 hp => ?_)
        refine x_iload_n X dX3_addCandidate_59 hl 2 rfl rfl ?_
        refine x_aload_n X dX3_addCandidate_60 hl 0 rfl rfl ?_
        refine q_getR (ci := 3) X V inX3 rfl (by decide) rfl 0 (by decide) rfl (tw_1 143 rfl rfl) rfl dX3_addCandidate_61 hp (fun r61_11 hp => ?_)
        refine x_iload_n X dX3_addCandidate_64 hl 2 rfl rfl ?_
        refine lv_iconst (v := (1 : Int32)) hx hb dX3_addCandidate_65 (by decide) ?_
        refine lv_isub hx hb dX3_addCandidate_66 ?_
        obtain ⟨b67_12, e0, hp2⟩ := q_nn_of hp
        clear hp; subst e0; have hp := hp2; clear hp2
        refine q_iald X V dX3_addCandidate_67 hp (fun v67_13 hp => ?_)
        obtain ⟨b68_14, e0, hp2⟩ := q_nn_of hp
        clear hp; subst e0; have hp := hp2; clear hp2
        refine q_iast X V dX3_addCandidate_68 hp (fun G H locs V hp => ?_)
        refine x_aload_n X dX3_addCandidate_69 hl 0 rfl rfl ?_
        refine q_getR (ci := 3) X V inX3 rfl (by decide) rfl 1 (by decide) rfl (tw_1 145 rfl rfl) rfl dX3_addCandidate_70 hp (fun r70_15 hp => ?_)
        refine x_iload_n X dX3_addCandidate_73 hl 2 rfl rfl ?_
        refine x_aload_n X dX3_addCandidate_74 hl 0 rfl rfl ?_
        refine q_getR (ci := 3) X V inX3 rfl (by decide) rfl 1 (by decide) rfl (tw_1 145 rfl rfl) rfl dX3_addCandidate_75 hp (fun r75_16 hp => ?_)
        refine x_iload_n X dX3_addCandidate_78 hl 2 rfl rfl ?_
        refine lv_iconst (v := (1 : Int32)) hx hb dX3_addCandidate_79 (by decide) ?_
        refine lv_isub hx hb dX3_addCandidate_80 ?_
        obtain ⟨b81_17, e0, hp2⟩ := q_nn_of hp
        clear hp; subst e0; have hp := hp2; clear hp2
        refine q_iald X V dX3_addCandidate_81 hp (fun v81_18 hp => ?_)
        obtain ⟨b82_19, e0, hp2⟩ := q_nn_of hp
        clear hp; subst e0; have hp := hp2; clear hp2
        refine q_iast X V dX3_addCandidate_82 hp (fun G H locs V hp => ?_)
        refine x_aload_n X dX3_addCandidate_83 hl 0 rfl rfl ?_
        refine q_getR (ci := 3) X V inX3 rfl (by decide) rfl 2 (by decide) rfl (tw_1 147 rfl rfl) rfl dX3_addCandidate_84 hp (fun r84_20 hp => ?_)
        refine x_iload_n X dX3_addCandidate_87 hl 2 rfl rfl ?_
        refine x_aload_n X dX3_addCandidate_88 hl 0 rfl rfl ?_
        refine q_getR (ci := 3) X V inX3 rfl (by decide) rfl 2 (by decide) rfl (tw_1 147 rfl rfl) rfl dX3_addCandidate_89 hp (fun r89_21 hp => ?_)
        refine x_iload_n X dX3_addCandidate_92 hl 2 rfl rfl ?_
        refine lv_iconst (v := (1 : Int32)) hx hb dX3_addCandidate_93 (by decide) ?_
        refine lv_isub hx hb dX3_addCandidate_94 ?_
        obtain ⟨b95_22, e0, hp2⟩ := q_nn_of hp
        clear hp; subst e0; have hp := hp2; clear hp2
        refine q_iald X V dX3_addCandidate_95 hp (fun v95_23 hp => ?_)
        obtain ⟨b96_24, e0, hp2⟩ := q_nn_of hp
        clear hp; subst e0; have hp := hp2; clear hp2
        refine q_iast X V dX3_addCandidate_96 hp (fun G H locs V hp => ?_)
        refine x_aload_n X dX3_addCandidate_97 hl 0 rfl rfl ?_
        refine q_getR (ci := 3) X V inX3 rfl (by decide) rfl 3 (by decide) rfl (tw_1 149 rfl rfl) rfl dX3_addCandidate_98 hp (fun r98_25 hp => ?_)
        refine x_iload_n X dX3_addCandidate_101 hl 2 rfl rfl ?_
        refine x_aload_n X dX3_addCandidate_102 hl 0 rfl rfl ?_
        refine q_getR (ci := 3) X V inX3 rfl (by decide) rfl 3 (by decide) rfl (tw_1 149 rfl rfl) rfl dX3_addCandidate_103 hp (fun r103_26 hp => ?_)
        refine x_iload_n X dX3_addCandidate_106 hl 2 rfl rfl ?_
        refine lv_iconst (v := (1 : Int32)) hx hb dX3_addCandidate_107 (by decide) ?_
        refine lv_isub hx hb dX3_addCandidate_108 ?_
        obtain ⟨b109_27, e0, hp2⟩ := q_nn_of hp
        clear hp; subst e0; have hp := hp2; clear hp2
        refine q_iald X V dX3_addCandidate_109 hp (fun v109_28 hp => ?_)
        obtain ⟨b110_29, e0, hp2⟩ := q_nn_of hp
        clear hp; subst e0; have hp := hp2; clear hp2
        refine q_iast X V dX3_addCandidate_110 hp (fun G H locs V hp => ?_)
        refine x_iinc (v := (-1 : Int32)) (lst' := [(2, .inl (x2 + (-1 : Int32))), (0, .inr (some a0)), (1, .inl x1)]) X dX3_addCandidate_111 hl 2 rfl (by decide) (by decide) rfl (fun ls hl => ?_)
        refine lv_goto (tgt := 29) hx hb dX3_addCandidate_114 (by decide) ?_
        exact ih _ _ _ _ _ _ V (lx_sub hl [1, 2, 0] rfl) hp
def pX3_addCandidate_117 (N a0 : Nat) (G : mm_M) (x1 : Int32) (x2 : Int32) : Option (mm_M × Unit) :=
  q_gR G a0 4 0 fun r118_30 =>
  q_nn r118_30 fun b123_31 =>
  q_sI G b123_31 101 x2 x1 fun G =>
  q_gR G a0 4 1 fun r125_32 =>
  q_nn r125_32 fun b130_33 =>
  q_sI G b130_33 101 x2 (0 : Int32) fun G =>
  q_gR G a0 4 2 fun r132_34 =>
  q_nn r132_34 fun b137_35 =>
  q_sI G b137_35 101 x2 (-1 : Int32) fun G =>
  q_gR G a0 4 3 fun r139_36 =>
  q_nn r139_36 fun b144_37 =>
  q_sI G b144_37 101 x2 (-1 : Int32) fun G =>
  q_gI G a0 4 9 fun v147_38 =>
  q_pI G a0 4 9 (v147_38 + (1 : Int32)) fun G =>
  some (G, ())
set_option maxRecDepth 100000 in
set_option maxHeartbeats 4000000 in
theorem bX3_addCandidate_117 {p : Program} {l : Launch} {e : Env} {s : State} {m : MethodId} {args : Array Value} {below : List Frame} {meth : Method} {c : Code} {E : mm_E} {N a0 : Nat} {res : mm_M × Unit} (X : mm_X p s m args meth c prog_5_method_7_code 3 "XorOverlay$Lookup" tw_T E) (hr : meth.sig.returnType = none) {G : mm_M} {H : Heap} {locs : List Loc} {ls : Array Slot} {x1 : Int32} {x2 : Int32} (V : mm_V E s G H locs) (hl : lx_has ls 3 [(0, .inr (some a0)), (1, .inl x1), (2, .inl x2)]) (hp : pX3_addCandidate_117 N a0 G x1 x2 = some res) : W p l e rX3_addCandidate s m args below meth c H locs 0 0 (MQ below (mm_Qv E res.1) args s 0 0 (mm_A E)) (F0 m 117 ls []) := by
  have hx := X.1.1
  have hb := X.1.2.1
  unfold pX3_addCandidate_117 at hp
  refine x_aload_n X dX3_addCandidate_117 hl 0 rfl rfl ?_
  refine q_getR (ci := 3) X V inX3 rfl (by decide) rfl 0 (by decide) rfl (tw_1 143 rfl rfl) rfl dX3_addCandidate_118 hp (fun r118_30 hp => ?_)
  refine x_iload_n X dX3_addCandidate_121 hl 2 rfl rfl ?_
  refine x_iload_n X dX3_addCandidate_122 hl 1 rfl rfl ?_
  obtain ⟨b123_31, e0, hp2⟩ := q_nn_of hp
  clear hp; subst e0; have hp := hp2; clear hp2
  refine q_iast X V dX3_addCandidate_123 hp (fun G H locs V hp => ?_)
  refine x_aload_n X dX3_addCandidate_124 hl 0 rfl rfl ?_
  refine q_getR (ci := 3) X V inX3 rfl (by decide) rfl 1 (by decide) rfl (tw_1 145 rfl rfl) rfl dX3_addCandidate_125 hp (fun r125_32 hp => ?_)
  refine x_iload_n X dX3_addCandidate_128 hl 2 rfl rfl ?_
  refine lv_iconst (v := (0 : Int32)) hx hb dX3_addCandidate_129 (by decide) ?_
  obtain ⟨b130_33, e0, hp2⟩ := q_nn_of hp
  clear hp; subst e0; have hp := hp2; clear hp2
  refine q_iast X V dX3_addCandidate_130 hp (fun G H locs V hp => ?_)
  refine x_aload_n X dX3_addCandidate_131 hl 0 rfl rfl ?_
  refine q_getR (ci := 3) X V inX3 rfl (by decide) rfl 2 (by decide) rfl (tw_1 147 rfl rfl) rfl dX3_addCandidate_132 hp (fun r132_34 hp => ?_)
  refine x_iload_n X dX3_addCandidate_135 hl 2 rfl rfl ?_
  refine lv_iconst (v := (-1 : Int32)) hx hb dX3_addCandidate_136 (by decide) ?_
  obtain ⟨b137_35, e0, hp2⟩ := q_nn_of hp
  clear hp; subst e0; have hp := hp2; clear hp2
  refine q_iast X V dX3_addCandidate_137 hp (fun G H locs V hp => ?_)
  refine x_aload_n X dX3_addCandidate_138 hl 0 rfl rfl ?_
  refine q_getR (ci := 3) X V inX3 rfl (by decide) rfl 3 (by decide) rfl (tw_1 149 rfl rfl) rfl dX3_addCandidate_139 hp (fun r139_36 hp => ?_)
  refine x_iload_n X dX3_addCandidate_142 hl 2 rfl rfl ?_
  refine lv_iconst (v := (-1 : Int32)) hx hb dX3_addCandidate_143 (by decide) ?_
  obtain ⟨b144_37, e0, hp2⟩ := q_nn_of hp
  clear hp; subst e0; have hp := hp2; clear hp2
  refine q_iast X V dX3_addCandidate_144 hp (fun G H locs V hp => ?_)
  refine x_aload_n X dX3_addCandidate_145 hl 0 rfl rfl ?_
  refine lv_dup hx hb dX3_addCandidate_146 (va_rf_cat _) ?_
  refine q_getI (ci := 3) X V inX3 rfl (by decide) rfl 9 (by decide) rfl (tw_1 161 rfl rfl) rfl dX3_addCandidate_147 hp (fun v147_38 hp => ?_)
  refine lv_iconst (v := (1 : Int32)) hx hb dX3_addCandidate_150 (by decide) ?_
  refine lv_iadd hx hb dX3_addCandidate_151 ?_
  refine q_putI (ci := 3) X V inX3 rfl tyX3 tyX3_ok nmX3 (by decide) rfl 9 (by decide) rfl (tw_1 161 rfl rfl) rfl (Or.inl rfl) .int rfl rfl rfl dX3_addCandidate_152 hp (fun G H locs V hp => ?_)
  exact q_vret X V hr ⟨by decide, by decide⟩ dX3_addCandidate_155 hp
def pX3_addCandidate_0 (N a0 : Nat) (G : mm_M) (x1 : Int32) : Option (mm_M × Unit) :=
  if x1 = (-1 : Int32) then
    some (G, ())
  else
    q_gI G a0 4 9 fun v6_1 =>
    if (12 : Int32) ≤ v6_1 then
      some (G, ())
    else
      q_is G a0 4 <|
      q_cl (pX3_placeOf_0 N a0 G x1) fun G v16_3 =>
      if v16_3 = (-1 : Int32) then
        q_gI G a0 4 9 fun v25_4 =>
        pX3_addCandidate_29 N a0 (fun (G : mm_M) (x1 : Int32) (x2 : Int32) =>
          pX3_addCandidate_117 N a0 G x1 x2) N G x1 v25_4
      else
        some (G, ())
set_option maxRecDepth 100000 in
set_option maxHeartbeats 4000000 in
theorem bX3_addCandidate_0 {p : Program} {l : Launch} {e : Env} {s : State} {m : MethodId} {args : Array Value} {below : List Frame} {meth : Method} {c : Code} {E : mm_E} {N a0 : Nat} {res : mm_M × Unit} (X : mm_X p s m args meth c prog_5_method_7_code 3 "XorOverlay$Lookup" tw_T E) (hr : meth.sig.returnType = none) {G : mm_M} {H : Heap} {locs : List Loc} {ls : Array Slot} {x1 : Int32} (V : mm_V E s G H locs) (hl : lx_has ls 3 [(0, .inr (some a0)), (1, .inl x1)]) (hp : pX3_addCandidate_0 N a0 G x1 = some res) : W p l e rX3_addCandidate s m args below meth c H locs 0 0 (MQ below (mm_Qv E res.1) args s 0 0 (mm_A E)) (F0 m 0 ls []) := by
  have hx := X.1.1
  have hb := X.1.2.1
  unfold pX3_addCandidate_0 at hp
  refine x_iload_n X dX3_addCandidate_0 hl 1 rfl rfl ?_
  refine lv_iconst (v := (-1 : Int32)) hx hb dX3_addCandidate_1 (by decide) ?_
  refine q_if hp (lv_icmp_eq (tgt := 23) hx hb dX3_addCandidate_2 (by decide)) (fun hp => ?_) (fun hp => ?_)
  · exact q_vret X V hr ⟨by decide, by decide⟩ dX3_addCandidate_23 hp
  · refine x_aload_n X dX3_addCandidate_5 hl 0 rfl rfl ?_
    refine q_getI (ci := 3) X V inX3 rfl (by decide) rfl 9 (by decide) rfl (tw_1 161 rfl rfl) rfl dX3_addCandidate_6 hp (fun v6_1 hp => ?_)
    refine lv_bipush (v := (12 : Int32)) hx hb dX3_addCandidate_9 (by decide) ?_
    refine q_if hp (lv_icmp_ge (tgt := 23) hx hb dX3_addCandidate_11 (by decide)) (fun hp => ?_) (fun hp => ?_)
    · exact q_vret X V hr ⟨by decide, by decide⟩ dX3_addCandidate_23 hp
    · refine x_aload_n X dX3_addCandidate_14 hl 0 rfl rfl ?_
      refine x_iload_n X dX3_addCandidate_15 hl 1 rfl rfl ?_
      obtain ⟨hk, hp⟩ := q_is_of hp
      obtain ⟨⟨G, v16_3⟩, hq, hp⟩ := q_cl_of hp
      dsimp only at hp
      refine q_goi (cells' := 0) (slots' := 0) (va_runV (As := [.int x1]) (rest := []) X.1 (cX3_placeOf l E hq) (tw_cwV 1 X.1.2.2.2.2 (tw_2 73 rfl rfl) kX3_placeOf.2.1 kX3_placeOf.2.2.1 kX3_placeOf.2.2.2 kX3_placeOf.1 rfl rfl hX3_placeOf ⟨Nat.le_of_ble_eq_true rfl, Nat.le_of_ble_eq_true rfl⟩) (mm_preV X V rfl (by decide) rfl hk) rfl rfl hl.1 rfl (lv_room (Nat.le_of_ble_eq_true rfl)) dX3_addCandidate_16 ⟨by decide, by decide⟩) V ⟨rfl, rfl⟩ (fun H locs V => ?_)
      refine lv_iconst (v := (-1 : Int32)) hx hb dX3_addCandidate_19 (by decide) ?_
      refine q_if hp (lv_icmp_eq (tgt := 24) hx hb dX3_addCandidate_20 (by decide)) (fun hp => ?_) (fun hp => ?_)
      · refine x_aload_n X dX3_addCandidate_24 hl 0 rfl rfl ?_
        refine q_getI (ci := 3) X V inX3 rfl (by decide) rfl 9 (by decide) rfl (tw_1 161 rfl rfl) rfl dX3_addCandidate_25 hp (fun v25_4 hp => ?_)
        refine x_istore_n (lst' := [(2, .inl v25_4), (0, .inr (some a0)), (1, .inl x1)]) X dX3_addCandidate_28 hl rfl (by decide) rfl (fun ls hl => ?_)
        refine bX3_addCandidate_29 X hr (fun G H locs ls x1 x2 V hl hp => ?_) _ _ _ _ _ _ _ V (lx_sub hl [1, 2, 0] rfl) hp
        exact bX3_addCandidate_117 X hr V (lx_sub hl [0, 1, 2] rfl) hp
      · exact q_vret X V hr ⟨by decide, by decide⟩ dX3_addCandidate_23 hp
theorem cX3_addCandidate (l : Launch) (E : mm_E) {N a0 : Nat} {G : mm_M} {x1 : Int32} {res : mm_M × Unit} (hp : pX3_addCandidate_0 N a0 G x1 = some res) : Met l yX3_addCandidate (Cond.code yX3_addCandidate prog_5_method_7_code 3 none :: tw_T) rX3_addCandidate (mm_Pc E G [.ref a0, .int x1]) (mm_Qv E res.1) 0 0 (mm_A E) :=
  mm_met (own := "XorOverlay$Lookup") E G [.inr (some a0), .inl x1] (by decide) rfl rfl (Nat.le_of_ble_eq_true rfl) (fun p e s m args below meth c ls X hr hi V hl => bX3_addCandidate_0 X hr V hl hp)
abbrev yX3_askedCount : MethodName := ⟨"XorOverlay$Lookup", "askedCount", "()I"⟩
abbrev rX3_askedCount : Room := { frames := 0, cells := 0, slots := 0, locals := 0 }
theorem kX3_askedCount : Cond.code yX3_askedCount prog_5_method_9_code 3 (Option.some .int) ∈ tw_T ∧ Cond.instanceMethod yX3_askedCount ∈ tw_T ∧ Cond.selects "XorOverlay$Lookup" yX3_askedCount yX3_askedCount ∈ tw_T ∧ Cond.initialized "XorOverlay$Lookup" ∈ tw_T := ⟨(tw_2 88 rfl rfl), (tw_2 86 rfl rfl), (tw_2 87 rfl rfl), (tw_1 7 rfl rfl)⟩
theorem hX3_askedCount : yX3_askedCount.cls = "XorOverlay$Lookup" ∧ yX3_askedCount.cls ≠ "java/lang/invoke/MethodHandle" ∧ yX3_askedCount.cls ≠ "java/lang/invoke/VarHandle" ∧ (parseMethodDescriptor yX3_askedCount.desc).map (fun d => d.parameters.length) = some 0 := by decide +kernel
theorem dX3_askedCount_0 : decode prog_5_method_9_code 0 = .ok (.iconst 0, 1) := by decide +kernel
theorem dX3_askedCount_1 : decode prog_5_method_9_code 1 = .ok (.istore_n 1, 1) := by decide +kernel
theorem dX3_askedCount_2 : decode prog_5_method_9_code 2 = .ok (.iconst 0, 1) := by decide +kernel
theorem dX3_askedCount_3 : decode prog_5_method_9_code 3 = .ok (.istore_n 2, 1) := by decide +kernel
theorem dX3_askedCount_4 : decode prog_5_method_9_code 4 = .ok (.iload_n 2, 1) := by decide +kernel
theorem dX3_askedCount_5 : decode prog_5_method_9_code 5 = .ok (.aload_n 0, 1) := by decide +kernel
theorem dX3_askedCount_6 : decode prog_5_method_9_code 6 = .ok (.getfield 31, 3) := by decide +kernel
theorem dX3_askedCount_9 : decode prog_5_method_9_code 9 = .ok (.if_icmp .ge 22, 3) := by decide +kernel
theorem dX3_askedCount_12 : decode prog_5_method_9_code 12 = .ok (.aload_n 0, 1) := by decide +kernel
theorem dX3_askedCount_13 : decode prog_5_method_9_code 13 = .ok (.getfield 15, 3) := by decide +kernel
theorem dX3_askedCount_16 : decode prog_5_method_9_code 16 = .ok (.iload_n 2, 1) := by decide +kernel
theorem dX3_askedCount_17 : decode prog_5_method_9_code 17 = .ok (.iaload, 1) := by decide +kernel
theorem dX3_askedCount_18 : decode prog_5_method_9_code 18 = .ok (.iconst 1, 1) := by decide +kernel
theorem dX3_askedCount_19 : decode prog_5_method_9_code 19 = .ok (.if_icmp .ne 6, 3) := by decide +kernel
theorem dX3_askedCount_22 : decode prog_5_method_9_code 22 = .ok (.iinc 1 1, 3) := by decide +kernel
theorem dX3_askedCount_25 : decode prog_5_method_9_code 25 = .ok (.iinc 2 1, 3) := by decide +kernel
theorem dX3_askedCount_28 : decode prog_5_method_9_code 28 = .ok (.goto (-24), 3) := by decide +kernel
theorem dX3_askedCount_31 : decode prog_5_method_9_code 31 = .ok (.iload_n 1, 1) := by decide +kernel
theorem dX3_askedCount_32 : decode prog_5_method_9_code 32 = .ok (.ireturn, 1) := by decide +kernel
def pX3_askedCount_4_b (N a0 : Nat) (kb : mm_M → Int32 → Int32 → Option (mm_M × Int32)) (kx : mm_M → Int32 → Option (mm_M × Int32)) (G : mm_M) (x1 : Int32) (x2 : Int32) : Option (mm_M × Int32) :=
  q_gI G a0 4 9 fun v6_1 =>
  if v6_1 ≤ x2 then
    kx G x1
  else
    q_gR G a0 4 1 fun r13_2 =>
    q_nn r13_2 fun b17_3 =>
    q_aI G b17_3 101 x2 fun v17_4 =>
    if v17_4 = (1 : Int32) then
      kb G (x1 + (1 : Int32)) (x2 + (1 : Int32))
    else
      kb G x1 (x2 + (1 : Int32))
def pX3_askedCount_4 (N a0 : Nat) (kx : mm_M → Int32 → Option (mm_M × Int32)) : Nat → mm_M → Int32 → Int32 → Option (mm_M × Int32)
  | 0 => fun _ _ _ => none
  | n + 1 => pX3_askedCount_4_b N a0 (pX3_askedCount_4 N a0 kx n) kx
set_option maxRecDepth 100000 in
set_option maxHeartbeats 4000000 in
theorem bX3_askedCount_4 {p : Program} {l : Launch} {e : Env} {s : State} {m : MethodId} {args : Array Value} {below : List Frame} {meth : Method} {c : Code} {E : mm_E} {N a0 : Nat} {res : mm_M × Int32} (X : mm_X p s m args meth c prog_5_method_9_code 3 "XorOverlay$Lookup" tw_T E) (hr : meth.sig.returnType = (Option.some .int)) {kx : mm_M → Int32 → Option (mm_M × Int32)} (hkx : ∀ (G : mm_M) (H : Heap) (locs : List Loc) (ls : Array Slot) (x1 : Int32), mm_V E s G H locs → lx_has ls 3 [(0, .inr (some a0)), (1, .inl x1)] → kx G x1 = some res → W p l e rX3_askedCount s m args below meth c H locs 0 0 (MQ below (mm_Qi E res.1 res.2) args s 0 0 (mm_A E)) (F0 m 31 ls [])) :
    ∀ (n : Nat) (G : mm_M) (H : Heap) (locs : List Loc) (ls : Array Slot) (x1 : Int32) (x2 : Int32), mm_V E s G H locs → lx_has ls 3 [(0, .inr (some a0)), (1, .inl x1), (2, .inl x2)] → pX3_askedCount_4 N a0 kx n G x1 x2 = some res → W p l e rX3_askedCount s m args below meth c H locs 0 0 (MQ below (mm_Qi E res.1 res.2) args s 0 0 (mm_A E)) (F0 m 4 ls []) := by
  have hx := X.1.1
  have hb := X.1.2.1
  intro n
  induction n with
  | zero =>
    intro G H locs ls x1 x2 V hl hp
    cases hp
  | succ n ih =>
    intro G H locs ls x1 x2 V hl hp
    have hp : pX3_askedCount_4_b N a0 (pX3_askedCount_4 N a0 kx n) kx G x1 x2 = some res := hp
    unfold pX3_askedCount_4_b at hp
    refine x_iload_n X dX3_askedCount_4 hl 2 rfl rfl ?_
    refine x_aload_n X dX3_askedCount_5 hl 0 rfl rfl ?_
    refine q_getI (ci := 3) X V inX3 rfl (by decide) rfl 9 (by decide) rfl (tw_1 161 rfl rfl) rfl dX3_askedCount_6 hp (fun v6_1 hp => ?_)
    refine q_if hp (lv_icmp_ge (tgt := 31) hx hb dX3_askedCount_9 (by decide)) (fun hp => ?_) (fun hp => ?_)
    · exact hkx _ _ _ _ _ V (lx_sub hl [0, 1] rfl) hp
    · refine x_aload_n X dX3_askedCount_12 hl 0 rfl rfl ?_
      refine q_getR (ci := 3) X V inX3 rfl (by decide) rfl 1 (by decide) rfl (tw_1 145 rfl rfl) rfl dX3_askedCount_13 hp (fun r13_2 hp => ?_)
      refine x_iload_n X dX3_askedCount_16 hl 2 rfl rfl ?_
      obtain ⟨b17_3, e0, hp2⟩ := q_nn_of hp
      clear hp; subst e0; have hp := hp2; clear hp2
      refine q_iald X V dX3_askedCount_17 hp (fun v17_4 hp => ?_)
      refine lv_iconst (v := (1 : Int32)) hx hb dX3_askedCount_18 (by decide) ?_
      refine q_ifn hp (lv_icmp_ne (tgt := 25) hx hb dX3_askedCount_19 (by decide)) (fun hp => ?_) (fun hp => ?_)
      · refine x_iinc (v := (1 : Int32)) (lst' := [(2, .inl (x2 + (1 : Int32))), (0, .inr (some a0)), (1, .inl x1)]) X dX3_askedCount_25 hl 2 rfl (by decide) (by decide) rfl (fun ls hl => ?_)
        refine lv_goto (tgt := 4) hx hb dX3_askedCount_28 (by decide) ?_
        exact ih _ _ _ _ _ _ V (lx_sub hl [1, 2, 0] rfl) hp
      · refine x_iinc (v := (1 : Int32)) (lst' := [(1, .inl (x1 + (1 : Int32))), (0, .inr (some a0)), (2, .inl x2)]) X dX3_askedCount_22 hl 1 rfl (by decide) (by decide) rfl (fun ls hl => ?_)
        refine x_iinc (v := (1 : Int32)) (lst' := [(2, .inl (x2 + (1 : Int32))), (1, .inl (x1 + (1 : Int32))), (0, .inr (some a0))]) X dX3_askedCount_25 hl 2 rfl (by decide) (by decide) rfl (fun ls hl => ?_)
        refine lv_goto (tgt := 4) hx hb dX3_askedCount_28 (by decide) ?_
        exact ih _ _ _ _ _ _ V (lx_sub hl [2, 1, 0] rfl) hp
def pX3_askedCount_0 (N a0 : Nat) (G : mm_M) : Option (mm_M × Int32) :=
  pX3_askedCount_4 N a0 (fun (G : mm_M) (x1 : Int32) =>
    some (G, x1)) N G (0 : Int32) (0 : Int32)
set_option maxRecDepth 100000 in
set_option maxHeartbeats 4000000 in
theorem bX3_askedCount_0 {p : Program} {l : Launch} {e : Env} {s : State} {m : MethodId} {args : Array Value} {below : List Frame} {meth : Method} {c : Code} {E : mm_E} {N a0 : Nat} {res : mm_M × Int32} (X : mm_X p s m args meth c prog_5_method_9_code 3 "XorOverlay$Lookup" tw_T E) (hr : meth.sig.returnType = (Option.some .int)) {G : mm_M} {H : Heap} {locs : List Loc} {ls : Array Slot} (V : mm_V E s G H locs) (hl : lx_has ls 3 [(0, .inr (some a0))]) (hp : pX3_askedCount_0 N a0 G = some res) : W p l e rX3_askedCount s m args below meth c H locs 0 0 (MQ below (mm_Qi E res.1 res.2) args s 0 0 (mm_A E)) (F0 m 0 ls []) := by
  have hx := X.1.1
  have hb := X.1.2.1
  unfold pX3_askedCount_0 at hp
  refine lv_iconst (v := (0 : Int32)) hx hb dX3_askedCount_0 (by decide) ?_
  refine x_istore_n (lst' := [(1, .inl (0 : Int32)), (0, .inr (some a0))]) X dX3_askedCount_1 hl rfl (by decide) rfl (fun ls hl => ?_)
  refine lv_iconst (v := (0 : Int32)) hx hb dX3_askedCount_2 (by decide) ?_
  refine x_istore_n (lst' := [(2, .inl (0 : Int32)), (1, .inl (0 : Int32)), (0, .inr (some a0))]) X dX3_askedCount_3 hl rfl (by decide) rfl (fun ls hl => ?_)
  refine bX3_askedCount_4 X hr (fun G H locs ls x1 V hl hp => ?_) _ _ _ _ _ _ _ V (lx_sub hl [2, 1, 0] rfl) hp
  refine x_iload_n X dX3_askedCount_31 hl 1 rfl rfl ?_
  exact q_iret X V hr ⟨by decide, by decide⟩ dX3_askedCount_32 hp
theorem cX3_askedCount (l : Launch) (E : mm_E) {N a0 : Nat} {G : mm_M} {res : mm_M × Int32} (hp : pX3_askedCount_0 N a0 G = some res) : Met l yX3_askedCount (Cond.code yX3_askedCount prog_5_method_9_code 3 (Option.some .int) :: tw_T) rX3_askedCount (mm_Pc E G [.ref a0]) (mm_Qi E res.1 res.2) 0 0 (mm_A E) :=
  mm_met (own := "XorOverlay$Lookup") E G [.inr (some a0)] (by decide) rfl rfl (Nat.le_of_ble_eq_true rfl) (fun p e s m args below meth c ls X hr hi V hl => bX3_askedCount_0 X hr V hl hp)
abbrev yX3_nextToAsk : MethodName := ⟨"XorOverlay$Lookup", "nextToAsk", "()I"⟩
abbrev rX3_nextToAsk : Room := { frames := 1, cells := 0, slots := 0, locals := 22 }
theorem kX3_nextToAsk : Cond.code yX3_nextToAsk prog_5_method_10_code 3 (Option.some .int) ∈ tw_T ∧ Cond.instanceMethod yX3_nextToAsk ∈ tw_T ∧ Cond.selects "XorOverlay$Lookup" yX3_nextToAsk yX3_nextToAsk ∈ tw_T ∧ Cond.initialized "XorOverlay$Lookup" ∈ tw_T := ⟨(tw_2 84 rfl rfl), (tw_2 82 rfl rfl), (tw_2 83 rfl rfl), (tw_1 7 rfl rfl)⟩
theorem hX3_nextToAsk : yX3_nextToAsk.cls = "XorOverlay$Lookup" ∧ yX3_nextToAsk.cls ≠ "java/lang/invoke/MethodHandle" ∧ yX3_nextToAsk.cls ≠ "java/lang/invoke/VarHandle" ∧ (parseMethodDescriptor yX3_nextToAsk.desc).map (fun d => d.parameters.length) = some 0 := by decide +kernel
theorem dX3_nextToAsk_0 : decode prog_5_method_10_code 0 = .ok (.aload_n 0, 1) := by decide +kernel
theorem dX3_nextToAsk_1 : decode prog_5_method_10_code 1 = .ok (.invokevirtual 53, 3) := by decide +kernel
theorem dX3_nextToAsk_4 : decode prog_5_method_10_code 4 = .ok (.iconst 2, 1) := by decide +kernel
theorem dX3_nextToAsk_5 : decode prog_5_method_10_code 5 = .ok (.if_icmp .lt 5, 3) := by decide +kernel
theorem dX3_nextToAsk_8 : decode prog_5_method_10_code 8 = .ok (.iconst (-1), 1) := by decide +kernel
theorem dX3_nextToAsk_9 : decode prog_5_method_10_code 9 = .ok (.ireturn, 1) := by decide +kernel
theorem dX3_nextToAsk_10 : decode prog_5_method_10_code 10 = .ok (.iconst 0, 1) := by decide +kernel
theorem dX3_nextToAsk_11 : decode prog_5_method_10_code 11 = .ok (.istore_n 1, 1) := by decide +kernel
theorem dX3_nextToAsk_12 : decode prog_5_method_10_code 12 = .ok (.iconst 0, 1) := by decide +kernel
theorem dX3_nextToAsk_13 : decode prog_5_method_10_code 13 = .ok (.istore_n 2, 1) := by decide +kernel
theorem dX3_nextToAsk_14 : decode prog_5_method_10_code 14 = .ok (.iload_n 2, 1) := by decide +kernel
theorem dX3_nextToAsk_15 : decode prog_5_method_10_code 15 = .ok (.aload_n 0, 1) := by decide +kernel
theorem dX3_nextToAsk_16 : decode prog_5_method_10_code 16 = .ok (.getfield 31, 3) := by decide +kernel
theorem dX3_nextToAsk_19 : decode prog_5_method_10_code 19 = .ok (.if_icmp .ge 38, 3) := by decide +kernel
theorem dX3_nextToAsk_22 : decode prog_5_method_10_code 22 = .ok (.iload_n 1, 1) := by decide +kernel
theorem dX3_nextToAsk_23 : decode prog_5_method_10_code 23 = .ok (.iconst 3, 1) := by decide +kernel
theorem dX3_nextToAsk_24 : decode prog_5_method_10_code 24 = .ok (.if_icmp .ge 33, 3) := by decide +kernel
theorem dX3_nextToAsk_27 : decode prog_5_method_10_code 27 = .ok (.aload_n 0, 1) := by decide +kernel
theorem dX3_nextToAsk_28 : decode prog_5_method_10_code 28 = .ok (.getfield 15, 3) := by decide +kernel
theorem dX3_nextToAsk_31 : decode prog_5_method_10_code 31 = .ok (.iload_n 2, 1) := by decide +kernel
theorem dX3_nextToAsk_32 : decode prog_5_method_10_code 32 = .ok (.iaload, 1) := by decide +kernel
theorem dX3_nextToAsk_33 : decode prog_5_method_10_code 33 = .ok (.ifCond .ne 5, 3) := by decide +kernel
theorem dX3_nextToAsk_36 : decode prog_5_method_10_code 36 = .ok (.iload_n 2, 1) := by decide +kernel
theorem dX3_nextToAsk_37 : decode prog_5_method_10_code 37 = .ok (.ireturn, 1) := by decide +kernel
theorem dX3_nextToAsk_38 : decode prog_5_method_10_code 38 = .ok (.aload_n 0, 1) := by decide +kernel
theorem dX3_nextToAsk_39 : decode prog_5_method_10_code 39 = .ok (.getfield 15, 3) := by decide +kernel
theorem dX3_nextToAsk_42 : decode prog_5_method_10_code 42 = .ok (.iload_n 2, 1) := by decide +kernel
theorem dX3_nextToAsk_43 : decode prog_5_method_10_code 43 = .ok (.iaload, 1) := by decide +kernel
theorem dX3_nextToAsk_44 : decode prog_5_method_10_code 44 = .ok (.iconst 3, 1) := by decide +kernel
theorem dX3_nextToAsk_45 : decode prog_5_method_10_code 45 = .ok (.if_icmp .eq 6, 3) := by decide +kernel
theorem dX3_nextToAsk_48 : decode prog_5_method_10_code 48 = .ok (.iinc 1 1, 3) := by decide +kernel
theorem dX3_nextToAsk_51 : decode prog_5_method_10_code 51 = .ok (.iinc 2 1, 3) := by decide +kernel
theorem dX3_nextToAsk_54 : decode prog_5_method_10_code 54 = .ok (.goto (-40), 3) := by decide +kernel
theorem dX3_nextToAsk_57 : decode prog_5_method_10_code 57 = .ok (.iconst (-1), 1) := by decide +kernel
theorem dX3_nextToAsk_58 : decode prog_5_method_10_code 58 = .ok (.ireturn, 1) := by decide +kernel
def pX3_nextToAsk_14_b (N a0 : Nat) (kb : mm_M → Int32 → Int32 → Option (mm_M × Int32)) (kx : mm_M → Option (mm_M × Int32)) (G : mm_M) (x1 : Int32) (x2 : Int32) : Option (mm_M × Int32) :=
  q_gI G a0 4 9 fun v16_3 =>
  if v16_3 ≤ x2 then
    kx G
  else
    if (3 : Int32) ≤ x1 then
      kx G
    else
      q_gR G a0 4 1 fun r28_4 =>
      q_nn r28_4 fun b32_5 =>
      q_aI G b32_5 101 x2 fun v32_6 =>
      if v32_6 = 0 then
        some (G, x2)
      else
        q_gR G a0 4 1 fun r39_7 =>
        q_nn r39_7 fun b43_8 =>
        q_aI G b43_8 101 x2 fun v43_9 =>
        if v43_9 = (3 : Int32) then
          kb G x1 (x2 + (1 : Int32))
        else
          kb G (x1 + (1 : Int32)) (x2 + (1 : Int32))
def pX3_nextToAsk_14 (N a0 : Nat) (kx : mm_M → Option (mm_M × Int32)) : Nat → mm_M → Int32 → Int32 → Option (mm_M × Int32)
  | 0 => fun _ _ _ => none
  | n + 1 => pX3_nextToAsk_14_b N a0 (pX3_nextToAsk_14 N a0 kx n) kx
set_option maxRecDepth 100000 in
set_option maxHeartbeats 4000000 in
theorem bX3_nextToAsk_14 {p : Program} {l : Launch} {e : Env} {s : State} {m : MethodId} {args : Array Value} {below : List Frame} {meth : Method} {c : Code} {E : mm_E} {N a0 : Nat} {res : mm_M × Int32} (X : mm_X p s m args meth c prog_5_method_10_code 3 "XorOverlay$Lookup" tw_T E) (hr : meth.sig.returnType = (Option.some .int)) {kx : mm_M → Option (mm_M × Int32)} (hkx : ∀ (G : mm_M) (H : Heap) (locs : List Loc) (ls : Array Slot), mm_V E s G H locs → lx_has ls 3 [(0, .inr (some a0))] → kx G = some res → W p l e rX3_nextToAsk s m args below meth c H locs 0 0 (MQ below (mm_Qi E res.1 res.2) args s 0 0 (mm_A E)) (F0 m 57 ls [])) :
    ∀ (n : Nat) (G : mm_M) (H : Heap) (locs : List Loc) (ls : Array Slot) (x1 : Int32) (x2 : Int32), mm_V E s G H locs → lx_has ls 3 [(0, .inr (some a0)), (1, .inl x1), (2, .inl x2)] → pX3_nextToAsk_14 N a0 kx n G x1 x2 = some res → W p l e rX3_nextToAsk s m args below meth c H locs 0 0 (MQ below (mm_Qi E res.1 res.2) args s 0 0 (mm_A E)) (F0 m 14 ls []) := by
  have hx := X.1.1
  have hb := X.1.2.1
  intro n
  induction n with
  | zero =>
    intro G H locs ls x1 x2 V hl hp
    cases hp
  | succ n ih =>
    intro G H locs ls x1 x2 V hl hp
    have hp : pX3_nextToAsk_14_b N a0 (pX3_nextToAsk_14 N a0 kx n) kx G x1 x2 = some res := hp
    unfold pX3_nextToAsk_14_b at hp
    refine x_iload_n X dX3_nextToAsk_14 hl 2 rfl rfl ?_
    refine x_aload_n X dX3_nextToAsk_15 hl 0 rfl rfl ?_
    refine q_getI (ci := 3) X V inX3 rfl (by decide) rfl 9 (by decide) rfl (tw_1 161 rfl rfl) rfl dX3_nextToAsk_16 hp (fun v16_3 hp => ?_)
    refine q_if hp (lv_icmp_ge (tgt := 57) hx hb dX3_nextToAsk_19 (by decide)) (fun hp => ?_) (fun hp => ?_)
    · exact hkx _ _ _ _ V (lx_sub hl [0] rfl) hp
    · refine x_iload_n X dX3_nextToAsk_22 hl 1 rfl rfl ?_
      refine lv_iconst (v := (3 : Int32)) hx hb dX3_nextToAsk_23 (by decide) ?_
      refine q_if hp (lv_icmp_ge (tgt := 57) hx hb dX3_nextToAsk_24 (by decide)) (fun hp => ?_) (fun hp => ?_)
      · exact hkx _ _ _ _ V (lx_sub hl [0] rfl) hp
      · refine x_aload_n X dX3_nextToAsk_27 hl 0 rfl rfl ?_
        refine q_getR (ci := 3) X V inX3 rfl (by decide) rfl 1 (by decide) rfl (tw_1 145 rfl rfl) rfl dX3_nextToAsk_28 hp (fun r28_4 hp => ?_)
        refine x_iload_n X dX3_nextToAsk_31 hl 2 rfl rfl ?_
        obtain ⟨b32_5, e0, hp2⟩ := q_nn_of hp
        clear hp; subst e0; have hp := hp2; clear hp2
        refine q_iald X V dX3_nextToAsk_32 hp (fun v32_6 hp => ?_)
        refine q_ifn hp (lv_if_ne (tgt := 38) hx hb dX3_nextToAsk_33 (by decide)) (fun hp => ?_) (fun hp => ?_)
        · refine x_aload_n X dX3_nextToAsk_38 hl 0 rfl rfl ?_
          refine q_getR (ci := 3) X V inX3 rfl (by decide) rfl 1 (by decide) rfl (tw_1 145 rfl rfl) rfl dX3_nextToAsk_39 hp (fun r39_7 hp => ?_)
          refine x_iload_n X dX3_nextToAsk_42 hl 2 rfl rfl ?_
          obtain ⟨b43_8, e0, hp2⟩ := q_nn_of hp
          clear hp; subst e0; have hp := hp2; clear hp2
          refine q_iald X V dX3_nextToAsk_43 hp (fun v43_9 hp => ?_)
          refine lv_iconst (v := (3 : Int32)) hx hb dX3_nextToAsk_44 (by decide) ?_
          refine q_if hp (lv_icmp_eq (tgt := 51) hx hb dX3_nextToAsk_45 (by decide)) (fun hp => ?_) (fun hp => ?_)
          · refine x_iinc (v := (1 : Int32)) (lst' := [(2, .inl (x2 + (1 : Int32))), (0, .inr (some a0)), (1, .inl x1)]) X dX3_nextToAsk_51 hl 2 rfl (by decide) (by decide) rfl (fun ls hl => ?_)
            refine lv_goto (tgt := 14) hx hb dX3_nextToAsk_54 (by decide) ?_
            exact ih _ _ _ _ _ _ V (lx_sub hl [1, 2, 0] rfl) hp
          · refine x_iinc (v := (1 : Int32)) (lst' := [(1, .inl (x1 + (1 : Int32))), (0, .inr (some a0)), (2, .inl x2)]) X dX3_nextToAsk_48 hl 1 rfl (by decide) (by decide) rfl (fun ls hl => ?_)
            refine x_iinc (v := (1 : Int32)) (lst' := [(2, .inl (x2 + (1 : Int32))), (1, .inl (x1 + (1 : Int32))), (0, .inr (some a0))]) X dX3_nextToAsk_51 hl 2 rfl (by decide) (by decide) rfl (fun ls hl => ?_)
            refine lv_goto (tgt := 14) hx hb dX3_nextToAsk_54 (by decide) ?_
            exact ih _ _ _ _ _ _ V (lx_sub hl [2, 1, 0] rfl) hp
        · refine x_iload_n X dX3_nextToAsk_36 hl 2 rfl rfl ?_
          exact q_iret X V hr ⟨by decide, by decide⟩ dX3_nextToAsk_37 hp
def pX3_nextToAsk_0 (N a0 : Nat) (G : mm_M) : Option (mm_M × Int32) :=
  q_is G a0 4 <|
  q_cl (pX3_askedCount_0 N a0 G) fun G v1_2 =>
  if v1_2 < (2 : Int32) then
    pX3_nextToAsk_14 N a0 (fun (G : mm_M) =>
      some (G, (-1 : Int32))) N G (0 : Int32) (0 : Int32)
  else
    some (G, (-1 : Int32))
set_option maxRecDepth 100000 in
set_option maxHeartbeats 4000000 in
theorem bX3_nextToAsk_0 {p : Program} {l : Launch} {e : Env} {s : State} {m : MethodId} {args : Array Value} {below : List Frame} {meth : Method} {c : Code} {E : mm_E} {N a0 : Nat} {res : mm_M × Int32} (X : mm_X p s m args meth c prog_5_method_10_code 3 "XorOverlay$Lookup" tw_T E) (hr : meth.sig.returnType = (Option.some .int)) {G : mm_M} {H : Heap} {locs : List Loc} {ls : Array Slot} (V : mm_V E s G H locs) (hl : lx_has ls 3 [(0, .inr (some a0))]) (hp : pX3_nextToAsk_0 N a0 G = some res) : W p l e rX3_nextToAsk s m args below meth c H locs 0 0 (MQ below (mm_Qi E res.1 res.2) args s 0 0 (mm_A E)) (F0 m 0 ls []) := by
  have hx := X.1.1
  have hb := X.1.2.1
  unfold pX3_nextToAsk_0 at hp
  refine x_aload_n X dX3_nextToAsk_0 hl 0 rfl rfl ?_
  obtain ⟨hk, hp⟩ := q_is_of hp
  obtain ⟨⟨G, v1_2⟩, hq, hp⟩ := q_cl_of hp
  dsimp only at hp
  refine q_goi (cells' := 0) (slots' := 0) (va_runV (As := []) (rest := []) X.1 (cX3_askedCount l E hq) (tw_cwV 0 X.1.2.2.2.2 (tw_2 85 rfl rfl) kX3_askedCount.2.1 kX3_askedCount.2.2.1 kX3_askedCount.2.2.2 kX3_askedCount.1 rfl rfl hX3_askedCount ⟨Nat.le_of_ble_eq_true rfl, Nat.le_of_ble_eq_true rfl⟩) (mm_preV X V rfl (by decide) rfl hk) rfl rfl hl.1 rfl (lv_room (Nat.le_of_ble_eq_true rfl)) dX3_nextToAsk_1 ⟨by decide, by decide⟩) V ⟨rfl, rfl⟩ (fun H locs V => ?_)
  refine lv_iconst (v := (2 : Int32)) hx hb dX3_nextToAsk_4 (by decide) ?_
  refine q_if hp (lv_icmp_lt (tgt := 10) hx hb dX3_nextToAsk_5 (by decide)) (fun hp => ?_) (fun hp => ?_)
  · refine lv_iconst (v := (0 : Int32)) hx hb dX3_nextToAsk_10 (by decide) ?_
    refine x_istore_n (lst' := [(1, .inl (0 : Int32)), (0, .inr (some a0))]) X dX3_nextToAsk_11 hl rfl (by decide) rfl (fun ls hl => ?_)
    refine lv_iconst (v := (0 : Int32)) hx hb dX3_nextToAsk_12 (by decide) ?_
    refine x_istore_n (lst' := [(2, .inl (0 : Int32)), (1, .inl (0 : Int32)), (0, .inr (some a0))]) X dX3_nextToAsk_13 hl rfl (by decide) rfl (fun ls hl => ?_)
    refine bX3_nextToAsk_14 X hr (fun G H locs ls V hl hp => ?_) _ _ _ _ _ _ _ V (lx_sub hl [2, 1, 0] rfl) hp
    refine lv_iconst (v := (-1 : Int32)) hx hb dX3_nextToAsk_57 (by decide) ?_
    exact q_iret X V hr ⟨by decide, by decide⟩ dX3_nextToAsk_58 hp
  · refine lv_iconst (v := (-1 : Int32)) hx hb dX3_nextToAsk_8 (by decide) ?_
    exact q_iret X V hr ⟨by decide, by decide⟩ dX3_nextToAsk_9 hp
theorem cX3_nextToAsk (l : Launch) (E : mm_E) {N a0 : Nat} {G : mm_M} {res : mm_M × Int32} (hp : pX3_nextToAsk_0 N a0 G = some res) : Met l yX3_nextToAsk (Cond.code yX3_nextToAsk prog_5_method_10_code 3 (Option.some .int) :: tw_T) rX3_nextToAsk (mm_Pc E G [.ref a0]) (mm_Qi E res.1 res.2) 0 0 (mm_A E) :=
  mm_met (own := "XorOverlay$Lookup") E G [.inr (some a0)] (by decide) rfl rfl (Nat.le_of_ble_eq_true rfl) (fun p e s m args below meth c ls X hr hi V hl => bX3_nextToAsk_0 X hr V hl hp)
abbrev yJ7_fill : MethodName := ⟨"java/util/Arrays", "fill", "([II)V"⟩
abbrev rJ7_fill : Room := { frames := 0, cells := 0, slots := 0, locals := 0 }
theorem kJ7_fill : Cond.code yJ7_fill prog_11_method_103_code 4 none ∈ tw_T ∧ Cond.static yJ7_fill ∈ tw_T ∧ Cond.initialized "java/util/Arrays" ∈ tw_T := ⟨(tw_2 99 rfl rfl), (tw_2 98 rfl rfl), (tw_1 9 rfl rfl)⟩
theorem hJ7_fill : yJ7_fill.cls = "java/util/Arrays" ∧ yJ7_fill.cls ≠ "java/lang/invoke/MethodHandle" ∧ yJ7_fill.cls ≠ "java/lang/invoke/VarHandle" ∧ (parseMethodDescriptor yJ7_fill.desc).map (fun d => d.parameters.length) = some 2 := by decide +kernel
theorem dJ7_fill_0 : decode prog_11_method_103_code 0 = .ok (.iconst 0, 1) := by decide +kernel
theorem dJ7_fill_1 : decode prog_11_method_103_code 1 = .ok (.istore_n 2, 1) := by decide +kernel
theorem dJ7_fill_2 : decode prog_11_method_103_code 2 = .ok (.aload_n 0, 1) := by decide +kernel
theorem dJ7_fill_3 : decode prog_11_method_103_code 3 = .ok (.arraylength, 1) := by decide +kernel
theorem dJ7_fill_4 : decode prog_11_method_103_code 4 = .ok (.istore_n 3, 1) := by decide +kernel
theorem dJ7_fill_5 : decode prog_11_method_103_code 5 = .ok (.iload_n 2, 1) := by decide +kernel
theorem dJ7_fill_6 : decode prog_11_method_103_code 6 = .ok (.iload_n 3, 1) := by decide +kernel
theorem dJ7_fill_7 : decode prog_11_method_103_code 7 = .ok (.if_icmp .ge 13, 3) := by decide +kernel
theorem dJ7_fill_10 : decode prog_11_method_103_code 10 = .ok (.aload_n 0, 1) := by decide +kernel
theorem dJ7_fill_11 : decode prog_11_method_103_code 11 = .ok (.iload_n 2, 1) := by decide +kernel
theorem dJ7_fill_12 : decode prog_11_method_103_code 12 = .ok (.iload_n 1, 1) := by decide +kernel
theorem dJ7_fill_13 : decode prog_11_method_103_code 13 = .ok (.iastore, 1) := by decide +kernel
theorem dJ7_fill_14 : decode prog_11_method_103_code 14 = .ok (.iinc 2 1, 3) := by decide +kernel
theorem dJ7_fill_17 : decode prog_11_method_103_code 17 = .ok (.goto (-12), 3) := by decide +kernel
theorem dJ7_fill_20 : decode prog_11_method_103_code 20 = .ok (.return_, 1) := by decide +kernel
def pJ7_fill_5_b (N : Nat) (kb : mm_M → Option Nat → Int32 → Int32 → Int32 → Option (mm_M × Unit)) (kx : mm_M → Option (mm_M × Unit)) (G : mm_M) (x0 : Option Nat) (x1 : Int32) (x2 : Int32) (x3 : Int32) : Option (mm_M × Unit) :=
  if x3 ≤ x2 then
    kx G
  else
    q_nn x0 fun b13_3 =>
    q_sI G b13_3 101 x2 x1 fun G =>
    kb G (some b13_3) x1 (x2 + (1 : Int32)) x3
def pJ7_fill_5 (N : Nat) (kx : mm_M → Option (mm_M × Unit)) : Nat → mm_M → Option Nat → Int32 → Int32 → Int32 → Option (mm_M × Unit)
  | 0 => fun _ _ _ _ _ => none
  | n + 1 => pJ7_fill_5_b N (pJ7_fill_5 N kx n) kx
set_option maxRecDepth 100000 in
set_option maxHeartbeats 4000000 in
theorem bJ7_fill_5 {p : Program} {l : Launch} {e : Env} {s : State} {m : MethodId} {args : Array Value} {below : List Frame} {meth : Method} {c : Code} {E : mm_E} {N : Nat} {res : mm_M × Unit} (X : mm_X p s m args meth c prog_11_method_103_code 4 "java/util/Arrays" tw_T E) (hr : meth.sig.returnType = none) {kx : mm_M → Option (mm_M × Unit)} (hkx : ∀ (G : mm_M) (H : Heap) (locs : List Loc) (ls : Array Slot), mm_V E s G H locs → lx_has ls 4 [] → kx G = some res → W p l e rJ7_fill s m args below meth c H locs 0 0 (MQ below (mm_Qv E res.1) args s 0 0 (mm_A E)) (F0 m 20 ls [])) :
    ∀ (n : Nat) (G : mm_M) (H : Heap) (locs : List Loc) (ls : Array Slot) (x0 : Option Nat) (x1 : Int32) (x2 : Int32) (x3 : Int32), mm_V E s G H locs → lx_has ls 4 [(0, .inr x0), (1, .inl x1), (2, .inl x2), (3, .inl x3)] → pJ7_fill_5 N kx n G x0 x1 x2 x3 = some res → W p l e rJ7_fill s m args below meth c H locs 0 0 (MQ below (mm_Qv E res.1) args s 0 0 (mm_A E)) (F0 m 5 ls []) := by
  have hx := X.1.1
  have hb := X.1.2.1
  intro n
  induction n with
  | zero =>
    intro G H locs ls x0 x1 x2 x3 V hl hp
    cases hp
  | succ n ih =>
    intro G H locs ls x0 x1 x2 x3 V hl hp
    have hp : pJ7_fill_5_b N (pJ7_fill_5 N kx n) kx G x0 x1 x2 x3 = some res := hp
    unfold pJ7_fill_5_b at hp
    refine x_iload_n X dJ7_fill_5 hl 2 rfl rfl ?_
    refine x_iload_n X dJ7_fill_6 hl 3 rfl rfl ?_
    refine q_if hp (lv_icmp_ge (tgt := 20) hx hb dJ7_fill_7 (by decide)) (fun hp => ?_) (fun hp => ?_)
    · exact hkx _ _ _ _ V (lx_sub hl [] rfl) hp
    · refine x_aload_n X dJ7_fill_10 hl 0 rfl rfl ?_
      refine x_iload_n X dJ7_fill_11 hl 2 rfl rfl ?_
      refine x_iload_n X dJ7_fill_12 hl 1 rfl rfl ?_
      obtain ⟨b13_3, e0, hp2⟩ := q_nn_of hp
      clear hp; subst e0; have hp := hp2; clear hp2
      refine q_iast X V dJ7_fill_13 hp (fun G H locs V hp => ?_)
      refine x_iinc (v := (1 : Int32)) (lst' := [(2, .inl (x2 + (1 : Int32))), (0, .inr (some b13_3)), (1, .inl x1), (3, .inl x3)]) X dJ7_fill_14 hl 2 rfl (by decide) (by decide) rfl (fun ls hl => ?_)
      refine lv_goto (tgt := 5) hx hb dJ7_fill_17 (by decide) ?_
      exact ih _ _ _ _ _ _ _ _ V (lx_sub hl [1, 2, 0, 3] rfl) hp
def pJ7_fill_0 (N : Nat) (G : mm_M) (x0 : Option Nat) (x1 : Int32) : Option (mm_M × Unit) :=
  q_nn x0 fun b3_1 =>
  q_len G b3_1 101 fun v3_2 =>
  pJ7_fill_5 N (fun (G : mm_M) =>
    some (G, ())) N G (some b3_1) x1 (0 : Int32) v3_2
set_option maxRecDepth 100000 in
set_option maxHeartbeats 4000000 in
theorem bJ7_fill_0 {p : Program} {l : Launch} {e : Env} {s : State} {m : MethodId} {args : Array Value} {below : List Frame} {meth : Method} {c : Code} {E : mm_E} {N : Nat} {res : mm_M × Unit} (X : mm_X p s m args meth c prog_11_method_103_code 4 "java/util/Arrays" tw_T E) (hr : meth.sig.returnType = none) {G : mm_M} {H : Heap} {locs : List Loc} {ls : Array Slot} {x0 : Option Nat} {x1 : Int32} (V : mm_V E s G H locs) (hl : lx_has ls 4 [(0, .inr x0), (1, .inl x1)]) (hp : pJ7_fill_0 N G x0 x1 = some res) : W p l e rJ7_fill s m args below meth c H locs 0 0 (MQ below (mm_Qv E res.1) args s 0 0 (mm_A E)) (F0 m 0 ls []) := by
  have hx := X.1.1
  have hb := X.1.2.1
  unfold pJ7_fill_0 at hp
  refine lv_iconst (v := (0 : Int32)) hx hb dJ7_fill_0 (by decide) ?_
  refine x_istore_n (lst' := [(2, .inl (0 : Int32)), (0, .inr x0), (1, .inl x1)]) X dJ7_fill_1 hl rfl (by decide) rfl (fun ls hl => ?_)
  refine x_aload_n X dJ7_fill_2 hl 1 rfl rfl ?_
  obtain ⟨b3_1, e0, hp2⟩ := q_nn_of hp
  clear hp; subst e0; have hp := hp2; clear hp2
  refine q_alen X V dJ7_fill_3 hp (fun v3_2 hp => ?_)
  refine x_istore_n (lst' := [(3, .inl v3_2), (2, .inl (0 : Int32)), (0, .inr (some b3_1)), (1, .inl x1)]) X dJ7_fill_4 hl rfl (by decide) rfl (fun ls hl => ?_)
  refine bJ7_fill_5 X hr (fun G H locs ls V hl hp => ?_) _ _ _ _ _ _ _ _ _ V (lx_sub hl [2, 3, 1, 0] rfl) hp
  exact q_vret X V hr ⟨by decide, by decide⟩ dJ7_fill_20 hp
theorem cJ7_fill (l : Launch) (E : mm_E) {N : Nat} {G : mm_M} {x0 : Option Nat} {x1 : Int32} {res : mm_M × Unit} (hp : pJ7_fill_0 N G x0 x1 = some res) : Met l yJ7_fill (Cond.code yJ7_fill prog_11_method_103_code 4 none :: tw_T) rJ7_fill (mm_Pc E G [va_rf x0, .int x1]) (mm_Qv E res.1) 0 0 (mm_A E) :=
  mm_met (own := "java/util/Arrays") E G [.inr x0, .inl x1] (by decide) rfl rfl (Nat.le_of_ble_eq_true rfl) (fun p e s m args below meth c ls X hr hi V hl => bJ7_fill_0 X hr V hl hp)
abbrev yX6_write : MethodName := ⟨"XorOverlay", "write", "(IIIIII)V"⟩
abbrev rX6_write : Room := { frames := 1, cells := 0, slots := 0, locals := 23 }
theorem kX6_write : Cond.code yX6_write prog_1_method_31_code 7 none ∈ tw_T ∧ Cond.instanceMethod yX6_write ∈ tw_T ∧ Cond.selects "XorOverlay" yX6_write yX6_write ∈ tw_T ∧ Cond.initialized "XorOverlay" ∈ tw_T := ⟨(tw_2 96 rfl rfl), (tw_2 95 rfl rfl), (tw_s 8 rfl rfl), (tw_1 1 rfl rfl)⟩
theorem hX6_write : yX6_write.cls = "XorOverlay" ∧ yX6_write.cls ≠ "java/lang/invoke/MethodHandle" ∧ yX6_write.cls ≠ "java/lang/invoke/VarHandle" ∧ (parseMethodDescriptor yX6_write.desc).map (fun d => d.parameters.length) = some 6 := by decide +kernel
theorem dX6_write_0 : decode prog_1_method_31_code 0 = .ok (.aload_n 0, 1) := by decide +kernel
theorem dX6_write_1 : decode prog_1_method_31_code 1 = .ok (.getfield 22, 3) := by decide +kernel
theorem dX6_write_4 : decode prog_1_method_31_code 4 = .ok (.iconst (-1), 1) := by decide +kernel
theorem dX6_write_5 : decode prog_1_method_31_code 5 = .ok (.invokestatic 240, 3) := by decide +kernel
theorem dX6_write_8 : decode prog_1_method_31_code 8 = .ok (.aload_n 0, 1) := by decide +kernel
theorem dX6_write_9 : decode prog_1_method_31_code 9 = .ok (.getfield 22, 3) := by decide +kernel
theorem dX6_write_12 : decode prog_1_method_31_code 12 = .ok (.iconst 0, 1) := by decide +kernel
theorem dX6_write_13 : decode prog_1_method_31_code 13 = .ok (.iload_n 1, 1) := by decide +kernel
theorem dX6_write_14 : decode prog_1_method_31_code 14 = .ok (.iastore, 1) := by decide +kernel
theorem dX6_write_15 : decode prog_1_method_31_code 15 = .ok (.aload_n 0, 1) := by decide +kernel
theorem dX6_write_16 : decode prog_1_method_31_code 16 = .ok (.getfield 22, 3) := by decide +kernel
theorem dX6_write_19 : decode prog_1_method_31_code 19 = .ok (.iconst 1, 1) := by decide +kernel
theorem dX6_write_20 : decode prog_1_method_31_code 20 = .ok (.iload_n 2, 1) := by decide +kernel
theorem dX6_write_21 : decode prog_1_method_31_code 21 = .ok (.iastore, 1) := by decide +kernel
theorem dX6_write_22 : decode prog_1_method_31_code 22 = .ok (.aload_n 0, 1) := by decide +kernel
theorem dX6_write_23 : decode prog_1_method_31_code 23 = .ok (.getfield 22, 3) := by decide +kernel
theorem dX6_write_26 : decode prog_1_method_31_code 26 = .ok (.iconst 2, 1) := by decide +kernel
theorem dX6_write_27 : decode prog_1_method_31_code 27 = .ok (.iload_n 3, 1) := by decide +kernel
theorem dX6_write_28 : decode prog_1_method_31_code 28 = .ok (.iastore, 1) := by decide +kernel
theorem dX6_write_29 : decode prog_1_method_31_code 29 = .ok (.aload_n 0, 1) := by decide +kernel
theorem dX6_write_30 : decode prog_1_method_31_code 30 = .ok (.getfield 22, 3) := by decide +kernel
theorem dX6_write_33 : decode prog_1_method_31_code 33 = .ok (.iconst 3, 1) := by decide +kernel
theorem dX6_write_34 : decode prog_1_method_31_code 34 = .ok (.iload 4, 2) := by decide +kernel
theorem dX6_write_36 : decode prog_1_method_31_code 36 = .ok (.iastore, 1) := by decide +kernel
theorem dX6_write_37 : decode prog_1_method_31_code 37 = .ok (.aload_n 0, 1) := by decide +kernel
theorem dX6_write_38 : decode prog_1_method_31_code 38 = .ok (.getfield 22, 3) := by decide +kernel
theorem dX6_write_41 : decode prog_1_method_31_code 41 = .ok (.iconst 4, 1) := by decide +kernel
theorem dX6_write_42 : decode prog_1_method_31_code 42 = .ok (.iload 5, 2) := by decide +kernel
theorem dX6_write_44 : decode prog_1_method_31_code 44 = .ok (.iastore, 1) := by decide +kernel
theorem dX6_write_45 : decode prog_1_method_31_code 45 = .ok (.aload_n 0, 1) := by decide +kernel
theorem dX6_write_46 : decode prog_1_method_31_code 46 = .ok (.getfield 22, 3) := by decide +kernel
theorem dX6_write_49 : decode prog_1_method_31_code 49 = .ok (.iconst 5, 1) := by decide +kernel
theorem dX6_write_50 : decode prog_1_method_31_code 50 = .ok (.iload 6, 2) := by decide +kernel
theorem dX6_write_52 : decode prog_1_method_31_code 52 = .ok (.iastore, 1) := by decide +kernel
theorem dX6_write_53 : decode prog_1_method_31_code 53 = .ok (.return_, 1) := by decide +kernel
def pX6_write_0 (N a0 : Nat) (G : mm_M) (x1 : Int32) (x2 : Int32) (x3 : Int32) (x4 : Int32) (x5 : Int32) (x6 : Int32) : Option (mm_M × Unit) :=
  q_gR G a0 7 2 fun r1_1 =>
  q_cl (pJ7_fill_0 N G r1_1 (-1 : Int32)) fun G _ =>
  q_gR G a0 7 2 fun r9_3 =>
  q_nn r9_3 fun b14_4 =>
  q_sI G b14_4 101 (0 : Int32) x1 fun G =>
  q_gR G a0 7 2 fun r16_5 =>
  q_nn r16_5 fun b21_6 =>
  q_sI G b21_6 101 (1 : Int32) x2 fun G =>
  q_gR G a0 7 2 fun r23_7 =>
  q_nn r23_7 fun b28_8 =>
  q_sI G b28_8 101 (2 : Int32) x3 fun G =>
  q_gR G a0 7 2 fun r30_9 =>
  q_nn r30_9 fun b36_10 =>
  q_sI G b36_10 101 (3 : Int32) x4 fun G =>
  q_gR G a0 7 2 fun r38_11 =>
  q_nn r38_11 fun b44_12 =>
  q_sI G b44_12 101 (4 : Int32) x5 fun G =>
  q_gR G a0 7 2 fun r46_13 =>
  q_nn r46_13 fun b52_14 =>
  q_sI G b52_14 101 (5 : Int32) x6 fun G =>
  some (G, ())
set_option maxRecDepth 100000 in
set_option maxHeartbeats 4000000 in
theorem bX6_write_0 {p : Program} {l : Launch} {e : Env} {s : State} {m : MethodId} {args : Array Value} {below : List Frame} {meth : Method} {c : Code} {E : mm_E} {N a0 : Nat} {res : mm_M × Unit} (X : mm_X p s m args meth c prog_1_method_31_code 7 "XorOverlay" tw_T E) (hr : meth.sig.returnType = none) {G : mm_M} {H : Heap} {locs : List Loc} {ls : Array Slot} {x1 : Int32} {x2 : Int32} {x3 : Int32} {x4 : Int32} {x5 : Int32} {x6 : Int32} (V : mm_V E s G H locs) (hl : lx_has ls 7 [(0, .inr (some a0)), (1, .inl x1), (2, .inl x2), (3, .inl x3), (4, .inl x4), (5, .inl x5), (6, .inl x6)]) (hp : pX6_write_0 N a0 G x1 x2 x3 x4 x5 x6 = some res) : W p l e rX6_write s m args below meth c H locs 0 0 (MQ below (mm_Qv E res.1) args s 0 0 (mm_A E)) (F0 m 0 ls []) := by
  have hx := X.1.1
  have hb := X.1.2.1
  unfold pX6_write_0 at hp
  refine x_aload_n X dX6_write_0 hl 0 rfl rfl ?_
  refine q_getR (ci := 6) X V inX6 rfl (by decide) rfl 2 (by decide) rfl (tw_1 38 rfl rfl) rfl dX6_write_1 hp (fun r1_1 hp => ?_)
  refine lv_iconst (v := (-1 : Int32)) hx hb dX6_write_4 (by decide) ?_
  obtain ⟨⟨G, u⟩, hq, hp⟩ := q_cl_of hp
  dsimp only at hp
  refine q_gov (cells' := 0) (slots' := 0) (va_runS (As := [va_rf r1_1, .int (-1 : Int32)]) (rest := []) X.1 (cJ7_fill l E hq) (tw_cwS 2 X.1.2.2.2.2 (tw_2 97 rfl rfl) kJ7_fill.2.1 kJ7_fill.2.2 kJ7_fill.1 rfl rfl hJ7_fill ⟨Nat.le_of_ble_eq_true rfl, Nat.le_of_ble_eq_true rfl⟩) (mm_preS X V) rfl rfl hl.1 rfl (lv_room (Nat.le_of_ble_eq_true rfl)) dX6_write_5 ⟨by decide, by decide⟩) V ⟨rfl, rfl⟩ (fun H locs V => ?_)
  refine x_aload_n X dX6_write_8 hl 0 rfl rfl ?_
  refine q_getR (ci := 6) X V inX6 rfl (by decide) rfl 2 (by decide) rfl (tw_1 38 rfl rfl) rfl dX6_write_9 hp (fun r9_3 hp => ?_)
  refine lv_iconst (v := (0 : Int32)) hx hb dX6_write_12 (by decide) ?_
  refine x_iload_n X dX6_write_13 hl 1 rfl rfl ?_
  obtain ⟨b14_4, e0, hp2⟩ := q_nn_of hp
  clear hp; subst e0; have hp := hp2; clear hp2
  refine q_iast X V dX6_write_14 hp (fun G H locs V hp => ?_)
  refine x_aload_n X dX6_write_15 hl 0 rfl rfl ?_
  refine q_getR (ci := 6) X V inX6 rfl (by decide) rfl 2 (by decide) rfl (tw_1 38 rfl rfl) rfl dX6_write_16 hp (fun r16_5 hp => ?_)
  refine lv_iconst (v := (1 : Int32)) hx hb dX6_write_19 (by decide) ?_
  refine x_iload_n X dX6_write_20 hl 2 rfl rfl ?_
  obtain ⟨b21_6, e0, hp2⟩ := q_nn_of hp
  clear hp; subst e0; have hp := hp2; clear hp2
  refine q_iast X V dX6_write_21 hp (fun G H locs V hp => ?_)
  refine x_aload_n X dX6_write_22 hl 0 rfl rfl ?_
  refine q_getR (ci := 6) X V inX6 rfl (by decide) rfl 2 (by decide) rfl (tw_1 38 rfl rfl) rfl dX6_write_23 hp (fun r23_7 hp => ?_)
  refine lv_iconst (v := (2 : Int32)) hx hb dX6_write_26 (by decide) ?_
  refine x_iload_n X dX6_write_27 hl 3 rfl rfl ?_
  obtain ⟨b28_8, e0, hp2⟩ := q_nn_of hp
  clear hp; subst e0; have hp := hp2; clear hp2
  refine q_iast X V dX6_write_28 hp (fun G H locs V hp => ?_)
  refine x_aload_n X dX6_write_29 hl 0 rfl rfl ?_
  refine q_getR (ci := 6) X V inX6 rfl (by decide) rfl 2 (by decide) rfl (tw_1 38 rfl rfl) rfl dX6_write_30 hp (fun r30_9 hp => ?_)
  refine lv_iconst (v := (3 : Int32)) hx hb dX6_write_33 (by decide) ?_
  refine x_iload X dX6_write_34 hl 4 rfl ?_
  obtain ⟨b36_10, e0, hp2⟩ := q_nn_of hp
  clear hp; subst e0; have hp := hp2; clear hp2
  refine q_iast X V dX6_write_36 hp (fun G H locs V hp => ?_)
  refine x_aload_n X dX6_write_37 hl 0 rfl rfl ?_
  refine q_getR (ci := 6) X V inX6 rfl (by decide) rfl 2 (by decide) rfl (tw_1 38 rfl rfl) rfl dX6_write_38 hp (fun r38_11 hp => ?_)
  refine lv_iconst (v := (4 : Int32)) hx hb dX6_write_41 (by decide) ?_
  refine x_iload X dX6_write_42 hl 5 rfl ?_
  obtain ⟨b44_12, e0, hp2⟩ := q_nn_of hp
  clear hp; subst e0; have hp := hp2; clear hp2
  refine q_iast X V dX6_write_44 hp (fun G H locs V hp => ?_)
  refine x_aload_n X dX6_write_45 hl 0 rfl rfl ?_
  refine q_getR (ci := 6) X V inX6 rfl (by decide) rfl 2 (by decide) rfl (tw_1 38 rfl rfl) rfl dX6_write_46 hp (fun r46_13 hp => ?_)
  refine lv_iconst (v := (5 : Int32)) hx hb dX6_write_49 (by decide) ?_
  refine x_iload X dX6_write_50 hl 6 rfl ?_
  obtain ⟨b52_14, e0, hp2⟩ := q_nn_of hp
  clear hp; subst e0; have hp := hp2; clear hp2
  refine q_iast X V dX6_write_52 hp (fun G H locs V hp => ?_)
  exact q_vret X V hr ⟨by decide, by decide⟩ dX6_write_53 hp
theorem cX6_write (l : Launch) (E : mm_E) {N a0 : Nat} {G : mm_M} {x1 : Int32} {x2 : Int32} {x3 : Int32} {x4 : Int32} {x5 : Int32} {x6 : Int32} {res : mm_M × Unit} (hp : pX6_write_0 N a0 G x1 x2 x3 x4 x5 x6 = some res) : Met l yX6_write (Cond.code yX6_write prog_1_method_31_code 7 none :: tw_T) rX6_write (mm_Pc E G [.ref a0, .int x1, .int x2, .int x3, .int x4, .int x5, .int x6]) (mm_Qv E res.1) 0 0 (mm_A E) :=
  mm_met (own := "XorOverlay") E G [.inr (some a0), .inl x1, .inl x2, .inl x3, .inl x4, .inl x5, .inl x6] (by decide) rfl rfl (Nat.le_of_ble_eq_true rfl) (fun p e s m args below meth c ls X hr hi V hl => bX6_write_0 X hr V hl hp)
abbrev yX2_addOrLose : MethodName := ⟨"XorOverlay$Line", "addOrLose", "([I)V"⟩
abbrev rX2_addOrLose : Room := { frames := 1, cells := 0, slots := 0, locals := 30 }
theorem kX2_addOrLose : Cond.code yX2_addOrLose prog_4_method_4_code 2 none ∈ tw_T ∧ Cond.instanceMethod yX2_addOrLose ∈ tw_T ∧ Cond.selects "XorOverlay$Line" yX2_addOrLose yX2_addOrLose ∈ tw_T ∧ Cond.initialized "XorOverlay$Line" ∈ tw_T := ⟨(tw_2 103 rfl rfl), (tw_2 101 rfl rfl), (tw_2 102 rfl rfl), (tw_1 2 rfl rfl)⟩
theorem hX2_addOrLose : yX2_addOrLose.cls = "XorOverlay$Line" ∧ yX2_addOrLose.cls ≠ "java/lang/invoke/MethodHandle" ∧ yX2_addOrLose.cls ≠ "java/lang/invoke/VarHandle" ∧ (parseMethodDescriptor yX2_addOrLose.desc).map (fun d => d.parameters.length) = some 1 := by decide +kernel
theorem dX2_addOrLose_0 : decode prog_4_method_4_code 0 = .ok (.aload_n 0, 1) := by decide +kernel
theorem dX2_addOrLose_1 : decode prog_4_method_4_code 1 = .ok (.getfield 15, 3) := by decide +kernel
theorem dX2_addOrLose_4 : decode prog_4_method_4_code 4 = .ok (.bipush 24, 2) := by decide +kernel
theorem dX2_addOrLose_6 : decode prog_4_method_4_code 6 = .ok (.if_icmp .ge 31, 3) := by decide +kernel
theorem dX2_addOrLose_9 : decode prog_4_method_4_code 9 = .ok (.aload_n 1, 1) := by decide +kernel
theorem dX2_addOrLose_10 : decode prog_4_method_4_code 10 = .ok (.iconst 0, 1) := by decide +kernel
theorem dX2_addOrLose_11 : decode prog_4_method_4_code 11 = .ok (.aload_n 0, 1) := by decide +kernel
theorem dX2_addOrLose_12 : decode prog_4_method_4_code 12 = .ok (.getfield 11, 3) := by decide +kernel
theorem dX2_addOrLose_15 : decode prog_4_method_4_code 15 = .ok (.aload_n 0, 1) := by decide +kernel
theorem dX2_addOrLose_16 : decode prog_4_method_4_code 16 = .ok (.getfield 15, 3) := by decide +kernel
theorem dX2_addOrLose_19 : decode prog_4_method_4_code 19 = .ok (.bipush 12, 2) := by decide +kernel
theorem dX2_addOrLose_21 : decode prog_4_method_4_code 21 = .ok (.imul, 1) := by decide +kernel
theorem dX2_addOrLose_22 : decode prog_4_method_4_code 22 = .ok (.bipush 12, 2) := by decide +kernel
theorem dX2_addOrLose_24 : decode prog_4_method_4_code 24 = .ok (.invokestatic 19, 3) := by decide +kernel
theorem dX2_addOrLose_27 : decode prog_4_method_4_code 27 = .ok (.aload_n 0, 1) := by decide +kernel
theorem dX2_addOrLose_28 : decode prog_4_method_4_code 28 = .ok (.dup, 1) := by decide +kernel
theorem dX2_addOrLose_29 : decode prog_4_method_4_code 29 = .ok (.getfield 15, 3) := by decide +kernel
theorem dX2_addOrLose_32 : decode prog_4_method_4_code 32 = .ok (.iconst 1, 1) := by decide +kernel
theorem dX2_addOrLose_33 : decode prog_4_method_4_code 33 = .ok (.iadd, 1) := by decide +kernel
theorem dX2_addOrLose_34 : decode prog_4_method_4_code 34 = .ok (.putfield 15, 3) := by decide +kernel
theorem dX2_addOrLose_37 : decode prog_4_method_4_code 37 = .ok (.return_, 1) := by decide +kernel
def pX2_addOrLose_0 (N a0 : Nat) (G : mm_M) (x1 : Option Nat) : Option (mm_M × Unit) :=
  q_gI G a0 3 1 fun v1_1 =>
  if (24 : Int32) ≤ v1_1 then
    some (G, ())
  else
    q_gR G a0 3 0 fun r12_2 =>
    q_gI G a0 3 1 fun v16_3 =>
    q_nn r12_2 fun b24_4 =>
    q_nn x1 fun b24_5 =>
    q_cpy G b24_5 (0 : Int32) b24_4 (v16_3 * (12 : Int32)) (12 : Int32) fun G =>
    q_gI G a0 3 1 fun v29_6 =>
    q_pI G a0 3 1 (v29_6 + (1 : Int32)) fun G =>
    some (G, ())
set_option maxRecDepth 100000 in
set_option maxHeartbeats 4000000 in
theorem bX2_addOrLose_0 {p : Program} {l : Launch} {e : Env} {s : State} {m : MethodId} {args : Array Value} {below : List Frame} {meth : Method} {c : Code} {E : mm_E} {N a0 : Nat} {res : mm_M × Unit} (X : mm_X p s m args meth c prog_4_method_4_code 2 "XorOverlay$Line" tw_T E) (hr : meth.sig.returnType = none) {G : mm_M} {H : Heap} {locs : List Loc} {ls : Array Slot} {x1 : Option Nat} (V : mm_V E s G H locs) (hl : lx_has ls 2 [(0, .inr (some a0)), (1, .inr x1)]) (hp : pX2_addOrLose_0 N a0 G x1 = some res) : W p l e rX2_addOrLose s m args below meth c H locs 0 0 (MQ below (mm_Qv E res.1) args s 0 0 (mm_A E)) (F0 m 0 ls []) := by
  have hx := X.1.1
  have hb := X.1.2.1
  unfold pX2_addOrLose_0 at hp
  refine x_aload_n X dX2_addOrLose_0 hl 0 rfl rfl ?_
  refine q_getI (ci := 2) X V inX2 rfl (by decide) rfl 1 (by decide) rfl (tw_1 28 rfl rfl) rfl dX2_addOrLose_1 hp (fun v1_1 hp => ?_)
  refine lv_bipush (v := (24 : Int32)) hx hb dX2_addOrLose_4 (by decide) ?_
  refine q_if hp (lv_icmp_ge (tgt := 37) hx hb dX2_addOrLose_6 (by decide)) (fun hp => ?_) (fun hp => ?_)
  · exact q_vret X V hr ⟨by decide, by decide⟩ dX2_addOrLose_37 hp
  · refine x_aload_n X dX2_addOrLose_9 hl 1 rfl rfl ?_
    refine lv_iconst (v := (0 : Int32)) hx hb dX2_addOrLose_10 (by decide) ?_
    refine x_aload_n X dX2_addOrLose_11 hl 0 rfl rfl ?_
    refine q_getR (ci := 2) X V inX2 rfl (by decide) rfl 0 (by decide) rfl (tw_1 27 rfl rfl) rfl dX2_addOrLose_12 hp (fun r12_2 hp => ?_)
    refine x_aload_n X dX2_addOrLose_15 hl 0 rfl rfl ?_
    refine q_getI (ci := 2) X V inX2 rfl (by decide) rfl 1 (by decide) rfl (tw_1 28 rfl rfl) rfl dX2_addOrLose_16 hp (fun v16_3 hp => ?_)
    refine lv_bipush (v := (12 : Int32)) hx hb dX2_addOrLose_19 (by decide) ?_
    refine lv_imul hx hb dX2_addOrLose_21 ?_
    refine lv_bipush (v := (12 : Int32)) hx hb dX2_addOrLose_22 (by decide) ?_
    obtain ⟨b24_4, e0, hp2⟩ := q_nn_of hp
    clear hp; subst e0; have hp := hp2; clear hp2
    obtain ⟨b24_5, e0, hp2⟩ := q_nn_of hp
    clear hp; subst e0; have hp := hp2; clear hp2
    refine q_copy X V hl.1 (tw_2 104 rfl rfl) (tw_2 106 rfl rfl) (tw_2 105 rfl rfl) (tw_1 10 rfl rfl) (by decide) (by decide) dX2_addOrLose_24 hp (fun G H locs V hp => ?_)
    refine x_aload_n X dX2_addOrLose_27 hl 0 rfl rfl ?_
    refine lv_dup hx hb dX2_addOrLose_28 (va_rf_cat _) ?_
    refine q_getI (ci := 2) X V inX2 rfl (by decide) rfl 1 (by decide) rfl (tw_1 28 rfl rfl) rfl dX2_addOrLose_29 hp (fun v29_6 hp => ?_)
    refine lv_iconst (v := (1 : Int32)) hx hb dX2_addOrLose_32 (by decide) ?_
    refine lv_iadd hx hb dX2_addOrLose_33 ?_
    refine q_putI (ci := 2) X V inX2 rfl tyX2 tyX2_ok nmX2 (by decide) rfl 1 (by decide) rfl (tw_1 28 rfl rfl) rfl (Or.inl rfl) .int rfl rfl rfl dX2_addOrLose_34 hp (fun G H locs V hp => ?_)
    exact q_vret X V hr ⟨by decide, by decide⟩ dX2_addOrLose_37 hp
theorem cX2_addOrLose (l : Launch) (E : mm_E) {N a0 : Nat} {G : mm_M} {x1 : Option Nat} {res : mm_M × Unit} (hp : pX2_addOrLose_0 N a0 G x1 = some res) : Met l yX2_addOrLose (Cond.code yX2_addOrLose prog_4_method_4_code 2 none :: tw_T) rX2_addOrLose (mm_Pc E G [.ref a0, va_rf x1]) (mm_Qv E res.1) 0 0 (mm_A E) :=
  mm_met (own := "XorOverlay$Line") E G [.inr (some a0), .inr x1] (by decide) rfl rfl (Nat.le_of_ble_eq_true rfl) (fun p e s m args below meth c ls X hr hi V hl => bX2_addOrLose_0 X hr V hl hp)
abbrev yX6_ask : MethodName := ⟨"XorOverlay", "ask", "(LXorOverlay$Peer;I)V"⟩
abbrev rX6_ask : Room := { frames := 2, cells := 0, slots := 0, locals := 51 }
theorem kX6_ask : Cond.code yX6_ask prog_1_method_29_code 5 none ∈ tw_T ∧ Cond.instanceMethod yX6_ask ∈ tw_T ∧ Cond.selects "XorOverlay" yX6_ask yX6_ask ∈ tw_T ∧ Cond.initialized "XorOverlay" ∈ tw_T := ⟨(tw_2 92 rfl rfl), (tw_2 91 rfl rfl), (tw_s 7 rfl rfl), (tw_1 1 rfl rfl)⟩
theorem hX6_ask : yX6_ask.cls = "XorOverlay" ∧ yX6_ask.cls ≠ "java/lang/invoke/MethodHandle" ∧ yX6_ask.cls ≠ "java/lang/invoke/VarHandle" ∧ (parseMethodDescriptor yX6_ask.desc).map (fun d => d.parameters.length) = some 2 := by decide +kernel
theorem dX6_ask_0 : decode prog_1_method_29_code 0 = .ok (.aload_n 1, 1) := by decide +kernel
theorem dX6_ask_1 : decode prog_1_method_29_code 1 = .ok (.getfield 72, 3) := by decide +kernel
theorem dX6_ask_4 : decode prog_1_method_29_code 4 = .ok (.astore_n 3, 1) := by decide +kernel
theorem dX6_ask_5 : decode prog_1_method_29_code 5 = .ok (.aload_n 3, 1) := by decide +kernel
theorem dX6_ask_6 : decode prog_1_method_29_code 6 = .ok (.getfield 135, 3) := by decide +kernel
theorem dX6_ask_9 : decode prog_1_method_29_code 9 = .ok (.iload_n 2, 1) := by decide +kernel
theorem dX6_ask_10 : decode prog_1_method_29_code 10 = .ok (.iconst 1, 1) := by decide +kernel
theorem dX6_ask_11 : decode prog_1_method_29_code 11 = .ok (.iastore, 1) := by decide +kernel
theorem dX6_ask_12 : decode prog_1_method_29_code 12 = .ok (.aload_n 3, 1) := by decide +kernel
theorem dX6_ask_13 : decode prog_1_method_29_code 13 = .ok (.getfield 219, 3) := by decide +kernel
theorem dX6_ask_16 : decode prog_1_method_29_code 16 = .ok (.iload_n 2, 1) := by decide +kernel
theorem dX6_ask_17 : decode prog_1_method_29_code 17 = .ok (.aload_n 0, 1) := by decide +kernel
theorem dX6_ask_18 : decode prog_1_method_29_code 18 = .ok (.getfield 33, 3) := by decide +kernel
theorem dX6_ask_21 : decode prog_1_method_29_code 21 = .ok (.iastore, 1) := by decide +kernel
theorem dX6_ask_22 : decode prog_1_method_29_code 22 = .ok (.aload_n 3, 1) := by decide +kernel
theorem dX6_ask_23 : decode prog_1_method_29_code 23 = .ok (.getfield 213, 3) := by decide +kernel
theorem dX6_ask_26 : decode prog_1_method_29_code 26 = .ok (.iconst 1, 1) := by decide +kernel
theorem dX6_ask_27 : decode prog_1_method_29_code 27 = .ok (.if_icmp .ne 7, 3) := by decide +kernel
theorem dX6_ask_30 : decode prog_1_method_29_code 30 = .ok (.iconst 1, 1) := by decide +kernel
theorem dX6_ask_31 : decode prog_1_method_29_code 31 = .ok (.goto 4, 3) := by decide +kernel
theorem dX6_ask_34 : decode prog_1_method_29_code 34 = .ok (.iconst 0, 1) := by decide +kernel
theorem dX6_ask_35 : decode prog_1_method_29_code 35 = .ok (.istore 4, 2) := by decide +kernel
theorem dX6_ask_37 : decode prog_1_method_29_code 37 = .ok (.aload_n 0, 1) := by decide +kernel
theorem dX6_ask_38 : decode prog_1_method_29_code 38 = .ok (.iload 4, 2) := by decide +kernel
theorem dX6_ask_40 : decode prog_1_method_29_code 40 = .ok (.aload_n 1, 1) := by decide +kernel
theorem dX6_ask_41 : decode prog_1_method_29_code 41 = .ok (.getfield 180, 3) := by decide +kernel
theorem dX6_ask_44 : decode prog_1_method_29_code 44 = .ok (.aload_n 3, 1) := by decide +kernel
theorem dX6_ask_45 : decode prog_1_method_29_code 45 = .ok (.getfield 132, 3) := by decide +kernel
theorem dX6_ask_48 : decode prog_1_method_29_code 48 = .ok (.iload_n 2, 1) := by decide +kernel
theorem dX6_ask_49 : decode prog_1_method_29_code 49 = .ok (.iaload, 1) := by decide +kernel
theorem dX6_ask_50 : decode prog_1_method_29_code 50 = .ok (.aload_n 3, 1) := by decide +kernel
theorem dX6_ask_51 : decode prog_1_method_29_code 51 = .ok (.getfield 222, 3) := by decide +kernel
theorem dX6_ask_54 : decode prog_1_method_29_code 54 = .ok (.aload_n 3, 1) := by decide +kernel
theorem dX6_ask_55 : decode prog_1_method_29_code 55 = .ok (.getfield 225, 3) := by decide +kernel
theorem dX6_ask_58 : decode prog_1_method_29_code 58 = .ok (.iconst (-1), 1) := by decide +kernel
theorem dX6_ask_59 : decode prog_1_method_29_code 59 = .ok (.invokevirtual 228, 3) := by decide +kernel
theorem dX6_ask_62 : decode prog_1_method_29_code 62 = .ok (.aload_n 0, 1) := by decide +kernel
theorem dX6_ask_63 : decode prog_1_method_29_code 63 = .ok (.getfield 18, 3) := by decide +kernel
theorem dX6_ask_66 : decode prog_1_method_29_code 66 = .ok (.aload_n 0, 1) := by decide +kernel
theorem dX6_ask_67 : decode prog_1_method_29_code 67 = .ok (.getfield 22, 3) := by decide +kernel
theorem dX6_ask_70 : decode prog_1_method_29_code 70 = .ok (.invokevirtual 232, 3) := by decide +kernel
theorem dX6_ask_73 : decode prog_1_method_29_code 73 = .ok (.return_, 1) := by decide +kernel
def pX6_ask_35 (N a0 : Nat) (G : mm_M) (x1 : Option Nat) (x2 : Int32) (x3 : Option Nat) (s0 : Int32) : Option (mm_M × Unit) :=
  q_nn x1 fun b41_10 =>
  q_gI G b41_10 5 0 fun v41_11 =>
  q_nn x3 fun b45_12 =>
  q_gR G b45_12 4 0 fun r45_13 =>
  q_nn r45_13 fun b49_14 =>
  q_aI G b49_14 101 x2 fun v49_15 =>
  q_gI G b45_12 4 8 fun v51_16 =>
  q_gI G b45_12 4 7 fun v55_17 =>
  q_is G a0 7 <|
  q_cl (pX6_write_0 N a0 G s0 v41_11 v49_15 v51_16 v55_17 (-1 : Int32)) fun G _ =>
  q_gR G a0 7 1 fun r63_19 =>
  q_gR G a0 7 2 fun r67_20 =>
  q_nn r63_19 fun b70_21 =>
  q_is G b70_21 3 <|
  q_cl (pX2_addOrLose_0 N b70_21 G r67_20) fun G _ =>
  some (G, ())
set_option maxRecDepth 100000 in
set_option maxHeartbeats 4000000 in
theorem bX6_ask_35 {p : Program} {l : Launch} {e : Env} {s : State} {m : MethodId} {args : Array Value} {below : List Frame} {meth : Method} {c : Code} {E : mm_E} {N a0 : Nat} {res : mm_M × Unit} (X : mm_X p s m args meth c prog_1_method_29_code 5 "XorOverlay" tw_T E) (hr : meth.sig.returnType = none) {G : mm_M} {H : Heap} {locs : List Loc} {ls : Array Slot} {x1 : Option Nat} {x2 : Int32} {x3 : Option Nat} {s0 : Int32} (V : mm_V E s G H locs) (hl : lx_has ls 5 [(0, .inr (some a0)), (1, .inr x1), (2, .inl x2), (3, .inr x3)]) (hp : pX6_ask_35 N a0 G x1 x2 x3 s0 = some res) : W p l e rX6_ask s m args below meth c H locs 0 0 (MQ below (mm_Qv E res.1) args s 0 0 (mm_A E)) (F0 m 35 ls [.int s0]) := by
  have hx := X.1.1
  have hb := X.1.2.1
  unfold pX6_ask_35 at hp
  refine x_istore (lst' := [(4, .inl s0), (0, .inr (some a0)), (1, .inr x1), (2, .inl x2), (3, .inr x3)]) X dX6_ask_35 hl (by decide) rfl (fun ls hl => ?_)
  refine x_aload_n X dX6_ask_37 hl 1 rfl rfl ?_
  refine x_iload X dX6_ask_38 hl 0 rfl ?_
  refine x_aload_n X dX6_ask_40 hl 2 rfl rfl ?_
  obtain ⟨b41_10, e0, hp2⟩ := q_nn_of hp
  clear hp; subst e0; have hp := hp2; clear hp2
  refine q_getI (ci := 4) X V inX4 rfl (by decide) rfl 0 (by decide) rfl (tw_1 213 rfl rfl) rfl dX6_ask_41 hp (fun v41_11 hp => ?_)
  refine x_aload_n X dX6_ask_44 hl 4 rfl rfl ?_
  obtain ⟨b45_12, e0, hp2⟩ := q_nn_of hp
  clear hp; subst e0; have hp := hp2; clear hp2
  refine q_getR (ci := 3) X V inX3 rfl (by decide) rfl 0 (by decide) rfl (tw_1 144 rfl rfl) rfl dX6_ask_45 hp (fun r45_13 hp => ?_)
  refine x_iload_n X dX6_ask_48 hl 3 rfl rfl ?_
  obtain ⟨b49_14, e0, hp2⟩ := q_nn_of hp
  clear hp; subst e0; have hp := hp2; clear hp2
  refine q_iald X V dX6_ask_49 hp (fun v49_15 hp => ?_)
  refine x_aload_n X dX6_ask_50 hl 4 rfl rfl ?_
  refine q_getI (ci := 3) X V inX3 rfl (by decide) rfl 8 (by decide) rfl (tw_1 160 rfl rfl) rfl dX6_ask_51 hp (fun v51_16 hp => ?_)
  refine x_aload_n X dX6_ask_54 hl 4 rfl rfl ?_
  refine q_getI (ci := 3) X V inX3 rfl (by decide) rfl 7 (by decide) rfl (tw_1 158 rfl rfl) rfl dX6_ask_55 hp (fun v55_17 hp => ?_)
  refine lv_iconst (v := (-1 : Int32)) hx hb dX6_ask_58 (by decide) ?_
  obtain ⟨hk, hp⟩ := q_is_of hp
  obtain ⟨⟨G, u⟩, hq, hp⟩ := q_cl_of hp
  dsimp only at hp
  refine q_gov (cells' := 0) (slots' := 0) (va_runV (As := [.int s0, .int v41_11, .int v49_15, .int v51_16, .int v55_17, .int (-1 : Int32)]) (rest := []) X.1 (cX6_write l E hq) (tw_cwV 6 X.1.2.2.2.2 (tw_2 93 rfl rfl) kX6_write.2.1 kX6_write.2.2.1 kX6_write.2.2.2 kX6_write.1 rfl rfl hX6_write ⟨Nat.le_of_ble_eq_true rfl, Nat.le_of_ble_eq_true rfl⟩) (mm_preV X V rfl (by decide) rfl hk) rfl rfl hl.1 rfl (lv_room (Nat.le_of_ble_eq_true rfl)) dX6_ask_59 ⟨by decide, by decide⟩) V ⟨rfl, rfl⟩ (fun H locs V => ?_)
  refine x_aload_n X dX6_ask_62 hl 1 rfl rfl ?_
  refine q_getR (ci := 6) X V inX6 rfl (by decide) rfl 1 (by decide) rfl (tw_1 37 rfl rfl) rfl dX6_ask_63 hp (fun r63_19 hp => ?_)
  refine x_aload_n X dX6_ask_66 hl 1 rfl rfl ?_
  refine q_getR (ci := 6) X V inX6 rfl (by decide) rfl 2 (by decide) rfl (tw_1 38 rfl rfl) rfl dX6_ask_67 hp (fun r67_20 hp => ?_)
  obtain ⟨b70_21, e0, hp2⟩ := q_nn_of hp
  clear hp; subst e0; have hp := hp2; clear hp2
  obtain ⟨hk, hp⟩ := q_is_of hp
  obtain ⟨⟨G, u⟩, hq, hp⟩ := q_cl_of hp
  dsimp only at hp
  refine q_gov (cells' := 0) (slots' := 0) (va_runV (As := [va_rf r67_20]) (rest := []) X.1 (cX2_addOrLose l E hq) (tw_cwV 1 X.1.2.2.2.2 (tw_2 100 rfl rfl) kX2_addOrLose.2.1 kX2_addOrLose.2.2.1 kX2_addOrLose.2.2.2 kX2_addOrLose.1 rfl rfl hX2_addOrLose ⟨Nat.le_of_ble_eq_true rfl, Nat.le_of_ble_eq_true rfl⟩) (mm_preV X V rfl (by decide) rfl hk) rfl rfl hl.1 rfl (lv_room (Nat.le_of_ble_eq_true rfl)) dX6_ask_70 ⟨by decide, by decide⟩) V ⟨rfl, rfl⟩ (fun H locs V => ?_)
  exact q_vret X V hr ⟨by decide, by decide⟩ dX6_ask_73 hp
def pX6_ask_0 (N a0 : Nat) (G : mm_M) (x1 : Option Nat) (x2 : Int32) : Option (mm_M × Unit) :=
  q_nn x1 fun b1_1 =>
  q_gR G b1_1 5 2 fun r1_2 =>
  q_nn r1_2 fun b6_3 =>
  q_gR G b6_3 4 1 fun r6_4 =>
  q_nn r6_4 fun b11_5 =>
  q_sI G b11_5 101 x2 (1 : Int32) fun G =>
  q_gR G b6_3 4 2 fun r13_6 =>
  q_gI G a0 7 5 fun v18_7 =>
  q_nn r13_6 fun b21_8 =>
  q_sI G b21_8 101 x2 v18_7 fun G =>
  q_gI G b6_3 4 6 fun v23_9 =>
  if v23_9 = (1 : Int32) then
    pX6_ask_35 N a0 G (some b1_1) x2 (some b6_3) (1 : Int32)
  else
    pX6_ask_35 N a0 G (some b1_1) x2 (some b6_3) (0 : Int32)
set_option maxRecDepth 100000 in
set_option maxHeartbeats 4000000 in
theorem bX6_ask_0 {p : Program} {l : Launch} {e : Env} {s : State} {m : MethodId} {args : Array Value} {below : List Frame} {meth : Method} {c : Code} {E : mm_E} {N a0 : Nat} {res : mm_M × Unit} (X : mm_X p s m args meth c prog_1_method_29_code 5 "XorOverlay" tw_T E) (hr : meth.sig.returnType = none) {G : mm_M} {H : Heap} {locs : List Loc} {ls : Array Slot} {x1 : Option Nat} {x2 : Int32} (V : mm_V E s G H locs) (hl : lx_has ls 5 [(0, .inr (some a0)), (1, .inr x1), (2, .inl x2)]) (hp : pX6_ask_0 N a0 G x1 x2 = some res) : W p l e rX6_ask s m args below meth c H locs 0 0 (MQ below (mm_Qv E res.1) args s 0 0 (mm_A E)) (F0 m 0 ls []) := by
  have hx := X.1.1
  have hb := X.1.2.1
  unfold pX6_ask_0 at hp
  refine x_aload_n X dX6_ask_0 hl 1 rfl rfl ?_
  obtain ⟨b1_1, e0, hp2⟩ := q_nn_of hp
  clear hp; subst e0; have hp := hp2; clear hp2
  refine q_getR (ci := 4) X V inX4 rfl (by decide) rfl 2 (by decide) rfl (tw_1 217 rfl rfl) rfl dX6_ask_1 hp (fun r1_2 hp => ?_)
  refine x_astore_n (lst' := [(3, .inr r1_2), (0, .inr (some a0)), (1, .inr (some b1_1)), (2, .inl x2)]) X dX6_ask_4 hl rfl (by decide) rfl (fun ls hl => ?_)
  refine x_aload_n X dX6_ask_5 hl 0 rfl rfl ?_
  obtain ⟨b6_3, e0, hp2⟩ := q_nn_of hp
  clear hp; subst e0; have hp := hp2; clear hp2
  refine q_getR (ci := 3) X V inX3 rfl (by decide) rfl 1 (by decide) rfl (tw_1 146 rfl rfl) rfl dX6_ask_6 hp (fun r6_4 hp => ?_)
  refine x_iload_n X dX6_ask_9 hl 3 rfl rfl ?_
  refine lv_iconst (v := (1 : Int32)) hx hb dX6_ask_10 (by decide) ?_
  obtain ⟨b11_5, e0, hp2⟩ := q_nn_of hp
  clear hp; subst e0; have hp := hp2; clear hp2
  refine q_iast X V dX6_ask_11 hp (fun G H locs V hp => ?_)
  refine x_aload_n X dX6_ask_12 hl 0 rfl rfl ?_
  refine q_getR (ci := 3) X V inX3 rfl (by decide) rfl 2 (by decide) rfl (tw_1 148 rfl rfl) rfl dX6_ask_13 hp (fun r13_6 hp => ?_)
  refine x_iload_n X dX6_ask_16 hl 3 rfl rfl ?_
  refine x_aload_n X dX6_ask_17 hl 1 rfl rfl ?_
  refine q_getI (ci := 6) X V inX6 rfl (by decide) rfl 5 (by decide) rfl (tw_1 41 rfl rfl) rfl dX6_ask_18 hp (fun v18_7 hp => ?_)
  obtain ⟨b21_8, e0, hp2⟩ := q_nn_of hp
  clear hp; subst e0; have hp := hp2; clear hp2
  refine q_iast X V dX6_ask_21 hp (fun G H locs V hp => ?_)
  refine x_aload_n X dX6_ask_22 hl 0 rfl rfl ?_
  refine q_getI (ci := 3) X V inX3 rfl (by decide) rfl 6 (by decide) rfl (tw_1 156 rfl rfl) rfl dX6_ask_23 hp (fun v23_9 hp => ?_)
  refine lv_iconst (v := (1 : Int32)) hx hb dX6_ask_26 (by decide) ?_
  refine q_ifn hp (lv_icmp_ne (tgt := 34) hx hb dX6_ask_27 (by decide)) (fun hp => ?_) (fun hp => ?_)
  · refine lv_iconst (v := (0 : Int32)) hx hb dX6_ask_34 (by decide) ?_
    exact bX6_ask_35 X hr V (lx_sub hl [1, 2, 3, 0] rfl) hp
  · refine lv_iconst (v := (1 : Int32)) hx hb dX6_ask_30 (by decide) ?_
    refine lv_goto (tgt := 35) hx hb dX6_ask_31 (by decide) ?_
    exact bX6_ask_35 X hr V (lx_sub hl [1, 2, 3, 0] rfl) hp
theorem cX6_ask (l : Launch) (E : mm_E) {N a0 : Nat} {G : mm_M} {x1 : Option Nat} {x2 : Int32} {res : mm_M × Unit} (hp : pX6_ask_0 N a0 G x1 x2 = some res) : Met l yX6_ask (Cond.code yX6_ask prog_1_method_29_code 5 none :: tw_T) rX6_ask (mm_Pc E G [.ref a0, va_rf x1, .int x2]) (mm_Qv E res.1) 0 0 (mm_A E) :=
  mm_met (own := "XorOverlay") E G [.inr (some a0), .inr x1, .inl x2] (by decide) rfl rfl (Nat.le_of_ble_eq_true rfl) (fun p e s m args below meth c ls X hr hi V hl => bX6_ask_0 X hr V hl hp)
abbrev yX6_sendStores : MethodName := ⟨"XorOverlay", "sendStores", "(LXorOverlay$Peer;)V"⟩
abbrev rX6_sendStores : Room := { frames := 2, cells := 0, slots := 0, locals := 51 }
theorem kX6_sendStores : Cond.code yX6_sendStores prog_1_method_30_code 5 none ∈ tw_T ∧ Cond.instanceMethod yX6_sendStores ∈ tw_T ∧ Cond.selects "XorOverlay" yX6_sendStores yX6_sendStores ∈ tw_T ∧ Cond.initialized "XorOverlay" ∈ tw_T := ⟨(tw_2 111 rfl rfl), (tw_2 110 rfl rfl), (tw_s 9 rfl rfl), (tw_1 1 rfl rfl)⟩
theorem hX6_sendStores : yX6_sendStores.cls = "XorOverlay" ∧ yX6_sendStores.cls ≠ "java/lang/invoke/MethodHandle" ∧ yX6_sendStores.cls ≠ "java/lang/invoke/VarHandle" ∧ (parseMethodDescriptor yX6_sendStores.desc).map (fun d => d.parameters.length) = some 1 := by decide +kernel
theorem dX6_sendStores_0 : decode prog_1_method_30_code 0 = .ok (.aload_n 1, 1) := by decide +kernel
theorem dX6_sendStores_1 : decode prog_1_method_30_code 1 = .ok (.getfield 72, 3) := by decide +kernel
theorem dX6_sendStores_4 : decode prog_1_method_30_code 4 = .ok (.astore_n 2, 1) := by decide +kernel
theorem dX6_sendStores_5 : decode prog_1_method_30_code 5 = .ok (.iconst 0, 1) := by decide +kernel
theorem dX6_sendStores_6 : decode prog_1_method_30_code 6 = .ok (.istore_n 3, 1) := by decide +kernel
theorem dX6_sendStores_7 : decode prog_1_method_30_code 7 = .ok (.iconst 0, 1) := by decide +kernel
theorem dX6_sendStores_8 : decode prog_1_method_30_code 8 = .ok (.istore 4, 2) := by decide +kernel
theorem dX6_sendStores_10 : decode prog_1_method_30_code 10 = .ok (.iload 4, 2) := by decide +kernel
theorem dX6_sendStores_12 : decode prog_1_method_30_code 12 = .ok (.aload_n 2, 1) := by decide +kernel
theorem dX6_sendStores_13 : decode prog_1_method_30_code 13 = .ok (.getfield 236, 3) := by decide +kernel
theorem dX6_sendStores_16 : decode prog_1_method_30_code 16 = .ok (.if_icmp .ge 70, 3) := by decide +kernel
theorem dX6_sendStores_19 : decode prog_1_method_30_code 19 = .ok (.iload_n 3, 1) := by decide +kernel
theorem dX6_sendStores_20 : decode prog_1_method_30_code 20 = .ok (.iconst 3, 1) := by decide +kernel
theorem dX6_sendStores_21 : decode prog_1_method_30_code 21 = .ok (.if_icmp .ge 65, 3) := by decide +kernel
theorem dX6_sendStores_24 : decode prog_1_method_30_code 24 = .ok (.aload_n 2, 1) := by decide +kernel
theorem dX6_sendStores_25 : decode prog_1_method_30_code 25 = .ok (.getfield 135, 3) := by decide +kernel
theorem dX6_sendStores_28 : decode prog_1_method_30_code 28 = .ok (.iload 4, 2) := by decide +kernel
theorem dX6_sendStores_30 : decode prog_1_method_30_code 30 = .ok (.iaload, 1) := by decide +kernel
theorem dX6_sendStores_31 : decode prog_1_method_30_code 31 = .ok (.iconst 3, 1) := by decide +kernel
theorem dX6_sendStores_32 : decode prog_1_method_30_code 32 = .ok (.if_icmp .eq 48, 3) := by decide +kernel
theorem dX6_sendStores_35 : decode prog_1_method_30_code 35 = .ok (.aload_n 0, 1) := by decide +kernel
theorem dX6_sendStores_36 : decode prog_1_method_30_code 36 = .ok (.iconst 3, 1) := by decide +kernel
theorem dX6_sendStores_37 : decode prog_1_method_30_code 37 = .ok (.aload_n 1, 1) := by decide +kernel
theorem dX6_sendStores_38 : decode prog_1_method_30_code 38 = .ok (.getfield 180, 3) := by decide +kernel
theorem dX6_sendStores_41 : decode prog_1_method_30_code 41 = .ok (.aload_n 2, 1) := by decide +kernel
theorem dX6_sendStores_42 : decode prog_1_method_30_code 42 = .ok (.getfield 132, 3) := by decide +kernel
theorem dX6_sendStores_45 : decode prog_1_method_30_code 45 = .ok (.iload 4, 2) := by decide +kernel
theorem dX6_sendStores_47 : decode prog_1_method_30_code 47 = .ok (.iaload, 1) := by decide +kernel
theorem dX6_sendStores_48 : decode prog_1_method_30_code 48 = .ok (.aload_n 2, 1) := by decide +kernel
theorem dX6_sendStores_49 : decode prog_1_method_30_code 49 = .ok (.getfield 222, 3) := by decide +kernel
theorem dX6_sendStores_52 : decode prog_1_method_30_code 52 = .ok (.aload_n 2, 1) := by decide +kernel
theorem dX6_sendStores_53 : decode prog_1_method_30_code 53 = .ok (.getfield 225, 3) := by decide +kernel
theorem dX6_sendStores_56 : decode prog_1_method_30_code 56 = .ok (.aload_n 2, 1) := by decide +kernel
theorem dX6_sendStores_57 : decode prog_1_method_30_code 57 = .ok (.getfield 237, 3) := by decide +kernel
theorem dX6_sendStores_60 : decode prog_1_method_30_code 60 = .ok (.iload 4, 2) := by decide +kernel
theorem dX6_sendStores_62 : decode prog_1_method_30_code 62 = .ok (.iaload, 1) := by decide +kernel
theorem dX6_sendStores_63 : decode prog_1_method_30_code 63 = .ok (.invokevirtual 228, 3) := by decide +kernel
theorem dX6_sendStores_66 : decode prog_1_method_30_code 66 = .ok (.aload_n 0, 1) := by decide +kernel
theorem dX6_sendStores_67 : decode prog_1_method_30_code 67 = .ok (.getfield 18, 3) := by decide +kernel
theorem dX6_sendStores_70 : decode prog_1_method_30_code 70 = .ok (.aload_n 0, 1) := by decide +kernel
theorem dX6_sendStores_71 : decode prog_1_method_30_code 71 = .ok (.getfield 22, 3) := by decide +kernel
theorem dX6_sendStores_74 : decode prog_1_method_30_code 74 = .ok (.invokevirtual 232, 3) := by decide +kernel
theorem dX6_sendStores_77 : decode prog_1_method_30_code 77 = .ok (.iinc 3 1, 3) := by decide +kernel
theorem dX6_sendStores_80 : decode prog_1_method_30_code 80 = .ok (.iinc 4 1, 3) := by decide +kernel
theorem dX6_sendStores_83 : decode prog_1_method_30_code 83 = .ok (.goto (-73), 3) := by decide +kernel
theorem dX6_sendStores_86 : decode prog_1_method_30_code 86 = .ok (.return_, 1) := by decide +kernel
def pX6_sendStores_10_b (N a0 : Nat) (kb : mm_M → Option Nat → Option Nat → Int32 → Int32 → Option (mm_M × Unit)) (kx : mm_M → Option (mm_M × Unit)) (G : mm_M) (x1 : Option Nat) (x2 : Option Nat) (x3 : Int32) (x4 : Int32) : Option (mm_M × Unit) :=
  q_nn x2 fun b13_3 =>
  q_gI G b13_3 4 9 fun v13_4 =>
  if v13_4 ≤ x4 then
    kx G
  else
    if (3 : Int32) ≤ x3 then
      kx G
    else
      q_gR G b13_3 4 1 fun r25_5 =>
      q_nn r25_5 fun b30_6 =>
      q_aI G b30_6 101 x4 fun v30_7 =>
      if v30_7 = (3 : Int32) then
        kb G x1 (some b13_3) x3 (x4 + (1 : Int32))
      else
        q_nn x1 fun b38_8 =>
        q_gI G b38_8 5 0 fun v38_9 =>
        q_gR G b13_3 4 0 fun r42_10 =>
        q_nn r42_10 fun b47_11 =>
        q_aI G b47_11 101 x4 fun v47_12 =>
        q_gI G b13_3 4 8 fun v49_13 =>
        q_gI G b13_3 4 7 fun v53_14 =>
        q_gR G b13_3 4 3 fun r57_15 =>
        q_nn r57_15 fun b62_16 =>
        q_aI G b62_16 101 x4 fun v62_17 =>
        q_is G a0 7 <|
        q_cl (pX6_write_0 N a0 G (3 : Int32) v38_9 v47_12 v49_13 v53_14 v62_17) fun G _ =>
        q_gR G a0 7 1 fun r67_19 =>
        q_gR G a0 7 2 fun r71_20 =>
        q_nn r67_19 fun b74_21 =>
        q_is G b74_21 3 <|
        q_cl (pX2_addOrLose_0 N b74_21 G r71_20) fun G _ =>
        kb G (some b38_8) (some b13_3) (x3 + (1 : Int32)) (x4 + (1 : Int32))
def pX6_sendStores_10 (N a0 : Nat) (kx : mm_M → Option (mm_M × Unit)) : Nat → mm_M → Option Nat → Option Nat → Int32 → Int32 → Option (mm_M × Unit)
  | 0 => fun _ _ _ _ _ => none
  | n + 1 => pX6_sendStores_10_b N a0 (pX6_sendStores_10 N a0 kx n) kx
set_option maxRecDepth 100000 in
set_option maxHeartbeats 4000000 in
theorem bX6_sendStores_10 {p : Program} {l : Launch} {e : Env} {s : State} {m : MethodId} {args : Array Value} {below : List Frame} {meth : Method} {c : Code} {E : mm_E} {N a0 : Nat} {res : mm_M × Unit} (X : mm_X p s m args meth c prog_1_method_30_code 5 "XorOverlay" tw_T E) (hr : meth.sig.returnType = none) {kx : mm_M → Option (mm_M × Unit)} (hkx : ∀ (G : mm_M) (H : Heap) (locs : List Loc) (ls : Array Slot), mm_V E s G H locs → lx_has ls 5 [(0, .inr (some a0))] → kx G = some res → W p l e rX6_sendStores s m args below meth c H locs 0 0 (MQ below (mm_Qv E res.1) args s 0 0 (mm_A E)) (F0 m 86 ls [])) :
    ∀ (n : Nat) (G : mm_M) (H : Heap) (locs : List Loc) (ls : Array Slot) (x1 : Option Nat) (x2 : Option Nat) (x3 : Int32) (x4 : Int32), mm_V E s G H locs → lx_has ls 5 [(0, .inr (some a0)), (1, .inr x1), (2, .inr x2), (3, .inl x3), (4, .inl x4)] → pX6_sendStores_10 N a0 kx n G x1 x2 x3 x4 = some res → W p l e rX6_sendStores s m args below meth c H locs 0 0 (MQ below (mm_Qv E res.1) args s 0 0 (mm_A E)) (F0 m 10 ls []) := by
  have hx := X.1.1
  have hb := X.1.2.1
  intro n
  induction n with
  | zero =>
    intro G H locs ls x1 x2 x3 x4 V hl hp
    cases hp
  | succ n ih =>
    intro G H locs ls x1 x2 x3 x4 V hl hp
    have hp : pX6_sendStores_10_b N a0 (pX6_sendStores_10 N a0 kx n) kx G x1 x2 x3 x4 = some res := hp
    unfold pX6_sendStores_10_b at hp
    refine x_iload X dX6_sendStores_10 hl 4 rfl ?_
    refine x_aload_n X dX6_sendStores_12 hl 2 rfl rfl ?_
    obtain ⟨b13_3, e0, hp2⟩ := q_nn_of hp
    clear hp; subst e0; have hp := hp2; clear hp2
    refine q_getI (ci := 3) X V inX3 rfl (by decide) rfl 9 (by decide) rfl (tw_1 162 rfl rfl) rfl dX6_sendStores_13 hp (fun v13_4 hp => ?_)
    refine q_if hp (lv_icmp_ge (tgt := 86) hx hb dX6_sendStores_16 (by decide)) (fun hp => ?_) (fun hp => ?_)
    · exact hkx _ _ _ _ V (lx_sub hl [0] rfl) hp
    · refine x_iload_n X dX6_sendStores_19 hl 3 rfl rfl ?_
      refine lv_iconst (v := (3 : Int32)) hx hb dX6_sendStores_20 (by decide) ?_
      refine q_if hp (lv_icmp_ge (tgt := 86) hx hb dX6_sendStores_21 (by decide)) (fun hp => ?_) (fun hp => ?_)
      · exact hkx _ _ _ _ V (lx_sub hl [0] rfl) hp
      · refine x_aload_n X dX6_sendStores_24 hl 2 rfl rfl ?_
        refine q_getR (ci := 3) X V inX3 rfl (by decide) rfl 1 (by decide) rfl (tw_1 146 rfl rfl) rfl dX6_sendStores_25 hp (fun r25_5 hp => ?_)
        refine x_iload X dX6_sendStores_28 hl 4 rfl ?_
        obtain ⟨b30_6, e0, hp2⟩ := q_nn_of hp
        clear hp; subst e0; have hp := hp2; clear hp2
        refine q_iald X V dX6_sendStores_30 hp (fun v30_7 hp => ?_)
        refine lv_iconst (v := (3 : Int32)) hx hb dX6_sendStores_31 (by decide) ?_
        refine q_if hp (lv_icmp_eq (tgt := 80) hx hb dX6_sendStores_32 (by decide)) (fun hp => ?_) (fun hp => ?_)
        · refine x_iinc (v := (1 : Int32)) (lst' := [(4, .inl (x4 + (1 : Int32))), (0, .inr (some a0)), (1, .inr x1), (2, .inr (some b13_3)), (3, .inl x3)]) X dX6_sendStores_80 hl 4 rfl (by decide) (by decide) rfl (fun ls hl => ?_)
          refine lv_goto (tgt := 10) hx hb dX6_sendStores_83 (by decide) ?_
          exact ih _ _ _ _ _ _ _ _ V (lx_sub hl [1, 2, 3, 4, 0] rfl) hp
        · refine x_aload_n X dX6_sendStores_35 hl 0 rfl rfl ?_
          refine lv_iconst (v := (3 : Int32)) hx hb dX6_sendStores_36 (by decide) ?_
          refine x_aload_n X dX6_sendStores_37 hl 1 rfl rfl ?_
          obtain ⟨b38_8, e0, hp2⟩ := q_nn_of hp
          clear hp; subst e0; have hp := hp2; clear hp2
          refine q_getI (ci := 4) X V inX4 rfl (by decide) rfl 0 (by decide) rfl (tw_1 213 rfl rfl) rfl dX6_sendStores_38 hp (fun v38_9 hp => ?_)
          refine x_aload_n X dX6_sendStores_41 hl 2 rfl rfl ?_
          refine q_getR (ci := 3) X V inX3 rfl (by decide) rfl 0 (by decide) rfl (tw_1 144 rfl rfl) rfl dX6_sendStores_42 hp (fun r42_10 hp => ?_)
          refine x_iload X dX6_sendStores_45 hl 4 rfl ?_
          obtain ⟨b47_11, e0, hp2⟩ := q_nn_of hp
          clear hp; subst e0; have hp := hp2; clear hp2
          refine q_iald X V dX6_sendStores_47 hp (fun v47_12 hp => ?_)
          refine x_aload_n X dX6_sendStores_48 hl 2 rfl rfl ?_
          refine q_getI (ci := 3) X V inX3 rfl (by decide) rfl 8 (by decide) rfl (tw_1 160 rfl rfl) rfl dX6_sendStores_49 hp (fun v49_13 hp => ?_)
          refine x_aload_n X dX6_sendStores_52 hl 2 rfl rfl ?_
          refine q_getI (ci := 3) X V inX3 rfl (by decide) rfl 7 (by decide) rfl (tw_1 158 rfl rfl) rfl dX6_sendStores_53 hp (fun v53_14 hp => ?_)
          refine x_aload_n X dX6_sendStores_56 hl 2 rfl rfl ?_
          refine q_getR (ci := 3) X V inX3 rfl (by decide) rfl 3 (by decide) rfl (tw_1 150 rfl rfl) rfl dX6_sendStores_57 hp (fun r57_15 hp => ?_)
          refine x_iload X dX6_sendStores_60 hl 4 rfl ?_
          obtain ⟨b62_16, e0, hp2⟩ := q_nn_of hp
          clear hp; subst e0; have hp := hp2; clear hp2
          refine q_iald X V dX6_sendStores_62 hp (fun v62_17 hp => ?_)
          obtain ⟨hk, hp⟩ := q_is_of hp
          obtain ⟨⟨G, u⟩, hq, hp⟩ := q_cl_of hp
          dsimp only at hp
          refine q_gov (cells' := 0) (slots' := 0) (va_runV (As := [.int (3 : Int32), .int v38_9, .int v47_12, .int v49_13, .int v53_14, .int v62_17]) (rest := []) X.1 (cX6_write l E hq) (tw_cwV 6 X.1.2.2.2.2 (tw_2 93 rfl rfl) kX6_write.2.1 kX6_write.2.2.1 kX6_write.2.2.2 kX6_write.1 rfl rfl hX6_write ⟨Nat.le_of_ble_eq_true rfl, Nat.le_of_ble_eq_true rfl⟩) (mm_preV X V rfl (by decide) rfl hk) rfl rfl hl.1 rfl (lv_room (Nat.le_of_ble_eq_true rfl)) dX6_sendStores_63 ⟨by decide, by decide⟩) V ⟨rfl, rfl⟩ (fun H locs V => ?_)
          refine x_aload_n X dX6_sendStores_66 hl 0 rfl rfl ?_
          refine q_getR (ci := 6) X V inX6 rfl (by decide) rfl 1 (by decide) rfl (tw_1 37 rfl rfl) rfl dX6_sendStores_67 hp (fun r67_19 hp => ?_)
          refine x_aload_n X dX6_sendStores_70 hl 0 rfl rfl ?_
          refine q_getR (ci := 6) X V inX6 rfl (by decide) rfl 2 (by decide) rfl (tw_1 38 rfl rfl) rfl dX6_sendStores_71 hp (fun r71_20 hp => ?_)
          obtain ⟨b74_21, e0, hp2⟩ := q_nn_of hp
          clear hp; subst e0; have hp := hp2; clear hp2
          obtain ⟨hk, hp⟩ := q_is_of hp
          obtain ⟨⟨G, u⟩, hq, hp⟩ := q_cl_of hp
          dsimp only at hp
          refine q_gov (cells' := 0) (slots' := 0) (va_runV (As := [va_rf r71_20]) (rest := []) X.1 (cX2_addOrLose l E hq) (tw_cwV 1 X.1.2.2.2.2 (tw_2 100 rfl rfl) kX2_addOrLose.2.1 kX2_addOrLose.2.2.1 kX2_addOrLose.2.2.2 kX2_addOrLose.1 rfl rfl hX2_addOrLose ⟨Nat.le_of_ble_eq_true rfl, Nat.le_of_ble_eq_true rfl⟩) (mm_preV X V rfl (by decide) rfl hk) rfl rfl hl.1 rfl (lv_room (Nat.le_of_ble_eq_true rfl)) dX6_sendStores_74 ⟨by decide, by decide⟩) V ⟨rfl, rfl⟩ (fun H locs V => ?_)
          refine x_iinc (v := (1 : Int32)) (lst' := [(3, .inl (x3 + (1 : Int32))), (0, .inr (some a0)), (1, .inr (some b38_8)), (2, .inr (some b13_3)), (4, .inl x4)]) X dX6_sendStores_77 hl 3 rfl (by decide) (by decide) rfl (fun ls hl => ?_)
          refine x_iinc (v := (1 : Int32)) (lst' := [(4, .inl (x4 + (1 : Int32))), (3, .inl (x3 + (1 : Int32))), (0, .inr (some a0)), (1, .inr (some b38_8)), (2, .inr (some b13_3))]) X dX6_sendStores_80 hl 4 rfl (by decide) (by decide) rfl (fun ls hl => ?_)
          refine lv_goto (tgt := 10) hx hb dX6_sendStores_83 (by decide) ?_
          exact ih _ _ _ _ _ _ _ _ V (lx_sub hl [2, 3, 4, 1, 0] rfl) hp
def pX6_sendStores_0 (N a0 : Nat) (G : mm_M) (x1 : Option Nat) : Option (mm_M × Unit) :=
  q_nn x1 fun b1_1 =>
  q_gR G b1_1 5 2 fun r1_2 =>
  pX6_sendStores_10 N a0 (fun (G : mm_M) =>
    some (G, ())) N G (some b1_1) r1_2 (0 : Int32) (0 : Int32)
set_option maxRecDepth 100000 in
set_option maxHeartbeats 4000000 in
theorem bX6_sendStores_0 {p : Program} {l : Launch} {e : Env} {s : State} {m : MethodId} {args : Array Value} {below : List Frame} {meth : Method} {c : Code} {E : mm_E} {N a0 : Nat} {res : mm_M × Unit} (X : mm_X p s m args meth c prog_1_method_30_code 5 "XorOverlay" tw_T E) (hr : meth.sig.returnType = none) {G : mm_M} {H : Heap} {locs : List Loc} {ls : Array Slot} {x1 : Option Nat} (V : mm_V E s G H locs) (hl : lx_has ls 5 [(0, .inr (some a0)), (1, .inr x1)]) (hp : pX6_sendStores_0 N a0 G x1 = some res) : W p l e rX6_sendStores s m args below meth c H locs 0 0 (MQ below (mm_Qv E res.1) args s 0 0 (mm_A E)) (F0 m 0 ls []) := by
  have hx := X.1.1
  have hb := X.1.2.1
  unfold pX6_sendStores_0 at hp
  refine x_aload_n X dX6_sendStores_0 hl 1 rfl rfl ?_
  obtain ⟨b1_1, e0, hp2⟩ := q_nn_of hp
  clear hp; subst e0; have hp := hp2; clear hp2
  refine q_getR (ci := 4) X V inX4 rfl (by decide) rfl 2 (by decide) rfl (tw_1 217 rfl rfl) rfl dX6_sendStores_1 hp (fun r1_2 hp => ?_)
  refine x_astore_n (lst' := [(2, .inr r1_2), (0, .inr (some a0)), (1, .inr (some b1_1))]) X dX6_sendStores_4 hl rfl (by decide) rfl (fun ls hl => ?_)
  refine lv_iconst (v := (0 : Int32)) hx hb dX6_sendStores_5 (by decide) ?_
  refine x_istore_n (lst' := [(3, .inl (0 : Int32)), (2, .inr r1_2), (0, .inr (some a0)), (1, .inr (some b1_1))]) X dX6_sendStores_6 hl rfl (by decide) rfl (fun ls hl => ?_)
  refine lv_iconst (v := (0 : Int32)) hx hb dX6_sendStores_7 (by decide) ?_
  refine x_istore (lst' := [(4, .inl (0 : Int32)), (3, .inl (0 : Int32)), (2, .inr r1_2), (0, .inr (some a0)), (1, .inr (some b1_1))]) X dX6_sendStores_8 hl (by decide) rfl (fun ls hl => ?_)
  refine bX6_sendStores_10 X hr (fun G H locs ls V hl hp => ?_) _ _ _ _ _ _ _ _ _ V (lx_sub hl [3, 4, 2, 1, 0] rfl) hp
  exact q_vret X V hr ⟨by decide, by decide⟩ dX6_sendStores_86 hp
theorem cX6_sendStores (l : Launch) (E : mm_E) {N a0 : Nat} {G : mm_M} {x1 : Option Nat} {res : mm_M × Unit} (hp : pX6_sendStores_0 N a0 G x1 = some res) : Met l yX6_sendStores (Cond.code yX6_sendStores prog_1_method_30_code 5 none :: tw_T) rX6_sendStores (mm_Pc E G [.ref a0, va_rf x1]) (mm_Qv E res.1) 0 0 (mm_A E) :=
  mm_met (own := "XorOverlay") E G [.inr (some a0), .inr x1] (by decide) rfl rfl (Nat.le_of_ble_eq_true rfl) (fun p e s m args below meth c ls X hr hi V hl => bX6_sendStores_0 X hr V hl hp)
abbrev yX6_goOn : MethodName := ⟨"XorOverlay", "goOn", "(LXorOverlay$Peer;)V"⟩
abbrev rX6_goOn : Room := { frames := 3, cells := 0, slots := 0, locals := 75 }
theorem kX6_goOn : Cond.code yX6_goOn prog_1_method_28_code 5 none ∈ tw_T ∧ Cond.instanceMethod yX6_goOn ∈ tw_T ∧ Cond.selects "XorOverlay" yX6_goOn yX6_goOn ∈ tw_T ∧ Cond.initialized "XorOverlay" ∈ tw_T := ⟨(tw_2 80 rfl rfl), (tw_2 79 rfl rfl), (tw_s 6 rfl rfl), (tw_1 1 rfl rfl)⟩
theorem hX6_goOn : yX6_goOn.cls = "XorOverlay" ∧ yX6_goOn.cls ≠ "java/lang/invoke/MethodHandle" ∧ yX6_goOn.cls ≠ "java/lang/invoke/VarHandle" ∧ (parseMethodDescriptor yX6_goOn.desc).map (fun d => d.parameters.length) = some 1 := by decide +kernel
theorem dX6_goOn_0 : decode prog_1_method_28_code 0 = .ok (.aload_n 1, 1) := by decide +kernel
theorem dX6_goOn_1 : decode prog_1_method_28_code 1 = .ok (.getfield 72, 3) := by decide +kernel
theorem dX6_goOn_4 : decode prog_1_method_28_code 4 = .ok (.astore_n 2, 1) := by decide +kernel
theorem dX6_goOn_5 : decode prog_1_method_28_code 5 = .ok (.aload_n 2, 1) := by decide +kernel
theorem dX6_goOn_6 : decode prog_1_method_28_code 6 = .ok (.invokevirtual 202, 3) := by decide +kernel
theorem dX6_goOn_9 : decode prog_1_method_28_code 9 = .ok (.istore_n 3, 1) := by decide +kernel
theorem dX6_goOn_10 : decode prog_1_method_28_code 10 = .ok (.iconst 0, 1) := by decide +kernel
theorem dX6_goOn_11 : decode prog_1_method_28_code 11 = .ok (.istore 4, 2) := by decide +kernel
theorem dX6_goOn_13 : decode prog_1_method_28_code 13 = .ok (.iload 4, 2) := by decide +kernel
theorem dX6_goOn_15 : decode prog_1_method_28_code 15 = .ok (.iconst 2, 1) := by decide +kernel
theorem dX6_goOn_16 : decode prog_1_method_28_code 16 = .ok (.if_icmp .ge 25, 3) := by decide +kernel
theorem dX6_goOn_19 : decode prog_1_method_28_code 19 = .ok (.iload_n 3, 1) := by decide +kernel
theorem dX6_goOn_20 : decode prog_1_method_28_code 20 = .ok (.iconst (-1), 1) := by decide +kernel
theorem dX6_goOn_21 : decode prog_1_method_28_code 21 = .ok (.if_icmp .eq 20, 3) := by decide +kernel
theorem dX6_goOn_24 : decode prog_1_method_28_code 24 = .ok (.aload_n 0, 1) := by decide +kernel
theorem dX6_goOn_25 : decode prog_1_method_28_code 25 = .ok (.aload_n 1, 1) := by decide +kernel
theorem dX6_goOn_26 : decode prog_1_method_28_code 26 = .ok (.iload_n 3, 1) := by decide +kernel
theorem dX6_goOn_27 : decode prog_1_method_28_code 27 = .ok (.invokevirtual 206, 3) := by decide +kernel
theorem dX6_goOn_30 : decode prog_1_method_28_code 30 = .ok (.aload_n 2, 1) := by decide +kernel
theorem dX6_goOn_31 : decode prog_1_method_28_code 31 = .ok (.invokevirtual 202, 3) := by decide +kernel
theorem dX6_goOn_34 : decode prog_1_method_28_code 34 = .ok (.istore_n 3, 1) := by decide +kernel
theorem dX6_goOn_35 : decode prog_1_method_28_code 35 = .ok (.iinc 4 1, 3) := by decide +kernel
theorem dX6_goOn_38 : decode prog_1_method_28_code 38 = .ok (.goto (-25), 3) := by decide +kernel
theorem dX6_goOn_41 : decode prog_1_method_28_code 41 = .ok (.aload_n 2, 1) := by decide +kernel
theorem dX6_goOn_42 : decode prog_1_method_28_code 42 = .ok (.invokevirtual 210, 3) := by decide +kernel
theorem dX6_goOn_45 : decode prog_1_method_28_code 45 = .ok (.ifCond .ne 21, 3) := by decide +kernel
theorem dX6_goOn_48 : decode prog_1_method_28_code 48 = .ok (.aload_n 2, 1) := by decide +kernel
theorem dX6_goOn_49 : decode prog_1_method_28_code 49 = .ok (.iconst 2, 1) := by decide +kernel
theorem dX6_goOn_50 : decode prog_1_method_28_code 50 = .ok (.putfield 126, 3) := by decide +kernel
theorem dX6_goOn_53 : decode prog_1_method_28_code 53 = .ok (.aload_n 2, 1) := by decide +kernel
theorem dX6_goOn_54 : decode prog_1_method_28_code 54 = .ok (.getfield 213, 3) := by decide +kernel
theorem dX6_goOn_57 : decode prog_1_method_28_code 57 = .ok (.iconst 2, 1) := by decide +kernel
theorem dX6_goOn_58 : decode prog_1_method_28_code 58 = .ok (.if_icmp .ne 8, 3) := by decide +kernel
theorem dX6_goOn_61 : decode prog_1_method_28_code 61 = .ok (.aload_n 0, 1) := by decide +kernel
theorem dX6_goOn_62 : decode prog_1_method_28_code 62 = .ok (.aload_n 1, 1) := by decide +kernel
theorem dX6_goOn_63 : decode prog_1_method_28_code 63 = .ok (.invokevirtual 216, 3) := by decide +kernel
theorem dX6_goOn_66 : decode prog_1_method_28_code 66 = .ok (.return_, 1) := by decide +kernel
def pX6_goOn_13_b (N a0 : Nat) (kb : mm_M → Option Nat → Option Nat → Int32 → Int32 → Option (mm_M × Unit)) (kx : mm_M → Option Nat → Option Nat → Option (mm_M × Unit)) (G : mm_M) (x1 : Option Nat) (x2 : Option Nat) (x3 : Int32) (x4 : Int32) : Option (mm_M × Unit) :=
  if (2 : Int32) ≤ x4 then
    kx G x1 x2
  else
    if x3 = (-1 : Int32) then
      kx G x1 x2
    else
      q_is G a0 7 <|
      q_cl (pX6_ask_0 N a0 G x1 x3) fun G _ =>
      q_nn x2 fun b31_7 =>
      q_is G b31_7 4 <|
      q_cl (pX3_nextToAsk_0 N b31_7 G) fun G v31_9 =>
      kb G x1 (some b31_7) v31_9 (x4 + (1 : Int32))
def pX6_goOn_13 (N a0 : Nat) (kx : mm_M → Option Nat → Option Nat → Option (mm_M × Unit)) : Nat → mm_M → Option Nat → Option Nat → Int32 → Int32 → Option (mm_M × Unit)
  | 0 => fun _ _ _ _ _ => none
  | n + 1 => pX6_goOn_13_b N a0 (pX6_goOn_13 N a0 kx n) kx
set_option maxRecDepth 100000 in
set_option maxHeartbeats 4000000 in
theorem bX6_goOn_13 {p : Program} {l : Launch} {e : Env} {s : State} {m : MethodId} {args : Array Value} {below : List Frame} {meth : Method} {c : Code} {E : mm_E} {N a0 : Nat} {res : mm_M × Unit} (X : mm_X p s m args meth c prog_1_method_28_code 5 "XorOverlay" tw_T E) (hr : meth.sig.returnType = none) {kx : mm_M → Option Nat → Option Nat → Option (mm_M × Unit)} (hkx : ∀ (G : mm_M) (H : Heap) (locs : List Loc) (ls : Array Slot) (x1 : Option Nat) (x2 : Option Nat), mm_V E s G H locs → lx_has ls 5 [(0, .inr (some a0)), (1, .inr x1), (2, .inr x2)] → kx G x1 x2 = some res → W p l e rX6_goOn s m args below meth c H locs 0 0 (MQ below (mm_Qv E res.1) args s 0 0 (mm_A E)) (F0 m 41 ls [])) :
    ∀ (n : Nat) (G : mm_M) (H : Heap) (locs : List Loc) (ls : Array Slot) (x1 : Option Nat) (x2 : Option Nat) (x3 : Int32) (x4 : Int32), mm_V E s G H locs → lx_has ls 5 [(0, .inr (some a0)), (1, .inr x1), (2, .inr x2), (3, .inl x3), (4, .inl x4)] → pX6_goOn_13 N a0 kx n G x1 x2 x3 x4 = some res → W p l e rX6_goOn s m args below meth c H locs 0 0 (MQ below (mm_Qv E res.1) args s 0 0 (mm_A E)) (F0 m 13 ls []) := by
  have hx := X.1.1
  have hb := X.1.2.1
  intro n
  induction n with
  | zero =>
    intro G H locs ls x1 x2 x3 x4 V hl hp
    cases hp
  | succ n ih =>
    intro G H locs ls x1 x2 x3 x4 V hl hp
    have hp : pX6_goOn_13_b N a0 (pX6_goOn_13 N a0 kx n) kx G x1 x2 x3 x4 = some res := hp
    unfold pX6_goOn_13_b at hp
    refine x_iload X dX6_goOn_13 hl 4 rfl ?_
    refine lv_iconst (v := (2 : Int32)) hx hb dX6_goOn_15 (by decide) ?_
    refine q_if hp (lv_icmp_ge (tgt := 41) hx hb dX6_goOn_16 (by decide)) (fun hp => ?_) (fun hp => ?_)
    · exact hkx _ _ _ _ _ _ V (lx_sub hl [0, 1, 2] rfl) hp
    · refine x_iload_n X dX6_goOn_19 hl 3 rfl rfl ?_
      refine lv_iconst (v := (-1 : Int32)) hx hb dX6_goOn_20 (by decide) ?_
      refine q_if hp (lv_icmp_eq (tgt := 41) hx hb dX6_goOn_21 (by decide)) (fun hp => ?_) (fun hp => ?_)
      · exact hkx _ _ _ _ _ _ V (lx_sub hl [0, 1, 2] rfl) hp
      · refine x_aload_n X dX6_goOn_24 hl 0 rfl rfl ?_
        refine x_aload_n X dX6_goOn_25 hl 1 rfl rfl ?_
        refine x_iload_n X dX6_goOn_26 hl 3 rfl rfl ?_
        obtain ⟨hk, hp⟩ := q_is_of hp
        obtain ⟨⟨G, u⟩, hq, hp⟩ := q_cl_of hp
        dsimp only at hp
        refine q_gov (cells' := 0) (slots' := 0) (va_runV (As := [va_rf x1, .int x3]) (rest := []) X.1 (cX6_ask l E hq) (tw_cwV 2 X.1.2.2.2.2 (tw_2 89 rfl rfl) kX6_ask.2.1 kX6_ask.2.2.1 kX6_ask.2.2.2 kX6_ask.1 rfl rfl hX6_ask ⟨Nat.le_of_ble_eq_true rfl, Nat.le_of_ble_eq_true rfl⟩) (mm_preV X V rfl (by decide) rfl hk) rfl rfl hl.1 rfl (lv_room (Nat.le_of_ble_eq_true rfl)) dX6_goOn_27 ⟨by decide, by decide⟩) V ⟨rfl, rfl⟩ (fun H locs V => ?_)
        refine x_aload_n X dX6_goOn_30 hl 2 rfl rfl ?_
        obtain ⟨b31_7, e0, hp2⟩ := q_nn_of hp
        clear hp; subst e0; have hp := hp2; clear hp2
        obtain ⟨hk, hp⟩ := q_is_of hp
        obtain ⟨⟨G, v31_9⟩, hq, hp⟩ := q_cl_of hp
        dsimp only at hp
        refine q_goi (cells' := 0) (slots' := 0) (va_runV (As := []) (rest := []) X.1 (cX3_nextToAsk l E hq) (tw_cwV 0 X.1.2.2.2.2 (tw_2 81 rfl rfl) kX3_nextToAsk.2.1 kX3_nextToAsk.2.2.1 kX3_nextToAsk.2.2.2 kX3_nextToAsk.1 rfl rfl hX3_nextToAsk ⟨Nat.le_of_ble_eq_true rfl, Nat.le_of_ble_eq_true rfl⟩) (mm_preV X V rfl (by decide) rfl hk) rfl rfl hl.1 rfl (lv_room (Nat.le_of_ble_eq_true rfl)) dX6_goOn_31 ⟨by decide, by decide⟩) V ⟨rfl, rfl⟩ (fun H locs V => ?_)
        refine x_istore_n (lst' := [(3, .inl v31_9), (0, .inr (some a0)), (1, .inr x1), (2, .inr (some b31_7)), (4, .inl x4)]) X dX6_goOn_34 hl rfl (by decide) rfl (fun ls hl => ?_)
        refine x_iinc (v := (1 : Int32)) (lst' := [(4, .inl (x4 + (1 : Int32))), (3, .inl v31_9), (0, .inr (some a0)), (1, .inr x1), (2, .inr (some b31_7))]) X dX6_goOn_35 hl 4 rfl (by decide) (by decide) rfl (fun ls hl => ?_)
        refine lv_goto (tgt := 13) hx hb dX6_goOn_38 (by decide) ?_
        exact ih _ _ _ _ _ _ _ _ V (lx_sub hl [2, 3, 4, 1, 0] rfl) hp
def pX6_goOn_41 (N a0 : Nat) (G : mm_M) (x1 : Option Nat) (x2 : Option Nat) : Option (mm_M × Unit) :=
  q_nn x2 fun b42_10 =>
  q_is G b42_10 4 <|
  q_cl (pX3_askedCount_0 N b42_10 G) fun G v42_12 =>
  if v42_12 = 0 then
    q_pI G b42_10 4 5 (2 : Int32) fun G =>
    q_gI G b42_10 4 6 fun v54_13 =>
    if v54_13 = (2 : Int32) then
      q_is G a0 7 <|
      q_cl (pX6_sendStores_0 N a0 G x1) fun G _ =>
      some (G, ())
    else
      some (G, ())
  else
    some (G, ())
set_option maxRecDepth 100000 in
set_option maxHeartbeats 4000000 in
theorem bX6_goOn_41 {p : Program} {l : Launch} {e : Env} {s : State} {m : MethodId} {args : Array Value} {below : List Frame} {meth : Method} {c : Code} {E : mm_E} {N a0 : Nat} {res : mm_M × Unit} (X : mm_X p s m args meth c prog_1_method_28_code 5 "XorOverlay" tw_T E) (hr : meth.sig.returnType = none) {G : mm_M} {H : Heap} {locs : List Loc} {ls : Array Slot} {x1 : Option Nat} {x2 : Option Nat} (V : mm_V E s G H locs) (hl : lx_has ls 5 [(0, .inr (some a0)), (1, .inr x1), (2, .inr x2)]) (hp : pX6_goOn_41 N a0 G x1 x2 = some res) : W p l e rX6_goOn s m args below meth c H locs 0 0 (MQ below (mm_Qv E res.1) args s 0 0 (mm_A E)) (F0 m 41 ls []) := by
  have hx := X.1.1
  have hb := X.1.2.1
  unfold pX6_goOn_41 at hp
  refine x_aload_n X dX6_goOn_41 hl 2 rfl rfl ?_
  obtain ⟨b42_10, e0, hp2⟩ := q_nn_of hp
  clear hp; subst e0; have hp := hp2; clear hp2
  obtain ⟨hk, hp⟩ := q_is_of hp
  obtain ⟨⟨G, v42_12⟩, hq, hp⟩ := q_cl_of hp
  dsimp only at hp
  refine q_goi (cells' := 0) (slots' := 0) (va_runV (As := []) (rest := []) X.1 (cX3_askedCount l E hq) (tw_cwV 0 X.1.2.2.2.2 (tw_2 107 rfl rfl) kX3_askedCount.2.1 kX3_askedCount.2.2.1 kX3_askedCount.2.2.2 kX3_askedCount.1 rfl rfl hX3_askedCount ⟨Nat.le_of_ble_eq_true rfl, Nat.le_of_ble_eq_true rfl⟩) (mm_preV X V rfl (by decide) rfl hk) rfl rfl hl.1 rfl (lv_room (Nat.le_of_ble_eq_true rfl)) dX6_goOn_42 ⟨by decide, by decide⟩) V ⟨rfl, rfl⟩ (fun H locs V => ?_)
  refine q_ifn hp (lv_if_ne (tgt := 66) hx hb dX6_goOn_45 (by decide)) (fun hp => ?_) (fun hp => ?_)
  · exact q_vret X V hr ⟨by decide, by decide⟩ dX6_goOn_66 hp
  · refine x_aload_n X dX6_goOn_48 hl 2 rfl rfl ?_
    refine lv_iconst (v := (2 : Int32)) hx hb dX6_goOn_49 (by decide) ?_
    refine q_putI (ci := 3) X V inX3 rfl tyX3 tyX3_ok nmX3 (by decide) rfl 5 (by decide) rfl (tw_1 154 rfl rfl) rfl (Or.inl rfl) .int rfl rfl rfl dX6_goOn_50 hp (fun G H locs V hp => ?_)
    refine x_aload_n X dX6_goOn_53 hl 2 rfl rfl ?_
    refine q_getI (ci := 3) X V inX3 rfl (by decide) rfl 6 (by decide) rfl (tw_1 156 rfl rfl) rfl dX6_goOn_54 hp (fun v54_13 hp => ?_)
    refine lv_iconst (v := (2 : Int32)) hx hb dX6_goOn_57 (by decide) ?_
    refine q_ifn hp (lv_icmp_ne (tgt := 66) hx hb dX6_goOn_58 (by decide)) (fun hp => ?_) (fun hp => ?_)
    · exact q_vret X V hr ⟨by decide, by decide⟩ dX6_goOn_66 hp
    · refine x_aload_n X dX6_goOn_61 hl 0 rfl rfl ?_
      refine x_aload_n X dX6_goOn_62 hl 1 rfl rfl ?_
      obtain ⟨hk, hp⟩ := q_is_of hp
      obtain ⟨⟨G, u⟩, hq, hp⟩ := q_cl_of hp
      dsimp only at hp
      refine q_gov (cells' := 0) (slots' := 0) (va_runV (As := [va_rf x1]) (rest := []) X.1 (cX6_sendStores l E hq) (tw_cwV 1 X.1.2.2.2.2 (tw_2 108 rfl rfl) kX6_sendStores.2.1 kX6_sendStores.2.2.1 kX6_sendStores.2.2.2 kX6_sendStores.1 rfl rfl hX6_sendStores ⟨Nat.le_of_ble_eq_true rfl, Nat.le_of_ble_eq_true rfl⟩) (mm_preV X V rfl (by decide) rfl hk) rfl rfl hl.1 rfl (lv_room (Nat.le_of_ble_eq_true rfl)) dX6_goOn_63 ⟨by decide, by decide⟩) V ⟨rfl, rfl⟩ (fun H locs V => ?_)
      exact q_vret X V hr ⟨by decide, by decide⟩ dX6_goOn_66 hp
def pX6_goOn_0 (N a0 : Nat) (G : mm_M) (x1 : Option Nat) : Option (mm_M × Unit) :=
  q_nn x1 fun b1_1 =>
  q_gR G b1_1 5 2 fun r1_2 =>
  q_nn r1_2 fun b6_3 =>
  q_is G b6_3 4 <|
  q_cl (pX3_nextToAsk_0 N b6_3 G) fun G v6_5 =>
  pX6_goOn_13 N a0 (fun (G : mm_M) (x1 : Option Nat) (x2 : Option Nat) =>
    pX6_goOn_41 N a0 G x1 x2) N G (some b1_1) (some b6_3) v6_5 (0 : Int32)
set_option maxRecDepth 100000 in
set_option maxHeartbeats 4000000 in
theorem bX6_goOn_0 {p : Program} {l : Launch} {e : Env} {s : State} {m : MethodId} {args : Array Value} {below : List Frame} {meth : Method} {c : Code} {E : mm_E} {N a0 : Nat} {res : mm_M × Unit} (X : mm_X p s m args meth c prog_1_method_28_code 5 "XorOverlay" tw_T E) (hr : meth.sig.returnType = none) {G : mm_M} {H : Heap} {locs : List Loc} {ls : Array Slot} {x1 : Option Nat} (V : mm_V E s G H locs) (hl : lx_has ls 5 [(0, .inr (some a0)), (1, .inr x1)]) (hp : pX6_goOn_0 N a0 G x1 = some res) : W p l e rX6_goOn s m args below meth c H locs 0 0 (MQ below (mm_Qv E res.1) args s 0 0 (mm_A E)) (F0 m 0 ls []) := by
  have hx := X.1.1
  have hb := X.1.2.1
  unfold pX6_goOn_0 at hp
  refine x_aload_n X dX6_goOn_0 hl 1 rfl rfl ?_
  obtain ⟨b1_1, e0, hp2⟩ := q_nn_of hp
  clear hp; subst e0; have hp := hp2; clear hp2
  refine q_getR (ci := 4) X V inX4 rfl (by decide) rfl 2 (by decide) rfl (tw_1 217 rfl rfl) rfl dX6_goOn_1 hp (fun r1_2 hp => ?_)
  refine x_astore_n (lst' := [(2, .inr r1_2), (0, .inr (some a0)), (1, .inr (some b1_1))]) X dX6_goOn_4 hl rfl (by decide) rfl (fun ls hl => ?_)
  refine x_aload_n X dX6_goOn_5 hl 0 rfl rfl ?_
  obtain ⟨b6_3, e0, hp2⟩ := q_nn_of hp
  clear hp; subst e0; have hp := hp2; clear hp2
  obtain ⟨hk, hp⟩ := q_is_of hp
  obtain ⟨⟨G, v6_5⟩, hq, hp⟩ := q_cl_of hp
  dsimp only at hp
  refine q_goi (cells' := 0) (slots' := 0) (va_runV (As := []) (rest := []) X.1 (cX3_nextToAsk l E hq) (tw_cwV 0 X.1.2.2.2.2 (tw_2 81 rfl rfl) kX3_nextToAsk.2.1 kX3_nextToAsk.2.2.1 kX3_nextToAsk.2.2.2 kX3_nextToAsk.1 rfl rfl hX3_nextToAsk ⟨Nat.le_of_ble_eq_true rfl, Nat.le_of_ble_eq_true rfl⟩) (mm_preV X V rfl (by decide) rfl hk) rfl rfl hl.1 rfl (lv_room (Nat.le_of_ble_eq_true rfl)) dX6_goOn_6 ⟨by decide, by decide⟩) V ⟨rfl, rfl⟩ (fun H locs V => ?_)
  refine x_istore_n (lst' := [(3, .inl v6_5), (2, .inr (some b6_3)), (0, .inr (some a0)), (1, .inr (some b1_1))]) X dX6_goOn_9 hl rfl (by decide) rfl (fun ls hl => ?_)
  refine lv_iconst (v := (0 : Int32)) hx hb dX6_goOn_10 (by decide) ?_
  refine x_istore (lst' := [(4, .inl (0 : Int32)), (3, .inl v6_5), (2, .inr (some b6_3)), (0, .inr (some a0)), (1, .inr (some b1_1))]) X dX6_goOn_11 hl (by decide) rfl (fun ls hl => ?_)
  refine bX6_goOn_13 X hr (fun G H locs ls x1 x2 V hl hp => ?_) _ _ _ _ _ _ _ _ _ V (lx_sub hl [3, 4, 2, 1, 0] rfl) hp
  exact bX6_goOn_41 X hr V (lx_sub hl [0, 1, 2] rfl) hp
theorem cX6_goOn (l : Launch) (E : mm_E) {N a0 : Nat} {G : mm_M} {x1 : Option Nat} {res : mm_M × Unit} (hp : pX6_goOn_0 N a0 G x1 = some res) : Met l yX6_goOn (Cond.code yX6_goOn prog_1_method_28_code 5 none :: tw_T) rX6_goOn (mm_Pc E G [.ref a0, va_rf x1]) (mm_Qv E res.1) 0 0 (mm_A E) :=
  mm_met (own := "XorOverlay") E G [.inr (some a0), .inr x1] (by decide) rfl rfl (Nat.le_of_ble_eq_true rfl) (fun p e s m args below meth c ls X hr hi V hl => bX6_goOn_0 X hr V hl hp)
abbrev yX6_startLookup : MethodName := ⟨"XorOverlay", "startLookup", "(LXorOverlay$Peer;II)V"⟩
abbrev rX6_startLookup : Room := { frames := 4, cells := 0, slots := 0, locals := 99 }
theorem kX6_startLookup : Cond.code yX6_startLookup prog_1_method_27_code 6 none ∈ tw_T ∧ Cond.instanceMethod yX6_startLookup ∈ tw_T ∧ Cond.selects "XorOverlay" yX6_startLookup yX6_startLookup ∈ tw_T ∧ Cond.initialized "XorOverlay" ∈ tw_T := ⟨(tw_2 55 rfl rfl), (tw_2 54 rfl rfl), (tw_s 5 rfl rfl), (tw_1 1 rfl rfl)⟩
theorem hX6_startLookup : yX6_startLookup.cls = "XorOverlay" ∧ yX6_startLookup.cls ≠ "java/lang/invoke/MethodHandle" ∧ yX6_startLookup.cls ≠ "java/lang/invoke/VarHandle" ∧ (parseMethodDescriptor yX6_startLookup.desc).map (fun d => d.parameters.length) = some 3 := by decide +kernel
theorem dX6_startLookup_0 : decode prog_1_method_27_code 0 = .ok (.aload_n 0, 1) := by decide +kernel
theorem dX6_startLookup_1 : decode prog_1_method_27_code 1 = .ok (.dup, 1) := by decide +kernel
theorem dX6_startLookup_2 : decode prog_1_method_27_code 2 = .ok (.getfield 36, 3) := by decide +kernel
theorem dX6_startLookup_5 : decode prog_1_method_27_code 5 = .ok (.iconst 1, 1) := by decide +kernel
theorem dX6_startLookup_6 : decode prog_1_method_27_code 6 = .ok (.iadd, 1) := by decide +kernel
theorem dX6_startLookup_7 : decode prog_1_method_27_code 7 = .ok (.putfield 36, 3) := by decide +kernel
theorem dX6_startLookup_10 : decode prog_1_method_27_code 10 = .ok (.aload_n 1, 1) := by decide +kernel
theorem dX6_startLookup_11 : decode prog_1_method_27_code 11 = .ok (.getfield 54, 3) := by decide +kernel
theorem dX6_startLookup_14 : decode prog_1_method_27_code 14 = .ok (.iload_n 3, 1) := by decide +kernel
theorem dX6_startLookup_15 : decode prog_1_method_27_code 15 = .ok (.aload_n 0, 1) := by decide +kernel
theorem dX6_startLookup_16 : decode prog_1_method_27_code 16 = .ok (.getfield 33, 3) := by decide +kernel
theorem dX6_startLookup_19 : decode prog_1_method_27_code 19 = .ok (.invokevirtual 189, 3) := by decide +kernel
theorem dX6_startLookup_22 : decode prog_1_method_27_code 22 = .ok (.aload_n 1, 1) := by decide +kernel
theorem dX6_startLookup_23 : decode prog_1_method_27_code 23 = .ok (.getfield 72, 3) := by decide +kernel
theorem dX6_startLookup_26 : decode prog_1_method_27_code 26 = .ok (.iload_n 2, 1) := by decide +kernel
theorem dX6_startLookup_27 : decode prog_1_method_27_code 27 = .ok (.iload_n 3, 1) := by decide +kernel
theorem dX6_startLookup_28 : decode prog_1_method_27_code 28 = .ok (.aload_n 0, 1) := by decide +kernel
theorem dX6_startLookup_29 : decode prog_1_method_27_code 29 = .ok (.getfield 36, 3) := by decide +kernel
theorem dX6_startLookup_32 : decode prog_1_method_27_code 32 = .ok (.invokevirtual 192, 3) := by decide +kernel
theorem dX6_startLookup_35 : decode prog_1_method_27_code 35 = .ok (.aload_n 1, 1) := by decide +kernel
theorem dX6_startLookup_36 : decode prog_1_method_27_code 36 = .ok (.getfield 54, 3) := by decide +kernel
theorem dX6_startLookup_39 : decode prog_1_method_27_code 39 = .ok (.iload_n 3, 1) := by decide +kernel
theorem dX6_startLookup_40 : decode prog_1_method_27_code 40 = .ok (.iconst (-1), 1) := by decide +kernel
theorem dX6_startLookup_41 : decode prog_1_method_27_code 41 = .ok (.iconst (-1), 1) := by decide +kernel
theorem dX6_startLookup_42 : decode prog_1_method_27_code 42 = .ok (.invokevirtual 162, 3) := by decide +kernel
theorem dX6_startLookup_45 : decode prog_1_method_27_code 45 = .ok (.istore 4, 2) := by decide +kernel
theorem dX6_startLookup_47 : decode prog_1_method_27_code 47 = .ok (.iconst 0, 1) := by decide +kernel
theorem dX6_startLookup_48 : decode prog_1_method_27_code 48 = .ok (.istore 5, 2) := by decide +kernel
theorem dX6_startLookup_50 : decode prog_1_method_27_code 50 = .ok (.iload 5, 2) := by decide +kernel
theorem dX6_startLookup_52 : decode prog_1_method_27_code 52 = .ok (.iconst 3, 1) := by decide +kernel
theorem dX6_startLookup_53 : decode prog_1_method_27_code 53 = .ok (.if_icmp .ge 39, 3) := by decide +kernel
theorem dX6_startLookup_56 : decode prog_1_method_27_code 56 = .ok (.iload 4, 2) := by decide +kernel
theorem dX6_startLookup_58 : decode prog_1_method_27_code 58 = .ok (.iconst (-1), 1) := by decide +kernel
theorem dX6_startLookup_59 : decode prog_1_method_27_code 59 = .ok (.if_icmp .eq 33, 3) := by decide +kernel
theorem dX6_startLookup_62 : decode prog_1_method_27_code 62 = .ok (.aload_n 1, 1) := by decide +kernel
theorem dX6_startLookup_63 : decode prog_1_method_27_code 63 = .ok (.getfield 72, 3) := by decide +kernel
theorem dX6_startLookup_66 : decode prog_1_method_27_code 66 = .ok (.iload 4, 2) := by decide +kernel
theorem dX6_startLookup_68 : decode prog_1_method_27_code 68 = .ok (.invokevirtual 196, 3) := by decide +kernel
theorem dX6_startLookup_71 : decode prog_1_method_27_code 71 = .ok (.aload_n 1, 1) := by decide +kernel
theorem dX6_startLookup_72 : decode prog_1_method_27_code 72 = .ok (.getfield 54, 3) := by decide +kernel
theorem dX6_startLookup_75 : decode prog_1_method_27_code 75 = .ok (.iload_n 3, 1) := by decide +kernel
theorem dX6_startLookup_76 : decode prog_1_method_27_code 76 = .ok (.iload 4, 2) := by decide +kernel
theorem dX6_startLookup_78 : decode prog_1_method_27_code 78 = .ok (.iload_n 3, 1) := by decide +kernel
theorem dX6_startLookup_79 : decode prog_1_method_27_code 79 = .ok (.ixor, 1) := by decide +kernel
theorem dX6_startLookup_80 : decode prog_1_method_27_code 80 = .ok (.iconst (-1), 1) := by decide +kernel
theorem dX6_startLookup_81 : decode prog_1_method_27_code 81 = .ok (.invokevirtual 162, 3) := by decide +kernel
theorem dX6_startLookup_84 : decode prog_1_method_27_code 84 = .ok (.istore 4, 2) := by decide +kernel
theorem dX6_startLookup_86 : decode prog_1_method_27_code 86 = .ok (.iinc 5 1, 3) := by decide +kernel
theorem dX6_startLookup_89 : decode prog_1_method_27_code 89 = .ok (.goto (-39), 3) := by decide +kernel
theorem dX6_startLookup_92 : decode prog_1_method_27_code 92 = .ok (.aload_n 0, 1) := by decide +kernel
theorem dX6_startLookup_93 : decode prog_1_method_27_code 93 = .ok (.aload_n 1, 1) := by decide +kernel
theorem dX6_startLookup_94 : decode prog_1_method_27_code 94 = .ok (.invokevirtual 199, 3) := by decide +kernel
theorem dX6_startLookup_97 : decode prog_1_method_27_code 97 = .ok (.return_, 1) := by decide +kernel
def pX6_startLookup_50_b (N a0 : Nat) (kb : mm_M → Option Nat → Int32 → Int32 → Int32 → Option (mm_M × Unit)) (kx : mm_M → Option Nat → Option (mm_M × Unit)) (G : mm_M) (x1 : Option Nat) (x3 : Int32) (x4 : Int32) (x5 : Int32) : Option (mm_M × Unit) :=
  if (3 : Int32) ≤ x5 then
    kx G x1
  else
    if x4 = (-1 : Int32) then
      kx G x1
    else
      q_nn x1 fun b63_15 =>
      q_gR G b63_15 5 2 fun r63_16 =>
      q_nn r63_16 fun b68_17 =>
      q_is G b68_17 4 <|
      q_cl (pX3_addCandidate_0 N b68_17 G x4) fun G _ =>
      q_gR G b63_15 5 1 fun r72_19 =>
      q_nn r72_19 fun b81_20 =>
      q_is G b81_20 6 <|
      q_cl (pX5_closestBeyond_0 N b81_20 G x3 (x4 ^^^ x3) (-1 : Int32)) fun G v81_22 =>
      kb G (some b63_15) x3 v81_22 (x5 + (1 : Int32))
def pX6_startLookup_50 (N a0 : Nat) (kx : mm_M → Option Nat → Option (mm_M × Unit)) : Nat → mm_M → Option Nat → Int32 → Int32 → Int32 → Option (mm_M × Unit)
  | 0 => fun _ _ _ _ _ => none
  | n + 1 => pX6_startLookup_50_b N a0 (pX6_startLookup_50 N a0 kx n) kx
set_option maxRecDepth 100000 in
set_option maxHeartbeats 4000000 in
theorem bX6_startLookup_50 {p : Program} {l : Launch} {e : Env} {s : State} {m : MethodId} {args : Array Value} {below : List Frame} {meth : Method} {c : Code} {E : mm_E} {N a0 : Nat} {res : mm_M × Unit} (X : mm_X p s m args meth c prog_1_method_27_code 6 "XorOverlay" tw_T E) (hr : meth.sig.returnType = none) {kx : mm_M → Option Nat → Option (mm_M × Unit)} (hkx : ∀ (G : mm_M) (H : Heap) (locs : List Loc) (ls : Array Slot) (x1 : Option Nat), mm_V E s G H locs → lx_has ls 6 [(0, .inr (some a0)), (1, .inr x1)] → kx G x1 = some res → W p l e rX6_startLookup s m args below meth c H locs 0 0 (MQ below (mm_Qv E res.1) args s 0 0 (mm_A E)) (F0 m 92 ls [])) :
    ∀ (n : Nat) (G : mm_M) (H : Heap) (locs : List Loc) (ls : Array Slot) (x1 : Option Nat) (x3 : Int32) (x4 : Int32) (x5 : Int32), mm_V E s G H locs → lx_has ls 6 [(0, .inr (some a0)), (1, .inr x1), (3, .inl x3), (4, .inl x4), (5, .inl x5)] → pX6_startLookup_50 N a0 kx n G x1 x3 x4 x5 = some res → W p l e rX6_startLookup s m args below meth c H locs 0 0 (MQ below (mm_Qv E res.1) args s 0 0 (mm_A E)) (F0 m 50 ls []) := by
  have hx := X.1.1
  have hb := X.1.2.1
  intro n
  induction n with
  | zero =>
    intro G H locs ls x1 x3 x4 x5 V hl hp
    cases hp
  | succ n ih =>
    intro G H locs ls x1 x3 x4 x5 V hl hp
    have hp : pX6_startLookup_50_b N a0 (pX6_startLookup_50 N a0 kx n) kx G x1 x3 x4 x5 = some res := hp
    unfold pX6_startLookup_50_b at hp
    refine x_iload X dX6_startLookup_50 hl 4 rfl ?_
    refine lv_iconst (v := (3 : Int32)) hx hb dX6_startLookup_52 (by decide) ?_
    refine q_if hp (lv_icmp_ge (tgt := 92) hx hb dX6_startLookup_53 (by decide)) (fun hp => ?_) (fun hp => ?_)
    · exact hkx _ _ _ _ _ V (lx_sub hl [0, 1] rfl) hp
    · refine x_iload X dX6_startLookup_56 hl 3 rfl ?_
      refine lv_iconst (v := (-1 : Int32)) hx hb dX6_startLookup_58 (by decide) ?_
      refine q_if hp (lv_icmp_eq (tgt := 92) hx hb dX6_startLookup_59 (by decide)) (fun hp => ?_) (fun hp => ?_)
      · exact hkx _ _ _ _ _ V (lx_sub hl [0, 1] rfl) hp
      · refine x_aload_n X dX6_startLookup_62 hl 1 rfl rfl ?_
        obtain ⟨b63_15, e0, hp2⟩ := q_nn_of hp
        clear hp; subst e0; have hp := hp2; clear hp2
        refine q_getR (ci := 4) X V inX4 rfl (by decide) rfl 2 (by decide) rfl (tw_1 217 rfl rfl) rfl dX6_startLookup_63 hp (fun r63_16 hp => ?_)
        refine x_iload X dX6_startLookup_66 hl 3 rfl ?_
        obtain ⟨b68_17, e0, hp2⟩ := q_nn_of hp
        clear hp; subst e0; have hp := hp2; clear hp2
        obtain ⟨hk, hp⟩ := q_is_of hp
        obtain ⟨⟨G, u⟩, hq, hp⟩ := q_cl_of hp
        dsimp only at hp
        refine q_gov (cells' := 0) (slots' := 0) (va_runV (As := [.int x4]) (rest := []) X.1 (cX3_addCandidate l E hq) (tw_cwV 1 X.1.2.2.2.2 (tw_2 69 rfl rfl) kX3_addCandidate.2.1 kX3_addCandidate.2.2.1 kX3_addCandidate.2.2.2 kX3_addCandidate.1 rfl rfl hX3_addCandidate ⟨Nat.le_of_ble_eq_true rfl, Nat.le_of_ble_eq_true rfl⟩) (mm_preV X V rfl (by decide) rfl hk) rfl rfl hl.1 rfl (lv_room (Nat.le_of_ble_eq_true rfl)) dX6_startLookup_68 ⟨by decide, by decide⟩) V ⟨rfl, rfl⟩ (fun H locs V => ?_)
        refine x_aload_n X dX6_startLookup_71 hl 1 rfl rfl ?_
        refine q_getR (ci := 4) X V inX4 rfl (by decide) rfl 1 (by decide) rfl (tw_1 215 rfl rfl) rfl dX6_startLookup_72 hp (fun r72_19 hp => ?_)
        refine x_iload_n X dX6_startLookup_75 hl 2 rfl rfl ?_
        refine x_iload X dX6_startLookup_76 hl 3 rfl ?_
        refine x_iload_n X dX6_startLookup_78 hl 2 rfl rfl ?_
        refine lv_ixor hx hb dX6_startLookup_79 ?_
        refine lv_iconst (v := (-1 : Int32)) hx hb dX6_startLookup_80 (by decide) ?_
        obtain ⟨b81_20, e0, hp2⟩ := q_nn_of hp
        clear hp; subst e0; have hp := hp2; clear hp2
        obtain ⟨hk, hp⟩ := q_is_of hp
        obtain ⟨⟨G, v81_22⟩, hq, hp⟩ := q_cl_of hp
        dsimp only at hp
        refine q_goi (cells' := 0) (slots' := 0) (va_runV (As := [.int x3, .int (x4 ^^^ x3), .int (-1 : Int32)]) (rest := []) X.1 (cX5_closestBeyond l E hq) (tw_cwV 3 X.1.2.2.2.2 (tw_2 65 rfl rfl) kX5_closestBeyond.2.1 kX5_closestBeyond.2.2.1 kX5_closestBeyond.2.2.2 kX5_closestBeyond.1 rfl rfl hX5_closestBeyond ⟨Nat.le_of_ble_eq_true rfl, Nat.le_of_ble_eq_true rfl⟩) (mm_preV X V rfl (by decide) rfl hk) rfl rfl hl.1 rfl (lv_room (Nat.le_of_ble_eq_true rfl)) dX6_startLookup_81 ⟨by decide, by decide⟩) V ⟨rfl, rfl⟩ (fun H locs V => ?_)
        refine x_istore (lst' := [(4, .inl v81_22), (0, .inr (some a0)), (1, .inr (some b63_15)), (3, .inl x3), (5, .inl x5)]) X dX6_startLookup_84 hl (by decide) rfl (fun ls hl => ?_)
        refine x_iinc (v := (1 : Int32)) (lst' := [(5, .inl (x5 + (1 : Int32))), (4, .inl v81_22), (0, .inr (some a0)), (1, .inr (some b63_15)), (3, .inl x3)]) X dX6_startLookup_86 hl 4 rfl (by decide) (by decide) rfl (fun ls hl => ?_)
        refine lv_goto (tgt := 50) hx hb dX6_startLookup_89 (by decide) ?_
        exact ih _ _ _ _ _ _ _ _ V (lx_sub hl [2, 3, 4, 1, 0] rfl) hp
def pX6_startLookup_0 (N a0 : Nat) (G : mm_M) (x1 : Option Nat) (x2 : Int32) (x3 : Int32) : Option (mm_M × Unit) :=
  q_gI G a0 7 6 fun v2_1 =>
  q_pI G a0 7 6 (v2_1 + (1 : Int32)) fun G =>
  q_nn x1 fun b11_2 =>
  q_gR G b11_2 5 1 fun r11_3 =>
  q_gI G a0 7 5 fun v16_4 =>
  q_nn r11_3 fun b19_5 =>
  q_is G b19_5 6 <|
  q_cl (pX5_touch_0 N b19_5 G x3 v16_4) fun G _ =>
  q_gR G b11_2 5 2 fun r23_7 =>
  q_gI G a0 7 6 fun v29_8 =>
  q_nn r23_7 fun b32_9 =>
  q_is G b32_9 4 <|
  q_cl (pX3_start_0 N b32_9 G x2 x3 v29_8) fun G _ =>
  q_gR G b11_2 5 1 fun r36_11 =>
  q_nn r36_11 fun b42_12 =>
  q_is G b42_12 6 <|
  q_cl (pX5_closestBeyond_0 N b42_12 G x3 (-1 : Int32) (-1 : Int32)) fun G v42_14 =>
  pX6_startLookup_50 N a0 (fun (G : mm_M) (x1 : Option Nat) =>
    q_is G a0 7 <|
    q_cl (pX6_goOn_0 N a0 G x1) fun G _ =>
    some (G, ())) N G (some b11_2) x3 v42_14 (0 : Int32)
set_option maxRecDepth 100000 in
set_option maxHeartbeats 4000000 in
theorem bX6_startLookup_0 {p : Program} {l : Launch} {e : Env} {s : State} {m : MethodId} {args : Array Value} {below : List Frame} {meth : Method} {c : Code} {E : mm_E} {N a0 : Nat} {res : mm_M × Unit} (X : mm_X p s m args meth c prog_1_method_27_code 6 "XorOverlay" tw_T E) (hr : meth.sig.returnType = none) {G : mm_M} {H : Heap} {locs : List Loc} {ls : Array Slot} {x1 : Option Nat} {x2 : Int32} {x3 : Int32} (V : mm_V E s G H locs) (hl : lx_has ls 6 [(0, .inr (some a0)), (1, .inr x1), (2, .inl x2), (3, .inl x3)]) (hp : pX6_startLookup_0 N a0 G x1 x2 x3 = some res) : W p l e rX6_startLookup s m args below meth c H locs 0 0 (MQ below (mm_Qv E res.1) args s 0 0 (mm_A E)) (F0 m 0 ls []) := by
  have hx := X.1.1
  have hb := X.1.2.1
  unfold pX6_startLookup_0 at hp
  refine x_aload_n X dX6_startLookup_0 hl 0 rfl rfl ?_
  refine lv_dup hx hb dX6_startLookup_1 (va_rf_cat _) ?_
  refine q_getI (ci := 6) X V inX6 rfl (by decide) rfl 6 (by decide) rfl (tw_1 42 rfl rfl) rfl dX6_startLookup_2 hp (fun v2_1 hp => ?_)
  refine lv_iconst (v := (1 : Int32)) hx hb dX6_startLookup_5 (by decide) ?_
  refine lv_iadd hx hb dX6_startLookup_6 ?_
  refine q_putI (ci := 6) X V inX6 rfl tyX6 tyX6_ok nmX6 (by decide) rfl 6 (by decide) rfl (tw_1 42 rfl rfl) rfl (Or.inl rfl) .int rfl rfl rfl dX6_startLookup_7 hp (fun G H locs V hp => ?_)
  refine x_aload_n X dX6_startLookup_10 hl 1 rfl rfl ?_
  obtain ⟨b11_2, e0, hp2⟩ := q_nn_of hp
  clear hp; subst e0; have hp := hp2; clear hp2
  refine q_getR (ci := 4) X V inX4 rfl (by decide) rfl 1 (by decide) rfl (tw_1 215 rfl rfl) rfl dX6_startLookup_11 hp (fun r11_3 hp => ?_)
  refine x_iload_n X dX6_startLookup_14 hl 3 rfl rfl ?_
  refine x_aload_n X dX6_startLookup_15 hl 0 rfl rfl ?_
  refine q_getI (ci := 6) X V inX6 rfl (by decide) rfl 5 (by decide) rfl (tw_1 41 rfl rfl) rfl dX6_startLookup_16 hp (fun v16_4 hp => ?_)
  obtain ⟨b19_5, e0, hp2⟩ := q_nn_of hp
  clear hp; subst e0; have hp := hp2; clear hp2
  obtain ⟨hk, hp⟩ := q_is_of hp
  obtain ⟨⟨G, u⟩, hq, hp⟩ := q_cl_of hp
  dsimp only at hp
  refine q_gov (cells' := 0) (slots' := 0) (va_runV (As := [.int x3, .int v16_4]) (rest := []) X.1 (cX5_touch l E hq) (tw_cwV 2 X.1.2.2.2.2 (tw_2 56 rfl rfl) kX5_touch.2.1 kX5_touch.2.2.1 kX5_touch.2.2.2 kX5_touch.1 rfl rfl hX5_touch ⟨Nat.le_of_ble_eq_true rfl, Nat.le_of_ble_eq_true rfl⟩) (mm_preV X V rfl (by decide) rfl hk) rfl rfl hl.1 rfl (lv_room (Nat.le_of_ble_eq_true rfl)) dX6_startLookup_19 ⟨by decide, by decide⟩) V ⟨rfl, rfl⟩ (fun H locs V => ?_)
  refine x_aload_n X dX6_startLookup_22 hl 1 rfl rfl ?_
  refine q_getR (ci := 4) X V inX4 rfl (by decide) rfl 2 (by decide) rfl (tw_1 217 rfl rfl) rfl dX6_startLookup_23 hp (fun r23_7 hp => ?_)
  refine x_iload_n X dX6_startLookup_26 hl 2 rfl rfl ?_
  refine x_iload_n X dX6_startLookup_27 hl 3 rfl rfl ?_
  refine x_aload_n X dX6_startLookup_28 hl 0 rfl rfl ?_
  refine q_getI (ci := 6) X V inX6 rfl (by decide) rfl 6 (by decide) rfl (tw_1 42 rfl rfl) rfl dX6_startLookup_29 hp (fun v29_8 hp => ?_)
  obtain ⟨b32_9, e0, hp2⟩ := q_nn_of hp
  clear hp; subst e0; have hp := hp2; clear hp2
  obtain ⟨hk, hp⟩ := q_is_of hp
  obtain ⟨⟨G, u⟩, hq, hp⟩ := q_cl_of hp
  dsimp only at hp
  refine q_gov (cells' := 0) (slots' := 0) (va_runV (As := [.int x2, .int x3, .int v29_8]) (rest := []) X.1 (cX3_start l E hq) (tw_cwV 3 X.1.2.2.2.2 (tw_2 60 rfl rfl) kX3_start.2.1 kX3_start.2.2.1 kX3_start.2.2.2 kX3_start.1 rfl rfl hX3_start ⟨Nat.le_of_ble_eq_true rfl, Nat.le_of_ble_eq_true rfl⟩) (mm_preV X V rfl (by decide) rfl hk) rfl rfl hl.1 rfl (lv_room (Nat.le_of_ble_eq_true rfl)) dX6_startLookup_32 ⟨by decide, by decide⟩) V ⟨rfl, rfl⟩ (fun H locs V => ?_)
  refine x_aload_n X dX6_startLookup_35 hl 1 rfl rfl ?_
  refine q_getR (ci := 4) X V inX4 rfl (by decide) rfl 1 (by decide) rfl (tw_1 215 rfl rfl) rfl dX6_startLookup_36 hp (fun r36_11 hp => ?_)
  refine x_iload_n X dX6_startLookup_39 hl 3 rfl rfl ?_
  refine lv_iconst (v := (-1 : Int32)) hx hb dX6_startLookup_40 (by decide) ?_
  refine lv_iconst (v := (-1 : Int32)) hx hb dX6_startLookup_41 (by decide) ?_
  obtain ⟨b42_12, e0, hp2⟩ := q_nn_of hp
  clear hp; subst e0; have hp := hp2; clear hp2
  obtain ⟨hk, hp⟩ := q_is_of hp
  obtain ⟨⟨G, v42_14⟩, hq, hp⟩ := q_cl_of hp
  dsimp only at hp
  refine q_goi (cells' := 0) (slots' := 0) (va_runV (As := [.int x3, .int (-1 : Int32), .int (-1 : Int32)]) (rest := []) X.1 (cX5_closestBeyond l E hq) (tw_cwV 3 X.1.2.2.2.2 (tw_2 65 rfl rfl) kX5_closestBeyond.2.1 kX5_closestBeyond.2.2.1 kX5_closestBeyond.2.2.2 kX5_closestBeyond.1 rfl rfl hX5_closestBeyond ⟨Nat.le_of_ble_eq_true rfl, Nat.le_of_ble_eq_true rfl⟩) (mm_preV X V rfl (by decide) rfl hk) rfl rfl hl.1 rfl (lv_room (Nat.le_of_ble_eq_true rfl)) dX6_startLookup_42 ⟨by decide, by decide⟩) V ⟨rfl, rfl⟩ (fun H locs V => ?_)
  refine x_istore (lst' := [(4, .inl v42_14), (0, .inr (some a0)), (1, .inr (some b11_2)), (2, .inl x2), (3, .inl x3)]) X dX6_startLookup_45 hl (by decide) rfl (fun ls hl => ?_)
  refine lv_iconst (v := (0 : Int32)) hx hb dX6_startLookup_47 (by decide) ?_
  refine x_istore (lst' := [(5, .inl (0 : Int32)), (4, .inl v42_14), (0, .inr (some a0)), (1, .inr (some b11_2)), (2, .inl x2), (3, .inl x3)]) X dX6_startLookup_48 hl (by decide) rfl (fun ls hl => ?_)
  refine bX6_startLookup_50 X hr (fun G H locs ls x1 V hl hp => ?_) _ _ _ _ _ _ _ _ _ V (lx_sub hl [2, 3, 5, 1, 0] rfl) hp
  refine x_aload_n X dX6_startLookup_92 hl 0 rfl rfl ?_
  refine x_aload_n X dX6_startLookup_93 hl 1 rfl rfl ?_
  obtain ⟨hk, hp⟩ := q_is_of hp
  obtain ⟨⟨G, u⟩, hq, hp⟩ := q_cl_of hp
  dsimp only at hp
  refine q_gov (cells' := 0) (slots' := 0) (va_runV (As := [va_rf x1]) (rest := []) X.1 (cX6_goOn l E hq) (tw_cwV 1 X.1.2.2.2.2 (tw_2 77 rfl rfl) kX6_goOn.2.1 kX6_goOn.2.2.1 kX6_goOn.2.2.2 kX6_goOn.1 rfl rfl hX6_goOn ⟨Nat.le_of_ble_eq_true rfl, Nat.le_of_ble_eq_true rfl⟩) (mm_preV X V rfl (by decide) rfl hk) rfl rfl hl.1 rfl (lv_room (Nat.le_of_ble_eq_true rfl)) dX6_startLookup_94 ⟨by decide, by decide⟩) V ⟨rfl, rfl⟩ (fun H locs V => ?_)
  exact q_vret X V hr ⟨by decide, by decide⟩ dX6_startLookup_97 hp
theorem cX6_startLookup (l : Launch) (E : mm_E) {N a0 : Nat} {G : mm_M} {x1 : Option Nat} {x2 : Int32} {x3 : Int32} {res : mm_M × Unit} (hp : pX6_startLookup_0 N a0 G x1 x2 x3 = some res) : Met l yX6_startLookup (Cond.code yX6_startLookup prog_1_method_27_code 6 none :: tw_T) rX6_startLookup (mm_Pc E G [.ref a0, va_rf x1, .int x2, .int x3]) (mm_Qv E res.1) 0 0 (mm_A E) :=
  mm_met (own := "XorOverlay") E G [.inr (some a0), .inr x1, .inl x2, .inl x3] (by decide) rfl rfl (Nat.le_of_ble_eq_true rfl) (fun p e s m args below meth c ls X hr hi V hl => bX6_startLookup_0 X hr V hl hp)
end
section
abbrev yX6_join : MethodName := ⟨"XorOverlay", "join", "(II)Z"⟩
abbrev rX6_join : Room := { frames := 5, cells := 43, slots := 230, locals := 124 }
theorem kX6_join : Cond.code yX6_join prog_1_method_2_code 4 (Option.some .boolean) ∈ tw_T ∧ Cond.instanceMethod yX6_join ∈ tw_T ∧ Cond.selects "XorOverlay" yX6_join yX6_join ∈ tw_T ∧ Cond.initialized "XorOverlay" ∈ tw_T := ⟨(tw_1 61 rfl rfl), (tw_1 59 rfl rfl), (tw_1 60 rfl rfl), (tw_1 1 rfl rfl)⟩
theorem hX6_join : yX6_join.cls = "XorOverlay" ∧ yX6_join.cls ≠ "java/lang/invoke/MethodHandle" ∧ yX6_join.cls ≠ "java/lang/invoke/VarHandle" ∧ (parseMethodDescriptor yX6_join.desc).map (fun d => d.parameters.length) = some 2 := by decide +kernel
theorem dX6_join_0 : decode prog_1_method_2_code 0 = .ok (.iload_n 1, 1) := by decide +kernel
theorem dX6_join_1 : decode prog_1_method_2_code 1 = .ok (.invokestatic 39, 3) := by decide +kernel
theorem dX6_join_4 : decode prog_1_method_2_code 4 = .ok (.ifCond .eq 11, 3) := by decide +kernel
theorem dX6_join_7 : decode prog_1_method_2_code 7 = .ok (.aload_n 0, 1) := by decide +kernel
theorem dX6_join_8 : decode prog_1_method_2_code 8 = .ok (.iload_n 1, 1) := by decide +kernel
theorem dX6_join_9 : decode prog_1_method_2_code 9 = .ok (.invokevirtual 43, 3) := by decide +kernel
theorem dX6_join_12 : decode prog_1_method_2_code 12 = .ok (.ifnull 5, 3) := by decide +kernel
theorem dX6_join_15 : decode prog_1_method_2_code 15 = .ok (.iconst 0, 1) := by decide +kernel
theorem dX6_join_16 : decode prog_1_method_2_code 16 = .ok (.ireturn, 1) := by decide +kernel
theorem dX6_join_17 : decode prog_1_method_2_code 17 = .ok (.iload_n 2, 1) := by decide +kernel
theorem dX6_join_18 : decode prog_1_method_2_code 18 = .ok (.iconst (-1), 1) := by decide +kernel
theorem dX6_join_19 : decode prog_1_method_2_code 19 = .ok (.if_icmp .eq 13, 3) := by decide +kernel
theorem dX6_join_22 : decode prog_1_method_2_code 22 = .ok (.aload_n 0, 1) := by decide +kernel
theorem dX6_join_23 : decode prog_1_method_2_code 23 = .ok (.iload_n 2, 1) := by decide +kernel
theorem dX6_join_24 : decode prog_1_method_2_code 24 = .ok (.invokevirtual 43, 3) := by decide +kernel
theorem dX6_join_27 : decode prog_1_method_2_code 27 = .ok (.ifnonnull 5, 3) := by decide +kernel
theorem dX6_join_30 : decode prog_1_method_2_code 30 = .ok (.iconst 0, 1) := by decide +kernel
theorem dX6_join_31 : decode prog_1_method_2_code 31 = .ok (.ireturn, 1) := by decide +kernel
theorem dX6_join_32 : decode prog_1_method_2_code 32 = .ok (.aload_n 0, 1) := by decide +kernel
theorem dX6_join_33 : decode prog_1_method_2_code 33 = .ok (.iload_n 1, 1) := by decide +kernel
theorem dX6_join_34 : decode prog_1_method_2_code 34 = .ok (.invokevirtual 47, 3) := by decide +kernel
theorem dX6_join_37 : decode prog_1_method_2_code 37 = .ok (.astore_n 3, 1) := by decide +kernel
theorem dX6_join_38 : decode prog_1_method_2_code 38 = .ok (.aload_n 3, 1) := by decide +kernel
theorem dX6_join_39 : decode prog_1_method_2_code 39 = .ok (.ifnonnull 5, 3) := by decide +kernel
theorem dX6_join_42 : decode prog_1_method_2_code 42 = .ok (.iconst 0, 1) := by decide +kernel
theorem dX6_join_43 : decode prog_1_method_2_code 43 = .ok (.ireturn, 1) := by decide +kernel
theorem dX6_join_44 : decode prog_1_method_2_code 44 = .ok (.aload_n 3, 1) := by decide +kernel
theorem dX6_join_45 : decode prog_1_method_2_code 45 = .ok (.aload_n 0, 1) := by decide +kernel
theorem dX6_join_46 : decode prog_1_method_2_code 46 = .ok (.getfield 33, 3) := by decide +kernel
theorem dX6_join_49 : decode prog_1_method_2_code 49 = .ok (.invokevirtual 50, 3) := by decide +kernel
theorem dX6_join_52 : decode prog_1_method_2_code 52 = .ok (.iload_n 2, 1) := by decide +kernel
theorem dX6_join_53 : decode prog_1_method_2_code 53 = .ok (.iconst (-1), 1) := by decide +kernel
theorem dX6_join_54 : decode prog_1_method_2_code 54 = .ok (.if_icmp .eq 22, 3) := by decide +kernel
theorem dX6_join_57 : decode prog_1_method_2_code 57 = .ok (.aload_n 3, 1) := by decide +kernel
theorem dX6_join_58 : decode prog_1_method_2_code 58 = .ok (.getfield 54, 3) := by decide +kernel
theorem dX6_join_61 : decode prog_1_method_2_code 61 = .ok (.iload_n 2, 1) := by decide +kernel
theorem dX6_join_62 : decode prog_1_method_2_code 62 = .ok (.aload_n 0, 1) := by decide +kernel
theorem dX6_join_63 : decode prog_1_method_2_code 63 = .ok (.getfield 33, 3) := by decide +kernel
theorem dX6_join_66 : decode prog_1_method_2_code 66 = .ok (.invokevirtual 58, 3) := by decide +kernel
theorem dX6_join_69 : decode prog_1_method_2_code 69 = .ok (.aload_n 0, 1) := by decide +kernel
theorem dX6_join_70 : decode prog_1_method_2_code 70 = .ok (.aload_n 3, 1) := by decide +kernel
theorem dX6_join_71 : decode prog_1_method_2_code 71 = .ok (.iconst 0, 1) := by decide +kernel
theorem dX6_join_72 : decode prog_1_method_2_code 72 = .ok (.iload_n 1, 1) := by decide +kernel
theorem dX6_join_73 : decode prog_1_method_2_code 73 = .ok (.invokevirtual 64, 3) := by decide +kernel
theorem dX6_join_76 : decode prog_1_method_2_code 76 = .ok (.iconst 1, 1) := by decide +kernel
theorem dX6_join_77 : decode prog_1_method_2_code 77 = .ok (.ireturn, 1) := by decide +kernel
def pX6_join_32 (N a0 : Nat) (G : mm_M) (x1 : Int32) (x2 : Int32) : Option (mm_M × Int32) :=
  q_is G a0 7 <|
  q_cl (pX6_enrolIfRoom_0 N a0 G x1) fun G r34_7 =>
  q_op r34_7 (
    some (G, (0 : Int32))) fun b39_8 =>
  q_gI G a0 7 5 fun v46_9 =>
  q_is G b39_8 5 <|
  q_cl (pX4_startAnew_0 N b39_8 G v46_9) fun G _ =>
  if x2 = (-1 : Int32) then
    some (G, (1 : Int32))
  else
    q_gR G b39_8 5 1 fun r58_11 =>
    q_gI G a0 7 5 fun v63_12 =>
    q_nn r58_11 fun b66_13 =>
    q_is G b66_13 6 <|
    q_cl (pX5_see_0 N b66_13 G x2 v63_12) fun G _ =>
    q_is G a0 7 <|
    q_cl (pX6_startLookup_0 N a0 G (some b39_8) (0 : Int32) x1) fun G _ =>
    some (G, (1 : Int32))
set_option maxRecDepth 100000 in
set_option maxHeartbeats 4000000 in
theorem bX6_join_32 {p : Program} {l : Launch} {e : Env} {s : State} {m : MethodId} {args : Array Value} {below : List Frame} {meth : Method} {c : Code} {E : mm_E} {N a0 : Nat} {res : mm_M × Int32} (X : mm_X p s m args meth c prog_1_method_2_code 4 "XorOverlay" tw_T E) (hr : meth.sig.returnType = (Option.some .boolean)) {G : mm_M} {H : Heap} {locs : List Loc} {ls : Array Slot} {x1 : Int32} {x2 : Int32} (V : mm_V E s G H locs) (hl : lx_has ls 4 [(0, .inr (some a0)), (1, .inl x1), (2, .inl x2)]) (hp : pX6_join_32 N a0 G x1 x2 = some res) : W p l e rX6_join s m args below meth c H locs 0 0 (MQ below (mm_Qi E res.1 res.2) args s 43 230 (mm_A E)) (F0 m 32 ls []) := by
  have hx := X.1.1
  have hb := X.1.2.1
  unfold pX6_join_32 at hp
  refine x_aload_n X dX6_join_32 hl 0 rfl rfl ?_
  refine x_iload_n X dX6_join_33 hl 1 rfl rfl ?_
  obtain ⟨hk, hp⟩ := q_is_of hp
  obtain ⟨⟨G, r34_7⟩, hq, hp⟩ := q_cl_of hp
  dsimp only at hp
  refine q_goq (cells' := 43) (slots' := 230) (va_runV (As := [.int x1]) (rest := []) X.1 (cX6_enrolIfRoom l E hq) (tw_cwV 1 X.1.2.2.2.2 (tw_1 73 rfl rfl) kX6_enrolIfRoom.2.1 kX6_enrolIfRoom.2.2.1 kX6_enrolIfRoom.2.2.2 kX6_enrolIfRoom.1 rfl rfl hX6_enrolIfRoom ⟨Nat.le_of_ble_eq_true rfl, Nat.le_of_ble_eq_true rfl⟩) (mm_preV X V rfl (by decide) rfl hk) rfl rfl hl.1 rfl (lv_room (Nat.le_of_ble_eq_true rfl)) dX6_join_34 ⟨by decide, by decide⟩) V ⟨rfl, rfl⟩ (fun H locs V => ?_)
  refine x_astore_n (lst' := [(3, .inr r34_7), (0, .inr (some a0)), (1, .inl x1), (2, .inl x2)]) X dX6_join_37 hl rfl (by decide) rfl (fun ls hl => ?_)
  refine x_aload_n X dX6_join_38 hl 0 rfl rfl ?_
  refine q_ifnonnull (tgt := 44) X dX6_join_39 (by decide) hp (fun e0 hp2 => ?_) (fun b39_8 e0 hp2 => ?_)
  · clear hp; subst e0; have hp := hp2; clear hp2
    refine lv_iconst (v := (0 : Int32)) hx hb dX6_join_42 (by decide) ?_
    exact q_zret X V hr rfl ⟨by decide, by decide⟩ dX6_join_43 hp
  · clear hp; subst e0; have hp := hp2; clear hp2
    refine x_aload_n X dX6_join_44 hl 0 rfl rfl ?_
    refine x_aload_n X dX6_join_45 hl 1 rfl rfl ?_
    refine q_getI (ci := 6) X V inX6 rfl (by decide) rfl 5 (by decide) rfl (tw_1 41 rfl rfl) rfl dX6_join_46 hp (fun v46_9 hp => ?_)
    obtain ⟨hk, hp⟩ := q_is_of hp
    obtain ⟨⟨G, u⟩, hq, hp⟩ := q_cl_of hp
    dsimp only at hp
    refine q_gov (cells' := 43) (slots' := 230) (va_runV (As := [.int v46_9]) (rest := []) X.1 (cX4_startAnew l E hq) (tw_cwV 1 X.1.2.2.2.2 (tw_1 233 rfl rfl) kX4_startAnew.2.1 kX4_startAnew.2.2.1 kX4_startAnew.2.2.2 kX4_startAnew.1 rfl rfl hX4_startAnew ⟨Nat.le_of_ble_eq_true rfl, Nat.le_of_ble_eq_true rfl⟩) (mm_preV X V rfl (by decide) rfl hk) rfl rfl hl.1 rfl (lv_room (Nat.le_of_ble_eq_true rfl)) dX6_join_49 ⟨by decide, by decide⟩) V ⟨rfl, rfl⟩ (fun H locs V => ?_)
    refine x_iload_n X dX6_join_52 hl 3 rfl rfl ?_
    refine lv_iconst (v := (-1 : Int32)) hx hb dX6_join_53 (by decide) ?_
    refine q_if hp (lv_icmp_eq (tgt := 76) hx hb dX6_join_54 (by decide)) (fun hp => ?_) (fun hp => ?_)
    · refine lv_iconst (v := (1 : Int32)) hx hb dX6_join_76 (by decide) ?_
      exact q_zret X V hr rfl ⟨by decide, by decide⟩ dX6_join_77 hp
    · refine x_aload_n X dX6_join_57 hl 0 rfl rfl ?_
      refine q_getR (ci := 4) X V inX4 rfl (by decide) rfl 1 (by decide) rfl (tw_1 215 rfl rfl) rfl dX6_join_58 hp (fun r58_11 hp => ?_)
      refine x_iload_n X dX6_join_61 hl 3 rfl rfl ?_
      refine x_aload_n X dX6_join_62 hl 1 rfl rfl ?_
      refine q_getI (ci := 6) X V inX6 rfl (by decide) rfl 5 (by decide) rfl (tw_1 41 rfl rfl) rfl dX6_join_63 hp (fun v63_12 hp => ?_)
      obtain ⟨b66_13, e0, hp2⟩ := q_nn_of hp
      clear hp; subst e0; have hp := hp2; clear hp2
      obtain ⟨hk, hp⟩ := q_is_of hp
      obtain ⟨⟨G, u⟩, hq, hp⟩ := q_cl_of hp
      dsimp only at hp
      refine q_gov (cells' := 43) (slots' := 230) (va_runV (As := [.int x2, .int v63_12]) (rest := []) X.1 (cX5_see l E hq) (tw_cwV 2 X.1.2.2.2.2 (tw_2 9 rfl rfl) kX5_see.2.1 kX5_see.2.2.1 kX5_see.2.2.2 kX5_see.1 rfl rfl hX5_see ⟨Nat.le_of_ble_eq_true rfl, Nat.le_of_ble_eq_true rfl⟩) (mm_preV X V rfl (by decide) rfl hk) rfl rfl hl.1 rfl (lv_room (Nat.le_of_ble_eq_true rfl)) dX6_join_66 ⟨by decide, by decide⟩) V ⟨rfl, rfl⟩ (fun H locs V => ?_)
      refine x_aload_n X dX6_join_69 hl 1 rfl rfl ?_
      refine x_aload_n X dX6_join_70 hl 0 rfl rfl ?_
      refine lv_iconst (v := (0 : Int32)) hx hb dX6_join_71 (by decide) ?_
      refine x_iload_n X dX6_join_72 hl 2 rfl rfl ?_
      obtain ⟨hk, hp⟩ := q_is_of hp
      obtain ⟨⟨G, u⟩, hq, hp⟩ := q_cl_of hp
      dsimp only at hp
      refine q_gov (cells' := 43) (slots' := 230) (va_runV (As := [va_rf (some b39_8), .int (0 : Int32), .int x1]) (rest := []) X.1 (cX6_startLookup l E hq) (tw_cwV 3 X.1.2.2.2.2 (tw_2 52 rfl rfl) kX6_startLookup.2.1 kX6_startLookup.2.2.1 kX6_startLookup.2.2.2 kX6_startLookup.1 rfl rfl hX6_startLookup ⟨Nat.le_of_ble_eq_true rfl, Nat.le_of_ble_eq_true rfl⟩) (mm_preV X V rfl (by decide) rfl hk) rfl rfl hl.1 rfl (lv_room (Nat.le_of_ble_eq_true rfl)) dX6_join_73 ⟨by decide, by decide⟩) V ⟨rfl, rfl⟩ (fun H locs V => ?_)
      refine lv_iconst (v := (1 : Int32)) hx hb dX6_join_76 (by decide) ?_
      exact q_zret X V hr rfl ⟨by decide, by decide⟩ dX6_join_77 hp
def pX6_join_0 (N a0 : Nat) (G : mm_M) (x1 : Int32) (x2 : Int32) : Option (mm_M × Int32) :=
  q_cl (pX6_isNumber_0 N G x1) fun G v1_2 =>
  if v1_2 = 0 then
    some (G, (0 : Int32))
  else
    q_is G a0 7 <|
    q_cl (pX6_upPeer_0 N a0 G x1) fun G r9_4 =>
    q_op r9_4 (
      if x2 = (-1 : Int32) then
        pX6_join_32 N a0 G x1 x2
      else
        q_is G a0 7 <|
        q_cl (pX6_upPeer_0 N a0 G x2) fun G r24_17 =>
        q_op r24_17 (
          some (G, (0 : Int32))) fun b27_18 =>
        pX6_join_32 N a0 G x1 x2) fun b12_5 =>
    some (G, (0 : Int32))
set_option maxRecDepth 100000 in
set_option maxHeartbeats 4000000 in
theorem bX6_join_0 {p : Program} {l : Launch} {e : Env} {s : State} {m : MethodId} {args : Array Value} {below : List Frame} {meth : Method} {c : Code} {E : mm_E} {N a0 : Nat} {res : mm_M × Int32} (X : mm_X p s m args meth c prog_1_method_2_code 4 "XorOverlay" tw_T E) (hr : meth.sig.returnType = (Option.some .boolean)) {G : mm_M} {H : Heap} {locs : List Loc} {ls : Array Slot} {x1 : Int32} {x2 : Int32} (V : mm_V E s G H locs) (hl : lx_has ls 4 [(0, .inr (some a0)), (1, .inl x1), (2, .inl x2)]) (hp : pX6_join_0 N a0 G x1 x2 = some res) : W p l e rX6_join s m args below meth c H locs 0 0 (MQ below (mm_Qi E res.1 res.2) args s 43 230 (mm_A E)) (F0 m 0 ls []) := by
  have hx := X.1.1
  have hb := X.1.2.1
  unfold pX6_join_0 at hp
  refine x_iload_n X dX6_join_0 hl 1 rfl rfl ?_
  obtain ⟨⟨G, v1_2⟩, hq, hp⟩ := q_cl_of hp
  dsimp only at hp
  refine q_goi (cells' := 0) (slots' := 0) (va_runS (As := [.int x1]) (rest := []) X.1 (cX6_isNumber l E hq) (tw_cwS 1 X.1.2.2.2.2 (tw_1 62 rfl rfl) kX6_isNumber.2.1 kX6_isNumber.2.2 kX6_isNumber.1 rfl rfl hX6_isNumber ⟨Nat.le_of_ble_eq_true rfl, Nat.le_of_ble_eq_true rfl⟩) (mm_preS X V) rfl rfl hl.1 rfl (lv_room (Nat.le_of_ble_eq_true rfl)) dX6_join_1 ⟨by decide, by decide⟩) V ⟨rfl, rfl⟩ (fun H locs V => ?_)
  refine q_if hp (lv_if_eq (tgt := 15) hx hb dX6_join_4 (by decide)) (fun hp => ?_) (fun hp => ?_)
  · refine lv_iconst (v := (0 : Int32)) hx hb dX6_join_15 (by decide) ?_
    exact q_zret X V hr rfl ⟨by decide, by decide⟩ dX6_join_16 hp
  · refine x_aload_n X dX6_join_7 hl 0 rfl rfl ?_
    refine x_iload_n X dX6_join_8 hl 1 rfl rfl ?_
    obtain ⟨hk, hp⟩ := q_is_of hp
    obtain ⟨⟨G, r9_4⟩, hq, hp⟩ := q_cl_of hp
    dsimp only at hp
    refine q_goq (cells' := 0) (slots' := 0) (va_runV (As := [.int x1]) (rest := []) X.1 (cX6_upPeer l E hq) (tw_cwV 1 X.1.2.2.2.2 (tw_1 65 rfl rfl) kX6_upPeer.2.1 kX6_upPeer.2.2.1 kX6_upPeer.2.2.2 kX6_upPeer.1 rfl rfl hX6_upPeer ⟨Nat.le_of_ble_eq_true rfl, Nat.le_of_ble_eq_true rfl⟩) (mm_preV X V rfl (by decide) rfl hk) rfl rfl hl.1 rfl (lv_room (Nat.le_of_ble_eq_true rfl)) dX6_join_9 ⟨by decide, by decide⟩) V ⟨rfl, rfl⟩ (fun H locs V => ?_)
    refine q_ifnull (tgt := 17) X dX6_join_12 (by decide) hp (fun e0 hp2 => ?_) (fun b12_5 e0 hp2 => ?_)
    · clear hp; subst e0; have hp := hp2; clear hp2
      refine x_iload_n X dX6_join_17 hl 2 rfl rfl ?_
      refine lv_iconst (v := (-1 : Int32)) hx hb dX6_join_18 (by decide) ?_
      refine q_if hp (lv_icmp_eq (tgt := 32) hx hb dX6_join_19 (by decide)) (fun hp => ?_) (fun hp => ?_)
      · exact bX6_join_32 X hr V (lx_sub hl [0, 1, 2] rfl) hp
      · refine x_aload_n X dX6_join_22 hl 0 rfl rfl ?_
        refine x_iload_n X dX6_join_23 hl 2 rfl rfl ?_
        obtain ⟨hk, hp⟩ := q_is_of hp
        obtain ⟨⟨G, r24_17⟩, hq, hp⟩ := q_cl_of hp
        dsimp only at hp
        refine q_goq (cells' := 0) (slots' := 0) (va_runV (As := [.int x2]) (rest := []) X.1 (cX6_upPeer l E hq) (tw_cwV 1 X.1.2.2.2.2 (tw_1 65 rfl rfl) kX6_upPeer.2.1 kX6_upPeer.2.2.1 kX6_upPeer.2.2.2 kX6_upPeer.1 rfl rfl hX6_upPeer ⟨Nat.le_of_ble_eq_true rfl, Nat.le_of_ble_eq_true rfl⟩) (mm_preV X V rfl (by decide) rfl hk) rfl rfl hl.1 rfl (lv_room (Nat.le_of_ble_eq_true rfl)) dX6_join_24 ⟨by decide, by decide⟩) V ⟨rfl, rfl⟩ (fun H locs V => ?_)
        refine q_ifnonnull (tgt := 32) X dX6_join_27 (by decide) hp (fun e0 hp2 => ?_) (fun b27_18 e0 hp2 => ?_)
        · clear hp; subst e0; have hp := hp2; clear hp2
          refine lv_iconst (v := (0 : Int32)) hx hb dX6_join_30 (by decide) ?_
          exact q_zret X V hr rfl ⟨by decide, by decide⟩ dX6_join_31 hp
        · clear hp; subst e0; have hp := hp2; clear hp2
          exact bX6_join_32 X hr V (lx_sub hl [0, 1, 2] rfl) hp
    · clear hp; subst e0; have hp := hp2; clear hp2
      refine lv_iconst (v := (0 : Int32)) hx hb dX6_join_15 (by decide) ?_
      exact q_zret X V hr rfl ⟨by decide, by decide⟩ dX6_join_16 hp
theorem cX6_join (l : Launch) (E : mm_E) {N a0 : Nat} {G : mm_M} {x1 : Int32} {x2 : Int32} {res : mm_M × Int32} (hp : pX6_join_0 N a0 G x1 x2 = some res) : Met l yX6_join (Cond.code yX6_join prog_1_method_2_code 4 (Option.some .boolean) :: tw_T) rX6_join (mm_Pc E G [.ref a0, .int x1, .int x2]) (mm_Qi E res.1 res.2) 43 230 (mm_A E) :=
  mm_met (own := "XorOverlay") E G [.inr (some a0), .inl x1, .inl x2] (by decide) rfl rfl (Nat.le_of_ble_eq_true rfl) (fun p e s m args below meth c ls X hr hi V hl => bX6_join_0 X hr V hl hp)
abbrev yX6_leave : MethodName := ⟨"XorOverlay", "leave", "(I)Z"⟩
abbrev rX6_leave : Room := { frames := 2, cells := 0, slots := 0, locals := 45 }
theorem kX6_leave : Cond.code yX6_leave prog_1_method_3_code 3 (Option.some .boolean) ∈ tw_T ∧ Cond.instanceMethod yX6_leave ∈ tw_T ∧ Cond.selects "XorOverlay" yX6_leave yX6_leave ∈ tw_T ∧ Cond.initialized "XorOverlay" ∈ tw_T := ⟨(tw_2 115 rfl rfl), (tw_2 113 rfl rfl), (tw_2 114 rfl rfl), (tw_1 1 rfl rfl)⟩
theorem hX6_leave : yX6_leave.cls = "XorOverlay" ∧ yX6_leave.cls ≠ "java/lang/invoke/MethodHandle" ∧ yX6_leave.cls ≠ "java/lang/invoke/VarHandle" ∧ (parseMethodDescriptor yX6_leave.desc).map (fun d => d.parameters.length) = some 1 := by decide +kernel
theorem dX6_leave_0 : decode prog_1_method_3_code 0 = .ok (.aload_n 0, 1) := by decide +kernel
theorem dX6_leave_1 : decode prog_1_method_3_code 1 = .ok (.iload_n 1, 1) := by decide +kernel
theorem dX6_leave_2 : decode prog_1_method_3_code 2 = .ok (.invokevirtual 43, 3) := by decide +kernel
theorem dX6_leave_5 : decode prog_1_method_3_code 5 = .ok (.astore_n 2, 1) := by decide +kernel
theorem dX6_leave_6 : decode prog_1_method_3_code 6 = .ok (.aload_n 2, 1) := by decide +kernel
theorem dX6_leave_7 : decode prog_1_method_3_code 7 = .ok (.ifnonnull 5, 3) := by decide +kernel
theorem dX6_leave_10 : decode prog_1_method_3_code 10 = .ok (.iconst 0, 1) := by decide +kernel
theorem dX6_leave_11 : decode prog_1_method_3_code 11 = .ok (.ireturn, 1) := by decide +kernel
theorem dX6_leave_12 : decode prog_1_method_3_code 12 = .ok (.aload_n 2, 1) := by decide +kernel
theorem dX6_leave_13 : decode prog_1_method_3_code 13 = .ok (.iconst 0, 1) := by decide +kernel
theorem dX6_leave_14 : decode prog_1_method_3_code 14 = .ok (.putfield 68, 3) := by decide +kernel
theorem dX6_leave_17 : decode prog_1_method_3_code 17 = .ok (.iconst 1, 1) := by decide +kernel
theorem dX6_leave_18 : decode prog_1_method_3_code 18 = .ok (.ireturn, 1) := by decide +kernel
def pX6_leave_0 (N a0 : Nat) (G : mm_M) (x1 : Int32) : Option (mm_M × Int32) :=
  q_is G a0 7 <|
  q_cl (pX6_upPeer_0 N a0 G x1) fun G r2_2 =>
  q_op r2_2 (
    some (G, (0 : Int32))) fun b7_3 =>
  q_pI G b7_3 5 4 (0 : Int32) fun G =>
  some (G, (1 : Int32))
set_option maxRecDepth 100000 in
set_option maxHeartbeats 4000000 in
theorem bX6_leave_0 {p : Program} {l : Launch} {e : Env} {s : State} {m : MethodId} {args : Array Value} {below : List Frame} {meth : Method} {c : Code} {E : mm_E} {N a0 : Nat} {res : mm_M × Int32} (X : mm_X p s m args meth c prog_1_method_3_code 3 "XorOverlay" tw_T E) (hr : meth.sig.returnType = (Option.some .boolean)) {G : mm_M} {H : Heap} {locs : List Loc} {ls : Array Slot} {x1 : Int32} (V : mm_V E s G H locs) (hl : lx_has ls 3 [(0, .inr (some a0)), (1, .inl x1)]) (hp : pX6_leave_0 N a0 G x1 = some res) : W p l e rX6_leave s m args below meth c H locs 0 0 (MQ below (mm_Qi E res.1 res.2) args s 0 0 (mm_A E)) (F0 m 0 ls []) := by
  have hx := X.1.1
  have hb := X.1.2.1
  unfold pX6_leave_0 at hp
  refine x_aload_n X dX6_leave_0 hl 0 rfl rfl ?_
  refine x_iload_n X dX6_leave_1 hl 1 rfl rfl ?_
  obtain ⟨hk, hp⟩ := q_is_of hp
  obtain ⟨⟨G, r2_2⟩, hq, hp⟩ := q_cl_of hp
  dsimp only at hp
  refine q_goq (cells' := 0) (slots' := 0) (va_runV (As := [.int x1]) (rest := []) X.1 (cX6_upPeer l E hq) (tw_cwV 1 X.1.2.2.2.2 (tw_1 65 rfl rfl) kX6_upPeer.2.1 kX6_upPeer.2.2.1 kX6_upPeer.2.2.2 kX6_upPeer.1 rfl rfl hX6_upPeer ⟨Nat.le_of_ble_eq_true rfl, Nat.le_of_ble_eq_true rfl⟩) (mm_preV X V rfl (by decide) rfl hk) rfl rfl hl.1 rfl (lv_room (Nat.le_of_ble_eq_true rfl)) dX6_leave_2 ⟨by decide, by decide⟩) V ⟨rfl, rfl⟩ (fun H locs V => ?_)
  refine x_astore_n (lst' := [(2, .inr r2_2), (0, .inr (some a0)), (1, .inl x1)]) X dX6_leave_5 hl rfl (by decide) rfl (fun ls hl => ?_)
  refine x_aload_n X dX6_leave_6 hl 0 rfl rfl ?_
  refine q_ifnonnull (tgt := 12) X dX6_leave_7 (by decide) hp (fun e0 hp2 => ?_) (fun b7_3 e0 hp2 => ?_)
  · clear hp; subst e0; have hp := hp2; clear hp2
    refine lv_iconst (v := (0 : Int32)) hx hb dX6_leave_10 (by decide) ?_
    exact q_zret X V hr rfl ⟨by decide, by decide⟩ dX6_leave_11 hp
  · clear hp; subst e0; have hp := hp2; clear hp2
    refine x_aload_n X dX6_leave_12 hl 0 rfl rfl ?_
    refine lv_iconst (v := (0 : Int32)) hx hb dX6_leave_13 (by decide) ?_
    refine q_putI (ci := 4) X V inX4 rfl tyX4 tyX4_ok nmX4 (by decide) rfl 4 (by decide) rfl (tw_1 221 rfl rfl) rfl (Or.inl rfl) .boolean rfl rfl rfl dX6_leave_14 hp (fun G H locs V hp => ?_)
    refine lv_iconst (v := (1 : Int32)) hx hb dX6_leave_17 (by decide) ?_
    exact q_zret X V hr rfl ⟨by decide, by decide⟩ dX6_leave_18 hp
theorem cX6_leave (l : Launch) (E : mm_E) {N a0 : Nat} {G : mm_M} {x1 : Int32} {res : mm_M × Int32} (hp : pX6_leave_0 N a0 G x1 = some res) : Met l yX6_leave (Cond.code yX6_leave prog_1_method_3_code 3 (Option.some .boolean) :: tw_T) rX6_leave (mm_Pc E G [.ref a0, .int x1]) (mm_Qi E res.1 res.2) 0 0 (mm_A E) :=
  mm_met (own := "XorOverlay") E G [.inr (some a0), .inl x1] (by decide) rfl rfl (Nat.le_of_ble_eq_true rfl) (fun p e s m args below meth c ls X hr hi V hl => bX6_leave_0 X hr V hl hp)
abbrev yX3_isRunning : MethodName := ⟨"XorOverlay$Lookup", "isRunning", "()Z"⟩
abbrev rX3_isRunning : Room := { frames := 0, cells := 0, slots := 0, locals := 0 }
theorem kX3_isRunning : Cond.code yX3_isRunning prog_5_method_4_code 1 (Option.some .boolean) ∈ tw_T ∧ Cond.instanceMethod yX3_isRunning ∈ tw_T ∧ Cond.selects "XorOverlay$Lookup" yX3_isRunning yX3_isRunning ∈ tw_T ∧ Cond.initialized "XorOverlay$Lookup" ∈ tw_T := ⟨(tw_2 123 rfl rfl), (tw_2 121 rfl rfl), (tw_2 122 rfl rfl), (tw_1 7 rfl rfl)⟩
theorem hX3_isRunning : yX3_isRunning.cls = "XorOverlay$Lookup" ∧ yX3_isRunning.cls ≠ "java/lang/invoke/MethodHandle" ∧ yX3_isRunning.cls ≠ "java/lang/invoke/VarHandle" ∧ (parseMethodDescriptor yX3_isRunning.desc).map (fun d => d.parameters.length) = some 0 := by decide +kernel
theorem dX3_isRunning_0 : decode prog_5_method_4_code 0 = .ok (.aload_n 0, 1) := by decide +kernel
theorem dX3_isRunning_1 : decode prog_5_method_4_code 1 = .ok (.getfield 27, 3) := by decide +kernel
theorem dX3_isRunning_4 : decode prog_5_method_4_code 4 = .ok (.iconst 1, 1) := by decide +kernel
theorem dX3_isRunning_5 : decode prog_5_method_4_code 5 = .ok (.if_icmp .ne 7, 3) := by decide +kernel
theorem dX3_isRunning_8 : decode prog_5_method_4_code 8 = .ok (.iconst 1, 1) := by decide +kernel
theorem dX3_isRunning_9 : decode prog_5_method_4_code 9 = .ok (.goto 4, 3) := by decide +kernel
theorem dX3_isRunning_12 : decode prog_5_method_4_code 12 = .ok (.iconst 0, 1) := by decide +kernel
theorem dX3_isRunning_13 : decode prog_5_method_4_code 13 = .ok (.ireturn, 1) := by decide +kernel
def pX3_isRunning_0 (N a0 : Nat) (G : mm_M) : Option (mm_M × Int32) :=
  q_gI G a0 4 5 fun v1_1 =>
  if v1_1 = (1 : Int32) then
    some (G, (1 : Int32))
  else
    some (G, (0 : Int32))
set_option maxRecDepth 100000 in
set_option maxHeartbeats 4000000 in
theorem bX3_isRunning_0 {p : Program} {l : Launch} {e : Env} {s : State} {m : MethodId} {args : Array Value} {below : List Frame} {meth : Method} {c : Code} {E : mm_E} {N a0 : Nat} {res : mm_M × Int32} (X : mm_X p s m args meth c prog_5_method_4_code 1 "XorOverlay$Lookup" tw_T E) (hr : meth.sig.returnType = (Option.some .boolean)) {G : mm_M} {H : Heap} {locs : List Loc} {ls : Array Slot} (V : mm_V E s G H locs) (hl : lx_has ls 1 [(0, .inr (some a0))]) (hp : pX3_isRunning_0 N a0 G = some res) : W p l e rX3_isRunning s m args below meth c H locs 0 0 (MQ below (mm_Qi E res.1 res.2) args s 0 0 (mm_A E)) (F0 m 0 ls []) := by
  have hx := X.1.1
  have hb := X.1.2.1
  unfold pX3_isRunning_0 at hp
  refine x_aload_n X dX3_isRunning_0 hl 0 rfl rfl ?_
  refine q_getI (ci := 3) X V inX3 rfl (by decide) rfl 5 (by decide) rfl (tw_1 153 rfl rfl) rfl dX3_isRunning_1 hp (fun v1_1 hp => ?_)
  refine lv_iconst (v := (1 : Int32)) hx hb dX3_isRunning_4 (by decide) ?_
  refine q_ifn hp (lv_icmp_ne (tgt := 12) hx hb dX3_isRunning_5 (by decide)) (fun hp => ?_) (fun hp => ?_)
  · refine lv_iconst (v := (0 : Int32)) hx hb dX3_isRunning_12 (by decide) ?_
    exact q_zret X V hr rfl ⟨by decide, by decide⟩ dX3_isRunning_13 hp
  · refine lv_iconst (v := (1 : Int32)) hx hb dX3_isRunning_8 (by decide) ?_
    refine lv_goto (tgt := 13) hx hb dX3_isRunning_9 (by decide) ?_
    exact q_zret X V hr rfl ⟨by decide, by decide⟩ dX3_isRunning_13 hp
theorem cX3_isRunning (l : Launch) (E : mm_E) {N a0 : Nat} {G : mm_M} {res : mm_M × Int32} (hp : pX3_isRunning_0 N a0 G = some res) : Met l yX3_isRunning (Cond.code yX3_isRunning prog_5_method_4_code 1 (Option.some .boolean) :: tw_T) rX3_isRunning (mm_Pc E G [.ref a0]) (mm_Qi E res.1 res.2) 0 0 (mm_A E) :=
  mm_met (own := "XorOverlay$Lookup") E G [.inr (some a0)] (by decide) rfl rfl (Nat.le_of_ble_eq_true rfl) (fun p e s m args below meth c ls X hr hi V hl => bX3_isRunning_0 X hr V hl hp)
abbrev yX6_begin : MethodName := ⟨"XorOverlay", "begin", "(III)Z"⟩
abbrev rX6_begin : Room := { frames := 5, cells := 0, slots := 0, locals := 124 }
theorem kX6_begin : Cond.code yX6_begin prog_1_method_4_code 5 (Option.some .boolean) ∈ tw_T ∧ Cond.instanceMethod yX6_begin ∈ tw_T ∧ Cond.selects "XorOverlay" yX6_begin yX6_begin ∈ tw_T ∧ Cond.initialized "XorOverlay" ∈ tw_T := ⟨(tw_2 119 rfl rfl), (tw_2 117 rfl rfl), (tw_2 118 rfl rfl), (tw_1 1 rfl rfl)⟩
theorem hX6_begin : yX6_begin.cls = "XorOverlay" ∧ yX6_begin.cls ≠ "java/lang/invoke/MethodHandle" ∧ yX6_begin.cls ≠ "java/lang/invoke/VarHandle" ∧ (parseMethodDescriptor yX6_begin.desc).map (fun d => d.parameters.length) = some 3 := by decide +kernel
theorem dX6_begin_0 : decode prog_1_method_4_code 0 = .ok (.aload_n 0, 1) := by decide +kernel
theorem dX6_begin_1 : decode prog_1_method_4_code 1 = .ok (.iload_n 1, 1) := by decide +kernel
theorem dX6_begin_2 : decode prog_1_method_4_code 2 = .ok (.invokevirtual 43, 3) := by decide +kernel
theorem dX6_begin_5 : decode prog_1_method_4_code 5 = .ok (.astore 4, 2) := by decide +kernel
theorem dX6_begin_7 : decode prog_1_method_4_code 7 = .ok (.aload 4, 2) := by decide +kernel
theorem dX6_begin_9 : decode prog_1_method_4_code 9 = .ok (.ifnull 14, 3) := by decide +kernel
theorem dX6_begin_12 : decode prog_1_method_4_code 12 = .ok (.aload 4, 2) := by decide +kernel
theorem dX6_begin_14 : decode prog_1_method_4_code 14 = .ok (.getfield 72, 3) := by decide +kernel
theorem dX6_begin_17 : decode prog_1_method_4_code 17 = .ok (.invokevirtual 76, 3) := by decide +kernel
theorem dX6_begin_20 : decode prog_1_method_4_code 20 = .ok (.ifCond .eq 5, 3) := by decide +kernel
theorem dX6_begin_23 : decode prog_1_method_4_code 23 = .ok (.iconst 0, 1) := by decide +kernel
theorem dX6_begin_24 : decode prog_1_method_4_code 24 = .ok (.ireturn, 1) := by decide +kernel
theorem dX6_begin_25 : decode prog_1_method_4_code 25 = .ok (.iload_n 2, 1) := by decide +kernel
theorem dX6_begin_26 : decode prog_1_method_4_code 26 = .ok (.ifCond .lt 15, 3) := by decide +kernel
theorem dX6_begin_29 : decode prog_1_method_4_code 29 = .ok (.iload_n 2, 1) := by decide +kernel
theorem dX6_begin_30 : decode prog_1_method_4_code 30 = .ok (.iconst 2, 1) := by decide +kernel
theorem dX6_begin_31 : decode prog_1_method_4_code 31 = .ok (.if_icmp .gt 10, 3) := by decide +kernel
theorem dX6_begin_34 : decode prog_1_method_4_code 34 = .ok (.iload_n 3, 1) := by decide +kernel
theorem dX6_begin_35 : decode prog_1_method_4_code 35 = .ok (.invokestatic 39, 3) := by decide +kernel
theorem dX6_begin_38 : decode prog_1_method_4_code 38 = .ok (.ifCond .ne 5, 3) := by decide +kernel
theorem dX6_begin_41 : decode prog_1_method_4_code 41 = .ok (.iconst 0, 1) := by decide +kernel
theorem dX6_begin_42 : decode prog_1_method_4_code 42 = .ok (.ireturn, 1) := by decide +kernel
theorem dX6_begin_43 : decode prog_1_method_4_code 43 = .ok (.aload_n 0, 1) := by decide +kernel
theorem dX6_begin_44 : decode prog_1_method_4_code 44 = .ok (.aload 4, 2) := by decide +kernel
theorem dX6_begin_46 : decode prog_1_method_4_code 46 = .ok (.iload_n 2, 1) := by decide +kernel
theorem dX6_begin_47 : decode prog_1_method_4_code 47 = .ok (.iload_n 3, 1) := by decide +kernel
theorem dX6_begin_48 : decode prog_1_method_4_code 48 = .ok (.invokevirtual 64, 3) := by decide +kernel
theorem dX6_begin_51 : decode prog_1_method_4_code 51 = .ok (.iconst 1, 1) := by decide +kernel
theorem dX6_begin_52 : decode prog_1_method_4_code 52 = .ok (.ireturn, 1) := by decide +kernel
def pX6_begin_0 (N a0 : Nat) (G : mm_M) (x1 : Int32) (x2 : Int32) (x3 : Int32) : Option (mm_M × Int32) :=
  q_is G a0 7 <|
  q_cl (pX6_upPeer_0 N a0 G x1) fun G r2_2 =>
  q_op r2_2 (
    some (G, (0 : Int32))) fun b9_3 =>
  q_gR G b9_3 5 2 fun r14_4 =>
  q_nn r14_4 fun b17_5 =>
  q_is G b17_5 4 <|
  q_cl (pX3_isRunning_0 N b17_5 G) fun G v17_7 =>
  if v17_7 = 0 then
    if x2 < 0 then
      some (G, (0 : Int32))
    else
      if (2 : Int32) < x2 then
        some (G, (0 : Int32))
      else
        q_cl (pX6_isNumber_0 N G x3) fun G v35_9 =>
        if v35_9 = 0 then
          some (G, (0 : Int32))
        else
          q_is G a0 7 <|
          q_cl (pX6_startLookup_0 N a0 G (some b9_3) x2 x3) fun G _ =>
          some (G, (1 : Int32))
  else
    some (G, (0 : Int32))
set_option maxRecDepth 100000 in
set_option maxHeartbeats 4000000 in
theorem bX6_begin_0 {p : Program} {l : Launch} {e : Env} {s : State} {m : MethodId} {args : Array Value} {below : List Frame} {meth : Method} {c : Code} {E : mm_E} {N a0 : Nat} {res : mm_M × Int32} (X : mm_X p s m args meth c prog_1_method_4_code 5 "XorOverlay" tw_T E) (hr : meth.sig.returnType = (Option.some .boolean)) {G : mm_M} {H : Heap} {locs : List Loc} {ls : Array Slot} {x1 : Int32} {x2 : Int32} {x3 : Int32} (V : mm_V E s G H locs) (hl : lx_has ls 5 [(0, .inr (some a0)), (1, .inl x1), (2, .inl x2), (3, .inl x3)]) (hp : pX6_begin_0 N a0 G x1 x2 x3 = some res) : W p l e rX6_begin s m args below meth c H locs 0 0 (MQ below (mm_Qi E res.1 res.2) args s 0 0 (mm_A E)) (F0 m 0 ls []) := by
  have hx := X.1.1
  have hb := X.1.2.1
  unfold pX6_begin_0 at hp
  refine x_aload_n X dX6_begin_0 hl 0 rfl rfl ?_
  refine x_iload_n X dX6_begin_1 hl 1 rfl rfl ?_
  obtain ⟨hk, hp⟩ := q_is_of hp
  obtain ⟨⟨G, r2_2⟩, hq, hp⟩ := q_cl_of hp
  dsimp only at hp
  refine q_goq (cells' := 0) (slots' := 0) (va_runV (As := [.int x1]) (rest := []) X.1 (cX6_upPeer l E hq) (tw_cwV 1 X.1.2.2.2.2 (tw_1 65 rfl rfl) kX6_upPeer.2.1 kX6_upPeer.2.2.1 kX6_upPeer.2.2.2 kX6_upPeer.1 rfl rfl hX6_upPeer ⟨Nat.le_of_ble_eq_true rfl, Nat.le_of_ble_eq_true rfl⟩) (mm_preV X V rfl (by decide) rfl hk) rfl rfl hl.1 rfl (lv_room (Nat.le_of_ble_eq_true rfl)) dX6_begin_2 ⟨by decide, by decide⟩) V ⟨rfl, rfl⟩ (fun H locs V => ?_)
  refine x_astore (lst' := [(4, .inr r2_2), (0, .inr (some a0)), (1, .inl x1), (2, .inl x2), (3, .inl x3)]) X dX6_begin_5 hl (by decide) rfl (fun ls hl => ?_)
  refine x_aload X dX6_begin_7 hl 0 rfl ?_
  refine q_ifnull (tgt := 23) X dX6_begin_9 (by decide) hp (fun e0 hp2 => ?_) (fun b9_3 e0 hp2 => ?_)
  · clear hp; subst e0; have hp := hp2; clear hp2
    refine lv_iconst (v := (0 : Int32)) hx hb dX6_begin_23 (by decide) ?_
    exact q_zret X V hr rfl ⟨by decide, by decide⟩ dX6_begin_24 hp
  · clear hp; subst e0; have hp := hp2; clear hp2
    refine x_aload X dX6_begin_12 hl 0 rfl ?_
    refine q_getR (ci := 4) X V inX4 rfl (by decide) rfl 2 (by decide) rfl (tw_1 217 rfl rfl) rfl dX6_begin_14 hp (fun r14_4 hp => ?_)
    obtain ⟨b17_5, e0, hp2⟩ := q_nn_of hp
    clear hp; subst e0; have hp := hp2; clear hp2
    obtain ⟨hk, hp⟩ := q_is_of hp
    obtain ⟨⟨G, v17_7⟩, hq, hp⟩ := q_cl_of hp
    dsimp only at hp
    refine q_goi (cells' := 0) (slots' := 0) (va_runV (As := []) (rest := []) X.1 (cX3_isRunning l E hq) (tw_cwV 0 X.1.2.2.2.2 (tw_2 120 rfl rfl) kX3_isRunning.2.1 kX3_isRunning.2.2.1 kX3_isRunning.2.2.2 kX3_isRunning.1 rfl rfl hX3_isRunning ⟨Nat.le_of_ble_eq_true rfl, Nat.le_of_ble_eq_true rfl⟩) (mm_preV X V rfl (by decide) rfl hk) rfl rfl hl.1 rfl (lv_room (Nat.le_of_ble_eq_true rfl)) dX6_begin_17 ⟨by decide, by decide⟩) V ⟨rfl, rfl⟩ (fun H locs V => ?_)
    refine q_if hp (lv_if_eq (tgt := 25) hx hb dX6_begin_20 (by decide)) (fun hp => ?_) (fun hp => ?_)
    · refine x_iload_n X dX6_begin_25 hl 3 rfl rfl ?_
      refine q_if hp (lv_if_lt (tgt := 41) hx hb dX6_begin_26 (by decide)) (fun hp => ?_) (fun hp => ?_)
      · refine lv_iconst (v := (0 : Int32)) hx hb dX6_begin_41 (by decide) ?_
        exact q_zret X V hr rfl ⟨by decide, by decide⟩ dX6_begin_42 hp
      · refine x_iload_n X dX6_begin_29 hl 3 rfl rfl ?_
        refine lv_iconst (v := (2 : Int32)) hx hb dX6_begin_30 (by decide) ?_
        refine q_if hp (lv_icmp_gt (tgt := 41) hx hb dX6_begin_31 (by decide)) (fun hp => ?_) (fun hp => ?_)
        · refine lv_iconst (v := (0 : Int32)) hx hb dX6_begin_41 (by decide) ?_
          exact q_zret X V hr rfl ⟨by decide, by decide⟩ dX6_begin_42 hp
        · refine x_iload_n X dX6_begin_34 hl 4 rfl rfl ?_
          obtain ⟨⟨G, v35_9⟩, hq, hp⟩ := q_cl_of hp
          dsimp only at hp
          refine q_goi (cells' := 0) (slots' := 0) (va_runS (As := [.int x3]) (rest := []) X.1 (cX6_isNumber l E hq) (tw_cwS 1 X.1.2.2.2.2 (tw_1 62 rfl rfl) kX6_isNumber.2.1 kX6_isNumber.2.2 kX6_isNumber.1 rfl rfl hX6_isNumber ⟨Nat.le_of_ble_eq_true rfl, Nat.le_of_ble_eq_true rfl⟩) (mm_preS X V) rfl rfl hl.1 rfl (lv_room (Nat.le_of_ble_eq_true rfl)) dX6_begin_35 ⟨by decide, by decide⟩) V ⟨rfl, rfl⟩ (fun H locs V => ?_)
          refine q_ifn hp (lv_if_ne (tgt := 43) hx hb dX6_begin_38 (by decide)) (fun hp => ?_) (fun hp => ?_)
          · refine x_aload_n X dX6_begin_43 hl 1 rfl rfl ?_
            refine x_aload X dX6_begin_44 hl 0 rfl ?_
            refine x_iload_n X dX6_begin_46 hl 3 rfl rfl ?_
            refine x_iload_n X dX6_begin_47 hl 4 rfl rfl ?_
            obtain ⟨hk, hp⟩ := q_is_of hp
            obtain ⟨⟨G, u⟩, hq, hp⟩ := q_cl_of hp
            dsimp only at hp
            refine q_gov (cells' := 0) (slots' := 0) (va_runV (As := [va_rf (some b9_3), .int x2, .int x3]) (rest := []) X.1 (cX6_startLookup l E hq) (tw_cwV 3 X.1.2.2.2.2 (tw_2 52 rfl rfl) kX6_startLookup.2.1 kX6_startLookup.2.2.1 kX6_startLookup.2.2.2 kX6_startLookup.1 rfl rfl hX6_startLookup ⟨Nat.le_of_ble_eq_true rfl, Nat.le_of_ble_eq_true rfl⟩) (mm_preV X V rfl (by decide) rfl hk) rfl rfl hl.1 rfl (lv_room (Nat.le_of_ble_eq_true rfl)) dX6_begin_48 ⟨by decide, by decide⟩) V ⟨rfl, rfl⟩ (fun H locs V => ?_)
            refine lv_iconst (v := (1 : Int32)) hx hb dX6_begin_51 (by decide) ?_
            exact q_zret X V hr rfl ⟨by decide, by decide⟩ dX6_begin_52 hp
          · refine lv_iconst (v := (0 : Int32)) hx hb dX6_begin_41 (by decide) ?_
            exact q_zret X V hr rfl ⟨by decide, by decide⟩ dX6_begin_42 hp
    · refine lv_iconst (v := (0 : Int32)) hx hb dX6_begin_23 (by decide) ?_
      exact q_zret X V hr rfl ⟨by decide, by decide⟩ dX6_begin_24 hp
theorem cX6_begin (l : Launch) (E : mm_E) {N a0 : Nat} {G : mm_M} {x1 : Int32} {x2 : Int32} {x3 : Int32} {res : mm_M × Int32} (hp : pX6_begin_0 N a0 G x1 x2 x3 = some res) : Met l yX6_begin (Cond.code yX6_begin prog_1_method_4_code 5 (Option.some .boolean) :: tw_T) rX6_begin (mm_Pc E G [.ref a0, .int x1, .int x2, .int x3]) (mm_Qi E res.1 res.2) 0 0 (mm_A E) :=
  mm_met (own := "XorOverlay") E G [.inr (some a0), .inl x1, .inl x2, .inl x3] (by decide) rfl rfl (Nat.le_of_ble_eq_true rfl) (fun p e s m args below meth c ls X hr hi V hl => bX6_begin_0 X hr V hl hp)
abbrev yX5_staleTarget : MethodName := ⟨"XorOverlay$Table", "staleTarget", "(I)I"⟩
abbrev rX5_staleTarget : Room := { frames := 0, cells := 0, slots := 0, locals := 0 }
theorem kX5_staleTarget : Cond.code yX5_staleTarget prog_7_method_7_code 4 (Option.some .int) ∈ tw_T ∧ Cond.instanceMethod yX5_staleTarget ∈ tw_T ∧ Cond.selects "XorOverlay$Table" yX5_staleTarget yX5_staleTarget ∈ tw_T ∧ Cond.initialized "XorOverlay$Table" ∈ tw_T := ⟨(tw_2 131 rfl rfl), (tw_2 129 rfl rfl), (tw_2 130 rfl rfl), (tw_1 5 rfl rfl)⟩
theorem hX5_staleTarget : yX5_staleTarget.cls = "XorOverlay$Table" ∧ yX5_staleTarget.cls ≠ "java/lang/invoke/MethodHandle" ∧ yX5_staleTarget.cls ≠ "java/lang/invoke/VarHandle" ∧ (parseMethodDescriptor yX5_staleTarget.desc).map (fun d => d.parameters.length) = some 1 := by decide +kernel
theorem dX5_staleTarget_0 : decode prog_7_method_7_code 0 = .ok (.iconst 0, 1) := by decide +kernel
theorem dX5_staleTarget_1 : decode prog_7_method_7_code 1 = .ok (.istore_n 2, 1) := by decide +kernel
theorem dX5_staleTarget_2 : decode prog_7_method_7_code 2 = .ok (.iload_n 2, 1) := by decide +kernel
theorem dX5_staleTarget_3 : decode prog_7_method_7_code 3 = .ok (.aload_n 0, 1) := by decide +kernel
theorem dX5_staleTarget_4 : decode prog_7_method_7_code 4 = .ok (.getfield 22, 3) := by decide +kernel
theorem dX5_staleTarget_7 : decode prog_7_method_7_code 7 = .ok (.if_icmp .ge 46, 3) := by decide +kernel
theorem dX5_staleTarget_10 : decode prog_7_method_7_code 10 = .ok (.aload_n 0, 1) := by decide +kernel
theorem dX5_staleTarget_11 : decode prog_7_method_7_code 11 = .ok (.getfield 17, 3) := by decide +kernel
theorem dX5_staleTarget_14 : decode prog_7_method_7_code 14 = .ok (.iload_n 2, 1) := by decide +kernel
theorem dX5_staleTarget_15 : decode prog_7_method_7_code 15 = .ok (.aaload, 1) := by decide +kernel
theorem dX5_staleTarget_16 : decode prog_7_method_7_code 16 = .ok (.astore_n 3, 1) := by decide +kernel
theorem dX5_staleTarget_17 : decode prog_7_method_7_code 17 = .ok (.aload_n 3, 1) := by decide +kernel
theorem dX5_staleTarget_18 : decode prog_7_method_7_code 18 = .ok (.getfield 66, 3) := by decide +kernel
theorem dX5_staleTarget_21 : decode prog_7_method_7_code 21 = .ok (.ifCond .le 26, 3) := by decide +kernel
theorem dX5_staleTarget_24 : decode prog_7_method_7_code 24 = .ok (.iload_n 1, 1) := by decide +kernel
theorem dX5_staleTarget_25 : decode prog_7_method_7_code 25 = .ok (.aload_n 3, 1) := by decide +kernel
theorem dX5_staleTarget_26 : decode prog_7_method_7_code 26 = .ok (.getfield 44, 3) := by decide +kernel
theorem dX5_staleTarget_29 : decode prog_7_method_7_code 29 = .ok (.isub, 1) := by decide +kernel
theorem dX5_staleTarget_30 : decode prog_7_method_7_code 30 = .ok (.bipush 16, 2) := by decide +kernel
theorem dX5_staleTarget_32 : decode prog_7_method_7_code 32 = .ok (.if_icmp .lt 15, 3) := by decide +kernel
theorem dX5_staleTarget_35 : decode prog_7_method_7_code 35 = .ok (.aload_n 3, 1) := by decide +kernel
theorem dX5_staleTarget_36 : decode prog_7_method_7_code 36 = .ok (.getfield 69, 3) := by decide +kernel
theorem dX5_staleTarget_39 : decode prog_7_method_7_code 39 = .ok (.iload_n 1, 1) := by decide +kernel
theorem dX5_staleTarget_40 : decode prog_7_method_7_code 40 = .ok (.aload_n 3, 1) := by decide +kernel
theorem dX5_staleTarget_41 : decode prog_7_method_7_code 41 = .ok (.getfield 66, 3) := by decide +kernel
theorem dX5_staleTarget_44 : decode prog_7_method_7_code 44 = .ok (.irem, 1) := by decide +kernel
theorem dX5_staleTarget_45 : decode prog_7_method_7_code 45 = .ok (.iadd, 1) := by decide +kernel
theorem dX5_staleTarget_46 : decode prog_7_method_7_code 46 = .ok (.ireturn, 1) := by decide +kernel
theorem dX5_staleTarget_47 : decode prog_7_method_7_code 47 = .ok (.iinc 2 1, 3) := by decide +kernel
theorem dX5_staleTarget_50 : decode prog_7_method_7_code 50 = .ok (.goto (-48), 3) := by decide +kernel
theorem dX5_staleTarget_53 : decode prog_7_method_7_code 53 = .ok (.iconst (-1), 1) := by decide +kernel
theorem dX5_staleTarget_54 : decode prog_7_method_7_code 54 = .ok (.ireturn, 1) := by decide +kernel
def pX5_staleTarget_2_b (N a0 : Nat) (kb : mm_M → Int32 → Int32 → Option (mm_M × Int32)) (kx : mm_M → Option (mm_M × Int32)) (G : mm_M) (x1 : Int32) (x2 : Int32) : Option (mm_M × Int32) :=
  q_gI G a0 6 2 fun v4_1 =>
  if v4_1 ≤ x2 then
    kx G
  else
    q_gR G a0 6 1 fun r11_2 =>
    q_nn r11_2 fun b15_3 =>
    q_aR G b15_3 104 x2 fun r15_4 =>
    q_nn r15_4 fun b18_5 =>
    q_gI G b18_5 1 3 fun v18_6 =>
    if v18_6 ≤ 0 then
      kb G x1 (x2 + (1 : Int32))
    else
      q_gI G b18_5 1 4 fun v26_7 =>
      if (x1 - v26_7) < (16 : Int32) then
        kb G x1 (x2 + (1 : Int32))
      else
        q_gI G b18_5 1 2 fun v36_8 =>
        q_gI G b18_5 1 3 fun v41_9 =>
        q_nz v41_9 <|
        some (G, (v36_8 + (x1 - x1 / v41_9 * v41_9)))
def pX5_staleTarget_2 (N a0 : Nat) (kx : mm_M → Option (mm_M × Int32)) : Nat → mm_M → Int32 → Int32 → Option (mm_M × Int32)
  | 0 => fun _ _ _ => none
  | n + 1 => pX5_staleTarget_2_b N a0 (pX5_staleTarget_2 N a0 kx n) kx
set_option maxRecDepth 100000 in
set_option maxHeartbeats 4000000 in
theorem bX5_staleTarget_2 {p : Program} {l : Launch} {e : Env} {s : State} {m : MethodId} {args : Array Value} {below : List Frame} {meth : Method} {c : Code} {E : mm_E} {N a0 : Nat} {res : mm_M × Int32} (X : mm_X p s m args meth c prog_7_method_7_code 4 "XorOverlay$Table" tw_T E) (hr : meth.sig.returnType = (Option.some .int)) {kx : mm_M → Option (mm_M × Int32)} (hkx : ∀ (G : mm_M) (H : Heap) (locs : List Loc) (ls : Array Slot), mm_V E s G H locs → lx_has ls 4 [(0, .inr (some a0))] → kx G = some res → W p l e rX5_staleTarget s m args below meth c H locs 0 0 (MQ below (mm_Qi E res.1 res.2) args s 0 0 (mm_A E)) (F0 m 53 ls [])) :
    ∀ (n : Nat) (G : mm_M) (H : Heap) (locs : List Loc) (ls : Array Slot) (x1 : Int32) (x2 : Int32), mm_V E s G H locs → lx_has ls 4 [(0, .inr (some a0)), (1, .inl x1), (2, .inl x2)] → pX5_staleTarget_2 N a0 kx n G x1 x2 = some res → W p l e rX5_staleTarget s m args below meth c H locs 0 0 (MQ below (mm_Qi E res.1 res.2) args s 0 0 (mm_A E)) (F0 m 2 ls []) := by
  have hx := X.1.1
  have hb := X.1.2.1
  intro n
  induction n with
  | zero =>
    intro G H locs ls x1 x2 V hl hp
    cases hp
  | succ n ih =>
    intro G H locs ls x1 x2 V hl hp
    have hp : pX5_staleTarget_2_b N a0 (pX5_staleTarget_2 N a0 kx n) kx G x1 x2 = some res := hp
    unfold pX5_staleTarget_2_b at hp
    refine x_iload_n X dX5_staleTarget_2 hl 2 rfl rfl ?_
    refine x_aload_n X dX5_staleTarget_3 hl 0 rfl rfl ?_
    refine q_getI (ci := 5) X V inX5 rfl (by decide) rfl 2 (by decide) rfl (tw_1 128 rfl rfl) rfl dX5_staleTarget_4 hp (fun v4_1 hp => ?_)
    refine q_if hp (lv_icmp_ge (tgt := 53) hx hb dX5_staleTarget_7 (by decide)) (fun hp => ?_) (fun hp => ?_)
    · exact hkx _ _ _ _ V (lx_sub hl [0] rfl) hp
    · refine x_aload_n X dX5_staleTarget_10 hl 0 rfl rfl ?_
      refine q_getR (ci := 5) X V inX5 rfl (by decide) rfl 1 (by decide) rfl (tw_1 126 rfl rfl) rfl dX5_staleTarget_11 hp (fun r11_2 hp => ?_)
      refine x_iload_n X dX5_staleTarget_14 hl 2 rfl rfl ?_
      obtain ⟨b15_3, e0, hp2⟩ := q_nn_of hp
      clear hp; subst e0; have hp := hp2; clear hp2
      refine q_aldB X V dX5_staleTarget_15 hp (fun r15_4 hp => ?_)
      refine x_astore_n (lst' := [(3, .inr r15_4), (0, .inr (some a0)), (1, .inl x1), (2, .inl x2)]) X dX5_staleTarget_16 hl rfl (by decide) rfl (fun ls hl => ?_)
      refine x_aload_n X dX5_staleTarget_17 hl 0 rfl rfl ?_
      obtain ⟨b18_5, e0, hp2⟩ := q_nn_of hp
      clear hp; subst e0; have hp := hp2; clear hp2
      refine q_getI (ci := 0) X V inX0 rfl (by decide) rfl 3 (by decide) rfl (tw_1 105 rfl rfl) rfl dX5_staleTarget_18 hp (fun v18_6 hp => ?_)
      refine q_if hp (lv_if_le (tgt := 47) hx hb dX5_staleTarget_21 (by decide)) (fun hp => ?_) (fun hp => ?_)
      · refine x_iinc (v := (1 : Int32)) (lst' := [(2, .inl (x2 + (1 : Int32))), (3, .inr (some b18_5)), (0, .inr (some a0)), (1, .inl x1)]) X dX5_staleTarget_47 hl 3 rfl (by decide) (by decide) rfl (fun ls hl => ?_)
        refine lv_goto (tgt := 2) hx hb dX5_staleTarget_50 (by decide) ?_
        exact ih _ _ _ _ _ _ V (lx_sub hl [2, 3, 0] rfl) hp
      · refine x_iload_n X dX5_staleTarget_24 hl 2 rfl rfl ?_
        refine x_aload_n X dX5_staleTarget_25 hl 0 rfl rfl ?_
        refine q_getI (ci := 0) X V inX0 rfl (by decide) rfl 4 (by decide) rfl (tw_1 107 rfl rfl) rfl dX5_staleTarget_26 hp (fun v26_7 hp => ?_)
        refine lv_isub hx hb dX5_staleTarget_29 ?_
        refine lv_bipush (v := (16 : Int32)) hx hb dX5_staleTarget_30 (by decide) ?_
        refine q_if hp (lv_icmp_lt (tgt := 47) hx hb dX5_staleTarget_32 (by decide)) (fun hp => ?_) (fun hp => ?_)
        · refine x_iinc (v := (1 : Int32)) (lst' := [(2, .inl (x2 + (1 : Int32))), (3, .inr (some b18_5)), (0, .inr (some a0)), (1, .inl x1)]) X dX5_staleTarget_47 hl 3 rfl (by decide) (by decide) rfl (fun ls hl => ?_)
          refine lv_goto (tgt := 2) hx hb dX5_staleTarget_50 (by decide) ?_
          exact ih _ _ _ _ _ _ V (lx_sub hl [2, 3, 0] rfl) hp
        · refine x_aload_n X dX5_staleTarget_35 hl 0 rfl rfl ?_
          refine q_getI (ci := 0) X V inX0 rfl (by decide) rfl 2 (by decide) rfl (tw_1 102 rfl rfl) rfl dX5_staleTarget_36 hp (fun v36_8 hp => ?_)
          refine x_iload_n X dX5_staleTarget_39 hl 2 rfl rfl ?_
          refine x_aload_n X dX5_staleTarget_40 hl 0 rfl rfl ?_
          refine q_getI (ci := 0) X V inX0 rfl (by decide) rfl 3 (by decide) rfl (tw_1 105 rfl rfl) rfl dX5_staleTarget_41 hp (fun v41_9 hp => ?_)
          obtain ⟨hz, hp⟩ := q_nz_of hp
          refine lv_irem hx hb dX5_staleTarget_44 hz ?_
          refine lv_iadd hx hb dX5_staleTarget_45 ?_
          exact q_iret X V hr ⟨by decide, by decide⟩ dX5_staleTarget_46 hp
def pX5_staleTarget_0 (N a0 : Nat) (G : mm_M) (x1 : Int32) : Option (mm_M × Int32) :=
  pX5_staleTarget_2 N a0 (fun (G : mm_M) =>
    some (G, (-1 : Int32))) N G x1 (0 : Int32)
set_option maxRecDepth 100000 in
set_option maxHeartbeats 4000000 in
theorem bX5_staleTarget_0 {p : Program} {l : Launch} {e : Env} {s : State} {m : MethodId} {args : Array Value} {below : List Frame} {meth : Method} {c : Code} {E : mm_E} {N a0 : Nat} {res : mm_M × Int32} (X : mm_X p s m args meth c prog_7_method_7_code 4 "XorOverlay$Table" tw_T E) (hr : meth.sig.returnType = (Option.some .int)) {G : mm_M} {H : Heap} {locs : List Loc} {ls : Array Slot} {x1 : Int32} (V : mm_V E s G H locs) (hl : lx_has ls 4 [(0, .inr (some a0)), (1, .inl x1)]) (hp : pX5_staleTarget_0 N a0 G x1 = some res) : W p l e rX5_staleTarget s m args below meth c H locs 0 0 (MQ below (mm_Qi E res.1 res.2) args s 0 0 (mm_A E)) (F0 m 0 ls []) := by
  have hx := X.1.1
  have hb := X.1.2.1
  unfold pX5_staleTarget_0 at hp
  refine lv_iconst (v := (0 : Int32)) hx hb dX5_staleTarget_0 (by decide) ?_
  refine x_istore_n (lst' := [(2, .inl (0 : Int32)), (0, .inr (some a0)), (1, .inl x1)]) X dX5_staleTarget_1 hl rfl (by decide) rfl (fun ls hl => ?_)
  refine bX5_staleTarget_2 X hr (fun G H locs ls V hl hp => ?_) _ _ _ _ _ _ _ V (lx_sub hl [1, 2, 0] rfl) hp
  refine lv_iconst (v := (-1 : Int32)) hx hb dX5_staleTarget_53 (by decide) ?_
  exact q_iret X V hr ⟨by decide, by decide⟩ dX5_staleTarget_54 hp
theorem cX5_staleTarget (l : Launch) (E : mm_E) {N a0 : Nat} {G : mm_M} {x1 : Int32} {res : mm_M × Int32} (hp : pX5_staleTarget_0 N a0 G x1 = some res) : Met l yX5_staleTarget (Cond.code yX5_staleTarget prog_7_method_7_code 4 (Option.some .int) :: tw_T) rX5_staleTarget (mm_Pc E G [.ref a0, .int x1]) (mm_Qi E res.1 res.2) 0 0 (mm_A E) :=
  mm_met (own := "XorOverlay$Table") E G [.inr (some a0), .inl x1] (by decide) rfl rfl (Nat.le_of_ble_eq_true rfl) (fun p e s m args below meth c ls X hr hi V hl => bX5_staleTarget_0 X hr V hl hp)
abbrev yX6_refresh : MethodName := ⟨"XorOverlay", "refresh", "(I)I"⟩
abbrev rX6_refresh : Room := { frames := 5, cells := 0, slots := 0, locals := 124 }
theorem kX6_refresh : Cond.code yX6_refresh prog_1_method_5_code 4 (Option.some .int) ∈ tw_T ∧ Cond.instanceMethod yX6_refresh ∈ tw_T ∧ Cond.selects "XorOverlay" yX6_refresh yX6_refresh ∈ tw_T ∧ Cond.initialized "XorOverlay" ∈ tw_T := ⟨(tw_2 127 rfl rfl), (tw_2 125 rfl rfl), (tw_2 126 rfl rfl), (tw_1 1 rfl rfl)⟩
theorem hX6_refresh : yX6_refresh.cls = "XorOverlay" ∧ yX6_refresh.cls ≠ "java/lang/invoke/MethodHandle" ∧ yX6_refresh.cls ≠ "java/lang/invoke/VarHandle" ∧ (parseMethodDescriptor yX6_refresh.desc).map (fun d => d.parameters.length) = some 1 := by decide +kernel
theorem dX6_refresh_0 : decode prog_1_method_5_code 0 = .ok (.aload_n 0, 1) := by decide +kernel
theorem dX6_refresh_1 : decode prog_1_method_5_code 1 = .ok (.iload_n 1, 1) := by decide +kernel
theorem dX6_refresh_2 : decode prog_1_method_5_code 2 = .ok (.invokevirtual 43, 3) := by decide +kernel
theorem dX6_refresh_5 : decode prog_1_method_5_code 5 = .ok (.astore_n 2, 1) := by decide +kernel
theorem dX6_refresh_6 : decode prog_1_method_5_code 6 = .ok (.aload_n 2, 1) := by decide +kernel
theorem dX6_refresh_7 : decode prog_1_method_5_code 7 = .ok (.ifnull 13, 3) := by decide +kernel
theorem dX6_refresh_10 : decode prog_1_method_5_code 10 = .ok (.aload_n 2, 1) := by decide +kernel
theorem dX6_refresh_11 : decode prog_1_method_5_code 11 = .ok (.getfield 72, 3) := by decide +kernel
theorem dX6_refresh_14 : decode prog_1_method_5_code 14 = .ok (.invokevirtual 76, 3) := by decide +kernel
theorem dX6_refresh_17 : decode prog_1_method_5_code 17 = .ok (.ifCond .eq 5, 3) := by decide +kernel
theorem dX6_refresh_20 : decode prog_1_method_5_code 20 = .ok (.iconst (-1), 1) := by decide +kernel
theorem dX6_refresh_21 : decode prog_1_method_5_code 21 = .ok (.ireturn, 1) := by decide +kernel
theorem dX6_refresh_22 : decode prog_1_method_5_code 22 = .ok (.aload_n 2, 1) := by decide +kernel
theorem dX6_refresh_23 : decode prog_1_method_5_code 23 = .ok (.getfield 54, 3) := by decide +kernel
theorem dX6_refresh_26 : decode prog_1_method_5_code 26 = .ok (.aload_n 0, 1) := by decide +kernel
theorem dX6_refresh_27 : decode prog_1_method_5_code 27 = .ok (.getfield 33, 3) := by decide +kernel
theorem dX6_refresh_30 : decode prog_1_method_5_code 30 = .ok (.invokevirtual 82, 3) := by decide +kernel
theorem dX6_refresh_33 : decode prog_1_method_5_code 33 = .ok (.istore_n 3, 1) := by decide +kernel
theorem dX6_refresh_34 : decode prog_1_method_5_code 34 = .ok (.iload_n 3, 1) := by decide +kernel
theorem dX6_refresh_35 : decode prog_1_method_5_code 35 = .ok (.iconst (-1), 1) := by decide +kernel
theorem dX6_refresh_36 : decode prog_1_method_5_code 36 = .ok (.if_icmp .eq 10, 3) := by decide +kernel
theorem dX6_refresh_39 : decode prog_1_method_5_code 39 = .ok (.aload_n 0, 1) := by decide +kernel
theorem dX6_refresh_40 : decode prog_1_method_5_code 40 = .ok (.aload_n 2, 1) := by decide +kernel
theorem dX6_refresh_41 : decode prog_1_method_5_code 41 = .ok (.iconst 0, 1) := by decide +kernel
theorem dX6_refresh_42 : decode prog_1_method_5_code 42 = .ok (.iload_n 3, 1) := by decide +kernel
theorem dX6_refresh_43 : decode prog_1_method_5_code 43 = .ok (.invokevirtual 64, 3) := by decide +kernel
theorem dX6_refresh_46 : decode prog_1_method_5_code 46 = .ok (.iload_n 3, 1) := by decide +kernel
theorem dX6_refresh_47 : decode prog_1_method_5_code 47 = .ok (.ireturn, 1) := by decide +kernel
def pX6_refresh_0 (N a0 : Nat) (G : mm_M) (x1 : Int32) : Option (mm_M × Int32) :=
  q_is G a0 7 <|
  q_cl (pX6_upPeer_0 N a0 G x1) fun G r2_2 =>
  q_op r2_2 (
    some (G, (-1 : Int32))) fun b7_3 =>
  q_gR G b7_3 5 2 fun r11_4 =>
  q_nn r11_4 fun b14_5 =>
  q_is G b14_5 4 <|
  q_cl (pX3_isRunning_0 N b14_5 G) fun G v14_7 =>
  if v14_7 = 0 then
    q_gR G b7_3 5 1 fun r23_8 =>
    q_gI G a0 7 5 fun v27_9 =>
    q_nn r23_8 fun b30_10 =>
    q_is G b30_10 6 <|
    q_cl (pX5_staleTarget_0 N b30_10 G v27_9) fun G v30_12 =>
    if v30_12 = (-1 : Int32) then
      some (G, v30_12)
    else
      q_is G a0 7 <|
      q_cl (pX6_startLookup_0 N a0 G (some b7_3) (0 : Int32) v30_12) fun G _ =>
      some (G, v30_12)
  else
    some (G, (-1 : Int32))
set_option maxRecDepth 100000 in
set_option maxHeartbeats 4000000 in
theorem bX6_refresh_0 {p : Program} {l : Launch} {e : Env} {s : State} {m : MethodId} {args : Array Value} {below : List Frame} {meth : Method} {c : Code} {E : mm_E} {N a0 : Nat} {res : mm_M × Int32} (X : mm_X p s m args meth c prog_1_method_5_code 4 "XorOverlay" tw_T E) (hr : meth.sig.returnType = (Option.some .int)) {G : mm_M} {H : Heap} {locs : List Loc} {ls : Array Slot} {x1 : Int32} (V : mm_V E s G H locs) (hl : lx_has ls 4 [(0, .inr (some a0)), (1, .inl x1)]) (hp : pX6_refresh_0 N a0 G x1 = some res) : W p l e rX6_refresh s m args below meth c H locs 0 0 (MQ below (mm_Qi E res.1 res.2) args s 0 0 (mm_A E)) (F0 m 0 ls []) := by
  have hx := X.1.1
  have hb := X.1.2.1
  unfold pX6_refresh_0 at hp
  refine x_aload_n X dX6_refresh_0 hl 0 rfl rfl ?_
  refine x_iload_n X dX6_refresh_1 hl 1 rfl rfl ?_
  obtain ⟨hk, hp⟩ := q_is_of hp
  obtain ⟨⟨G, r2_2⟩, hq, hp⟩ := q_cl_of hp
  dsimp only at hp
  refine q_goq (cells' := 0) (slots' := 0) (va_runV (As := [.int x1]) (rest := []) X.1 (cX6_upPeer l E hq) (tw_cwV 1 X.1.2.2.2.2 (tw_1 65 rfl rfl) kX6_upPeer.2.1 kX6_upPeer.2.2.1 kX6_upPeer.2.2.2 kX6_upPeer.1 rfl rfl hX6_upPeer ⟨Nat.le_of_ble_eq_true rfl, Nat.le_of_ble_eq_true rfl⟩) (mm_preV X V rfl (by decide) rfl hk) rfl rfl hl.1 rfl (lv_room (Nat.le_of_ble_eq_true rfl)) dX6_refresh_2 ⟨by decide, by decide⟩) V ⟨rfl, rfl⟩ (fun H locs V => ?_)
  refine x_astore_n (lst' := [(2, .inr r2_2), (0, .inr (some a0)), (1, .inl x1)]) X dX6_refresh_5 hl rfl (by decide) rfl (fun ls hl => ?_)
  refine x_aload_n X dX6_refresh_6 hl 0 rfl rfl ?_
  refine q_ifnull (tgt := 20) X dX6_refresh_7 (by decide) hp (fun e0 hp2 => ?_) (fun b7_3 e0 hp2 => ?_)
  · clear hp; subst e0; have hp := hp2; clear hp2
    refine lv_iconst (v := (-1 : Int32)) hx hb dX6_refresh_20 (by decide) ?_
    exact q_iret X V hr ⟨by decide, by decide⟩ dX6_refresh_21 hp
  · clear hp; subst e0; have hp := hp2; clear hp2
    refine x_aload_n X dX6_refresh_10 hl 0 rfl rfl ?_
    refine q_getR (ci := 4) X V inX4 rfl (by decide) rfl 2 (by decide) rfl (tw_1 217 rfl rfl) rfl dX6_refresh_11 hp (fun r11_4 hp => ?_)
    obtain ⟨b14_5, e0, hp2⟩ := q_nn_of hp
    clear hp; subst e0; have hp := hp2; clear hp2
    obtain ⟨hk, hp⟩ := q_is_of hp
    obtain ⟨⟨G, v14_7⟩, hq, hp⟩ := q_cl_of hp
    dsimp only at hp
    refine q_goi (cells' := 0) (slots' := 0) (va_runV (As := []) (rest := []) X.1 (cX3_isRunning l E hq) (tw_cwV 0 X.1.2.2.2.2 (tw_2 120 rfl rfl) kX3_isRunning.2.1 kX3_isRunning.2.2.1 kX3_isRunning.2.2.2 kX3_isRunning.1 rfl rfl hX3_isRunning ⟨Nat.le_of_ble_eq_true rfl, Nat.le_of_ble_eq_true rfl⟩) (mm_preV X V rfl (by decide) rfl hk) rfl rfl hl.1 rfl (lv_room (Nat.le_of_ble_eq_true rfl)) dX6_refresh_14 ⟨by decide, by decide⟩) V ⟨rfl, rfl⟩ (fun H locs V => ?_)
    refine q_if hp (lv_if_eq (tgt := 22) hx hb dX6_refresh_17 (by decide)) (fun hp => ?_) (fun hp => ?_)
    · refine x_aload_n X dX6_refresh_22 hl 0 rfl rfl ?_
      refine q_getR (ci := 4) X V inX4 rfl (by decide) rfl 1 (by decide) rfl (tw_1 215 rfl rfl) rfl dX6_refresh_23 hp (fun r23_8 hp => ?_)
      refine x_aload_n X dX6_refresh_26 hl 1 rfl rfl ?_
      refine q_getI (ci := 6) X V inX6 rfl (by decide) rfl 5 (by decide) rfl (tw_1 41 rfl rfl) rfl dX6_refresh_27 hp (fun v27_9 hp => ?_)
      obtain ⟨b30_10, e0, hp2⟩ := q_nn_of hp
      clear hp; subst e0; have hp := hp2; clear hp2
      obtain ⟨hk, hp⟩ := q_is_of hp
      obtain ⟨⟨G, v30_12⟩, hq, hp⟩ := q_cl_of hp
      dsimp only at hp
      refine q_goi (cells' := 0) (slots' := 0) (va_runV (As := [.int v27_9]) (rest := []) X.1 (cX5_staleTarget l E hq) (tw_cwV 1 X.1.2.2.2.2 (tw_2 128 rfl rfl) kX5_staleTarget.2.1 kX5_staleTarget.2.2.1 kX5_staleTarget.2.2.2 kX5_staleTarget.1 rfl rfl hX5_staleTarget ⟨Nat.le_of_ble_eq_true rfl, Nat.le_of_ble_eq_true rfl⟩) (mm_preV X V rfl (by decide) rfl hk) rfl rfl hl.1 rfl (lv_room (Nat.le_of_ble_eq_true rfl)) dX6_refresh_30 ⟨by decide, by decide⟩) V ⟨rfl, rfl⟩ (fun H locs V => ?_)
      refine x_istore_n (lst' := [(3, .inl v30_12), (2, .inr (some b7_3)), (0, .inr (some a0)), (1, .inl x1)]) X dX6_refresh_33 hl rfl (by decide) rfl (fun ls hl => ?_)
      refine x_iload_n X dX6_refresh_34 hl 0 rfl rfl ?_
      refine lv_iconst (v := (-1 : Int32)) hx hb dX6_refresh_35 (by decide) ?_
      refine q_if hp (lv_icmp_eq (tgt := 46) hx hb dX6_refresh_36 (by decide)) (fun hp => ?_) (fun hp => ?_)
      · refine x_iload_n X dX6_refresh_46 hl 0 rfl rfl ?_
        exact q_iret X V hr ⟨by decide, by decide⟩ dX6_refresh_47 hp
      · refine x_aload_n X dX6_refresh_39 hl 2 rfl rfl ?_
        refine x_aload_n X dX6_refresh_40 hl 1 rfl rfl ?_
        refine lv_iconst (v := (0 : Int32)) hx hb dX6_refresh_41 (by decide) ?_
        refine x_iload_n X dX6_refresh_42 hl 0 rfl rfl ?_
        obtain ⟨hk, hp⟩ := q_is_of hp
        obtain ⟨⟨G, u⟩, hq, hp⟩ := q_cl_of hp
        dsimp only at hp
        refine q_gov (cells' := 0) (slots' := 0) (va_runV (As := [va_rf (some b7_3), .int (0 : Int32), .int v30_12]) (rest := []) X.1 (cX6_startLookup l E hq) (tw_cwV 3 X.1.2.2.2.2 (tw_2 52 rfl rfl) kX6_startLookup.2.1 kX6_startLookup.2.2.1 kX6_startLookup.2.2.2 kX6_startLookup.1 rfl rfl hX6_startLookup ⟨Nat.le_of_ble_eq_true rfl, Nat.le_of_ble_eq_true rfl⟩) (mm_preV X V rfl (by decide) rfl hk) rfl rfl hl.1 rfl (lv_room (Nat.le_of_ble_eq_true rfl)) dX6_refresh_43 ⟨by decide, by decide⟩) V ⟨rfl, rfl⟩ (fun H locs V => ?_)
        refine x_iload_n X dX6_refresh_46 hl 0 rfl rfl ?_
        exact q_iret X V hr ⟨by decide, by decide⟩ dX6_refresh_47 hp
    · refine lv_iconst (v := (-1 : Int32)) hx hb dX6_refresh_20 (by decide) ?_
      exact q_iret X V hr ⟨by decide, by decide⟩ dX6_refresh_21 hp
theorem cX6_refresh (l : Launch) (E : mm_E) {N a0 : Nat} {G : mm_M} {x1 : Int32} {res : mm_M × Int32} (hp : pX6_refresh_0 N a0 G x1 = some res) : Met l yX6_refresh (Cond.code yX6_refresh prog_1_method_5_code 4 (Option.some .int) :: tw_T) rX6_refresh (mm_Pc E G [.ref a0, .int x1]) (mm_Qi E res.1 res.2) 0 0 (mm_A E) :=
  mm_met (own := "XorOverlay") E G [.inr (some a0), .inl x1] (by decide) rfl rfl (Nat.le_of_ble_eq_true rfl) (fun p e s m args below meth c ls X hr hi V hl => bX6_refresh_0 X hr V hl hp)
abbrev yX1_put : MethodName := ⟨"XorOverlay$Entries", "put", "(III)V"⟩
abbrev rX1_put : Room := { frames := 0, cells := 0, slots := 0, locals := 0 }
theorem kX1_put : Cond.code yX1_put prog_3_method_4_code 4 none ∈ tw_T ∧ Cond.instanceMethod yX1_put ∈ tw_T ∧ Cond.selects "XorOverlay$Entries" yX1_put yX1_put ∈ tw_T ∧ Cond.initialized "XorOverlay$Entries" ∈ tw_T := ⟨(tw_2 143 rfl rfl), (tw_2 142 rfl rfl), (tw_s 10 rfl rfl), (tw_1 8 rfl rfl)⟩
theorem hX1_put : yX1_put.cls = "XorOverlay$Entries" ∧ yX1_put.cls ≠ "java/lang/invoke/MethodHandle" ∧ yX1_put.cls ≠ "java/lang/invoke/VarHandle" ∧ (parseMethodDescriptor yX1_put.desc).map (fun d => d.parameters.length) = some 3 := by decide +kernel
theorem dX1_put_0 : decode prog_3_method_4_code 0 = .ok (.aload_n 0, 1) := by decide +kernel
theorem dX1_put_1 : decode prog_3_method_4_code 1 = .ok (.getfield 19, 3) := by decide +kernel
theorem dX1_put_4 : decode prog_3_method_4_code 4 = .ok (.bipush 6, 2) := by decide +kernel
theorem dX1_put_6 : decode prog_3_method_4_code 6 = .ok (.if_icmp .ge 43, 3) := by decide +kernel
theorem dX1_put_9 : decode prog_3_method_4_code 9 = .ok (.aload_n 0, 1) := by decide +kernel
theorem dX1_put_10 : decode prog_3_method_4_code 10 = .ok (.getfield 9, 3) := by decide +kernel
theorem dX1_put_13 : decode prog_3_method_4_code 13 = .ok (.aload_n 0, 1) := by decide +kernel
theorem dX1_put_14 : decode prog_3_method_4_code 14 = .ok (.getfield 19, 3) := by decide +kernel
theorem dX1_put_17 : decode prog_3_method_4_code 17 = .ok (.iload_n 1, 1) := by decide +kernel
theorem dX1_put_18 : decode prog_3_method_4_code 18 = .ok (.iastore, 1) := by decide +kernel
theorem dX1_put_19 : decode prog_3_method_4_code 19 = .ok (.aload_n 0, 1) := by decide +kernel
theorem dX1_put_20 : decode prog_3_method_4_code 20 = .ok (.getfield 13, 3) := by decide +kernel
theorem dX1_put_23 : decode prog_3_method_4_code 23 = .ok (.aload_n 0, 1) := by decide +kernel
theorem dX1_put_24 : decode prog_3_method_4_code 24 = .ok (.getfield 19, 3) := by decide +kernel
theorem dX1_put_27 : decode prog_3_method_4_code 27 = .ok (.iload_n 2, 1) := by decide +kernel
theorem dX1_put_28 : decode prog_3_method_4_code 28 = .ok (.iastore, 1) := by decide +kernel
theorem dX1_put_29 : decode prog_3_method_4_code 29 = .ok (.aload_n 0, 1) := by decide +kernel
theorem dX1_put_30 : decode prog_3_method_4_code 30 = .ok (.getfield 16, 3) := by decide +kernel
theorem dX1_put_33 : decode prog_3_method_4_code 33 = .ok (.aload_n 0, 1) := by decide +kernel
theorem dX1_put_34 : decode prog_3_method_4_code 34 = .ok (.getfield 19, 3) := by decide +kernel
theorem dX1_put_37 : decode prog_3_method_4_code 37 = .ok (.iload_n 3, 1) := by decide +kernel
theorem dX1_put_38 : decode prog_3_method_4_code 38 = .ok (.iastore, 1) := by decide +kernel
theorem dX1_put_39 : decode prog_3_method_4_code 39 = .ok (.aload_n 0, 1) := by decide +kernel
theorem dX1_put_40 : decode prog_3_method_4_code 40 = .ok (.dup, 1) := by decide +kernel
theorem dX1_put_41 : decode prog_3_method_4_code 41 = .ok (.getfield 19, 3) := by decide +kernel
theorem dX1_put_44 : decode prog_3_method_4_code 44 = .ok (.iconst 1, 1) := by decide +kernel
theorem dX1_put_45 : decode prog_3_method_4_code 45 = .ok (.iadd, 1) := by decide +kernel
theorem dX1_put_46 : decode prog_3_method_4_code 46 = .ok (.putfield 19, 3) := by decide +kernel
theorem dX1_put_49 : decode prog_3_method_4_code 49 = .ok (.return_, 1) := by decide +kernel
def pX1_put_0 (N a0 : Nat) (G : mm_M) (x1 : Int32) (x2 : Int32) (x3 : Int32) : Option (mm_M × Unit) :=
  q_gI G a0 2 3 fun v1_1 =>
  if (6 : Int32) ≤ v1_1 then
    some (G, ())
  else
    q_gR G a0 2 0 fun r10_2 =>
    q_gI G a0 2 3 fun v14_3 =>
    q_nn r10_2 fun b18_4 =>
    q_sI G b18_4 101 v14_3 x1 fun G =>
    q_gR G a0 2 1 fun r20_5 =>
    q_gI G a0 2 3 fun v24_6 =>
    q_nn r20_5 fun b28_7 =>
    q_sI G b28_7 101 v24_6 x2 fun G =>
    q_gR G a0 2 2 fun r30_8 =>
    q_gI G a0 2 3 fun v34_9 =>
    q_nn r30_8 fun b38_10 =>
    q_sI G b38_10 101 v34_9 x3 fun G =>
    q_gI G a0 2 3 fun v41_11 =>
    q_pI G a0 2 3 (v41_11 + (1 : Int32)) fun G =>
    some (G, ())
set_option maxRecDepth 100000 in
set_option maxHeartbeats 4000000 in
theorem bX1_put_0 {p : Program} {l : Launch} {e : Env} {s : State} {m : MethodId} {args : Array Value} {below : List Frame} {meth : Method} {c : Code} {E : mm_E} {N a0 : Nat} {res : mm_M × Unit} (X : mm_X p s m args meth c prog_3_method_4_code 4 "XorOverlay$Entries" tw_T E) (hr : meth.sig.returnType = none) {G : mm_M} {H : Heap} {locs : List Loc} {ls : Array Slot} {x1 : Int32} {x2 : Int32} {x3 : Int32} (V : mm_V E s G H locs) (hl : lx_has ls 4 [(0, .inr (some a0)), (1, .inl x1), (2, .inl x2), (3, .inl x3)]) (hp : pX1_put_0 N a0 G x1 x2 x3 = some res) : W p l e rX1_put s m args below meth c H locs 0 0 (MQ below (mm_Qv E res.1) args s 0 0 (mm_A E)) (F0 m 0 ls []) := by
  have hx := X.1.1
  have hb := X.1.2.1
  unfold pX1_put_0 at hp
  refine x_aload_n X dX1_put_0 hl 0 rfl rfl ?_
  refine q_getI (ci := 1) X V inX1 rfl (by decide) rfl 3 (by decide) rfl (tw_1 200 rfl rfl) rfl dX1_put_1 hp (fun v1_1 hp => ?_)
  refine lv_bipush (v := (6 : Int32)) hx hb dX1_put_4 (by decide) ?_
  refine q_if hp (lv_icmp_ge (tgt := 49) hx hb dX1_put_6 (by decide)) (fun hp => ?_) (fun hp => ?_)
  · exact q_vret X V hr ⟨by decide, by decide⟩ dX1_put_49 hp
  · refine x_aload_n X dX1_put_9 hl 0 rfl rfl ?_
    refine q_getR (ci := 1) X V inX1 rfl (by decide) rfl 0 (by decide) rfl (tw_1 194 rfl rfl) rfl dX1_put_10 hp (fun r10_2 hp => ?_)
    refine x_aload_n X dX1_put_13 hl 0 rfl rfl ?_
    refine q_getI (ci := 1) X V inX1 rfl (by decide) rfl 3 (by decide) rfl (tw_1 200 rfl rfl) rfl dX1_put_14 hp (fun v14_3 hp => ?_)
    refine x_iload_n X dX1_put_17 hl 1 rfl rfl ?_
    obtain ⟨b18_4, e0, hp2⟩ := q_nn_of hp
    clear hp; subst e0; have hp := hp2; clear hp2
    refine q_iast X V dX1_put_18 hp (fun G H locs V hp => ?_)
    refine x_aload_n X dX1_put_19 hl 0 rfl rfl ?_
    refine q_getR (ci := 1) X V inX1 rfl (by decide) rfl 1 (by decide) rfl (tw_1 196 rfl rfl) rfl dX1_put_20 hp (fun r20_5 hp => ?_)
    refine x_aload_n X dX1_put_23 hl 0 rfl rfl ?_
    refine q_getI (ci := 1) X V inX1 rfl (by decide) rfl 3 (by decide) rfl (tw_1 200 rfl rfl) rfl dX1_put_24 hp (fun v24_6 hp => ?_)
    refine x_iload_n X dX1_put_27 hl 2 rfl rfl ?_
    obtain ⟨b28_7, e0, hp2⟩ := q_nn_of hp
    clear hp; subst e0; have hp := hp2; clear hp2
    refine q_iast X V dX1_put_28 hp (fun G H locs V hp => ?_)
    refine x_aload_n X dX1_put_29 hl 0 rfl rfl ?_
    refine q_getR (ci := 1) X V inX1 rfl (by decide) rfl 2 (by decide) rfl (tw_1 198 rfl rfl) rfl dX1_put_30 hp (fun r30_8 hp => ?_)
    refine x_aload_n X dX1_put_33 hl 0 rfl rfl ?_
    refine q_getI (ci := 1) X V inX1 rfl (by decide) rfl 3 (by decide) rfl (tw_1 200 rfl rfl) rfl dX1_put_34 hp (fun v34_9 hp => ?_)
    refine x_iload_n X dX1_put_37 hl 3 rfl rfl ?_
    obtain ⟨b38_10, e0, hp2⟩ := q_nn_of hp
    clear hp; subst e0; have hp := hp2; clear hp2
    refine q_iast X V dX1_put_38 hp (fun G H locs V hp => ?_)
    refine x_aload_n X dX1_put_39 hl 0 rfl rfl ?_
    refine lv_dup hx hb dX1_put_40 (va_rf_cat _) ?_
    refine q_getI (ci := 1) X V inX1 rfl (by decide) rfl 3 (by decide) rfl (tw_1 200 rfl rfl) rfl dX1_put_41 hp (fun v41_11 hp => ?_)
    refine lv_iconst (v := (1 : Int32)) hx hb dX1_put_44 (by decide) ?_
    refine lv_iadd hx hb dX1_put_45 ?_
    refine q_putI (ci := 1) X V inX1 rfl tyX1 tyX1_ok nmX1 (by decide) rfl 3 (by decide) rfl (tw_1 200 rfl rfl) rfl (Or.inl rfl) .int rfl rfl rfl dX1_put_46 hp (fun G H locs V hp => ?_)
    exact q_vret X V hr ⟨by decide, by decide⟩ dX1_put_49 hp
theorem cX1_put (l : Launch) (E : mm_E) {N a0 : Nat} {G : mm_M} {x1 : Int32} {x2 : Int32} {x3 : Int32} {res : mm_M × Unit} (hp : pX1_put_0 N a0 G x1 x2 x3 = some res) : Met l yX1_put (Cond.code yX1_put prog_3_method_4_code 4 none :: tw_T) rX1_put (mm_Pc E G [.ref a0, .int x1, .int x2, .int x3]) (mm_Qv E res.1) 0 0 (mm_A E) :=
  mm_met (own := "XorOverlay$Entries") E G [.inr (some a0), .inl x1, .inl x2, .inl x3] (by decide) rfl rfl (Nat.le_of_ble_eq_true rfl) (fun p e s m args below meth c ls X hr hi V hl => bX1_put_0 X hr V hl hp)
abbrev yX1_removeEnded : MethodName := ⟨"XorOverlay$Entries", "removeEnded", "(I)V"⟩
abbrev rX1_removeEnded : Room := { frames := 1, cells := 0, slots := 0, locals := 23 }
theorem kX1_removeEnded : Cond.code yX1_removeEnded prog_3_method_3_code 4 none ∈ tw_T ∧ Cond.instanceMethod yX1_removeEnded ∈ tw_T ∧ Cond.selects "XorOverlay$Entries" yX1_removeEnded yX1_removeEnded ∈ tw_T ∧ Cond.initialized "XorOverlay$Entries" ∈ tw_T := ⟨(tw_2 139 rfl rfl), (tw_2 137 rfl rfl), (tw_2 138 rfl rfl), (tw_1 8 rfl rfl)⟩
theorem hX1_removeEnded : yX1_removeEnded.cls = "XorOverlay$Entries" ∧ yX1_removeEnded.cls ≠ "java/lang/invoke/MethodHandle" ∧ yX1_removeEnded.cls ≠ "java/lang/invoke/VarHandle" ∧ (parseMethodDescriptor yX1_removeEnded.desc).map (fun d => d.parameters.length) = some 1 := by decide +kernel
theorem dX1_removeEnded_0 : decode prog_3_method_3_code 0 = .ok (.aload_n 0, 1) := by decide +kernel
theorem dX1_removeEnded_1 : decode prog_3_method_3_code 1 = .ok (.getfield 19, 3) := by decide +kernel
theorem dX1_removeEnded_4 : decode prog_3_method_3_code 4 = .ok (.istore_n 2, 1) := by decide +kernel
theorem dX1_removeEnded_5 : decode prog_3_method_3_code 5 = .ok (.aload_n 0, 1) := by decide +kernel
theorem dX1_removeEnded_6 : decode prog_3_method_3_code 6 = .ok (.iconst 0, 1) := by decide +kernel
theorem dX1_removeEnded_7 : decode prog_3_method_3_code 7 = .ok (.putfield 19, 3) := by decide +kernel
theorem dX1_removeEnded_10 : decode prog_3_method_3_code 10 = .ok (.iconst 0, 1) := by decide +kernel
theorem dX1_removeEnded_11 : decode prog_3_method_3_code 11 = .ok (.istore_n 3, 1) := by decide +kernel
theorem dX1_removeEnded_12 : decode prog_3_method_3_code 12 = .ok (.iload_n 3, 1) := by decide +kernel
theorem dX1_removeEnded_13 : decode prog_3_method_3_code 13 = .ok (.iload_n 2, 1) := by decide +kernel
theorem dX1_removeEnded_14 : decode prog_3_method_3_code 14 = .ok (.if_icmp .ge 41, 3) := by decide +kernel
theorem dX1_removeEnded_17 : decode prog_3_method_3_code 17 = .ok (.aload_n 0, 1) := by decide +kernel
theorem dX1_removeEnded_18 : decode prog_3_method_3_code 18 = .ok (.getfield 16, 3) := by decide +kernel
theorem dX1_removeEnded_21 : decode prog_3_method_3_code 21 = .ok (.iload_n 3, 1) := by decide +kernel
theorem dX1_removeEnded_22 : decode prog_3_method_3_code 22 = .ok (.iaload, 1) := by decide +kernel
theorem dX1_removeEnded_23 : decode prog_3_method_3_code 23 = .ok (.iload_n 1, 1) := by decide +kernel
theorem dX1_removeEnded_24 : decode prog_3_method_3_code 24 = .ok (.if_icmp .le 25, 3) := by decide +kernel
theorem dX1_removeEnded_27 : decode prog_3_method_3_code 27 = .ok (.aload_n 0, 1) := by decide +kernel
theorem dX1_removeEnded_28 : decode prog_3_method_3_code 28 = .ok (.aload_n 0, 1) := by decide +kernel
theorem dX1_removeEnded_29 : decode prog_3_method_3_code 29 = .ok (.getfield 9, 3) := by decide +kernel
theorem dX1_removeEnded_32 : decode prog_3_method_3_code 32 = .ok (.iload_n 3, 1) := by decide +kernel
theorem dX1_removeEnded_33 : decode prog_3_method_3_code 33 = .ok (.iaload, 1) := by decide +kernel
theorem dX1_removeEnded_34 : decode prog_3_method_3_code 34 = .ok (.aload_n 0, 1) := by decide +kernel
theorem dX1_removeEnded_35 : decode prog_3_method_3_code 35 = .ok (.getfield 13, 3) := by decide +kernel
theorem dX1_removeEnded_38 : decode prog_3_method_3_code 38 = .ok (.iload_n 3, 1) := by decide +kernel
theorem dX1_removeEnded_39 : decode prog_3_method_3_code 39 = .ok (.iaload, 1) := by decide +kernel
theorem dX1_removeEnded_40 : decode prog_3_method_3_code 40 = .ok (.aload_n 0, 1) := by decide +kernel
theorem dX1_removeEnded_41 : decode prog_3_method_3_code 41 = .ok (.getfield 16, 3) := by decide +kernel
theorem dX1_removeEnded_44 : decode prog_3_method_3_code 44 = .ok (.iload_n 3, 1) := by decide +kernel
theorem dX1_removeEnded_45 : decode prog_3_method_3_code 45 = .ok (.iaload, 1) := by decide +kernel
theorem dX1_removeEnded_46 : decode prog_3_method_3_code 46 = .ok (.invokevirtual 23, 3) := by decide +kernel
theorem dX1_removeEnded_49 : decode prog_3_method_3_code 49 = .ok (.iinc 3 1, 3) := by decide +kernel
theorem dX1_removeEnded_52 : decode prog_3_method_3_code 52 = .ok (.goto (-40), 3) := by decide +kernel
theorem dX1_removeEnded_55 : decode prog_3_method_3_code 55 = .ok (.return_, 1) := by decide +kernel
def pX1_removeEnded_12_b (N a0 : Nat) (kb : mm_M → Int32 → Int32 → Int32 → Option (mm_M × Unit)) (kx : mm_M → Option (mm_M × Unit)) (G : mm_M) (x1 : Int32) (x2 : Int32) (x3 : Int32) : Option (mm_M × Unit) :=
  if x2 ≤ x3 then
    kx G
  else
    q_gR G a0 2 2 fun r18_2 =>
    q_nn r18_2 fun b22_3 =>
    q_aI G b22_3 101 x3 fun v22_4 =>
    if v22_4 ≤ x1 then
      kb G x1 x2 (x3 + (1 : Int32))
    else
      q_gR G a0 2 0 fun r29_5 =>
      q_nn r29_5 fun b33_6 =>
      q_aI G b33_6 101 x3 fun v33_7 =>
      q_gR G a0 2 1 fun r35_8 =>
      q_nn r35_8 fun b39_9 =>
      q_aI G b39_9 101 x3 fun v39_10 =>
      q_gR G a0 2 2 fun r41_11 =>
      q_nn r41_11 fun b45_12 =>
      q_aI G b45_12 101 x3 fun v45_13 =>
      q_is G a0 2 <|
      q_cl (pX1_put_0 N a0 G v33_7 v39_10 v45_13) fun G _ =>
      kb G x1 x2 (x3 + (1 : Int32))
def pX1_removeEnded_12 (N a0 : Nat) (kx : mm_M → Option (mm_M × Unit)) : Nat → mm_M → Int32 → Int32 → Int32 → Option (mm_M × Unit)
  | 0 => fun _ _ _ _ => none
  | n + 1 => pX1_removeEnded_12_b N a0 (pX1_removeEnded_12 N a0 kx n) kx
set_option maxRecDepth 100000 in
set_option maxHeartbeats 4000000 in
theorem bX1_removeEnded_12 {p : Program} {l : Launch} {e : Env} {s : State} {m : MethodId} {args : Array Value} {below : List Frame} {meth : Method} {c : Code} {E : mm_E} {N a0 : Nat} {res : mm_M × Unit} (X : mm_X p s m args meth c prog_3_method_3_code 4 "XorOverlay$Entries" tw_T E) (hr : meth.sig.returnType = none) {kx : mm_M → Option (mm_M × Unit)} (hkx : ∀ (G : mm_M) (H : Heap) (locs : List Loc) (ls : Array Slot), mm_V E s G H locs → lx_has ls 4 [(0, .inr (some a0))] → kx G = some res → W p l e rX1_removeEnded s m args below meth c H locs 0 0 (MQ below (mm_Qv E res.1) args s 0 0 (mm_A E)) (F0 m 55 ls [])) :
    ∀ (n : Nat) (G : mm_M) (H : Heap) (locs : List Loc) (ls : Array Slot) (x1 : Int32) (x2 : Int32) (x3 : Int32), mm_V E s G H locs → lx_has ls 4 [(0, .inr (some a0)), (1, .inl x1), (2, .inl x2), (3, .inl x3)] → pX1_removeEnded_12 N a0 kx n G x1 x2 x3 = some res → W p l e rX1_removeEnded s m args below meth c H locs 0 0 (MQ below (mm_Qv E res.1) args s 0 0 (mm_A E)) (F0 m 12 ls []) := by
  have hx := X.1.1
  have hb := X.1.2.1
  intro n
  induction n with
  | zero =>
    intro G H locs ls x1 x2 x3 V hl hp
    cases hp
  | succ n ih =>
    intro G H locs ls x1 x2 x3 V hl hp
    have hp : pX1_removeEnded_12_b N a0 (pX1_removeEnded_12 N a0 kx n) kx G x1 x2 x3 = some res := hp
    unfold pX1_removeEnded_12_b at hp
    refine x_iload_n X dX1_removeEnded_12 hl 3 rfl rfl ?_
    refine x_iload_n X dX1_removeEnded_13 hl 2 rfl rfl ?_
    refine q_if hp (lv_icmp_ge (tgt := 55) hx hb dX1_removeEnded_14 (by decide)) (fun hp => ?_) (fun hp => ?_)
    · exact hkx _ _ _ _ V (lx_sub hl [0] rfl) hp
    · refine x_aload_n X dX1_removeEnded_17 hl 0 rfl rfl ?_
      refine q_getR (ci := 1) X V inX1 rfl (by decide) rfl 2 (by decide) rfl (tw_1 198 rfl rfl) rfl dX1_removeEnded_18 hp (fun r18_2 hp => ?_)
      refine x_iload_n X dX1_removeEnded_21 hl 3 rfl rfl ?_
      obtain ⟨b22_3, e0, hp2⟩ := q_nn_of hp
      clear hp; subst e0; have hp := hp2; clear hp2
      refine q_iald X V dX1_removeEnded_22 hp (fun v22_4 hp => ?_)
      refine x_iload_n X dX1_removeEnded_23 hl 1 rfl rfl ?_
      refine q_if hp (lv_icmp_le (tgt := 49) hx hb dX1_removeEnded_24 (by decide)) (fun hp => ?_) (fun hp => ?_)
      · refine x_iinc (v := (1 : Int32)) (lst' := [(3, .inl (x3 + (1 : Int32))), (0, .inr (some a0)), (1, .inl x1), (2, .inl x2)]) X dX1_removeEnded_49 hl 3 rfl (by decide) (by decide) rfl (fun ls hl => ?_)
        refine lv_goto (tgt := 12) hx hb dX1_removeEnded_52 (by decide) ?_
        exact ih _ _ _ _ _ _ _ V (lx_sub hl [1, 2, 3, 0] rfl) hp
      · refine x_aload_n X dX1_removeEnded_27 hl 0 rfl rfl ?_
        refine x_aload_n X dX1_removeEnded_28 hl 0 rfl rfl ?_
        refine q_getR (ci := 1) X V inX1 rfl (by decide) rfl 0 (by decide) rfl (tw_1 194 rfl rfl) rfl dX1_removeEnded_29 hp (fun r29_5 hp => ?_)
        refine x_iload_n X dX1_removeEnded_32 hl 3 rfl rfl ?_
        obtain ⟨b33_6, e0, hp2⟩ := q_nn_of hp
        clear hp; subst e0; have hp := hp2; clear hp2
        refine q_iald X V dX1_removeEnded_33 hp (fun v33_7 hp => ?_)
        refine x_aload_n X dX1_removeEnded_34 hl 0 rfl rfl ?_
        refine q_getR (ci := 1) X V inX1 rfl (by decide) rfl 1 (by decide) rfl (tw_1 196 rfl rfl) rfl dX1_removeEnded_35 hp (fun r35_8 hp => ?_)
        refine x_iload_n X dX1_removeEnded_38 hl 3 rfl rfl ?_
        obtain ⟨b39_9, e0, hp2⟩ := q_nn_of hp
        clear hp; subst e0; have hp := hp2; clear hp2
        refine q_iald X V dX1_removeEnded_39 hp (fun v39_10 hp => ?_)
        refine x_aload_n X dX1_removeEnded_40 hl 0 rfl rfl ?_
        refine q_getR (ci := 1) X V inX1 rfl (by decide) rfl 2 (by decide) rfl (tw_1 198 rfl rfl) rfl dX1_removeEnded_41 hp (fun r41_11 hp => ?_)
        refine x_iload_n X dX1_removeEnded_44 hl 3 rfl rfl ?_
        obtain ⟨b45_12, e0, hp2⟩ := q_nn_of hp
        clear hp; subst e0; have hp := hp2; clear hp2
        refine q_iald X V dX1_removeEnded_45 hp (fun v45_13 hp => ?_)
        obtain ⟨hk, hp⟩ := q_is_of hp
        obtain ⟨⟨G, u⟩, hq, hp⟩ := q_cl_of hp
        dsimp only at hp
        refine q_gov (cells' := 0) (slots' := 0) (va_runV (As := [.int v33_7, .int v39_10, .int v45_13]) (rest := []) X.1 (cX1_put l E hq) (tw_cwV 3 X.1.2.2.2.2 (tw_2 140 rfl rfl) kX1_put.2.1 kX1_put.2.2.1 kX1_put.2.2.2 kX1_put.1 rfl rfl hX1_put ⟨Nat.le_of_ble_eq_true rfl, Nat.le_of_ble_eq_true rfl⟩) (mm_preV X V rfl (by decide) rfl hk) rfl rfl hl.1 rfl (lv_room (Nat.le_of_ble_eq_true rfl)) dX1_removeEnded_46 ⟨by decide, by decide⟩) V ⟨rfl, rfl⟩ (fun H locs V => ?_)
        refine x_iinc (v := (1 : Int32)) (lst' := [(3, .inl (x3 + (1 : Int32))), (0, .inr (some a0)), (1, .inl x1), (2, .inl x2)]) X dX1_removeEnded_49 hl 3 rfl (by decide) (by decide) rfl (fun ls hl => ?_)
        refine lv_goto (tgt := 12) hx hb dX1_removeEnded_52 (by decide) ?_
        exact ih _ _ _ _ _ _ _ V (lx_sub hl [1, 2, 3, 0] rfl) hp
def pX1_removeEnded_0 (N a0 : Nat) (G : mm_M) (x1 : Int32) : Option (mm_M × Unit) :=
  q_gI G a0 2 3 fun v1_1 =>
  q_pI G a0 2 3 (0 : Int32) fun G =>
  pX1_removeEnded_12 N a0 (fun (G : mm_M) =>
    some (G, ())) N G x1 v1_1 (0 : Int32)
set_option maxRecDepth 100000 in
set_option maxHeartbeats 4000000 in
theorem bX1_removeEnded_0 {p : Program} {l : Launch} {e : Env} {s : State} {m : MethodId} {args : Array Value} {below : List Frame} {meth : Method} {c : Code} {E : mm_E} {N a0 : Nat} {res : mm_M × Unit} (X : mm_X p s m args meth c prog_3_method_3_code 4 "XorOverlay$Entries" tw_T E) (hr : meth.sig.returnType = none) {G : mm_M} {H : Heap} {locs : List Loc} {ls : Array Slot} {x1 : Int32} (V : mm_V E s G H locs) (hl : lx_has ls 4 [(0, .inr (some a0)), (1, .inl x1)]) (hp : pX1_removeEnded_0 N a0 G x1 = some res) : W p l e rX1_removeEnded s m args below meth c H locs 0 0 (MQ below (mm_Qv E res.1) args s 0 0 (mm_A E)) (F0 m 0 ls []) := by
  have hx := X.1.1
  have hb := X.1.2.1
  unfold pX1_removeEnded_0 at hp
  refine x_aload_n X dX1_removeEnded_0 hl 0 rfl rfl ?_
  refine q_getI (ci := 1) X V inX1 rfl (by decide) rfl 3 (by decide) rfl (tw_1 200 rfl rfl) rfl dX1_removeEnded_1 hp (fun v1_1 hp => ?_)
  refine x_istore_n (lst' := [(2, .inl v1_1), (0, .inr (some a0)), (1, .inl x1)]) X dX1_removeEnded_4 hl rfl (by decide) rfl (fun ls hl => ?_)
  refine x_aload_n X dX1_removeEnded_5 hl 1 rfl rfl ?_
  refine lv_iconst (v := (0 : Int32)) hx hb dX1_removeEnded_6 (by decide) ?_
  refine q_putI (ci := 1) X V inX1 rfl tyX1 tyX1_ok nmX1 (by decide) rfl 3 (by decide) rfl (tw_1 200 rfl rfl) rfl (Or.inl rfl) .int rfl rfl rfl dX1_removeEnded_7 hp (fun G H locs V hp => ?_)
  refine lv_iconst (v := (0 : Int32)) hx hb dX1_removeEnded_10 (by decide) ?_
  refine x_istore_n (lst' := [(3, .inl (0 : Int32)), (2, .inl v1_1), (0, .inr (some a0)), (1, .inl x1)]) X dX1_removeEnded_11 hl rfl (by decide) rfl (fun ls hl => ?_)
  refine bX1_removeEnded_12 X hr (fun G H locs ls V hl hp => ?_) _ _ _ _ _ _ _ _ V (lx_sub hl [2, 3, 1, 0] rfl) hp
  exact q_vret X V hr ⟨by decide, by decide⟩ dX1_removeEnded_55 hp
theorem cX1_removeEnded (l : Launch) (E : mm_E) {N a0 : Nat} {G : mm_M} {x1 : Int32} {res : mm_M × Unit} (hp : pX1_removeEnded_0 N a0 G x1 = some res) : Met l yX1_removeEnded (Cond.code yX1_removeEnded prog_3_method_3_code 4 none :: tw_T) rX1_removeEnded (mm_Pc E G [.ref a0, .int x1]) (mm_Qv E res.1) 0 0 (mm_A E) :=
  mm_met (own := "XorOverlay$Entries") E G [.inr (some a0), .inl x1] (by decide) rfl rfl (Nat.le_of_ble_eq_true rfl) (fun p e s m args below meth c ls X hr hi V hl => bX1_removeEnded_0 X hr V hl hp)
abbrev yX5_addMiss : MethodName := ⟨"XorOverlay$Table", "addMiss", "(I)V"⟩
abbrev rX5_addMiss : Room := { frames := 1, cells := 0, slots := 0, locals := 22 }
theorem kX5_addMiss : Cond.code yX5_addMiss prog_7_method_5_code 4 none ∈ tw_T ∧ Cond.instanceMethod yX5_addMiss ∈ tw_T ∧ Cond.selects "XorOverlay$Table" yX5_addMiss yX5_addMiss ∈ tw_T ∧ Cond.initialized "XorOverlay$Table" ∈ tw_T := ⟨(tw_2 151 rfl rfl), (tw_2 149 rfl rfl), (tw_2 150 rfl rfl), (tw_1 5 rfl rfl)⟩
theorem hX5_addMiss : yX5_addMiss.cls = "XorOverlay$Table" ∧ yX5_addMiss.cls ≠ "java/lang/invoke/MethodHandle" ∧ yX5_addMiss.cls ≠ "java/lang/invoke/VarHandle" ∧ (parseMethodDescriptor yX5_addMiss.desc).map (fun d => d.parameters.length) = some 1 := by decide +kernel
theorem dX5_addMiss_0 : decode prog_7_method_5_code 0 = .ok (.aload_n 0, 1) := by decide +kernel
theorem dX5_addMiss_1 : decode prog_7_method_5_code 1 = .ok (.getfield 17, 3) := by decide +kernel
theorem dX5_addMiss_4 : decode prog_7_method_5_code 4 = .ok (.aload_n 0, 1) := by decide +kernel
theorem dX5_addMiss_5 : decode prog_7_method_5_code 5 = .ok (.iload_n 1, 1) := by decide +kernel
theorem dX5_addMiss_6 : decode prog_7_method_5_code 6 = .ok (.invokevirtual 29, 3) := by decide +kernel
theorem dX5_addMiss_9 : decode prog_7_method_5_code 9 = .ok (.aaload, 1) := by decide +kernel
theorem dX5_addMiss_10 : decode prog_7_method_5_code 10 = .ok (.astore_n 2, 1) := by decide +kernel
theorem dX5_addMiss_11 : decode prog_7_method_5_code 11 = .ok (.aload_n 2, 1) := by decide +kernel
theorem dX5_addMiss_12 : decode prog_7_method_5_code 12 = .ok (.iload_n 1, 1) := by decide +kernel
theorem dX5_addMiss_13 : decode prog_7_method_5_code 13 = .ok (.invokevirtual 33, 3) := by decide +kernel
theorem dX5_addMiss_16 : decode prog_7_method_5_code 16 = .ok (.istore_n 3, 1) := by decide +kernel
theorem dX5_addMiss_17 : decode prog_7_method_5_code 17 = .ok (.iload_n 3, 1) := by decide +kernel
theorem dX5_addMiss_18 : decode prog_7_method_5_code 18 = .ok (.iconst (-1), 1) := by decide +kernel
theorem dX5_addMiss_19 : decode prog_7_method_5_code 19 = .ok (.if_icmp .eq 13, 3) := by decide +kernel
theorem dX5_addMiss_22 : decode prog_7_method_5_code 22 = .ok (.aload_n 2, 1) := by decide +kernel
theorem dX5_addMiss_23 : decode prog_7_method_5_code 23 = .ok (.getfield 58, 3) := by decide +kernel
theorem dX5_addMiss_26 : decode prog_7_method_5_code 26 = .ok (.iload_n 3, 1) := by decide +kernel
theorem dX5_addMiss_27 : decode prog_7_method_5_code 27 = .ok (.dup2, 1) := by decide +kernel
theorem dX5_addMiss_28 : decode prog_7_method_5_code 28 = .ok (.iaload, 1) := by decide +kernel
theorem dX5_addMiss_29 : decode prog_7_method_5_code 29 = .ok (.iconst 1, 1) := by decide +kernel
theorem dX5_addMiss_30 : decode prog_7_method_5_code 30 = .ok (.iadd, 1) := by decide +kernel
theorem dX5_addMiss_31 : decode prog_7_method_5_code 31 = .ok (.iastore, 1) := by decide +kernel
theorem dX5_addMiss_32 : decode prog_7_method_5_code 32 = .ok (.return_, 1) := by decide +kernel
def pX5_addMiss_0 (N a0 : Nat) (G : mm_M) (x1 : Int32) : Option (mm_M × Unit) :=
  q_gR G a0 6 1 fun r1_1 =>
  q_is G a0 6 <|
  q_cl (pX5_rangeOf_0 N a0 G x1) fun G v6_3 =>
  q_nn r1_1 fun b9_4 =>
  q_aR G b9_4 104 v6_3 fun r9_5 =>
  q_nn r9_5 fun b13_6 =>
  q_is G b13_6 1 <|
  q_cl (pX0_placeOf_0 N b13_6 G x1) fun G v13_8 =>
  if v13_8 = (-1 : Int32) then
    some (G, ())
  else
    q_gR G b13_6 1 1 fun r23_9 =>
    q_nn r23_9 fun b28_10 =>
    q_aI G b28_10 101 v13_8 fun v28_11 =>
    q_sI G b28_10 101 v13_8 (v28_11 + (1 : Int32)) fun G =>
    some (G, ())
set_option maxRecDepth 100000 in
set_option maxHeartbeats 4000000 in
theorem bX5_addMiss_0 {p : Program} {l : Launch} {e : Env} {s : State} {m : MethodId} {args : Array Value} {below : List Frame} {meth : Method} {c : Code} {E : mm_E} {N a0 : Nat} {res : mm_M × Unit} (X : mm_X p s m args meth c prog_7_method_5_code 4 "XorOverlay$Table" tw_T E) (hr : meth.sig.returnType = none) {G : mm_M} {H : Heap} {locs : List Loc} {ls : Array Slot} {x1 : Int32} (V : mm_V E s G H locs) (hl : lx_has ls 4 [(0, .inr (some a0)), (1, .inl x1)]) (hp : pX5_addMiss_0 N a0 G x1 = some res) : W p l e rX5_addMiss s m args below meth c H locs 0 0 (MQ below (mm_Qv E res.1) args s 0 0 (mm_A E)) (F0 m 0 ls []) := by
  have hx := X.1.1
  have hb := X.1.2.1
  unfold pX5_addMiss_0 at hp
  refine x_aload_n X dX5_addMiss_0 hl 0 rfl rfl ?_
  refine q_getR (ci := 5) X V inX5 rfl (by decide) rfl 1 (by decide) rfl (tw_1 126 rfl rfl) rfl dX5_addMiss_1 hp (fun r1_1 hp => ?_)
  refine x_aload_n X dX5_addMiss_4 hl 0 rfl rfl ?_
  refine x_iload_n X dX5_addMiss_5 hl 1 rfl rfl ?_
  obtain ⟨hk, hp⟩ := q_is_of hp
  obtain ⟨⟨G, v6_3⟩, hq, hp⟩ := q_cl_of hp
  dsimp only at hp
  refine q_goi (cells' := 0) (slots' := 0) (va_runV (As := [.int x1]) (rest := [va_rf r1_1]) X.1 (cX5_rangeOf l E hq) (tw_cwV 1 X.1.2.2.2.2 (tw_2 13 rfl rfl) kX5_rangeOf.2.1 kX5_rangeOf.2.2.1 kX5_rangeOf.2.2.2 kX5_rangeOf.1 rfl rfl hX5_rangeOf ⟨Nat.le_of_ble_eq_true rfl, Nat.le_of_ble_eq_true rfl⟩) (mm_preV X V rfl (by decide) rfl hk) rfl rfl hl.1 rfl (lv_room (by simp [va_rf_cat, va_int_cat])) dX5_addMiss_6 ⟨by decide, by decide⟩) V ⟨rfl, rfl⟩ (fun H locs V => ?_)
  obtain ⟨b9_4, e0, hp2⟩ := q_nn_of hp
  clear hp; subst e0; have hp := hp2; clear hp2
  refine q_aldB X V dX5_addMiss_9 hp (fun r9_5 hp => ?_)
  refine x_astore_n (lst' := [(2, .inr r9_5), (0, .inr (some a0)), (1, .inl x1)]) X dX5_addMiss_10 hl rfl (by decide) rfl (fun ls hl => ?_)
  refine x_aload_n X dX5_addMiss_11 hl 0 rfl rfl ?_
  refine x_iload_n X dX5_addMiss_12 hl 2 rfl rfl ?_
  obtain ⟨b13_6, e0, hp2⟩ := q_nn_of hp
  clear hp; subst e0; have hp := hp2; clear hp2
  obtain ⟨hk, hp⟩ := q_is_of hp
  obtain ⟨⟨G, v13_8⟩, hq, hp⟩ := q_cl_of hp
  dsimp only at hp
  refine q_goi (cells' := 0) (slots' := 0) (va_runV (As := [.int x1]) (rest := []) X.1 (cX0_placeOf l E hq) (tw_cwV 1 X.1.2.2.2.2 (tw_2 17 rfl rfl) kX0_placeOf.2.1 kX0_placeOf.2.2.1 kX0_placeOf.2.2.2 kX0_placeOf.1 rfl rfl hX0_placeOf ⟨Nat.le_of_ble_eq_true rfl, Nat.le_of_ble_eq_true rfl⟩) (mm_preV X V rfl (by decide) rfl hk) rfl rfl hl.1 rfl (lv_room (Nat.le_of_ble_eq_true rfl)) dX5_addMiss_13 ⟨by decide, by decide⟩) V ⟨rfl, rfl⟩ (fun H locs V => ?_)
  refine x_istore_n (lst' := [(3, .inl v13_8), (2, .inr (some b13_6)), (0, .inr (some a0)), (1, .inl x1)]) X dX5_addMiss_16 hl rfl (by decide) rfl (fun ls hl => ?_)
  refine x_iload_n X dX5_addMiss_17 hl 0 rfl rfl ?_
  refine lv_iconst (v := (-1 : Int32)) hx hb dX5_addMiss_18 (by decide) ?_
  refine q_if hp (lv_icmp_eq (tgt := 32) hx hb dX5_addMiss_19 (by decide)) (fun hp => ?_) (fun hp => ?_)
  · exact q_vret X V hr ⟨by decide, by decide⟩ dX5_addMiss_32 hp
  · refine x_aload_n X dX5_addMiss_22 hl 1 rfl rfl ?_
    refine q_getR (ci := 0) X V inX0 rfl (by decide) rfl 1 (by decide) rfl (tw_1 99 rfl rfl) rfl dX5_addMiss_23 hp (fun r23_9 hp => ?_)
    refine x_iload_n X dX5_addMiss_26 hl 0 rfl rfl ?_
    refine lv_dup2_11 hx hb dX5_addMiss_27 rfl (va_rf_cat _) ?_
    obtain ⟨b28_10, e0, hp2⟩ := q_nn_of hp
    clear hp; subst e0; have hp := hp2; clear hp2
    refine q_iald X V dX5_addMiss_28 hp (fun v28_11 hp => ?_)
    refine lv_iconst (v := (1 : Int32)) hx hb dX5_addMiss_29 (by decide) ?_
    refine lv_iadd hx hb dX5_addMiss_30 ?_
    refine q_iast X V dX5_addMiss_31 hp (fun G H locs V hp => ?_)
    exact q_vret X V hr ⟨by decide, by decide⟩ dX5_addMiss_32 hp
theorem cX5_addMiss (l : Launch) (E : mm_E) {N a0 : Nat} {G : mm_M} {x1 : Int32} {res : mm_M × Unit} (hp : pX5_addMiss_0 N a0 G x1 = some res) : Met l yX5_addMiss (Cond.code yX5_addMiss prog_7_method_5_code 4 none :: tw_T) rX5_addMiss (mm_Pc E G [.ref a0, .int x1]) (mm_Qv E res.1) 0 0 (mm_A E) :=
  mm_met (own := "XorOverlay$Table") E G [.inr (some a0), .inl x1] (by decide) rfl rfl (Nat.le_of_ble_eq_true rfl) (fun p e s m args below meth c ls X hr hi V hl => bX5_addMiss_0 X hr V hl hp)
abbrev yX6_giveUpOnSilent : MethodName := ⟨"XorOverlay", "giveUpOnSilent", "(LXorOverlay$Peer;)I"⟩
abbrev rX6_giveUpOnSilent : Room := { frames := 4, cells := 0, slots := 0, locals := 99 }
theorem kX6_giveUpOnSilent : Cond.code yX6_giveUpOnSilent prog_1_method_36_code 5 (Option.some .int) ∈ tw_T ∧ Cond.instanceMethod yX6_giveUpOnSilent ∈ tw_T ∧ Cond.selects "XorOverlay" yX6_giveUpOnSilent yX6_giveUpOnSilent ∈ tw_T ∧ Cond.initialized "XorOverlay" ∈ tw_T := ⟨(tw_2 147 rfl rfl), (tw_2 146 rfl rfl), (tw_s 11 rfl rfl), (tw_1 1 rfl rfl)⟩
theorem hX6_giveUpOnSilent : yX6_giveUpOnSilent.cls = "XorOverlay" ∧ yX6_giveUpOnSilent.cls ≠ "java/lang/invoke/MethodHandle" ∧ yX6_giveUpOnSilent.cls ≠ "java/lang/invoke/VarHandle" ∧ (parseMethodDescriptor yX6_giveUpOnSilent.desc).map (fun d => d.parameters.length) = some 1 := by decide +kernel
theorem dX6_giveUpOnSilent_0 : decode prog_1_method_36_code 0 = .ok (.aload_n 1, 1) := by decide +kernel
theorem dX6_giveUpOnSilent_1 : decode prog_1_method_36_code 1 = .ok (.getfield 72, 3) := by decide +kernel
theorem dX6_giveUpOnSilent_4 : decode prog_1_method_36_code 4 = .ok (.astore_n 2, 1) := by decide +kernel
theorem dX6_giveUpOnSilent_5 : decode prog_1_method_36_code 5 = .ok (.aload_n 2, 1) := by decide +kernel
theorem dX6_giveUpOnSilent_6 : decode prog_1_method_36_code 6 = .ok (.invokevirtual 76, 3) := by decide +kernel
theorem dX6_giveUpOnSilent_9 : decode prog_1_method_36_code 9 = .ok (.ifCond .ne 5, 3) := by decide +kernel
theorem dX6_giveUpOnSilent_12 : decode prog_1_method_36_code 12 = .ok (.iconst 0, 1) := by decide +kernel
theorem dX6_giveUpOnSilent_13 : decode prog_1_method_36_code 13 = .ok (.ireturn, 1) := by decide +kernel
theorem dX6_giveUpOnSilent_14 : decode prog_1_method_36_code 14 = .ok (.iconst 0, 1) := by decide +kernel
theorem dX6_giveUpOnSilent_15 : decode prog_1_method_36_code 15 = .ok (.istore_n 3, 1) := by decide +kernel
theorem dX6_giveUpOnSilent_16 : decode prog_1_method_36_code 16 = .ok (.iconst 0, 1) := by decide +kernel
theorem dX6_giveUpOnSilent_17 : decode prog_1_method_36_code 17 = .ok (.istore 4, 2) := by decide +kernel
theorem dX6_giveUpOnSilent_19 : decode prog_1_method_36_code 19 = .ok (.iload 4, 2) := by decide +kernel
theorem dX6_giveUpOnSilent_21 : decode prog_1_method_36_code 21 = .ok (.aload_n 2, 1) := by decide +kernel
theorem dX6_giveUpOnSilent_22 : decode prog_1_method_36_code 22 = .ok (.getfield 236, 3) := by decide +kernel
theorem dX6_giveUpOnSilent_25 : decode prog_1_method_36_code 25 = .ok (.if_icmp .ge 61, 3) := by decide +kernel
theorem dX6_giveUpOnSilent_28 : decode prog_1_method_36_code 28 = .ok (.aload_n 2, 1) := by decide +kernel
theorem dX6_giveUpOnSilent_29 : decode prog_1_method_36_code 29 = .ok (.getfield 135, 3) := by decide +kernel
theorem dX6_giveUpOnSilent_32 : decode prog_1_method_36_code 32 = .ok (.iload 4, 2) := by decide +kernel
theorem dX6_giveUpOnSilent_34 : decode prog_1_method_36_code 34 = .ok (.iaload, 1) := by decide +kernel
theorem dX6_giveUpOnSilent_35 : decode prog_1_method_36_code 35 = .ok (.iconst 1, 1) := by decide +kernel
theorem dX6_giveUpOnSilent_36 : decode prog_1_method_36_code 36 = .ok (.if_icmp .ne 44, 3) := by decide +kernel
theorem dX6_giveUpOnSilent_39 : decode prog_1_method_36_code 39 = .ok (.aload_n 0, 1) := by decide +kernel
theorem dX6_giveUpOnSilent_40 : decode prog_1_method_36_code 40 = .ok (.getfield 33, 3) := by decide +kernel
theorem dX6_giveUpOnSilent_43 : decode prog_1_method_36_code 43 = .ok (.aload_n 2, 1) := by decide +kernel
theorem dX6_giveUpOnSilent_44 : decode prog_1_method_36_code 44 = .ok (.getfield 219, 3) := by decide +kernel
theorem dX6_giveUpOnSilent_47 : decode prog_1_method_36_code 47 = .ok (.iload 4, 2) := by decide +kernel
theorem dX6_giveUpOnSilent_49 : decode prog_1_method_36_code 49 = .ok (.iaload, 1) := by decide +kernel
theorem dX6_giveUpOnSilent_50 : decode prog_1_method_36_code 50 = .ok (.isub, 1) := by decide +kernel
theorem dX6_giveUpOnSilent_51 : decode prog_1_method_36_code 51 = .ok (.iconst 4, 1) := by decide +kernel
theorem dX6_giveUpOnSilent_52 : decode prog_1_method_36_code 52 = .ok (.if_icmp .lt 28, 3) := by decide +kernel
theorem dX6_giveUpOnSilent_55 : decode prog_1_method_36_code 55 = .ok (.aload_n 2, 1) := by decide +kernel
theorem dX6_giveUpOnSilent_56 : decode prog_1_method_36_code 56 = .ok (.getfield 135, 3) := by decide +kernel
theorem dX6_giveUpOnSilent_59 : decode prog_1_method_36_code 59 = .ok (.iload 4, 2) := by decide +kernel
theorem dX6_giveUpOnSilent_61 : decode prog_1_method_36_code 61 = .ok (.iconst 3, 1) := by decide +kernel
theorem dX6_giveUpOnSilent_62 : decode prog_1_method_36_code 62 = .ok (.iastore, 1) := by decide +kernel
theorem dX6_giveUpOnSilent_63 : decode prog_1_method_36_code 63 = .ok (.aload_n 1, 1) := by decide +kernel
theorem dX6_giveUpOnSilent_64 : decode prog_1_method_36_code 64 = .ok (.getfield 54, 3) := by decide +kernel
theorem dX6_giveUpOnSilent_67 : decode prog_1_method_36_code 67 = .ok (.aload_n 2, 1) := by decide +kernel
theorem dX6_giveUpOnSilent_68 : decode prog_1_method_36_code 68 = .ok (.getfield 132, 3) := by decide +kernel
theorem dX6_giveUpOnSilent_71 : decode prog_1_method_36_code 71 = .ok (.iload 4, 2) := by decide +kernel
theorem dX6_giveUpOnSilent_73 : decode prog_1_method_36_code 73 = .ok (.iaload, 1) := by decide +kernel
theorem dX6_giveUpOnSilent_74 : decode prog_1_method_36_code 74 = .ok (.invokevirtual 265, 3) := by decide +kernel
theorem dX6_giveUpOnSilent_77 : decode prog_1_method_36_code 77 = .ok (.iinc 3 1, 3) := by decide +kernel
theorem dX6_giveUpOnSilent_80 : decode prog_1_method_36_code 80 = .ok (.iinc 4 1, 3) := by decide +kernel
theorem dX6_giveUpOnSilent_83 : decode prog_1_method_36_code 83 = .ok (.goto (-64), 3) := by decide +kernel
theorem dX6_giveUpOnSilent_86 : decode prog_1_method_36_code 86 = .ok (.aload_n 0, 1) := by decide +kernel
theorem dX6_giveUpOnSilent_87 : decode prog_1_method_36_code 87 = .ok (.aload_n 1, 1) := by decide +kernel
theorem dX6_giveUpOnSilent_88 : decode prog_1_method_36_code 88 = .ok (.invokevirtual 199, 3) := by decide +kernel
theorem dX6_giveUpOnSilent_91 : decode prog_1_method_36_code 91 = .ok (.iload_n 3, 1) := by decide +kernel
theorem dX6_giveUpOnSilent_92 : decode prog_1_method_36_code 92 = .ok (.ireturn, 1) := by decide +kernel
def pX6_giveUpOnSilent_19_b (N a0 : Nat) (kb : mm_M → Option Nat → Option Nat → Int32 → Int32 → Option (mm_M × Int32)) (kx : mm_M → Option Nat → Int32 → Option (mm_M × Int32)) (G : mm_M) (x1 : Option Nat) (x2 : Option Nat) (x3 : Int32) (x4 : Int32) : Option (mm_M × Int32) :=
  q_nn x2 fun b22_6 =>
  q_gI G b22_6 4 9 fun v22_7 =>
  if v22_7 ≤ x4 then
    kx G x1 x3
  else
    q_gR G b22_6 4 1 fun r29_8 =>
    q_nn r29_8 fun b34_9 =>
    q_aI G b34_9 101 x4 fun v34_10 =>
    if v34_10 = (1 : Int32) then
      q_gI G a0 7 5 fun v40_11 =>
      q_gR G b22_6 4 2 fun r44_12 =>
      q_nn r44_12 fun b49_13 =>
      q_aI G b49_13 101 x4 fun v49_14 =>
      if (v40_11 - v49_14) < (4 : Int32) then
        kb G x1 (some b22_6) x3 (x4 + (1 : Int32))
      else
        q_gR G b22_6 4 1 fun r56_15 =>
        q_nn r56_15 fun b62_16 =>
        q_sI G b62_16 101 x4 (3 : Int32) fun G =>
        q_nn x1 fun b64_17 =>
        q_gR G b64_17 5 1 fun r64_18 =>
        q_gR G b22_6 4 0 fun r68_19 =>
        q_nn r68_19 fun b73_20 =>
        q_aI G b73_20 101 x4 fun v73_21 =>
        q_nn r64_18 fun b74_22 =>
        q_is G b74_22 6 <|
        q_cl (pX5_addMiss_0 N b74_22 G v73_21) fun G _ =>
        kb G (some b64_17) (some b22_6) (x3 + (1 : Int32)) (x4 + (1 : Int32))
    else
      kb G x1 (some b22_6) x3 (x4 + (1 : Int32))
def pX6_giveUpOnSilent_19 (N a0 : Nat) (kx : mm_M → Option Nat → Int32 → Option (mm_M × Int32)) : Nat → mm_M → Option Nat → Option Nat → Int32 → Int32 → Option (mm_M × Int32)
  | 0 => fun _ _ _ _ _ => none
  | n + 1 => pX6_giveUpOnSilent_19_b N a0 (pX6_giveUpOnSilent_19 N a0 kx n) kx
set_option maxRecDepth 100000 in
set_option maxHeartbeats 4000000 in
theorem bX6_giveUpOnSilent_19 {p : Program} {l : Launch} {e : Env} {s : State} {m : MethodId} {args : Array Value} {below : List Frame} {meth : Method} {c : Code} {E : mm_E} {N a0 : Nat} {res : mm_M × Int32} (X : mm_X p s m args meth c prog_1_method_36_code 5 "XorOverlay" tw_T E) (hr : meth.sig.returnType = (Option.some .int)) {kx : mm_M → Option Nat → Int32 → Option (mm_M × Int32)} (hkx : ∀ (G : mm_M) (H : Heap) (locs : List Loc) (ls : Array Slot) (x1 : Option Nat) (x3 : Int32), mm_V E s G H locs → lx_has ls 5 [(0, .inr (some a0)), (1, .inr x1), (3, .inl x3)] → kx G x1 x3 = some res → W p l e rX6_giveUpOnSilent s m args below meth c H locs 0 0 (MQ below (mm_Qi E res.1 res.2) args s 0 0 (mm_A E)) (F0 m 86 ls [])) :
    ∀ (n : Nat) (G : mm_M) (H : Heap) (locs : List Loc) (ls : Array Slot) (x1 : Option Nat) (x2 : Option Nat) (x3 : Int32) (x4 : Int32), mm_V E s G H locs → lx_has ls 5 [(0, .inr (some a0)), (1, .inr x1), (2, .inr x2), (3, .inl x3), (4, .inl x4)] → pX6_giveUpOnSilent_19 N a0 kx n G x1 x2 x3 x4 = some res → W p l e rX6_giveUpOnSilent s m args below meth c H locs 0 0 (MQ below (mm_Qi E res.1 res.2) args s 0 0 (mm_A E)) (F0 m 19 ls []) := by
  have hx := X.1.1
  have hb := X.1.2.1
  intro n
  induction n with
  | zero =>
    intro G H locs ls x1 x2 x3 x4 V hl hp
    cases hp
  | succ n ih =>
    intro G H locs ls x1 x2 x3 x4 V hl hp
    have hp : pX6_giveUpOnSilent_19_b N a0 (pX6_giveUpOnSilent_19 N a0 kx n) kx G x1 x2 x3 x4 = some res := hp
    unfold pX6_giveUpOnSilent_19_b at hp
    refine x_iload X dX6_giveUpOnSilent_19 hl 4 rfl ?_
    refine x_aload_n X dX6_giveUpOnSilent_21 hl 2 rfl rfl ?_
    obtain ⟨b22_6, e0, hp2⟩ := q_nn_of hp
    clear hp; subst e0; have hp := hp2; clear hp2
    refine q_getI (ci := 3) X V inX3 rfl (by decide) rfl 9 (by decide) rfl (tw_1 162 rfl rfl) rfl dX6_giveUpOnSilent_22 hp (fun v22_7 hp => ?_)
    refine q_if hp (lv_icmp_ge (tgt := 86) hx hb dX6_giveUpOnSilent_25 (by decide)) (fun hp => ?_) (fun hp => ?_)
    · exact hkx _ _ _ _ _ _ V (lx_sub hl [0, 1, 3] rfl) hp
    · refine x_aload_n X dX6_giveUpOnSilent_28 hl 2 rfl rfl ?_
      refine q_getR (ci := 3) X V inX3 rfl (by decide) rfl 1 (by decide) rfl (tw_1 146 rfl rfl) rfl dX6_giveUpOnSilent_29 hp (fun r29_8 hp => ?_)
      refine x_iload X dX6_giveUpOnSilent_32 hl 4 rfl ?_
      obtain ⟨b34_9, e0, hp2⟩ := q_nn_of hp
      clear hp; subst e0; have hp := hp2; clear hp2
      refine q_iald X V dX6_giveUpOnSilent_34 hp (fun v34_10 hp => ?_)
      refine lv_iconst (v := (1 : Int32)) hx hb dX6_giveUpOnSilent_35 (by decide) ?_
      refine q_ifn hp (lv_icmp_ne (tgt := 80) hx hb dX6_giveUpOnSilent_36 (by decide)) (fun hp => ?_) (fun hp => ?_)
      · refine x_iinc (v := (1 : Int32)) (lst' := [(4, .inl (x4 + (1 : Int32))), (0, .inr (some a0)), (1, .inr x1), (2, .inr (some b22_6)), (3, .inl x3)]) X dX6_giveUpOnSilent_80 hl 4 rfl (by decide) (by decide) rfl (fun ls hl => ?_)
        refine lv_goto (tgt := 19) hx hb dX6_giveUpOnSilent_83 (by decide) ?_
        exact ih _ _ _ _ _ _ _ _ V (lx_sub hl [1, 2, 3, 4, 0] rfl) hp
      · refine x_aload_n X dX6_giveUpOnSilent_39 hl 0 rfl rfl ?_
        refine q_getI (ci := 6) X V inX6 rfl (by decide) rfl 5 (by decide) rfl (tw_1 41 rfl rfl) rfl dX6_giveUpOnSilent_40 hp (fun v40_11 hp => ?_)
        refine x_aload_n X dX6_giveUpOnSilent_43 hl 2 rfl rfl ?_
        refine q_getR (ci := 3) X V inX3 rfl (by decide) rfl 2 (by decide) rfl (tw_1 148 rfl rfl) rfl dX6_giveUpOnSilent_44 hp (fun r44_12 hp => ?_)
        refine x_iload X dX6_giveUpOnSilent_47 hl 4 rfl ?_
        obtain ⟨b49_13, e0, hp2⟩ := q_nn_of hp
        clear hp; subst e0; have hp := hp2; clear hp2
        refine q_iald X V dX6_giveUpOnSilent_49 hp (fun v49_14 hp => ?_)
        refine lv_isub hx hb dX6_giveUpOnSilent_50 ?_
        refine lv_iconst (v := (4 : Int32)) hx hb dX6_giveUpOnSilent_51 (by decide) ?_
        refine q_if hp (lv_icmp_lt (tgt := 80) hx hb dX6_giveUpOnSilent_52 (by decide)) (fun hp => ?_) (fun hp => ?_)
        · refine x_iinc (v := (1 : Int32)) (lst' := [(4, .inl (x4 + (1 : Int32))), (0, .inr (some a0)), (1, .inr x1), (2, .inr (some b22_6)), (3, .inl x3)]) X dX6_giveUpOnSilent_80 hl 4 rfl (by decide) (by decide) rfl (fun ls hl => ?_)
          refine lv_goto (tgt := 19) hx hb dX6_giveUpOnSilent_83 (by decide) ?_
          exact ih _ _ _ _ _ _ _ _ V (lx_sub hl [1, 2, 3, 4, 0] rfl) hp
        · refine x_aload_n X dX6_giveUpOnSilent_55 hl 2 rfl rfl ?_
          refine q_getR (ci := 3) X V inX3 rfl (by decide) rfl 1 (by decide) rfl (tw_1 146 rfl rfl) rfl dX6_giveUpOnSilent_56 hp (fun r56_15 hp => ?_)
          refine x_iload X dX6_giveUpOnSilent_59 hl 4 rfl ?_
          refine lv_iconst (v := (3 : Int32)) hx hb dX6_giveUpOnSilent_61 (by decide) ?_
          obtain ⟨b62_16, e0, hp2⟩ := q_nn_of hp
          clear hp; subst e0; have hp := hp2; clear hp2
          refine q_iast X V dX6_giveUpOnSilent_62 hp (fun G H locs V hp => ?_)
          refine x_aload_n X dX6_giveUpOnSilent_63 hl 1 rfl rfl ?_
          obtain ⟨b64_17, e0, hp2⟩ := q_nn_of hp
          clear hp; subst e0; have hp := hp2; clear hp2
          refine q_getR (ci := 4) X V inX4 rfl (by decide) rfl 1 (by decide) rfl (tw_1 215 rfl rfl) rfl dX6_giveUpOnSilent_64 hp (fun r64_18 hp => ?_)
          refine x_aload_n X dX6_giveUpOnSilent_67 hl 2 rfl rfl ?_
          refine q_getR (ci := 3) X V inX3 rfl (by decide) rfl 0 (by decide) rfl (tw_1 144 rfl rfl) rfl dX6_giveUpOnSilent_68 hp (fun r68_19 hp => ?_)
          refine x_iload X dX6_giveUpOnSilent_71 hl 4 rfl ?_
          obtain ⟨b73_20, e0, hp2⟩ := q_nn_of hp
          clear hp; subst e0; have hp := hp2; clear hp2
          refine q_iald X V dX6_giveUpOnSilent_73 hp (fun v73_21 hp => ?_)
          obtain ⟨b74_22, e0, hp2⟩ := q_nn_of hp
          clear hp; subst e0; have hp := hp2; clear hp2
          obtain ⟨hk, hp⟩ := q_is_of hp
          obtain ⟨⟨G, u⟩, hq, hp⟩ := q_cl_of hp
          dsimp only at hp
          refine q_gov (cells' := 0) (slots' := 0) (va_runV (As := [.int v73_21]) (rest := []) X.1 (cX5_addMiss l E hq) (tw_cwV 1 X.1.2.2.2.2 (tw_2 148 rfl rfl) kX5_addMiss.2.1 kX5_addMiss.2.2.1 kX5_addMiss.2.2.2 kX5_addMiss.1 rfl rfl hX5_addMiss ⟨Nat.le_of_ble_eq_true rfl, Nat.le_of_ble_eq_true rfl⟩) (mm_preV X V rfl (by decide) rfl hk) rfl rfl hl.1 rfl (lv_room (Nat.le_of_ble_eq_true rfl)) dX6_giveUpOnSilent_74 ⟨by decide, by decide⟩) V ⟨rfl, rfl⟩ (fun H locs V => ?_)
          refine x_iinc (v := (1 : Int32)) (lst' := [(3, .inl (x3 + (1 : Int32))), (0, .inr (some a0)), (1, .inr (some b64_17)), (2, .inr (some b22_6)), (4, .inl x4)]) X dX6_giveUpOnSilent_77 hl 3 rfl (by decide) (by decide) rfl (fun ls hl => ?_)
          refine x_iinc (v := (1 : Int32)) (lst' := [(4, .inl (x4 + (1 : Int32))), (3, .inl (x3 + (1 : Int32))), (0, .inr (some a0)), (1, .inr (some b64_17)), (2, .inr (some b22_6))]) X dX6_giveUpOnSilent_80 hl 4 rfl (by decide) (by decide) rfl (fun ls hl => ?_)
          refine lv_goto (tgt := 19) hx hb dX6_giveUpOnSilent_83 (by decide) ?_
          exact ih _ _ _ _ _ _ _ _ V (lx_sub hl [2, 3, 4, 1, 0] rfl) hp
def pX6_giveUpOnSilent_0 (N a0 : Nat) (G : mm_M) (x1 : Option Nat) : Option (mm_M × Int32) :=
  q_nn x1 fun b1_1 =>
  q_gR G b1_1 5 2 fun r1_2 =>
  q_nn r1_2 fun b6_3 =>
  q_is G b6_3 4 <|
  q_cl (pX3_isRunning_0 N b6_3 G) fun G v6_5 =>
  if v6_5 = 0 then
    some (G, (0 : Int32))
  else
    pX6_giveUpOnSilent_19 N a0 (fun (G : mm_M) (x1 : Option Nat) (x3 : Int32) =>
      q_is G a0 7 <|
      q_cl (pX6_goOn_0 N a0 G x1) fun G _ =>
      some (G, x3)) N G (some b1_1) (some b6_3) (0 : Int32) (0 : Int32)
set_option maxRecDepth 100000 in
set_option maxHeartbeats 4000000 in
theorem bX6_giveUpOnSilent_0 {p : Program} {l : Launch} {e : Env} {s : State} {m : MethodId} {args : Array Value} {below : List Frame} {meth : Method} {c : Code} {E : mm_E} {N a0 : Nat} {res : mm_M × Int32} (X : mm_X p s m args meth c prog_1_method_36_code 5 "XorOverlay" tw_T E) (hr : meth.sig.returnType = (Option.some .int)) {G : mm_M} {H : Heap} {locs : List Loc} {ls : Array Slot} {x1 : Option Nat} (V : mm_V E s G H locs) (hl : lx_has ls 5 [(0, .inr (some a0)), (1, .inr x1)]) (hp : pX6_giveUpOnSilent_0 N a0 G x1 = some res) : W p l e rX6_giveUpOnSilent s m args below meth c H locs 0 0 (MQ below (mm_Qi E res.1 res.2) args s 0 0 (mm_A E)) (F0 m 0 ls []) := by
  have hx := X.1.1
  have hb := X.1.2.1
  unfold pX6_giveUpOnSilent_0 at hp
  refine x_aload_n X dX6_giveUpOnSilent_0 hl 1 rfl rfl ?_
  obtain ⟨b1_1, e0, hp2⟩ := q_nn_of hp
  clear hp; subst e0; have hp := hp2; clear hp2
  refine q_getR (ci := 4) X V inX4 rfl (by decide) rfl 2 (by decide) rfl (tw_1 217 rfl rfl) rfl dX6_giveUpOnSilent_1 hp (fun r1_2 hp => ?_)
  refine x_astore_n (lst' := [(2, .inr r1_2), (0, .inr (some a0)), (1, .inr (some b1_1))]) X dX6_giveUpOnSilent_4 hl rfl (by decide) rfl (fun ls hl => ?_)
  refine x_aload_n X dX6_giveUpOnSilent_5 hl 0 rfl rfl ?_
  obtain ⟨b6_3, e0, hp2⟩ := q_nn_of hp
  clear hp; subst e0; have hp := hp2; clear hp2
  obtain ⟨hk, hp⟩ := q_is_of hp
  obtain ⟨⟨G, v6_5⟩, hq, hp⟩ := q_cl_of hp
  dsimp only at hp
  refine q_goi (cells' := 0) (slots' := 0) (va_runV (As := []) (rest := []) X.1 (cX3_isRunning l E hq) (tw_cwV 0 X.1.2.2.2.2 (tw_2 120 rfl rfl) kX3_isRunning.2.1 kX3_isRunning.2.2.1 kX3_isRunning.2.2.2 kX3_isRunning.1 rfl rfl hX3_isRunning ⟨Nat.le_of_ble_eq_true rfl, Nat.le_of_ble_eq_true rfl⟩) (mm_preV X V rfl (by decide) rfl hk) rfl rfl hl.1 rfl (lv_room (Nat.le_of_ble_eq_true rfl)) dX6_giveUpOnSilent_6 ⟨by decide, by decide⟩) V ⟨rfl, rfl⟩ (fun H locs V => ?_)
  refine q_ifn hp (lv_if_ne (tgt := 14) hx hb dX6_giveUpOnSilent_9 (by decide)) (fun hp => ?_) (fun hp => ?_)
  · refine lv_iconst (v := (0 : Int32)) hx hb dX6_giveUpOnSilent_14 (by decide) ?_
    refine x_istore_n (lst' := [(3, .inl (0 : Int32)), (2, .inr (some b6_3)), (0, .inr (some a0)), (1, .inr (some b1_1))]) X dX6_giveUpOnSilent_15 hl rfl (by decide) rfl (fun ls hl => ?_)
    refine lv_iconst (v := (0 : Int32)) hx hb dX6_giveUpOnSilent_16 (by decide) ?_
    refine x_istore (lst' := [(4, .inl (0 : Int32)), (3, .inl (0 : Int32)), (2, .inr (some b6_3)), (0, .inr (some a0)), (1, .inr (some b1_1))]) X dX6_giveUpOnSilent_17 hl (by decide) rfl (fun ls hl => ?_)
    refine bX6_giveUpOnSilent_19 X hr (fun G H locs ls x1 x3 V hl hp => ?_) _ _ _ _ _ _ _ _ _ V (lx_sub hl [3, 4, 2, 1, 0] rfl) hp
    refine x_aload_n X dX6_giveUpOnSilent_86 hl 0 rfl rfl ?_
    refine x_aload_n X dX6_giveUpOnSilent_87 hl 1 rfl rfl ?_
    obtain ⟨hk, hp⟩ := q_is_of hp
    obtain ⟨⟨G, u⟩, hq, hp⟩ := q_cl_of hp
    dsimp only at hp
    refine q_gov (cells' := 0) (slots' := 0) (va_runV (As := [va_rf x1]) (rest := []) X.1 (cX6_goOn l E hq) (tw_cwV 1 X.1.2.2.2.2 (tw_2 77 rfl rfl) kX6_goOn.2.1 kX6_goOn.2.2.1 kX6_goOn.2.2.2 kX6_goOn.1 rfl rfl hX6_goOn ⟨Nat.le_of_ble_eq_true rfl, Nat.le_of_ble_eq_true rfl⟩) (mm_preV X V rfl (by decide) rfl hk) rfl rfl hl.1 rfl (lv_room (Nat.le_of_ble_eq_true rfl)) dX6_giveUpOnSilent_88 ⟨by decide, by decide⟩) V ⟨rfl, rfl⟩ (fun H locs V => ?_)
    refine x_iload_n X dX6_giveUpOnSilent_91 hl 2 rfl rfl ?_
    exact q_iret X V hr ⟨by decide, by decide⟩ dX6_giveUpOnSilent_92 hp
  · refine lv_iconst (v := (0 : Int32)) hx hb dX6_giveUpOnSilent_12 (by decide) ?_
    exact q_iret X V hr ⟨by decide, by decide⟩ dX6_giveUpOnSilent_13 hp
theorem cX6_giveUpOnSilent (l : Launch) (E : mm_E) {N a0 : Nat} {G : mm_M} {x1 : Option Nat} {res : mm_M × Int32} (hp : pX6_giveUpOnSilent_0 N a0 G x1 = some res) : Met l yX6_giveUpOnSilent (Cond.code yX6_giveUpOnSilent prog_1_method_36_code 5 (Option.some .int) :: tw_T) rX6_giveUpOnSilent (mm_Pc E G [.ref a0, va_rf x1]) (mm_Qi E res.1 res.2) 0 0 (mm_A E) :=
  mm_met (own := "XorOverlay") E G [.inr (some a0), .inr x1] (by decide) rfl rfl (Nat.le_of_ble_eq_true rfl) (fun p e s m args below meth c ls X hr hi V hl => bX6_giveUpOnSilent_0 X hr V hl hp)
abbrev yX6_tick : MethodName := ⟨"XorOverlay", "tick", "()I"⟩
abbrev rX6_tick : Room := { frames := 5, cells := 0, slots := 0, locals := 123 }
theorem kX6_tick : Cond.code yX6_tick prog_1_method_6_code 4 (Option.some .int) ∈ tw_T ∧ Cond.instanceMethod yX6_tick ∈ tw_T ∧ Cond.selects "XorOverlay" yX6_tick yX6_tick ∈ tw_T ∧ Cond.initialized "XorOverlay" ∈ tw_T := ⟨(tw_2 135 rfl rfl), (tw_2 133 rfl rfl), (tw_2 134 rfl rfl), (tw_1 1 rfl rfl)⟩
theorem hX6_tick : yX6_tick.cls = "XorOverlay" ∧ yX6_tick.cls ≠ "java/lang/invoke/MethodHandle" ∧ yX6_tick.cls ≠ "java/lang/invoke/VarHandle" ∧ (parseMethodDescriptor yX6_tick.desc).map (fun d => d.parameters.length) = some 0 := by decide +kernel
theorem dX6_tick_0 : decode prog_1_method_6_code 0 = .ok (.aload_n 0, 1) := by decide +kernel
theorem dX6_tick_1 : decode prog_1_method_6_code 1 = .ok (.dup, 1) := by decide +kernel
theorem dX6_tick_2 : decode prog_1_method_6_code 2 = .ok (.getfield 33, 3) := by decide +kernel
theorem dX6_tick_5 : decode prog_1_method_6_code 5 = .ok (.iconst 1, 1) := by decide +kernel
theorem dX6_tick_6 : decode prog_1_method_6_code 6 = .ok (.iadd, 1) := by decide +kernel
theorem dX6_tick_7 : decode prog_1_method_6_code 7 = .ok (.putfield 33, 3) := by decide +kernel
theorem dX6_tick_10 : decode prog_1_method_6_code 10 = .ok (.iconst 0, 1) := by decide +kernel
theorem dX6_tick_11 : decode prog_1_method_6_code 11 = .ok (.istore_n 1, 1) := by decide +kernel
theorem dX6_tick_12 : decode prog_1_method_6_code 12 = .ok (.iconst 0, 1) := by decide +kernel
theorem dX6_tick_13 : decode prog_1_method_6_code 13 = .ok (.istore_n 2, 1) := by decide +kernel
theorem dX6_tick_14 : decode prog_1_method_6_code 14 = .ok (.iload_n 2, 1) := by decide +kernel
theorem dX6_tick_15 : decode prog_1_method_6_code 15 = .ok (.aload_n 0, 1) := by decide +kernel
theorem dX6_tick_16 : decode prog_1_method_6_code 16 = .ok (.getfield 29, 3) := by decide +kernel
theorem dX6_tick_19 : decode prog_1_method_6_code 19 = .ok (.if_icmp .ge 46, 3) := by decide +kernel
theorem dX6_tick_22 : decode prog_1_method_6_code 22 = .ok (.aload_n 0, 1) := by decide +kernel
theorem dX6_tick_23 : decode prog_1_method_6_code 23 = .ok (.getfield 11, 3) := by decide +kernel
theorem dX6_tick_26 : decode prog_1_method_6_code 26 = .ok (.iload_n 2, 1) := by decide +kernel
theorem dX6_tick_27 : decode prog_1_method_6_code 27 = .ok (.aaload, 1) := by decide +kernel
theorem dX6_tick_28 : decode prog_1_method_6_code 28 = .ok (.astore_n 3, 1) := by decide +kernel
theorem dX6_tick_29 : decode prog_1_method_6_code 29 = .ok (.aload_n 3, 1) := by decide +kernel
theorem dX6_tick_30 : decode prog_1_method_6_code 30 = .ok (.ifnull 29, 3) := by decide +kernel
theorem dX6_tick_33 : decode prog_1_method_6_code 33 = .ok (.aload_n 3, 1) := by decide +kernel
theorem dX6_tick_34 : decode prog_1_method_6_code 34 = .ok (.getfield 68, 3) := by decide +kernel
theorem dX6_tick_37 : decode prog_1_method_6_code 37 = .ok (.ifCond .eq 22, 3) := by decide +kernel
theorem dX6_tick_40 : decode prog_1_method_6_code 40 = .ok (.aload_n 3, 1) := by decide +kernel
theorem dX6_tick_41 : decode prog_1_method_6_code 41 = .ok (.getfield 86, 3) := by decide +kernel
theorem dX6_tick_44 : decode prog_1_method_6_code 44 = .ok (.aload_n 0, 1) := by decide +kernel
theorem dX6_tick_45 : decode prog_1_method_6_code 45 = .ok (.getfield 33, 3) := by decide +kernel
theorem dX6_tick_48 : decode prog_1_method_6_code 48 = .ok (.invokevirtual 90, 3) := by decide +kernel
theorem dX6_tick_51 : decode prog_1_method_6_code 51 = .ok (.iload_n 1, 1) := by decide +kernel
theorem dX6_tick_52 : decode prog_1_method_6_code 52 = .ok (.aload_n 0, 1) := by decide +kernel
theorem dX6_tick_53 : decode prog_1_method_6_code 53 = .ok (.aload_n 3, 1) := by decide +kernel
theorem dX6_tick_54 : decode prog_1_method_6_code 54 = .ok (.invokevirtual 95, 3) := by decide +kernel
theorem dX6_tick_57 : decode prog_1_method_6_code 57 = .ok (.iadd, 1) := by decide +kernel
theorem dX6_tick_58 : decode prog_1_method_6_code 58 = .ok (.istore_n 1, 1) := by decide +kernel
theorem dX6_tick_59 : decode prog_1_method_6_code 59 = .ok (.iinc 2 1, 3) := by decide +kernel
theorem dX6_tick_62 : decode prog_1_method_6_code 62 = .ok (.goto (-48), 3) := by decide +kernel
theorem dX6_tick_65 : decode prog_1_method_6_code 65 = .ok (.iload_n 1, 1) := by decide +kernel
theorem dX6_tick_66 : decode prog_1_method_6_code 66 = .ok (.ireturn, 1) := by decide +kernel
def pX6_tick_14_b (N a0 : Nat) (kb : mm_M → Int32 → Int32 → Option (mm_M × Int32)) (kx : mm_M → Int32 → Option (mm_M × Int32)) (G : mm_M) (x1 : Int32) (x2 : Int32) : Option (mm_M × Int32) :=
  q_gI G a0 7 4 fun v16_2 =>
  if v16_2 ≤ x2 then
    kx G x1
  else
    q_gR G a0 7 0 fun r23_3 =>
    q_nn r23_3 fun b27_4 =>
    q_aR G b27_4 103 x2 fun r27_5 =>
    q_op r27_5 (
      kb G x1 (x2 + (1 : Int32))) fun b30_6 =>
    q_gI G b30_6 5 4 fun v34_7 =>
    if v34_7 = 0 then
      kb G x1 (x2 + (1 : Int32))
    else
      q_gR G b30_6 5 3 fun r41_8 =>
      q_gI G a0 7 5 fun v45_9 =>
      q_nn r41_8 fun b48_10 =>
      q_is G b48_10 2 <|
      q_cl (pX1_removeEnded_0 N b48_10 G v45_9) fun G _ =>
      q_is G a0 7 <|
      q_cl (pX6_giveUpOnSilent_0 N a0 G (some b30_6)) fun G v54_13 =>
      kb G (x1 + v54_13) (x2 + (1 : Int32))
def pX6_tick_14 (N a0 : Nat) (kx : mm_M → Int32 → Option (mm_M × Int32)) : Nat → mm_M → Int32 → Int32 → Option (mm_M × Int32)
  | 0 => fun _ _ _ => none
  | n + 1 => pX6_tick_14_b N a0 (pX6_tick_14 N a0 kx n) kx
set_option maxRecDepth 100000 in
set_option maxHeartbeats 4000000 in
theorem bX6_tick_14 {p : Program} {l : Launch} {e : Env} {s : State} {m : MethodId} {args : Array Value} {below : List Frame} {meth : Method} {c : Code} {E : mm_E} {N a0 : Nat} {res : mm_M × Int32} (X : mm_X p s m args meth c prog_1_method_6_code 4 "XorOverlay" tw_T E) (hr : meth.sig.returnType = (Option.some .int)) {kx : mm_M → Int32 → Option (mm_M × Int32)} (hkx : ∀ (G : mm_M) (H : Heap) (locs : List Loc) (ls : Array Slot) (x1 : Int32), mm_V E s G H locs → lx_has ls 4 [(0, .inr (some a0)), (1, .inl x1)] → kx G x1 = some res → W p l e rX6_tick s m args below meth c H locs 0 0 (MQ below (mm_Qi E res.1 res.2) args s 0 0 (mm_A E)) (F0 m 65 ls [])) :
    ∀ (n : Nat) (G : mm_M) (H : Heap) (locs : List Loc) (ls : Array Slot) (x1 : Int32) (x2 : Int32), mm_V E s G H locs → lx_has ls 4 [(0, .inr (some a0)), (1, .inl x1), (2, .inl x2)] → pX6_tick_14 N a0 kx n G x1 x2 = some res → W p l e rX6_tick s m args below meth c H locs 0 0 (MQ below (mm_Qi E res.1 res.2) args s 0 0 (mm_A E)) (F0 m 14 ls []) := by
  have hx := X.1.1
  have hb := X.1.2.1
  intro n
  induction n with
  | zero =>
    intro G H locs ls x1 x2 V hl hp
    cases hp
  | succ n ih =>
    intro G H locs ls x1 x2 V hl hp
    have hp : pX6_tick_14_b N a0 (pX6_tick_14 N a0 kx n) kx G x1 x2 = some res := hp
    unfold pX6_tick_14_b at hp
    refine x_iload_n X dX6_tick_14 hl 2 rfl rfl ?_
    refine x_aload_n X dX6_tick_15 hl 0 rfl rfl ?_
    refine q_getI (ci := 6) X V inX6 rfl (by decide) rfl 4 (by decide) rfl (tw_1 40 rfl rfl) rfl dX6_tick_16 hp (fun v16_2 hp => ?_)
    refine q_if hp (lv_icmp_ge (tgt := 65) hx hb dX6_tick_19 (by decide)) (fun hp => ?_) (fun hp => ?_)
    · exact hkx _ _ _ _ _ V (lx_sub hl [0, 1] rfl) hp
    · refine x_aload_n X dX6_tick_22 hl 0 rfl rfl ?_
      refine q_getR (ci := 6) X V inX6 rfl (by decide) rfl 0 (by decide) rfl (tw_1 36 rfl rfl) rfl dX6_tick_23 hp (fun r23_3 hp => ?_)
      refine x_iload_n X dX6_tick_26 hl 2 rfl rfl ?_
      obtain ⟨b27_4, e0, hp2⟩ := q_nn_of hp
      clear hp; subst e0; have hp := hp2; clear hp2
      refine q_aldP X V dX6_tick_27 hp (fun r27_5 hp => ?_)
      refine x_astore_n (lst' := [(3, .inr r27_5), (0, .inr (some a0)), (1, .inl x1), (2, .inl x2)]) X dX6_tick_28 hl rfl (by decide) rfl (fun ls hl => ?_)
      refine x_aload_n X dX6_tick_29 hl 0 rfl rfl ?_
      refine q_ifnull (tgt := 59) X dX6_tick_30 (by decide) hp (fun e0 hp2 => ?_) (fun b30_6 e0 hp2 => ?_)
      · clear hp; subst e0; have hp := hp2; clear hp2
        refine x_iinc (v := (1 : Int32)) (lst' := [(2, .inl (x2 + (1 : Int32))), (3, .inr none), (0, .inr (some a0)), (1, .inl x1)]) X dX6_tick_59 hl 3 rfl (by decide) (by decide) rfl (fun ls hl => ?_)
        refine lv_goto (tgt := 14) hx hb dX6_tick_62 (by decide) ?_
        exact ih _ _ _ _ _ _ V (lx_sub hl [2, 3, 0] rfl) hp
      · clear hp; subst e0; have hp := hp2; clear hp2
        refine x_aload_n X dX6_tick_33 hl 0 rfl rfl ?_
        refine q_getI (ci := 4) X V inX4 rfl (by decide) rfl 4 (by decide) rfl (tw_1 221 rfl rfl) rfl dX6_tick_34 hp (fun v34_7 hp => ?_)
        refine q_if hp (lv_if_eq (tgt := 59) hx hb dX6_tick_37 (by decide)) (fun hp => ?_) (fun hp => ?_)
        · refine x_iinc (v := (1 : Int32)) (lst' := [(2, .inl (x2 + (1 : Int32))), (3, .inr (some b30_6)), (0, .inr (some a0)), (1, .inl x1)]) X dX6_tick_59 hl 3 rfl (by decide) (by decide) rfl (fun ls hl => ?_)
          refine lv_goto (tgt := 14) hx hb dX6_tick_62 (by decide) ?_
          exact ih _ _ _ _ _ _ V (lx_sub hl [2, 3, 0] rfl) hp
        · refine x_aload_n X dX6_tick_40 hl 0 rfl rfl ?_
          refine q_getR (ci := 4) X V inX4 rfl (by decide) rfl 3 (by decide) rfl (tw_1 219 rfl rfl) rfl dX6_tick_41 hp (fun r41_8 hp => ?_)
          refine x_aload_n X dX6_tick_44 hl 1 rfl rfl ?_
          refine q_getI (ci := 6) X V inX6 rfl (by decide) rfl 5 (by decide) rfl (tw_1 41 rfl rfl) rfl dX6_tick_45 hp (fun v45_9 hp => ?_)
          obtain ⟨b48_10, e0, hp2⟩ := q_nn_of hp
          clear hp; subst e0; have hp := hp2; clear hp2
          obtain ⟨hk, hp⟩ := q_is_of hp
          obtain ⟨⟨G, u⟩, hq, hp⟩ := q_cl_of hp
          dsimp only at hp
          refine q_gov (cells' := 0) (slots' := 0) (va_runV (As := [.int v45_9]) (rest := []) X.1 (cX1_removeEnded l E hq) (tw_cwV 1 X.1.2.2.2.2 (tw_2 136 rfl rfl) kX1_removeEnded.2.1 kX1_removeEnded.2.2.1 kX1_removeEnded.2.2.2 kX1_removeEnded.1 rfl rfl hX1_removeEnded ⟨Nat.le_of_ble_eq_true rfl, Nat.le_of_ble_eq_true rfl⟩) (mm_preV X V rfl (by decide) rfl hk) rfl rfl hl.1 rfl (lv_room (Nat.le_of_ble_eq_true rfl)) dX6_tick_48 ⟨by decide, by decide⟩) V ⟨rfl, rfl⟩ (fun H locs V => ?_)
          refine x_iload_n X dX6_tick_51 hl 2 rfl rfl ?_
          refine x_aload_n X dX6_tick_52 hl 1 rfl rfl ?_
          refine x_aload_n X dX6_tick_53 hl 0 rfl rfl ?_
          obtain ⟨hk, hp⟩ := q_is_of hp
          obtain ⟨⟨G, v54_13⟩, hq, hp⟩ := q_cl_of hp
          dsimp only at hp
          refine q_goi (cells' := 0) (slots' := 0) (va_runV (As := [va_rf (some b30_6)]) (rest := [.int x1]) X.1 (cX6_giveUpOnSilent l E hq) (tw_cwV 1 X.1.2.2.2.2 (tw_2 144 rfl rfl) kX6_giveUpOnSilent.2.1 kX6_giveUpOnSilent.2.2.1 kX6_giveUpOnSilent.2.2.2 kX6_giveUpOnSilent.1 rfl rfl hX6_giveUpOnSilent ⟨Nat.le_of_ble_eq_true rfl, Nat.le_of_ble_eq_true rfl⟩) (mm_preV X V rfl (by decide) rfl hk) rfl rfl hl.1 rfl (lv_room (Nat.le_of_ble_eq_true rfl)) dX6_tick_54 ⟨by decide, by decide⟩) V ⟨rfl, rfl⟩ (fun H locs V => ?_)
          refine lv_iadd hx hb dX6_tick_57 ?_
          refine x_istore_n (lst' := [(1, .inl (x1 + v54_13)), (3, .inr (some b30_6)), (0, .inr (some a0)), (2, .inl x2)]) X dX6_tick_58 hl rfl (by decide) rfl (fun ls hl => ?_)
          refine x_iinc (v := (1 : Int32)) (lst' := [(2, .inl (x2 + (1 : Int32))), (1, .inl (x1 + v54_13)), (3, .inr (some b30_6)), (0, .inr (some a0))]) X dX6_tick_59 hl 3 rfl (by decide) (by decide) rfl (fun ls hl => ?_)
          refine lv_goto (tgt := 14) hx hb dX6_tick_62 (by decide) ?_
          exact ih _ _ _ _ _ _ V (lx_sub hl [3, 1, 0] rfl) hp
def pX6_tick_0 (N a0 : Nat) (G : mm_M) : Option (mm_M × Int32) :=
  q_gI G a0 7 5 fun v2_1 =>
  q_pI G a0 7 5 (v2_1 + (1 : Int32)) fun G =>
  pX6_tick_14 N a0 (fun (G : mm_M) (x1 : Int32) =>
    some (G, x1)) N G (0 : Int32) (0 : Int32)
set_option maxRecDepth 100000 in
set_option maxHeartbeats 4000000 in
theorem bX6_tick_0 {p : Program} {l : Launch} {e : Env} {s : State} {m : MethodId} {args : Array Value} {below : List Frame} {meth : Method} {c : Code} {E : mm_E} {N a0 : Nat} {res : mm_M × Int32} (X : mm_X p s m args meth c prog_1_method_6_code 4 "XorOverlay" tw_T E) (hr : meth.sig.returnType = (Option.some .int)) {G : mm_M} {H : Heap} {locs : List Loc} {ls : Array Slot} (V : mm_V E s G H locs) (hl : lx_has ls 4 [(0, .inr (some a0))]) (hp : pX6_tick_0 N a0 G = some res) : W p l e rX6_tick s m args below meth c H locs 0 0 (MQ below (mm_Qi E res.1 res.2) args s 0 0 (mm_A E)) (F0 m 0 ls []) := by
  have hx := X.1.1
  have hb := X.1.2.1
  unfold pX6_tick_0 at hp
  refine x_aload_n X dX6_tick_0 hl 0 rfl rfl ?_
  refine lv_dup hx hb dX6_tick_1 (va_rf_cat _) ?_
  refine q_getI (ci := 6) X V inX6 rfl (by decide) rfl 5 (by decide) rfl (tw_1 41 rfl rfl) rfl dX6_tick_2 hp (fun v2_1 hp => ?_)
  refine lv_iconst (v := (1 : Int32)) hx hb dX6_tick_5 (by decide) ?_
  refine lv_iadd hx hb dX6_tick_6 ?_
  refine q_putI (ci := 6) X V inX6 rfl tyX6 tyX6_ok nmX6 (by decide) rfl 5 (by decide) rfl (tw_1 41 rfl rfl) rfl (Or.inl rfl) .int rfl rfl rfl dX6_tick_7 hp (fun G H locs V hp => ?_)
  refine lv_iconst (v := (0 : Int32)) hx hb dX6_tick_10 (by decide) ?_
  refine x_istore_n (lst' := [(1, .inl (0 : Int32)), (0, .inr (some a0))]) X dX6_tick_11 hl rfl (by decide) rfl (fun ls hl => ?_)
  refine lv_iconst (v := (0 : Int32)) hx hb dX6_tick_12 (by decide) ?_
  refine x_istore_n (lst' := [(2, .inl (0 : Int32)), (1, .inl (0 : Int32)), (0, .inr (some a0))]) X dX6_tick_13 hl rfl (by decide) rfl (fun ls hl => ?_)
  refine bX6_tick_14 X hr (fun G H locs ls x1 V hl hp => ?_) _ _ _ _ _ _ _ V (lx_sub hl [2, 1, 0] rfl) hp
  refine x_iload_n X dX6_tick_65 hl 1 rfl rfl ?_
  exact q_iret X V hr ⟨by decide, by decide⟩ dX6_tick_66 hp
theorem cX6_tick (l : Launch) (E : mm_E) {N a0 : Nat} {G : mm_M} {res : mm_M × Int32} (hp : pX6_tick_0 N a0 G = some res) : Met l yX6_tick (Cond.code yX6_tick prog_1_method_6_code 4 (Option.some .int) :: tw_T) rX6_tick (mm_Pc E G [.ref a0]) (mm_Qi E res.1 res.2) 0 0 (mm_A E) :=
  mm_met (own := "XorOverlay") E G [.inr (some a0)] (by decide) rfl rfl (Nat.le_of_ble_eq_true rfl) (fun p e s m args below meth c ls X hr hi V hl => bX6_tick_0 X hr V hl hp)
abbrev yX6_clock : MethodName := ⟨"XorOverlay", "clock", "()I"⟩
abbrev rX6_clock : Room := { frames := 0, cells := 0, slots := 0, locals := 0 }
theorem kX6_clock : Cond.code yX6_clock prog_1_method_7_code 1 (Option.some .int) ∈ tw_T ∧ Cond.instanceMethod yX6_clock ∈ tw_T ∧ Cond.selects "XorOverlay" yX6_clock yX6_clock ∈ tw_T ∧ Cond.initialized "XorOverlay" ∈ tw_T := ⟨(tw_2 155 rfl rfl), (tw_2 153 rfl rfl), (tw_2 154 rfl rfl), (tw_1 1 rfl rfl)⟩
theorem hX6_clock : yX6_clock.cls = "XorOverlay" ∧ yX6_clock.cls ≠ "java/lang/invoke/MethodHandle" ∧ yX6_clock.cls ≠ "java/lang/invoke/VarHandle" ∧ (parseMethodDescriptor yX6_clock.desc).map (fun d => d.parameters.length) = some 0 := by decide +kernel
theorem dX6_clock_0 : decode prog_1_method_7_code 0 = .ok (.aload_n 0, 1) := by decide +kernel
theorem dX6_clock_1 : decode prog_1_method_7_code 1 = .ok (.getfield 33, 3) := by decide +kernel
theorem dX6_clock_4 : decode prog_1_method_7_code 4 = .ok (.ireturn, 1) := by decide +kernel
def pX6_clock_0 (N a0 : Nat) (G : mm_M) : Option (mm_M × Int32) :=
  q_gI G a0 7 5 fun v1_1 =>
  some (G, v1_1)
set_option maxRecDepth 100000 in
set_option maxHeartbeats 4000000 in
theorem bX6_clock_0 {p : Program} {l : Launch} {e : Env} {s : State} {m : MethodId} {args : Array Value} {below : List Frame} {meth : Method} {c : Code} {E : mm_E} {N a0 : Nat} {res : mm_M × Int32} (X : mm_X p s m args meth c prog_1_method_7_code 1 "XorOverlay" tw_T E) (hr : meth.sig.returnType = (Option.some .int)) {G : mm_M} {H : Heap} {locs : List Loc} {ls : Array Slot} (V : mm_V E s G H locs) (hl : lx_has ls 1 [(0, .inr (some a0))]) (hp : pX6_clock_0 N a0 G = some res) : W p l e rX6_clock s m args below meth c H locs 0 0 (MQ below (mm_Qi E res.1 res.2) args s 0 0 (mm_A E)) (F0 m 0 ls []) := by
  have hx := X.1.1
  have hb := X.1.2.1
  unfold pX6_clock_0 at hp
  refine x_aload_n X dX6_clock_0 hl 0 rfl rfl ?_
  refine q_getI (ci := 6) X V inX6 rfl (by decide) rfl 5 (by decide) rfl (tw_1 41 rfl rfl) rfl dX6_clock_1 hp (fun v1_1 hp => ?_)
  exact q_iret X V hr ⟨by decide, by decide⟩ dX6_clock_4 hp
theorem cX6_clock (l : Launch) (E : mm_E) {N a0 : Nat} {G : mm_M} {res : mm_M × Int32} (hp : pX6_clock_0 N a0 G = some res) : Met l yX6_clock (Cond.code yX6_clock prog_1_method_7_code 1 (Option.some .int) :: tw_T) rX6_clock (mm_Pc E G [.ref a0]) (mm_Qi E res.1 res.2) 0 0 (mm_A E) :=
  mm_met (own := "XorOverlay") E G [.inr (some a0)] (by decide) rfl rfl (Nat.le_of_ble_eq_true rfl) (fun p e s m args below meth c ls X hr hi V hl => bX6_clock_0 X hr V hl hp)
abbrev yX6_waiting : MethodName := ⟨"XorOverlay", "waiting", "()I"⟩
abbrev rX6_waiting : Room := { frames := 0, cells := 0, slots := 0, locals := 0 }
theorem kX6_waiting : Cond.code yX6_waiting prog_1_method_8_code 1 (Option.some .int) ∈ tw_T ∧ Cond.instanceMethod yX6_waiting ∈ tw_T ∧ Cond.selects "XorOverlay" yX6_waiting yX6_waiting ∈ tw_T ∧ Cond.initialized "XorOverlay" ∈ tw_T := ⟨(tw_2 159 rfl rfl), (tw_2 157 rfl rfl), (tw_2 158 rfl rfl), (tw_1 1 rfl rfl)⟩
theorem hX6_waiting : yX6_waiting.cls = "XorOverlay" ∧ yX6_waiting.cls ≠ "java/lang/invoke/MethodHandle" ∧ yX6_waiting.cls ≠ "java/lang/invoke/VarHandle" ∧ (parseMethodDescriptor yX6_waiting.desc).map (fun d => d.parameters.length) = some 0 := by decide +kernel
theorem dX6_waiting_0 : decode prog_1_method_8_code 0 = .ok (.aload_n 0, 1) := by decide +kernel
theorem dX6_waiting_1 : decode prog_1_method_8_code 1 = .ok (.getfield 18, 3) := by decide +kernel
theorem dX6_waiting_4 : decode prog_1_method_8_code 4 = .ok (.getfield 99, 3) := by decide +kernel
theorem dX6_waiting_7 : decode prog_1_method_8_code 7 = .ok (.ireturn, 1) := by decide +kernel
def pX6_waiting_0 (N a0 : Nat) (G : mm_M) : Option (mm_M × Int32) :=
  q_gR G a0 7 1 fun r1_1 =>
  q_nn r1_1 fun b4_2 =>
  q_gI G b4_2 3 1 fun v4_3 =>
  some (G, v4_3)
set_option maxRecDepth 100000 in
set_option maxHeartbeats 4000000 in
theorem bX6_waiting_0 {p : Program} {l : Launch} {e : Env} {s : State} {m : MethodId} {args : Array Value} {below : List Frame} {meth : Method} {c : Code} {E : mm_E} {N a0 : Nat} {res : mm_M × Int32} (X : mm_X p s m args meth c prog_1_method_8_code 1 "XorOverlay" tw_T E) (hr : meth.sig.returnType = (Option.some .int)) {G : mm_M} {H : Heap} {locs : List Loc} {ls : Array Slot} (V : mm_V E s G H locs) (hl : lx_has ls 1 [(0, .inr (some a0))]) (hp : pX6_waiting_0 N a0 G = some res) : W p l e rX6_waiting s m args below meth c H locs 0 0 (MQ below (mm_Qi E res.1 res.2) args s 0 0 (mm_A E)) (F0 m 0 ls []) := by
  have hx := X.1.1
  have hb := X.1.2.1
  unfold pX6_waiting_0 at hp
  refine x_aload_n X dX6_waiting_0 hl 0 rfl rfl ?_
  refine q_getR (ci := 6) X V inX6 rfl (by decide) rfl 1 (by decide) rfl (tw_1 37 rfl rfl) rfl dX6_waiting_1 hp (fun r1_1 hp => ?_)
  obtain ⟨b4_2, e0, hp2⟩ := q_nn_of hp
  clear hp; subst e0; have hp := hp2; clear hp2
  refine q_getI (ci := 2) X V inX2 rfl (by decide) rfl 1 (by decide) rfl (tw_1 29 rfl rfl) rfl dX6_waiting_4 hp (fun v4_3 hp => ?_)
  exact q_iret X V hr ⟨by decide, by decide⟩ dX6_waiting_7 hp
theorem cX6_waiting (l : Launch) (E : mm_E) {N a0 : Nat} {G : mm_M} {res : mm_M × Int32} (hp : pX6_waiting_0 N a0 G = some res) : Met l yX6_waiting (Cond.code yX6_waiting prog_1_method_8_code 1 (Option.some .int) :: tw_T) rX6_waiting (mm_Pc E G [.ref a0]) (mm_Qi E res.1 res.2) 0 0 (mm_A E) :=
  mm_met (own := "XorOverlay") E G [.inr (some a0)] (by decide) rfl rfl (Nat.le_of_ble_eq_true rfl) (fun p e s m args below meth c ls X hr hi V hl => bX6_waiting_0 X hr V hl hp)
abbrev yX2_has : MethodName := ⟨"XorOverlay$Line", "has", "(I)Z"⟩
abbrev rX2_has : Room := { frames := 0, cells := 0, slots := 0, locals := 0 }
theorem kX2_has : Cond.code yX2_has prog_4_method_2_code 2 (Option.some .boolean) ∈ tw_T ∧ Cond.instanceMethod yX2_has ∈ tw_T ∧ Cond.selects "XorOverlay$Line" yX2_has yX2_has ∈ tw_T ∧ Cond.initialized "XorOverlay$Line" ∈ tw_T := ⟨(tw_2 167 rfl rfl), (tw_2 165 rfl rfl), (tw_2 166 rfl rfl), (tw_1 2 rfl rfl)⟩
theorem hX2_has : yX2_has.cls = "XorOverlay$Line" ∧ yX2_has.cls ≠ "java/lang/invoke/MethodHandle" ∧ yX2_has.cls ≠ "java/lang/invoke/VarHandle" ∧ (parseMethodDescriptor yX2_has.desc).map (fun d => d.parameters.length) = some 1 := by decide +kernel
theorem dX2_has_0 : decode prog_4_method_2_code 0 = .ok (.iload_n 1, 1) := by decide +kernel
theorem dX2_has_1 : decode prog_4_method_2_code 1 = .ok (.ifCond .lt 15, 3) := by decide +kernel
theorem dX2_has_4 : decode prog_4_method_2_code 4 = .ok (.iload_n 1, 1) := by decide +kernel
theorem dX2_has_5 : decode prog_4_method_2_code 5 = .ok (.aload_n 0, 1) := by decide +kernel
theorem dX2_has_6 : decode prog_4_method_2_code 6 = .ok (.getfield 15, 3) := by decide +kernel
theorem dX2_has_9 : decode prog_4_method_2_code 9 = .ok (.if_icmp .ge 7, 3) := by decide +kernel
theorem dX2_has_12 : decode prog_4_method_2_code 12 = .ok (.iconst 1, 1) := by decide +kernel
theorem dX2_has_13 : decode prog_4_method_2_code 13 = .ok (.goto 4, 3) := by decide +kernel
theorem dX2_has_16 : decode prog_4_method_2_code 16 = .ok (.iconst 0, 1) := by decide +kernel
theorem dX2_has_17 : decode prog_4_method_2_code 17 = .ok (.ireturn, 1) := by decide +kernel
def pX2_has_0 (N a0 : Nat) (G : mm_M) (x1 : Int32) : Option (mm_M × Int32) :=
  if x1 < 0 then
    some (G, (0 : Int32))
  else
    q_gI G a0 3 1 fun v6_1 =>
    if v6_1 ≤ x1 then
      some (G, (0 : Int32))
    else
      some (G, (1 : Int32))
set_option maxRecDepth 100000 in
set_option maxHeartbeats 4000000 in
theorem bX2_has_0 {p : Program} {l : Launch} {e : Env} {s : State} {m : MethodId} {args : Array Value} {below : List Frame} {meth : Method} {c : Code} {E : mm_E} {N a0 : Nat} {res : mm_M × Int32} (X : mm_X p s m args meth c prog_4_method_2_code 2 "XorOverlay$Line" tw_T E) (hr : meth.sig.returnType = (Option.some .boolean)) {G : mm_M} {H : Heap} {locs : List Loc} {ls : Array Slot} {x1 : Int32} (V : mm_V E s G H locs) (hl : lx_has ls 2 [(0, .inr (some a0)), (1, .inl x1)]) (hp : pX2_has_0 N a0 G x1 = some res) : W p l e rX2_has s m args below meth c H locs 0 0 (MQ below (mm_Qi E res.1 res.2) args s 0 0 (mm_A E)) (F0 m 0 ls []) := by
  have hx := X.1.1
  have hb := X.1.2.1
  unfold pX2_has_0 at hp
  refine x_iload_n X dX2_has_0 hl 1 rfl rfl ?_
  refine q_if hp (lv_if_lt (tgt := 16) hx hb dX2_has_1 (by decide)) (fun hp => ?_) (fun hp => ?_)
  · refine lv_iconst (v := (0 : Int32)) hx hb dX2_has_16 (by decide) ?_
    exact q_zret X V hr rfl ⟨by decide, by decide⟩ dX2_has_17 hp
  · refine x_iload_n X dX2_has_4 hl 1 rfl rfl ?_
    refine x_aload_n X dX2_has_5 hl 0 rfl rfl ?_
    refine q_getI (ci := 2) X V inX2 rfl (by decide) rfl 1 (by decide) rfl (tw_1 28 rfl rfl) rfl dX2_has_6 hp (fun v6_1 hp => ?_)
    refine q_if hp (lv_icmp_ge (tgt := 16) hx hb dX2_has_9 (by decide)) (fun hp => ?_) (fun hp => ?_)
    · refine lv_iconst (v := (0 : Int32)) hx hb dX2_has_16 (by decide) ?_
      exact q_zret X V hr rfl ⟨by decide, by decide⟩ dX2_has_17 hp
    · refine lv_iconst (v := (1 : Int32)) hx hb dX2_has_12 (by decide) ?_
      refine lv_goto (tgt := 17) hx hb dX2_has_13 (by decide) ?_
      exact q_zret X V hr rfl ⟨by decide, by decide⟩ dX2_has_17 hp
theorem cX2_has (l : Launch) (E : mm_E) {N a0 : Nat} {G : mm_M} {x1 : Int32} {res : mm_M × Int32} (hp : pX2_has_0 N a0 G x1 = some res) : Met l yX2_has (Cond.code yX2_has prog_4_method_2_code 2 (Option.some .boolean) :: tw_T) rX2_has (mm_Pc E G [.ref a0, .int x1]) (mm_Qi E res.1 res.2) 0 0 (mm_A E) :=
  mm_met (own := "XorOverlay$Line") E G [.inr (some a0), .inl x1] (by decide) rfl rfl (Nat.le_of_ble_eq_true rfl) (fun p e s m args below meth c ls X hr hi V hl => bX2_has_0 X hr V hl hp)
abbrev yX2_cell : MethodName := ⟨"XorOverlay$Line", "cell", "(II)I"⟩
abbrev rX2_cell : Room := { frames := 0, cells := 0, slots := 0, locals := 0 }
theorem kX2_cell : Cond.code yX2_cell prog_4_method_3_code 3 (Option.some .int) ∈ tw_T ∧ Cond.instanceMethod yX2_cell ∈ tw_T ∧ Cond.selects "XorOverlay$Line" yX2_cell yX2_cell ∈ tw_T ∧ Cond.initialized "XorOverlay$Line" ∈ tw_T := ⟨(tw_2 171 rfl rfl), (tw_2 169 rfl rfl), (tw_2 170 rfl rfl), (tw_1 2 rfl rfl)⟩
theorem hX2_cell : yX2_cell.cls = "XorOverlay$Line" ∧ yX2_cell.cls ≠ "java/lang/invoke/MethodHandle" ∧ yX2_cell.cls ≠ "java/lang/invoke/VarHandle" ∧ (parseMethodDescriptor yX2_cell.desc).map (fun d => d.parameters.length) = some 2 := by decide +kernel
theorem dX2_cell_0 : decode prog_4_method_3_code 0 = .ok (.aload_n 0, 1) := by decide +kernel
theorem dX2_cell_1 : decode prog_4_method_3_code 1 = .ok (.getfield 11, 3) := by decide +kernel
theorem dX2_cell_4 : decode prog_4_method_3_code 4 = .ok (.iload_n 1, 1) := by decide +kernel
theorem dX2_cell_5 : decode prog_4_method_3_code 5 = .ok (.bipush 12, 2) := by decide +kernel
theorem dX2_cell_7 : decode prog_4_method_3_code 7 = .ok (.imul, 1) := by decide +kernel
theorem dX2_cell_8 : decode prog_4_method_3_code 8 = .ok (.iload_n 2, 1) := by decide +kernel
theorem dX2_cell_9 : decode prog_4_method_3_code 9 = .ok (.iadd, 1) := by decide +kernel
theorem dX2_cell_10 : decode prog_4_method_3_code 10 = .ok (.iaload, 1) := by decide +kernel
theorem dX2_cell_11 : decode prog_4_method_3_code 11 = .ok (.ireturn, 1) := by decide +kernel
def pX2_cell_0 (N a0 : Nat) (G : mm_M) (x1 : Int32) (x2 : Int32) : Option (mm_M × Int32) :=
  q_gR G a0 3 0 fun r1_1 =>
  q_nn r1_1 fun b10_2 =>
  q_aI G b10_2 101 ((x1 * (12 : Int32)) + x2) fun v10_3 =>
  some (G, v10_3)
set_option maxRecDepth 100000 in
set_option maxHeartbeats 4000000 in
theorem bX2_cell_0 {p : Program} {l : Launch} {e : Env} {s : State} {m : MethodId} {args : Array Value} {below : List Frame} {meth : Method} {c : Code} {E : mm_E} {N a0 : Nat} {res : mm_M × Int32} (X : mm_X p s m args meth c prog_4_method_3_code 3 "XorOverlay$Line" tw_T E) (hr : meth.sig.returnType = (Option.some .int)) {G : mm_M} {H : Heap} {locs : List Loc} {ls : Array Slot} {x1 : Int32} {x2 : Int32} (V : mm_V E s G H locs) (hl : lx_has ls 3 [(0, .inr (some a0)), (1, .inl x1), (2, .inl x2)]) (hp : pX2_cell_0 N a0 G x1 x2 = some res) : W p l e rX2_cell s m args below meth c H locs 0 0 (MQ below (mm_Qi E res.1 res.2) args s 0 0 (mm_A E)) (F0 m 0 ls []) := by
  have hx := X.1.1
  have hb := X.1.2.1
  unfold pX2_cell_0 at hp
  refine x_aload_n X dX2_cell_0 hl 0 rfl rfl ?_
  refine q_getR (ci := 2) X V inX2 rfl (by decide) rfl 0 (by decide) rfl (tw_1 27 rfl rfl) rfl dX2_cell_1 hp (fun r1_1 hp => ?_)
  refine x_iload_n X dX2_cell_4 hl 1 rfl rfl ?_
  refine lv_bipush (v := (12 : Int32)) hx hb dX2_cell_5 (by decide) ?_
  refine lv_imul hx hb dX2_cell_7 ?_
  refine x_iload_n X dX2_cell_8 hl 2 rfl rfl ?_
  refine lv_iadd hx hb dX2_cell_9 ?_
  obtain ⟨b10_2, e0, hp2⟩ := q_nn_of hp
  clear hp; subst e0; have hp := hp2; clear hp2
  refine q_iald X V dX2_cell_10 hp (fun v10_3 hp => ?_)
  exact q_iret X V hr ⟨by decide, by decide⟩ dX2_cell_11 hp
theorem cX2_cell (l : Launch) (E : mm_E) {N a0 : Nat} {G : mm_M} {x1 : Int32} {x2 : Int32} {res : mm_M × Int32} (hp : pX2_cell_0 N a0 G x1 x2 = some res) : Met l yX2_cell (Cond.code yX2_cell prog_4_method_3_code 3 (Option.some .int) :: tw_T) rX2_cell (mm_Pc E G [.ref a0, .int x1, .int x2]) (mm_Qi E res.1 res.2) 0 0 (mm_A E) :=
  mm_met (own := "XorOverlay$Line") E G [.inr (some a0), .inl x1, .inl x2] (by decide) rfl rfl (Nat.le_of_ble_eq_true rfl) (fun p e s m args below meth c ls X hr hi V hl => bX2_cell_0 X hr V hl hp)
abbrev yX6_datagram : MethodName := ⟨"XorOverlay", "datagram", "(II)I"⟩
abbrev rX6_datagram : Room := { frames := 1, cells := 0, slots := 0, locals := 22 }
theorem kX6_datagram : Cond.code yX6_datagram prog_1_method_9_code 3 (Option.some .int) ∈ tw_T ∧ Cond.instanceMethod yX6_datagram ∈ tw_T ∧ Cond.selects "XorOverlay" yX6_datagram yX6_datagram ∈ tw_T ∧ Cond.initialized "XorOverlay" ∈ tw_T := ⟨(tw_2 163 rfl rfl), (tw_2 161 rfl rfl), (tw_2 162 rfl rfl), (tw_1 1 rfl rfl)⟩
theorem hX6_datagram : yX6_datagram.cls = "XorOverlay" ∧ yX6_datagram.cls ≠ "java/lang/invoke/MethodHandle" ∧ yX6_datagram.cls ≠ "java/lang/invoke/VarHandle" ∧ (parseMethodDescriptor yX6_datagram.desc).map (fun d => d.parameters.length) = some 2 := by decide +kernel
theorem dX6_datagram_0 : decode prog_1_method_9_code 0 = .ok (.aload_n 0, 1) := by decide +kernel
theorem dX6_datagram_1 : decode prog_1_method_9_code 1 = .ok (.getfield 18, 3) := by decide +kernel
theorem dX6_datagram_4 : decode prog_1_method_9_code 4 = .ok (.iload_n 1, 1) := by decide +kernel
theorem dX6_datagram_5 : decode prog_1_method_9_code 5 = .ok (.invokevirtual 102, 3) := by decide +kernel
theorem dX6_datagram_8 : decode prog_1_method_9_code 8 = .ok (.ifCond .eq 13, 3) := by decide +kernel
theorem dX6_datagram_11 : decode prog_1_method_9_code 11 = .ok (.iload_n 2, 1) := by decide +kernel
theorem dX6_datagram_12 : decode prog_1_method_9_code 12 = .ok (.ifCond .lt 9, 3) := by decide +kernel
theorem dX6_datagram_15 : decode prog_1_method_9_code 15 = .ok (.iload_n 2, 1) := by decide +kernel
theorem dX6_datagram_16 : decode prog_1_method_9_code 16 = .ok (.bipush 12, 2) := by decide +kernel
theorem dX6_datagram_18 : decode prog_1_method_9_code 18 = .ok (.if_icmp .lt 5, 3) := by decide +kernel
theorem dX6_datagram_21 : decode prog_1_method_9_code 21 = .ok (.iconst (-1), 1) := by decide +kernel
theorem dX6_datagram_22 : decode prog_1_method_9_code 22 = .ok (.ireturn, 1) := by decide +kernel
theorem dX6_datagram_23 : decode prog_1_method_9_code 23 = .ok (.aload_n 0, 1) := by decide +kernel
theorem dX6_datagram_24 : decode prog_1_method_9_code 24 = .ok (.getfield 18, 3) := by decide +kernel
theorem dX6_datagram_27 : decode prog_1_method_9_code 27 = .ok (.iload_n 1, 1) := by decide +kernel
theorem dX6_datagram_28 : decode prog_1_method_9_code 28 = .ok (.iload_n 2, 1) := by decide +kernel
theorem dX6_datagram_29 : decode prog_1_method_9_code 29 = .ok (.invokevirtual 105, 3) := by decide +kernel
theorem dX6_datagram_32 : decode prog_1_method_9_code 32 = .ok (.ireturn, 1) := by decide +kernel
def pX6_datagram_0 (N a0 : Nat) (G : mm_M) (x1 : Int32) (x2 : Int32) : Option (mm_M × Int32) :=
  q_gR G a0 7 1 fun r1_1 =>
  q_nn r1_1 fun b5_2 =>
  q_is G b5_2 3 <|
  q_cl (pX2_has_0 N b5_2 G x1) fun G v5_4 =>
  if v5_4 = 0 then
    some (G, (-1 : Int32))
  else
    if x2 < 0 then
      some (G, (-1 : Int32))
    else
      if x2 < (12 : Int32) then
        q_gR G a0 7 1 fun r24_5 =>
        q_nn r24_5 fun b29_6 =>
        q_is G b29_6 3 <|
        q_cl (pX2_cell_0 N b29_6 G x1 x2) fun G v29_8 =>
        some (G, v29_8)
      else
        some (G, (-1 : Int32))
set_option maxRecDepth 100000 in
set_option maxHeartbeats 4000000 in
theorem bX6_datagram_0 {p : Program} {l : Launch} {e : Env} {s : State} {m : MethodId} {args : Array Value} {below : List Frame} {meth : Method} {c : Code} {E : mm_E} {N a0 : Nat} {res : mm_M × Int32} (X : mm_X p s m args meth c prog_1_method_9_code 3 "XorOverlay" tw_T E) (hr : meth.sig.returnType = (Option.some .int)) {G : mm_M} {H : Heap} {locs : List Loc} {ls : Array Slot} {x1 : Int32} {x2 : Int32} (V : mm_V E s G H locs) (hl : lx_has ls 3 [(0, .inr (some a0)), (1, .inl x1), (2, .inl x2)]) (hp : pX6_datagram_0 N a0 G x1 x2 = some res) : W p l e rX6_datagram s m args below meth c H locs 0 0 (MQ below (mm_Qi E res.1 res.2) args s 0 0 (mm_A E)) (F0 m 0 ls []) := by
  have hx := X.1.1
  have hb := X.1.2.1
  unfold pX6_datagram_0 at hp
  refine x_aload_n X dX6_datagram_0 hl 0 rfl rfl ?_
  refine q_getR (ci := 6) X V inX6 rfl (by decide) rfl 1 (by decide) rfl (tw_1 37 rfl rfl) rfl dX6_datagram_1 hp (fun r1_1 hp => ?_)
  refine x_iload_n X dX6_datagram_4 hl 1 rfl rfl ?_
  obtain ⟨b5_2, e0, hp2⟩ := q_nn_of hp
  clear hp; subst e0; have hp := hp2; clear hp2
  obtain ⟨hk, hp⟩ := q_is_of hp
  obtain ⟨⟨G, v5_4⟩, hq, hp⟩ := q_cl_of hp
  dsimp only at hp
  refine q_goi (cells' := 0) (slots' := 0) (va_runV (As := [.int x1]) (rest := []) X.1 (cX2_has l E hq) (tw_cwV 1 X.1.2.2.2.2 (tw_2 164 rfl rfl) kX2_has.2.1 kX2_has.2.2.1 kX2_has.2.2.2 kX2_has.1 rfl rfl hX2_has ⟨Nat.le_of_ble_eq_true rfl, Nat.le_of_ble_eq_true rfl⟩) (mm_preV X V rfl (by decide) rfl hk) rfl rfl hl.1 rfl (lv_room (Nat.le_of_ble_eq_true rfl)) dX6_datagram_5 ⟨by decide, by decide⟩) V ⟨rfl, rfl⟩ (fun H locs V => ?_)
  refine q_if hp (lv_if_eq (tgt := 21) hx hb dX6_datagram_8 (by decide)) (fun hp => ?_) (fun hp => ?_)
  · refine lv_iconst (v := (-1 : Int32)) hx hb dX6_datagram_21 (by decide) ?_
    exact q_iret X V hr ⟨by decide, by decide⟩ dX6_datagram_22 hp
  · refine x_iload_n X dX6_datagram_11 hl 2 rfl rfl ?_
    refine q_if hp (lv_if_lt (tgt := 21) hx hb dX6_datagram_12 (by decide)) (fun hp => ?_) (fun hp => ?_)
    · refine lv_iconst (v := (-1 : Int32)) hx hb dX6_datagram_21 (by decide) ?_
      exact q_iret X V hr ⟨by decide, by decide⟩ dX6_datagram_22 hp
    · refine x_iload_n X dX6_datagram_15 hl 2 rfl rfl ?_
      refine lv_bipush (v := (12 : Int32)) hx hb dX6_datagram_16 (by decide) ?_
      refine q_if hp (lv_icmp_lt (tgt := 23) hx hb dX6_datagram_18 (by decide)) (fun hp => ?_) (fun hp => ?_)
      · refine x_aload_n X dX6_datagram_23 hl 0 rfl rfl ?_
        refine q_getR (ci := 6) X V inX6 rfl (by decide) rfl 1 (by decide) rfl (tw_1 37 rfl rfl) rfl dX6_datagram_24 hp (fun r24_5 hp => ?_)
        refine x_iload_n X dX6_datagram_27 hl 1 rfl rfl ?_
        refine x_iload_n X dX6_datagram_28 hl 2 rfl rfl ?_
        obtain ⟨b29_6, e0, hp2⟩ := q_nn_of hp
        clear hp; subst e0; have hp := hp2; clear hp2
        obtain ⟨hk, hp⟩ := q_is_of hp
        obtain ⟨⟨G, v29_8⟩, hq, hp⟩ := q_cl_of hp
        dsimp only at hp
        refine q_goi (cells' := 0) (slots' := 0) (va_runV (As := [.int x1, .int x2]) (rest := []) X.1 (cX2_cell l E hq) (tw_cwV 2 X.1.2.2.2.2 (tw_2 168 rfl rfl) kX2_cell.2.1 kX2_cell.2.2.1 kX2_cell.2.2.2 kX2_cell.1 rfl rfl hX2_cell ⟨Nat.le_of_ble_eq_true rfl, Nat.le_of_ble_eq_true rfl⟩) (mm_preV X V rfl (by decide) rfl hk) rfl rfl hl.1 rfl (lv_room (Nat.le_of_ble_eq_true rfl)) dX6_datagram_29 ⟨by decide, by decide⟩) V ⟨rfl, rfl⟩ (fun H locs V => ?_)
        exact q_iret X V hr ⟨by decide, by decide⟩ dX6_datagram_32 hp
      · refine lv_iconst (v := (-1 : Int32)) hx hb dX6_datagram_21 (by decide) ?_
        exact q_iret X V hr ⟨by decide, by decide⟩ dX6_datagram_22 hp
theorem cX6_datagram (l : Launch) (E : mm_E) {N a0 : Nat} {G : mm_M} {x1 : Int32} {x2 : Int32} {res : mm_M × Int32} (hp : pX6_datagram_0 N a0 G x1 x2 = some res) : Met l yX6_datagram (Cond.code yX6_datagram prog_1_method_9_code 3 (Option.some .int) :: tw_T) rX6_datagram (mm_Pc E G [.ref a0, .int x1, .int x2]) (mm_Qi E res.1 res.2) 0 0 (mm_A E) :=
  mm_met (own := "XorOverlay") E G [.inr (some a0), .inl x1, .inl x2] (by decide) rfl rfl (Nat.le_of_ble_eq_true rfl) (fun p e s m args below meth c ls X hr hi V hl => bX6_datagram_0 X hr V hl hp)
abbrev yX2_copyOut : MethodName := ⟨"XorOverlay$Line", "copyOut", "(I[I)V"⟩
abbrev rX2_copyOut : Room := { frames := 1, cells := 0, slots := 0, locals := 30 }
theorem kX2_copyOut : Cond.code yX2_copyOut prog_4_method_5_code 3 none ∈ tw_T ∧ Cond.instanceMethod yX2_copyOut ∈ tw_T ∧ Cond.selects "XorOverlay$Line" yX2_copyOut yX2_copyOut ∈ tw_T ∧ Cond.initialized "XorOverlay$Line" ∈ tw_T := ⟨(tw_2 179 rfl rfl), (tw_2 177 rfl rfl), (tw_2 178 rfl rfl), (tw_1 2 rfl rfl)⟩
theorem hX2_copyOut : yX2_copyOut.cls = "XorOverlay$Line" ∧ yX2_copyOut.cls ≠ "java/lang/invoke/MethodHandle" ∧ yX2_copyOut.cls ≠ "java/lang/invoke/VarHandle" ∧ (parseMethodDescriptor yX2_copyOut.desc).map (fun d => d.parameters.length) = some 2 := by decide +kernel
theorem dX2_copyOut_0 : decode prog_4_method_5_code 0 = .ok (.aload_n 0, 1) := by decide +kernel
theorem dX2_copyOut_1 : decode prog_4_method_5_code 1 = .ok (.getfield 11, 3) := by decide +kernel
theorem dX2_copyOut_4 : decode prog_4_method_5_code 4 = .ok (.iload_n 1, 1) := by decide +kernel
theorem dX2_copyOut_5 : decode prog_4_method_5_code 5 = .ok (.bipush 12, 2) := by decide +kernel
theorem dX2_copyOut_7 : decode prog_4_method_5_code 7 = .ok (.imul, 1) := by decide +kernel
theorem dX2_copyOut_8 : decode prog_4_method_5_code 8 = .ok (.aload_n 2, 1) := by decide +kernel
theorem dX2_copyOut_9 : decode prog_4_method_5_code 9 = .ok (.iconst 0, 1) := by decide +kernel
theorem dX2_copyOut_10 : decode prog_4_method_5_code 10 = .ok (.bipush 12, 2) := by decide +kernel
theorem dX2_copyOut_12 : decode prog_4_method_5_code 12 = .ok (.invokestatic 19, 3) := by decide +kernel
theorem dX2_copyOut_15 : decode prog_4_method_5_code 15 = .ok (.return_, 1) := by decide +kernel
def pX2_copyOut_0 (N a0 : Nat) (G : mm_M) (x1 : Int32) (x2 : Option Nat) : Option (mm_M × Unit) :=
  q_gR G a0 3 0 fun r1_1 =>
  q_nn x2 fun b12_2 =>
  q_nn r1_1 fun b12_3 =>
  q_cpy G b12_3 (x1 * (12 : Int32)) b12_2 (0 : Int32) (12 : Int32) fun G =>
  some (G, ())
set_option maxRecDepth 100000 in
set_option maxHeartbeats 4000000 in
theorem bX2_copyOut_0 {p : Program} {l : Launch} {e : Env} {s : State} {m : MethodId} {args : Array Value} {below : List Frame} {meth : Method} {c : Code} {E : mm_E} {N a0 : Nat} {res : mm_M × Unit} (X : mm_X p s m args meth c prog_4_method_5_code 3 "XorOverlay$Line" tw_T E) (hr : meth.sig.returnType = none) {G : mm_M} {H : Heap} {locs : List Loc} {ls : Array Slot} {x1 : Int32} {x2 : Option Nat} (V : mm_V E s G H locs) (hl : lx_has ls 3 [(0, .inr (some a0)), (1, .inl x1), (2, .inr x2)]) (hp : pX2_copyOut_0 N a0 G x1 x2 = some res) : W p l e rX2_copyOut s m args below meth c H locs 0 0 (MQ below (mm_Qv E res.1) args s 0 0 (mm_A E)) (F0 m 0 ls []) := by
  have hx := X.1.1
  have hb := X.1.2.1
  unfold pX2_copyOut_0 at hp
  refine x_aload_n X dX2_copyOut_0 hl 0 rfl rfl ?_
  refine q_getR (ci := 2) X V inX2 rfl (by decide) rfl 0 (by decide) rfl (tw_1 27 rfl rfl) rfl dX2_copyOut_1 hp (fun r1_1 hp => ?_)
  refine x_iload_n X dX2_copyOut_4 hl 1 rfl rfl ?_
  refine lv_bipush (v := (12 : Int32)) hx hb dX2_copyOut_5 (by decide) ?_
  refine lv_imul hx hb dX2_copyOut_7 ?_
  refine x_aload_n X dX2_copyOut_8 hl 2 rfl rfl ?_
  refine lv_iconst (v := (0 : Int32)) hx hb dX2_copyOut_9 (by decide) ?_
  refine lv_bipush (v := (12 : Int32)) hx hb dX2_copyOut_10 (by decide) ?_
  obtain ⟨b12_2, e0, hp2⟩ := q_nn_of hp
  clear hp; subst e0; have hp := hp2; clear hp2
  obtain ⟨b12_3, e0, hp2⟩ := q_nn_of hp
  clear hp; subst e0; have hp := hp2; clear hp2
  refine q_copy X V hl.1 (tw_2 104 rfl rfl) (tw_2 106 rfl rfl) (tw_2 105 rfl rfl) (tw_1 10 rfl rfl) (by decide) (by decide) dX2_copyOut_12 hp (fun G H locs V hp => ?_)
  exact q_vret X V hr ⟨by decide, by decide⟩ dX2_copyOut_15 hp
theorem cX2_copyOut (l : Launch) (E : mm_E) {N a0 : Nat} {G : mm_M} {x1 : Int32} {x2 : Option Nat} {res : mm_M × Unit} (hp : pX2_copyOut_0 N a0 G x1 x2 = some res) : Met l yX2_copyOut (Cond.code yX2_copyOut prog_4_method_5_code 3 none :: tw_T) rX2_copyOut (mm_Pc E G [.ref a0, .int x1, va_rf x2]) (mm_Qv E res.1) 0 0 (mm_A E) :=
  mm_met (own := "XorOverlay$Line") E G [.inr (some a0), .inl x1, .inr x2] (by decide) rfl rfl (Nat.le_of_ble_eq_true rfl) (fun p e s m args below meth c ls X hr hi V hl => bX2_copyOut_0 X hr V hl hp)
abbrev yX2_remove : MethodName := ⟨"XorOverlay$Line", "remove", "(I)V"⟩
abbrev rX2_remove : Room := { frames := 1, cells := 0, slots := 0, locals := 30 }
theorem kX2_remove : Cond.code yX2_remove prog_4_method_6_code 3 none ∈ tw_T ∧ Cond.instanceMethod yX2_remove ∈ tw_T ∧ Cond.selects "XorOverlay$Line" yX2_remove yX2_remove ∈ tw_T ∧ Cond.initialized "XorOverlay$Line" ∈ tw_T := ⟨(tw_2 183 rfl rfl), (tw_2 181 rfl rfl), (tw_2 182 rfl rfl), (tw_1 2 rfl rfl)⟩
theorem hX2_remove : yX2_remove.cls = "XorOverlay$Line" ∧ yX2_remove.cls ≠ "java/lang/invoke/MethodHandle" ∧ yX2_remove.cls ≠ "java/lang/invoke/VarHandle" ∧ (parseMethodDescriptor yX2_remove.desc).map (fun d => d.parameters.length) = some 1 := by decide +kernel
theorem dX2_remove_0 : decode prog_4_method_6_code 0 = .ok (.aload_n 0, 1) := by decide +kernel
theorem dX2_remove_1 : decode prog_4_method_6_code 1 = .ok (.getfield 15, 3) := by decide +kernel
theorem dX2_remove_4 : decode prog_4_method_6_code 4 = .ok (.iconst 1, 1) := by decide +kernel
theorem dX2_remove_5 : decode prog_4_method_6_code 5 = .ok (.isub, 1) := by decide +kernel
theorem dX2_remove_6 : decode prog_4_method_6_code 6 = .ok (.iload_n 1, 1) := by decide +kernel
theorem dX2_remove_7 : decode prog_4_method_6_code 7 = .ok (.isub, 1) := by decide +kernel
theorem dX2_remove_8 : decode prog_4_method_6_code 8 = .ok (.istore_n 2, 1) := by decide +kernel
theorem dX2_remove_9 : decode prog_4_method_6_code 9 = .ok (.aload_n 0, 1) := by decide +kernel
theorem dX2_remove_10 : decode prog_4_method_6_code 10 = .ok (.getfield 11, 3) := by decide +kernel
theorem dX2_remove_13 : decode prog_4_method_6_code 13 = .ok (.iload_n 1, 1) := by decide +kernel
theorem dX2_remove_14 : decode prog_4_method_6_code 14 = .ok (.iconst 1, 1) := by decide +kernel
theorem dX2_remove_15 : decode prog_4_method_6_code 15 = .ok (.iadd, 1) := by decide +kernel
theorem dX2_remove_16 : decode prog_4_method_6_code 16 = .ok (.bipush 12, 2) := by decide +kernel
theorem dX2_remove_18 : decode prog_4_method_6_code 18 = .ok (.imul, 1) := by decide +kernel
theorem dX2_remove_19 : decode prog_4_method_6_code 19 = .ok (.aload_n 0, 1) := by decide +kernel
theorem dX2_remove_20 : decode prog_4_method_6_code 20 = .ok (.getfield 11, 3) := by decide +kernel
theorem dX2_remove_23 : decode prog_4_method_6_code 23 = .ok (.iload_n 1, 1) := by decide +kernel
theorem dX2_remove_24 : decode prog_4_method_6_code 24 = .ok (.bipush 12, 2) := by decide +kernel
theorem dX2_remove_26 : decode prog_4_method_6_code 26 = .ok (.imul, 1) := by decide +kernel
theorem dX2_remove_27 : decode prog_4_method_6_code 27 = .ok (.iload_n 2, 1) := by decide +kernel
theorem dX2_remove_28 : decode prog_4_method_6_code 28 = .ok (.bipush 12, 2) := by decide +kernel
theorem dX2_remove_30 : decode prog_4_method_6_code 30 = .ok (.imul, 1) := by decide +kernel
theorem dX2_remove_31 : decode prog_4_method_6_code 31 = .ok (.invokestatic 19, 3) := by decide +kernel
theorem dX2_remove_34 : decode prog_4_method_6_code 34 = .ok (.aload_n 0, 1) := by decide +kernel
theorem dX2_remove_35 : decode prog_4_method_6_code 35 = .ok (.dup, 1) := by decide +kernel
theorem dX2_remove_36 : decode prog_4_method_6_code 36 = .ok (.getfield 15, 3) := by decide +kernel
theorem dX2_remove_39 : decode prog_4_method_6_code 39 = .ok (.iconst 1, 1) := by decide +kernel
theorem dX2_remove_40 : decode prog_4_method_6_code 40 = .ok (.isub, 1) := by decide +kernel
theorem dX2_remove_41 : decode prog_4_method_6_code 41 = .ok (.putfield 15, 3) := by decide +kernel
theorem dX2_remove_44 : decode prog_4_method_6_code 44 = .ok (.return_, 1) := by decide +kernel
def pX2_remove_0 (N a0 : Nat) (G : mm_M) (x1 : Int32) : Option (mm_M × Unit) :=
  q_gI G a0 3 1 fun v1_1 =>
  q_gR G a0 3 0 fun r10_2 =>
  q_gR G a0 3 0 fun r20_3 =>
  q_nn r20_3 fun b31_4 =>
  q_nn r10_2 fun b31_5 =>
  q_cpy G b31_5 ((x1 + (1 : Int32)) * (12 : Int32)) b31_4 (x1 * (12 : Int32)) (((v1_1 - (1 : Int32)) - x1) * (12 : Int32)) fun G =>
  q_gI G a0 3 1 fun v36_6 =>
  q_pI G a0 3 1 (v36_6 - (1 : Int32)) fun G =>
  some (G, ())
set_option maxRecDepth 100000 in
set_option maxHeartbeats 4000000 in
theorem bX2_remove_0 {p : Program} {l : Launch} {e : Env} {s : State} {m : MethodId} {args : Array Value} {below : List Frame} {meth : Method} {c : Code} {E : mm_E} {N a0 : Nat} {res : mm_M × Unit} (X : mm_X p s m args meth c prog_4_method_6_code 3 "XorOverlay$Line" tw_T E) (hr : meth.sig.returnType = none) {G : mm_M} {H : Heap} {locs : List Loc} {ls : Array Slot} {x1 : Int32} (V : mm_V E s G H locs) (hl : lx_has ls 3 [(0, .inr (some a0)), (1, .inl x1)]) (hp : pX2_remove_0 N a0 G x1 = some res) : W p l e rX2_remove s m args below meth c H locs 0 0 (MQ below (mm_Qv E res.1) args s 0 0 (mm_A E)) (F0 m 0 ls []) := by
  have hx := X.1.1
  have hb := X.1.2.1
  unfold pX2_remove_0 at hp
  refine x_aload_n X dX2_remove_0 hl 0 rfl rfl ?_
  refine q_getI (ci := 2) X V inX2 rfl (by decide) rfl 1 (by decide) rfl (tw_1 28 rfl rfl) rfl dX2_remove_1 hp (fun v1_1 hp => ?_)
  refine lv_iconst (v := (1 : Int32)) hx hb dX2_remove_4 (by decide) ?_
  refine lv_isub hx hb dX2_remove_5 ?_
  refine x_iload_n X dX2_remove_6 hl 1 rfl rfl ?_
  refine lv_isub hx hb dX2_remove_7 ?_
  refine x_istore_n (lst' := [(2, .inl ((v1_1 - (1 : Int32)) - x1)), (0, .inr (some a0)), (1, .inl x1)]) X dX2_remove_8 hl rfl (by decide) rfl (fun ls hl => ?_)
  refine x_aload_n X dX2_remove_9 hl 1 rfl rfl ?_
  refine q_getR (ci := 2) X V inX2 rfl (by decide) rfl 0 (by decide) rfl (tw_1 27 rfl rfl) rfl dX2_remove_10 hp (fun r10_2 hp => ?_)
  refine x_iload_n X dX2_remove_13 hl 2 rfl rfl ?_
  refine lv_iconst (v := (1 : Int32)) hx hb dX2_remove_14 (by decide) ?_
  refine lv_iadd hx hb dX2_remove_15 ?_
  refine lv_bipush (v := (12 : Int32)) hx hb dX2_remove_16 (by decide) ?_
  refine lv_imul hx hb dX2_remove_18 ?_
  refine x_aload_n X dX2_remove_19 hl 1 rfl rfl ?_
  refine q_getR (ci := 2) X V inX2 rfl (by decide) rfl 0 (by decide) rfl (tw_1 27 rfl rfl) rfl dX2_remove_20 hp (fun r20_3 hp => ?_)
  refine x_iload_n X dX2_remove_23 hl 2 rfl rfl ?_
  refine lv_bipush (v := (12 : Int32)) hx hb dX2_remove_24 (by decide) ?_
  refine lv_imul hx hb dX2_remove_26 ?_
  refine x_iload_n X dX2_remove_27 hl 0 rfl rfl ?_
  refine lv_bipush (v := (12 : Int32)) hx hb dX2_remove_28 (by decide) ?_
  refine lv_imul hx hb dX2_remove_30 ?_
  obtain ⟨b31_4, e0, hp2⟩ := q_nn_of hp
  clear hp; subst e0; have hp := hp2; clear hp2
  obtain ⟨b31_5, e0, hp2⟩ := q_nn_of hp
  clear hp; subst e0; have hp := hp2; clear hp2
  refine q_copy X V hl.1 (tw_2 104 rfl rfl) (tw_2 106 rfl rfl) (tw_2 105 rfl rfl) (tw_1 10 rfl rfl) (by decide) (by decide) dX2_remove_31 hp (fun G H locs V hp => ?_)
  refine x_aload_n X dX2_remove_34 hl 1 rfl rfl ?_
  refine lv_dup hx hb dX2_remove_35 (va_rf_cat _) ?_
  refine q_getI (ci := 2) X V inX2 rfl (by decide) rfl 1 (by decide) rfl (tw_1 28 rfl rfl) rfl dX2_remove_36 hp (fun v36_6 hp => ?_)
  refine lv_iconst (v := (1 : Int32)) hx hb dX2_remove_39 (by decide) ?_
  refine lv_isub hx hb dX2_remove_40 ?_
  refine q_putI (ci := 2) X V inX2 rfl tyX2 tyX2_ok nmX2 (by decide) rfl 1 (by decide) rfl (tw_1 28 rfl rfl) rfl (Or.inl rfl) .int rfl rfl rfl dX2_remove_41 hp (fun G H locs V hp => ?_)
  exact q_vret X V hr ⟨by decide, by decide⟩ dX2_remove_44 hp
theorem cX2_remove (l : Launch) (E : mm_E) {N a0 : Nat} {G : mm_M} {x1 : Int32} {res : mm_M × Unit} (hp : pX2_remove_0 N a0 G x1 = some res) : Met l yX2_remove (Cond.code yX2_remove prog_4_method_6_code 3 none :: tw_T) rX2_remove (mm_Pc E G [.ref a0, .int x1]) (mm_Qv E res.1) 0 0 (mm_A E) :=
  mm_met (own := "XorOverlay$Line") E G [.inr (some a0), .inl x1] (by decide) rfl rfl (Nat.le_of_ble_eq_true rfl) (fun p e s m args below meth c ls X hr hi V hl => bX2_remove_0 X hr V hl hp)
end
