section
-- ===== PART A: goes FIRST, ahead of the names: the tables' words, and 'selects' of the private methods out of them =====
/-- a private method of a class that the tables say can be made, by its rows of tables_1 -/
def lw_okq (q : MethodName × Nat) : Prop := (q.1.cls ≠ "java/lang/invoke/MethodHandle" ∧ q.1.cls ≠ "java/lang/invoke/VarHandle") ∧ Cond.instantiable q.1.cls q.2 ∈ tables_1 ∧ Cond.privateMethod q.1 ∈ tables_1 ∧ Cond.instanceMethod q.1 ∈ tables_1
theorem lw_p0 : lw_okq (⟨"SteepleStruck", "refuseBad", "()I"⟩, 16) := ⟨⟨by decide +kernel, by decide +kernel⟩, List.mem_of_getElem? (i := 20) (by decide +kernel), List.mem_of_getElem? (i := 326) (by decide +kernel), List.mem_of_getElem? (i := 327) (by decide +kernel)⟩
theorem lw_p1 : lw_okq (⟨"SteepleStruck", "refuseFull", "()I"⟩, 16) := ⟨⟨by decide +kernel, by decide +kernel⟩, List.mem_of_getElem? (i := 20) (by decide +kernel), List.mem_of_getElem? (i := 350) (by decide +kernel), List.mem_of_getElem? (i := 351) (by decide +kernel)⟩
theorem lw_p2 : lw_okq (⟨"SteepleStruck$Text", "nextToken", "()V"⟩, 7) := ⟨⟨by decide +kernel, by decide +kernel⟩, List.mem_of_getElem? (i := 161) (by decide +kernel), List.mem_of_getElem? (i := 403) (by decide +kernel), List.mem_of_getElem? (i := 404) (by decide +kernel)⟩
theorem lw_p3 : lw_okq (⟨"SteepleStruck$Text", "runEnd", "(III)I"⟩, 7) := ⟨⟨by decide +kernel, by decide +kernel⟩, List.mem_of_getElem? (i := 161) (by decide +kernel), List.mem_of_getElem? (i := 407) (by decide +kernel), List.mem_of_getElem? (i := 408) (by decide +kernel)⟩
theorem lw_p4 : lw_okq (⟨"SteepleStruck$Text", "wordToken", "()I"⟩, 7) := ⟨⟨by decide +kernel, by decide +kernel⟩, List.mem_of_getElem? (i := 161) (by decide +kernel), List.mem_of_getElem? (i := 416) (by decide +kernel), List.mem_of_getElem? (i := 417) (by decide +kernel)⟩
theorem lw_p5 : lw_okq (⟨"SteepleStruck$Text", "spells", "(Ljava/lang/String;)Z"⟩, 7) := ⟨⟨by decide +kernel, by decide +kernel⟩, List.mem_of_getElem? (i := 161) (by decide +kernel), List.mem_of_getElem? (i := 429) (by decide +kernel), List.mem_of_getElem? (i := 430) (by decide +kernel)⟩
theorem lw_p6 : lw_okq (⟨"SteepleStruck$Text", "numberToken", "()I"⟩, 7) := ⟨⟨by decide +kernel, by decide +kernel⟩, List.mem_of_getElem? (i := 161) (by decide +kernel), List.mem_of_getElem? (i := 481) (by decide +kernel), List.mem_of_getElem? (i := 482) (by decide +kernel)⟩
theorem lw_p7 : lw_okq (⟨"SteepleStruck$Text", "readNumbers", "(ILSteepleStruck$Village;)Z"⟩, 7) := ⟨⟨by decide +kernel, by decide +kernel⟩, List.mem_of_getElem? (i := 161) (by decide +kernel), List.mem_of_getElem? (i := 489) (by decide +kernel), List.mem_of_getElem? (i := 490) (by decide +kernel)⟩
theorem lw_p8 : lw_okq (⟨"SteepleStruck$Text", "readStop", "()Z"⟩, 7) := ⟨⟨by decide +kernel, by decide +kernel⟩, List.mem_of_getElem? (i := 161) (by decide +kernel), List.mem_of_getElem? (i := 503) (by decide +kernel), List.mem_of_getElem? (i := 504) (by decide +kernel)⟩
theorem lw_p9 : lw_okq (⟨"SteepleStruck$Text", "tell", "(ILSteepleStruck$Village;)V"⟩, 7) := ⟨⟨by decide +kernel, by decide +kernel⟩, List.mem_of_getElem? (i := 161) (by decide +kernel), List.mem_of_getElem? (i := 507) (by decide +kernel), List.mem_of_getElem? (i := 508) (by decide +kernel)⟩
theorem lw_p10 : lw_okq (⟨"SteepleStruck$Village", "struckIf", "(ILSteepleStruck$Moment;II)I"⟩, 8) := ⟨⟨by decide +kernel, by decide +kernel⟩, List.mem_of_getElem? (i := 28) (by decide +kernel), List.mem_of_getElem? (i := 527) (by decide +kernel), List.mem_of_getElem? (i := 528) (by decide +kernel)⟩
theorem lw_p11 : lw_okq (⟨"SteepleStruck$Village", "bringParts", "(LSteepleStruck$Moment;)V"⟩, 8) := ⟨⟨by decide +kernel, by decide +kernel⟩, List.mem_of_getElem? (i := 28) (by decide +kernel), List.mem_of_getElem? (i := 544) (by decide +kernel), List.mem_of_getElem? (i := 545) (by decide +kernel)⟩
theorem lw_p12 : lw_okq (⟨"SteepleStruck", "isThing", "(I)Z"⟩, 16) := ⟨⟨by decide +kernel, by decide +kernel⟩, List.mem_of_getElem? (i := 20) (by decide +kernel), List.mem_of_getElem? (i := 604) (by decide +kernel), List.mem_of_getElem? (i := 605) (by decide +kernel)⟩
theorem lw_p13 : lw_okq (⟨"SteepleStruck", "refuseNo", "()I"⟩, 16) := ⟨⟨by decide +kernel, by decide +kernel⟩, List.mem_of_getElem? (i := 20) (by decide +kernel), List.mem_of_getElem? (i := 614) (by decide +kernel), List.mem_of_getElem? (i := 615) (by decide +kernel)⟩
theorem lw_p14 : lw_okq (⟨"SteepleStruck", "isPart", "(I)Z"⟩, 16) := ⟨⟨by decide +kernel, by decide +kernel⟩, List.mem_of_getElem? (i := 20) (by decide +kernel), List.mem_of_getElem? (i := 631) (by decide +kernel), List.mem_of_getElem? (i := 632) (by decide +kernel)⟩
theorem lw_p15 : lw_okq (⟨"SteepleStruck", "summersUntil", "(I)I"⟩, 16) := ⟨⟨by decide +kernel, by decide +kernel⟩, List.mem_of_getElem? (i := 20) (by decide +kernel), List.mem_of_getElem? (i := 670) (by decide +kernel), List.mem_of_getElem? (i := 671) (by decide +kernel)⟩
def lw_privs_1 : List (MethodName × Nat) := [(⟨"SteepleStruck", "refuseBad", "()I"⟩, 16), (⟨"SteepleStruck", "refuseFull", "()I"⟩, 16), (⟨"SteepleStruck$Text", "nextToken", "()V"⟩, 7), (⟨"SteepleStruck$Text", "runEnd", "(III)I"⟩, 7), (⟨"SteepleStruck$Text", "wordToken", "()I"⟩, 7), (⟨"SteepleStruck$Text", "spells", "(Ljava/lang/String;)Z"⟩, 7), (⟨"SteepleStruck$Text", "numberToken", "()I"⟩, 7), (⟨"SteepleStruck$Text", "readNumbers", "(ILSteepleStruck$Village;)Z"⟩, 7), (⟨"SteepleStruck$Text", "readStop", "()Z"⟩, 7), (⟨"SteepleStruck$Text", "tell", "(ILSteepleStruck$Village;)V"⟩, 7), (⟨"SteepleStruck$Village", "struckIf", "(ILSteepleStruck$Moment;II)I"⟩, 8), (⟨"SteepleStruck$Village", "bringParts", "(LSteepleStruck$Moment;)V"⟩, 8), (⟨"SteepleStruck", "isThing", "(I)Z"⟩, 16), (⟨"SteepleStruck", "refuseNo", "()I"⟩, 16), (⟨"SteepleStruck", "isPart", "(I)Z"⟩, 16), (⟨"SteepleStruck", "summersUntil", "(I)I"⟩, 16)]
theorem lw_r1 : ∀ q ∈ lw_privs_1, lw_okq q := List.forall_mem_cons.mpr ⟨lw_p0, List.forall_mem_cons.mpr ⟨lw_p1, List.forall_mem_cons.mpr ⟨lw_p2, List.forall_mem_cons.mpr ⟨lw_p3, List.forall_mem_cons.mpr ⟨lw_p4, List.forall_mem_cons.mpr ⟨lw_p5, List.forall_mem_cons.mpr ⟨lw_p6, List.forall_mem_cons.mpr ⟨lw_p7, List.forall_mem_cons.mpr ⟨lw_p8, List.forall_mem_cons.mpr ⟨lw_p9, List.forall_mem_cons.mpr ⟨lw_p10, List.forall_mem_cons.mpr ⟨lw_p11, List.forall_mem_cons.mpr ⟨lw_p12, List.forall_mem_cons.mpr ⟨lw_p13, List.forall_mem_cons.mpr ⟨lw_p14, List.forall_mem_cons.mpr ⟨lw_p15, fun _ h => absurd h List.not_mem_nil⟩⟩⟩⟩⟩⟩⟩⟩⟩⟩⟩⟩⟩⟩⟩⟩
theorem lw_p16 : lw_okq (⟨"SteepleStruck", "isSparedBy", "(I)Z"⟩, 16) := ⟨⟨by decide +kernel, by decide +kernel⟩, List.mem_of_getElem? (i := 20) (by decide +kernel), List.mem_of_getElem? (i := 697) (by decide +kernel), List.mem_of_getElem? (i := 698) (by decide +kernel)⟩
theorem lw_p17 : lw_okq (⟨"SteepleStruck", "refuseBadTen", "()I"⟩, 16) := ⟨⟨by decide +kernel, by decide +kernel⟩, List.mem_of_getElem? (i := 20) (by decide +kernel), List.mem_of_getElem? (i := 706) (by decide +kernel), List.mem_of_getElem? (i := 707) (by decide +kernel)⟩
theorem lw_p18 : lw_okq (⟨"SteepleStruck$Orders", "spend", "(LSteepleStruck$Village;I)V"⟩, 5) := ⟨⟨by decide +kernel, by decide +kernel⟩, List.mem_of_getElem? (i := 204) (by decide +kernel), List.mem_of_getElem? (i := 716) (by decide +kernel), List.mem_of_getElem? (i := 717) (by decide +kernel)⟩
theorem lw_p19 : lw_okq (⟨"SteepleStruck$Orders", "mostReached", "(I)I"⟩, 5) := ⟨⟨by decide +kernel, by decide +kernel⟩, List.mem_of_getElem? (i := 204) (by decide +kernel), List.mem_of_getElem? (i := 730) (by decide +kernel), List.mem_of_getElem? (i := 731) (by decide +kernel)⟩
theorem lw_p20 : lw_okq (⟨"SteepleStruck$Orders", "reach", "(LSteepleStruck$Village;I)V"⟩, 5) := ⟨⟨by decide +kernel, by decide +kernel⟩, List.mem_of_getElem? (i := 204) (by decide +kernel), List.mem_of_getElem? (i := 735) (by decide +kernel), List.mem_of_getElem? (i := 736) (by decide +kernel)⟩
theorem lw_p21 : lw_okq (⟨"SteepleStruck$Orders", "choose", "(LSteepleStruck$Village;I)V"⟩, 5) := ⟨⟨by decide +kernel, by decide +kernel⟩, List.mem_of_getElem? (i := 204) (by decide +kernel), List.mem_of_getElem? (i := 741) (by decide +kernel), List.mem_of_getElem? (i := 742) (by decide +kernel)⟩
theorem lw_p22 : lw_okq (⟨"SteepleStruck$Orders", "firstFitting", "(LSteepleStruck$Village;IIZ)I"⟩, 5) := ⟨⟨by decide +kernel, by decide +kernel⟩, List.mem_of_getElem? (i := 204) (by decide +kernel), List.mem_of_getElem? (i := 745) (by decide +kernel), List.mem_of_getElem? (i := 746) (by decide +kernel)⟩
theorem lw_p23 : lw_okq (⟨"SteepleStruck$Guesses", "drawAll", "(III)V"⟩, 1) := ⟨⟨by decide +kernel, by decide +kernel⟩, List.mem_of_getElem? (i := 228) (by decide +kernel), List.mem_of_getElem? (i := 800) (by decide +kernel), List.mem_of_getElem? (i := 801) (by decide +kernel)⟩
theorem lw_p24 : lw_okq (⟨"SteepleStruck$Guesses", "answering", "(I)I"⟩, 1) := ⟨⟨by decide +kernel, by decide +kernel⟩, List.mem_of_getElem? (i := 228) (by decide +kernel), List.mem_of_getElem? (i := 806) (by decide +kernel), List.mem_of_getElem? (i := 807) (by decide +kernel)⟩
theorem lw_p25 : lw_okq (⟨"SteepleStruck$Guesses", "mostAlike", "(I)I"⟩, 1) := ⟨⟨by decide +kernel, by decide +kernel⟩, List.mem_of_getElem? (i := 228) (by decide +kernel), List.mem_of_getElem? (i := 819) (by decide +kernel), List.mem_of_getElem? (i := 820) (by decide +kernel)⟩
theorem lw_p26 : lw_okq (⟨"SteepleStruck$Guesses", "needAll", "(II)V"⟩, 1) := ⟨⟨by decide +kernel, by decide +kernel⟩, List.mem_of_getElem? (i := 228) (by decide +kernel), List.mem_of_getElem? (i := 833) (by decide +kernel), List.mem_of_getElem? (i := 834) (by decide +kernel)⟩
theorem lw_p27 : lw_okq (⟨"SteepleStruck$Bets", "gain", "(II)I"⟩, 2) := ⟨⟨by decide +kernel, by decide +kernel⟩, List.mem_of_getElem? (i := 240) (by decide +kernel), List.mem_of_getElem? (i := 855) (by decide +kernel), List.mem_of_getElem? (i := 856) (by decide +kernel)⟩
theorem lw_p28 : lw_okq (⟨"SteepleStruck$Bets", "rests", "(I)Z"⟩, 2) := ⟨⟨by decide +kernel, by decide +kernel⟩, List.mem_of_getElem? (i := 240) (by decide +kernel), List.mem_of_getElem? (i := 866) (by decide +kernel), List.mem_of_getElem? (i := 867) (by decide +kernel)⟩
theorem lw_p29 : lw_okq (⟨"SteepleStruck", "imageAt", "(I)LSteepleStruck$Village;"⟩, 16) := ⟨⟨by decide +kernel, by decide +kernel⟩, List.mem_of_getElem? (i := 20) (by decide +kernel), List.mem_of_getElem? (i := 915) (by decide +kernel), List.mem_of_getElem? (i := 916) (by decide +kernel)⟩
theorem lw_p30 : lw_okq (⟨"SteepleStruck", "countOf", "(I)I"⟩, 16) := ⟨⟨by decide +kernel, by decide +kernel⟩, List.mem_of_getElem? (i := 20) (by decide +kernel), List.mem_of_getElem? (i := 931) (by decide +kernel), List.mem_of_getElem? (i := 932) (by decide +kernel)⟩
theorem lw_p31 : lw_okq (⟨"SteepleStruckModel", "many", "()I"⟩, 19) := ⟨⟨by decide +kernel, by decide +kernel⟩, List.mem_of_getElem? (i := 951) (by decide +kernel), List.mem_of_getElem? (i := 1023) (by decide +kernel), List.mem_of_getElem? (i := 1024) (by decide +kernel)⟩
def lw_privs_2 : List (MethodName × Nat) := [(⟨"SteepleStruck", "isSparedBy", "(I)Z"⟩, 16), (⟨"SteepleStruck", "refuseBadTen", "()I"⟩, 16), (⟨"SteepleStruck$Orders", "spend", "(LSteepleStruck$Village;I)V"⟩, 5), (⟨"SteepleStruck$Orders", "mostReached", "(I)I"⟩, 5), (⟨"SteepleStruck$Orders", "reach", "(LSteepleStruck$Village;I)V"⟩, 5), (⟨"SteepleStruck$Orders", "choose", "(LSteepleStruck$Village;I)V"⟩, 5), (⟨"SteepleStruck$Orders", "firstFitting", "(LSteepleStruck$Village;IIZ)I"⟩, 5), (⟨"SteepleStruck$Guesses", "drawAll", "(III)V"⟩, 1), (⟨"SteepleStruck$Guesses", "answering", "(I)I"⟩, 1), (⟨"SteepleStruck$Guesses", "mostAlike", "(I)I"⟩, 1), (⟨"SteepleStruck$Guesses", "needAll", "(II)V"⟩, 1), (⟨"SteepleStruck$Bets", "gain", "(II)I"⟩, 2), (⟨"SteepleStruck$Bets", "rests", "(I)Z"⟩, 2), (⟨"SteepleStruck", "imageAt", "(I)LSteepleStruck$Village;"⟩, 16), (⟨"SteepleStruck", "countOf", "(I)I"⟩, 16), (⟨"SteepleStruckModel", "many", "()I"⟩, 19)]
theorem lw_r2 : ∀ q ∈ lw_privs_2, lw_okq q := List.forall_mem_cons.mpr ⟨lw_p16, List.forall_mem_cons.mpr ⟨lw_p17, List.forall_mem_cons.mpr ⟨lw_p18, List.forall_mem_cons.mpr ⟨lw_p19, List.forall_mem_cons.mpr ⟨lw_p20, List.forall_mem_cons.mpr ⟨lw_p21, List.forall_mem_cons.mpr ⟨lw_p22, List.forall_mem_cons.mpr ⟨lw_p23, List.forall_mem_cons.mpr ⟨lw_p24, List.forall_mem_cons.mpr ⟨lw_p25, List.forall_mem_cons.mpr ⟨lw_p26, List.forall_mem_cons.mpr ⟨lw_p27, List.forall_mem_cons.mpr ⟨lw_p28, List.forall_mem_cons.mpr ⟨lw_p29, List.forall_mem_cons.mpr ⟨lw_p30, List.forall_mem_cons.mpr ⟨lw_p31, fun _ h => absurd h List.not_mem_nil⟩⟩⟩⟩⟩⟩⟩⟩⟩⟩⟩⟩⟩⟩⟩⟩
theorem lw_p32 : lw_okq (⟨"SteepleStruckModel", "bad", "(I)I"⟩, 19) := ⟨⟨by decide +kernel, by decide +kernel⟩, List.mem_of_getElem? (i := 951) (by decide +kernel), List.mem_of_getElem? (i := 1040) (by decide +kernel), List.mem_of_getElem? (i := 1041) (by decide +kernel)⟩
theorem lw_p33 : lw_okq (⟨"SteepleStruckModel", "full", "()I"⟩, 19) := ⟨⟨by decide +kernel, by decide +kernel⟩, List.mem_of_getElem? (i := 951) (by decide +kernel), List.mem_of_getElem? (i := 1052) (by decide +kernel), List.mem_of_getElem? (i := 1053) (by decide +kernel)⟩
theorem lw_p34 : lw_okq (⟨"SteepleStruckModel", "save", "()V"⟩, 19) := ⟨⟨by decide +kernel, by decide +kernel⟩, List.mem_of_getElem? (i := 951) (by decide +kernel), List.mem_of_getElem? (i := 1068) (by decide +kernel), List.mem_of_getElem? (i := 1069) (by decide +kernel)⟩
theorem lw_p35 : lw_okq (⟨"SteepleStruckModel", "isThing", "(I)Z"⟩, 19) := ⟨⟨by decide +kernel, by decide +kernel⟩, List.mem_of_getElem? (i := 951) (by decide +kernel), List.mem_of_getElem? (i := 1109) (by decide +kernel), List.mem_of_getElem? (i := 1110) (by decide +kernel)⟩
theorem lw_p36 : lw_okq (⟨"SteepleStruckModel", "no", "()I"⟩, 19) := ⟨⟨by decide +kernel, by decide +kernel⟩, List.mem_of_getElem? (i := 951) (by decide +kernel), List.mem_of_getElem? (i := 1117) (by decide +kernel), List.mem_of_getElem? (i := 1118) (by decide +kernel)⟩
theorem lw_p37 : lw_okq (⟨"SteepleStruckModel", "isPart", "(I)Z"⟩, 19) := ⟨⟨by decide +kernel, by decide +kernel⟩, List.mem_of_getElem? (i := 951) (by decide +kernel), List.mem_of_getElem? (i := 1130) (by decide +kernel), List.mem_of_getElem? (i := 1131) (by decide +kernel)⟩
theorem lw_p38 : lw_okq (⟨"SteepleStruckModel", "layHand", "()V"⟩, 19) := ⟨⟨by decide +kernel, by decide +kernel⟩, List.mem_of_getElem? (i := 951) (by decide +kernel), List.mem_of_getElem? (i := 1151) (by decide +kernel), List.mem_of_getElem? (i := 1152) (by decide +kernel)⟩
theorem lw_p39 : lw_okq (⟨"SteepleStruckModel", "whenOf", "(I)I"⟩, 19) := ⟨⟨by decide +kernel, by decide +kernel⟩, List.mem_of_getElem? (i := 951) (by decide +kernel), List.mem_of_getElem? (i := 1159) (by decide +kernel), List.mem_of_getElem? (i := 1160) (by decide +kernel)⟩
theorem lw_p40 : lw_okq (⟨"SteepleStruckModel", "cellsBy", "(I)I"⟩, 19) := ⟨⟨by decide +kernel, by decide +kernel⟩, List.mem_of_getElem? (i := 951) (by decide +kernel), List.mem_of_getElem? (i := 1167) (by decide +kernel), List.mem_of_getElem? (i := 1168) (by decide +kernel)⟩
theorem lw_p41 : lw_okq (⟨"SteepleStruckModel", "layMissing", "()I"⟩, 19) := ⟨⟨by decide +kernel, by decide +kernel⟩, List.mem_of_getElem? (i := 951) (by decide +kernel), List.mem_of_getElem? (i := 1184) (by decide +kernel), List.mem_of_getElem? (i := 1185) (by decide +kernel)⟩
theorem lw_p42 : lw_okq (⟨"SteepleStruckModel", "layOrder", "(II)V"⟩, 19) := ⟨⟨by decide +kernel, by decide +kernel⟩, List.mem_of_getElem? (i := 951) (by decide +kernel), List.mem_of_getElem? (i := 1188) (by decide +kernel), List.mem_of_getElem? (i := 1189) (by decide +kernel)⟩
theorem lw_p43 : lw_okq (⟨"SteepleStruckModel", "comeBy", "(II)I"⟩, 19) := ⟨⟨by decide +kernel, by decide +kernel⟩, List.mem_of_getElem? (i := 951) (by decide +kernel), List.mem_of_getElem? (i := 1192) (by decide +kernel), List.mem_of_getElem? (i := 1193) (by decide +kernel)⟩
theorem lw_p44 : lw_okq (⟨"SteepleStruckModel", "isSeenBy", "(II)Z"⟩, 19) := ⟨⟨by decide +kernel, by decide +kernel⟩, List.mem_of_getElem? (i := 951) (by decide +kernel), List.mem_of_getElem? (i := 1204) (by decide +kernel), List.mem_of_getElem? (i := 1205) (by decide +kernel)⟩
theorem lw_p45 : lw_okq (⟨"SteepleStruckModel", "kindsOfThing", "(I)I"⟩, 19) := ⟨⟨by decide +kernel, by decide +kernel⟩, List.mem_of_getElem? (i := 951) (by decide +kernel), List.mem_of_getElem? (i := 1224) (by decide +kernel), List.mem_of_getElem? (i := 1225) (by decide +kernel)⟩
theorem lw_p46 : lw_okq (⟨"SteepleStruckModel", "mostAlike", "(I)I"⟩, 19) := ⟨⟨by decide +kernel, by decide +kernel⟩, List.mem_of_getElem? (i := 951) (by decide +kernel), List.mem_of_getElem? (i := 1233) (by decide +kernel), List.mem_of_getElem? (i := 1234) (by decide +kernel)⟩
theorem lw_p47 : lw_okq (⟨"SteepleStruckModel", "kindsOfPart", "(I)I"⟩, 19) := ⟨⟨by decide +kernel, by decide +kernel⟩, List.mem_of_getElem? (i := 951) (by decide +kernel), List.mem_of_getElem? (i := 1241) (by decide +kernel), List.mem_of_getElem? (i := 1242) (by decide +kernel)⟩
def lw_privs_3 : List (MethodName × Nat) := [(⟨"SteepleStruckModel", "bad", "(I)I"⟩, 19), (⟨"SteepleStruckModel", "full", "()I"⟩, 19), (⟨"SteepleStruckModel", "save", "()V"⟩, 19), (⟨"SteepleStruckModel", "isThing", "(I)Z"⟩, 19), (⟨"SteepleStruckModel", "no", "()I"⟩, 19), (⟨"SteepleStruckModel", "isPart", "(I)Z"⟩, 19), (⟨"SteepleStruckModel", "layHand", "()V"⟩, 19), (⟨"SteepleStruckModel", "whenOf", "(I)I"⟩, 19), (⟨"SteepleStruckModel", "cellsBy", "(I)I"⟩, 19), (⟨"SteepleStruckModel", "layMissing", "()I"⟩, 19), (⟨"SteepleStruckModel", "layOrder", "(II)V"⟩, 19), (⟨"SteepleStruckModel", "comeBy", "(II)I"⟩, 19), (⟨"SteepleStruckModel", "isSeenBy", "(II)Z"⟩, 19), (⟨"SteepleStruckModel", "kindsOfThing", "(I)I"⟩, 19), (⟨"SteepleStruckModel", "mostAlike", "(I)I"⟩, 19), (⟨"SteepleStruckModel", "kindsOfPart", "(I)I"⟩, 19)]
theorem lw_r3 : ∀ q ∈ lw_privs_3, lw_okq q := List.forall_mem_cons.mpr ⟨lw_p32, List.forall_mem_cons.mpr ⟨lw_p33, List.forall_mem_cons.mpr ⟨lw_p34, List.forall_mem_cons.mpr ⟨lw_p35, List.forall_mem_cons.mpr ⟨lw_p36, List.forall_mem_cons.mpr ⟨lw_p37, List.forall_mem_cons.mpr ⟨lw_p38, List.forall_mem_cons.mpr ⟨lw_p39, List.forall_mem_cons.mpr ⟨lw_p40, List.forall_mem_cons.mpr ⟨lw_p41, List.forall_mem_cons.mpr ⟨lw_p42, List.forall_mem_cons.mpr ⟨lw_p43, List.forall_mem_cons.mpr ⟨lw_p44, List.forall_mem_cons.mpr ⟨lw_p45, List.forall_mem_cons.mpr ⟨lw_p46, List.forall_mem_cons.mpr ⟨lw_p47, fun _ h => absurd h List.not_mem_nil⟩⟩⟩⟩⟩⟩⟩⟩⟩⟩⟩⟩⟩⟩⟩⟩
theorem lw_p48 : lw_okq (⟨"SteepleStruckModel", "fraction", "(JJ)V"⟩, 19) := ⟨⟨by decide +kernel, by decide +kernel⟩, List.mem_of_getElem? (i := 951) (by decide +kernel), List.mem_of_getElem? (i := 1267) (by decide +kernel), List.mem_of_getElem? (i := 1268) (by decide +kernel)⟩
theorem lw_p49 : lw_okq (⟨"SteepleStruckModel", "lookAt", "(I)V"⟩, 19) := ⟨⟨by decide +kernel, by decide +kernel⟩, List.mem_of_getElem? (i := 951) (by decide +kernel), List.mem_of_getElem? (i := 1295) (by decide +kernel), List.mem_of_getElem? (i := 1296) (by decide +kernel)⟩
theorem lw_p50 : lw_okq (⟨"SteepleStruckModel", "spellsSeven", "(IIIIIII)Z"⟩, 19) := ⟨⟨by decide +kernel, by decide +kernel⟩, List.mem_of_getElem? (i := 951) (by decide +kernel), List.mem_of_getElem? (i := 1309) (by decide +kernel), List.mem_of_getElem? (i := 1310) (by decide +kernel)⟩
theorem lw_p51 : lw_okq (⟨"SteepleStruckModel", "goBehind", "()V"⟩, 19) := ⟨⟨by decide +kernel, by decide +kernel⟩, List.mem_of_getElem? (i := 951) (by decide +kernel), List.mem_of_getElem? (i := 1313) (by decide +kernel), List.mem_of_getElem? (i := 1314) (by decide +kernel)⟩
theorem lw_p52 : lw_okq (⟨"SteepleStruckModel", "givesItem", "()Z"⟩, 19) := ⟨⟨by decide +kernel, by decide +kernel⟩, List.mem_of_getElem? (i := 951) (by decide +kernel), List.mem_of_getElem? (i := 1317) (by decide +kernel), List.mem_of_getElem? (i := 1318) (by decide +kernel)⟩
theorem lw_p53 : lw_okq (⟨"SteepleStruckModel", "spells", "(IIIIIII)Z"⟩, 19) := ⟨⟨by decide +kernel, by decide +kernel⟩, List.mem_of_getElem? (i := 951) (by decide +kernel), List.mem_of_getElem? (i := 1321) (by decide +kernel), List.mem_of_getElem? (i := 1322) (by decide +kernel)⟩
theorem lw_p54 : lw_okq (⟨"SteepleStruckModel", "givesStorm", "()Z"⟩, 19) := ⟨⟨by decide +kernel, by decide +kernel⟩, List.mem_of_getElem? (i := 951) (by decide +kernel), List.mem_of_getElem? (i := 1325) (by decide +kernel), List.mem_of_getElem? (i := 1326) (by decide +kernel)⟩
theorem lw_p55 : lw_okq (⟨"SteepleStruckModel", "gives", "(III)Z"⟩, 19) := ⟨⟨by decide +kernel, by decide +kernel⟩, List.mem_of_getElem? (i := 951) (by decide +kernel), List.mem_of_getElem? (i := 1329) (by decide +kernel), List.mem_of_getElem? (i := 1330) (by decide +kernel)⟩
theorem lw_p56 : lw_okq (⟨"SteepleStruckModel", "givesThing", "()Z"⟩, 19) := ⟨⟨by decide +kernel, by decide +kernel⟩, List.mem_of_getElem? (i := 951) (by decide +kernel), List.mem_of_getElem? (i := 1333) (by decide +kernel), List.mem_of_getElem? (i := 1334) (by decide +kernel)⟩
theorem lw_p57 : lw_okq (⟨"SteepleStruckModel", "givesPart", "()Z"⟩, 19) := ⟨⟨by decide +kernel, by decide +kernel⟩, List.mem_of_getElem? (i := 951) (by decide +kernel), List.mem_of_getElem? (i := 1337) (by decide +kernel), List.mem_of_getElem? (i := 1338) (by decide +kernel)⟩
theorem lw_p58 : lw_okq (⟨"SteepleStruckModel", "givesTake", "()Z"⟩, 19) := ⟨⟨by decide +kernel, by decide +kernel⟩, List.mem_of_getElem? (i := 951) (by decide +kernel), List.mem_of_getElem? (i := 1341) (by decide +kernel), List.mem_of_getElem? (i := 1342) (by decide +kernel)⟩
theorem lw_p59 : lw_okq (⟨"SteepleStruckModel", "givesSummers", "()Z"⟩, 19) := ⟨⟨by decide +kernel, by decide +kernel⟩, List.mem_of_getElem? (i := 951) (by decide +kernel), List.mem_of_getElem? (i := 1345) (by decide +kernel), List.mem_of_getElem? (i := 1346) (by decide +kernel)⟩
theorem lw_p60 : lw_okq (⟨"SteepleStruckModel", "counted", "(I)I"⟩, 19) := ⟨⟨by decide +kernel, by decide +kernel⟩, List.mem_of_getElem? (i := 951) (by decide +kernel), List.mem_of_getElem? (i := 1369) (by decide +kernel), List.mem_of_getElem? (i := 1370) (by decide +kernel)⟩
theorem lw_p61 : lw_okq (⟨"SteepleStruckModel", "sums", "(JII)J"⟩, 19) := ⟨⟨by decide +kernel, by decide +kernel⟩, List.mem_of_getElem? (i := 951) (by decide +kernel), List.mem_of_getElem? (i := 1379) (by decide +kernel), List.mem_of_getElem? (i := 1380) (by decide +kernel)⟩
def lw_privs_4 : List (MethodName × Nat) := [(⟨"SteepleStruckModel", "fraction", "(JJ)V"⟩, 19), (⟨"SteepleStruckModel", "lookAt", "(I)V"⟩, 19), (⟨"SteepleStruckModel", "spellsSeven", "(IIIIIII)Z"⟩, 19), (⟨"SteepleStruckModel", "goBehind", "()V"⟩, 19), (⟨"SteepleStruckModel", "givesItem", "()Z"⟩, 19), (⟨"SteepleStruckModel", "spells", "(IIIIIII)Z"⟩, 19), (⟨"SteepleStruckModel", "givesStorm", "()Z"⟩, 19), (⟨"SteepleStruckModel", "gives", "(III)Z"⟩, 19), (⟨"SteepleStruckModel", "givesThing", "()Z"⟩, 19), (⟨"SteepleStruckModel", "givesPart", "()Z"⟩, 19), (⟨"SteepleStruckModel", "givesTake", "()Z"⟩, 19), (⟨"SteepleStruckModel", "givesSummers", "()Z"⟩, 19), (⟨"SteepleStruckModel", "counted", "(I)I"⟩, 19), (⟨"SteepleStruckModel", "sums", "(JII)J"⟩, 19)]
theorem lw_r4 : ∀ q ∈ lw_privs_4, lw_okq q := List.forall_mem_cons.mpr ⟨lw_p48, List.forall_mem_cons.mpr ⟨lw_p49, List.forall_mem_cons.mpr ⟨lw_p50, List.forall_mem_cons.mpr ⟨lw_p51, List.forall_mem_cons.mpr ⟨lw_p52, List.forall_mem_cons.mpr ⟨lw_p53, List.forall_mem_cons.mpr ⟨lw_p54, List.forall_mem_cons.mpr ⟨lw_p55, List.forall_mem_cons.mpr ⟨lw_p56, List.forall_mem_cons.mpr ⟨lw_p57, List.forall_mem_cons.mpr ⟨lw_p58, List.forall_mem_cons.mpr ⟨lw_p59, List.forall_mem_cons.mpr ⟨lw_p60, List.forall_mem_cons.mpr ⟨lw_p61, fun _ h => absurd h List.not_mem_nil⟩⟩⟩⟩⟩⟩⟩⟩⟩⟩⟩⟩⟩⟩
def lw_privs : List (MethodName × Nat) := lw_privs_1 ++ (lw_privs_2 ++ (lw_privs_3 ++ (lw_privs_4)))
def lw_tbl : List Cond := k2_sels lw_privs ++ tables_1
theorem lw_privs_ok : ∀ q ∈ lw_privs, lw_okq q := by
  show ∀ q ∈ lw_privs_1 ++ (lw_privs_2 ++ (lw_privs_3 ++ (lw_privs_4))), lw_okq q
  exact List.forall_mem_append.mpr ⟨lw_r1, List.forall_mem_append.mpr ⟨lw_r2, List.forall_mem_append.mpr ⟨lw_r3, lw_r4⟩⟩⟩
end
section
def RX0 : String := "SteepleStruck$Bets"
def TX0 : u_T := fun k => match k with
  | 0 => ("SteepleStruck$Bets", "best", "LSteepleStruck$Row;", true)
  | _ => ("SteepleStruck$Bets", "when", "I", false)
def tyX0 : Nat → FieldType := fun k => match k with
  | 0 => .object "SteepleStruck$Row"
  | _ => .int
abbrev wsX00 : List Cond := u_ws RX0 TX0 2
theorem nmX0 : ∀ a, a < 2 → ∀ b, b < 2 → a ≠ b → (TX0 a).2.1 ≠ (TX0 b).2.1 := by decide +kernel
theorem tyX0_ok : ∀ k, k < 2 → parseFieldDescriptor (TX0 k).2.2.1 = some (tyX0 k) := by decide +kernel
abbrev cX0_init : ByteArray := prog_2_method_1_code
def yX0_init : MethodName := ⟨RX0, "<init>", "()V"⟩
abbrev cX0_settle : ByteArray := prog_2_method_2_code
def yX0_settle : MethodName := ⟨RX0, "settle", "(I)V"⟩
abbrev cX0_resting : ByteArray := prog_2_method_3_code
def yX0_resting : MethodName := ⟨RX0, "resting", "()I"⟩
abbrev cX0_restingAt : ByteArray := prog_2_method_4_code
def yX0_restingAt : MethodName := ⟨RX0, "restingAt", "(I)I"⟩
abbrev cX0_rests : ByteArray := prog_2_method_5_code
def yX0_rests : MethodName := ⟨RX0, "rests", "(I)Z"⟩
abbrev cX0_gain : ByteArray := prog_2_method_6_code
def yX0_gain : MethodName := ⟨RX0, "gain", "(II)I"⟩
def RX1 : String := "SteepleStruck$Fraction"
def TX1 : u_T := fun k => match k with
  | 0 => ("SteepleStruck$Fraction", "above", "J", false)
  | _ => ("SteepleStruck$Fraction", "below", "J", false)
def tyX1 : Nat → FieldType := fun k => match k with
  | 0 => .long
  | _ => .long
abbrev wsX10 : List Cond := u_ws RX1 TX1 2
theorem nmX1 : ∀ a, a < 2 → ∀ b, b < 2 → a ≠ b → (TX1 a).2.1 ≠ (TX1 b).2.1 := by decide +kernel
theorem tyX1_ok : ∀ k, k < 2 → parseFieldDescriptor (TX1 k).2.2.1 = some (tyX1 k) := by decide +kernel
abbrev cX1_init : ByteArray := prog_3_method_1_code
def yX1_init : MethodName := ⟨RX1, "<init>", "()V"⟩
abbrev cX1_above : ByteArray := prog_3_method_2_code
def yX1_above : MethodName := ⟨RX1, "above", "()J"⟩
abbrev cX1_below : ByteArray := prog_3_method_3_code
def yX1_below : MethodName := ⟨RX1, "below", "()J"⟩
abbrev cX1_set : ByteArray := prog_3_method_4_code
def yX1_set : MethodName := ⟨RX1, "set", "(JJ)V"⟩
abbrev cX1_commonOf : ByteArray := prog_3_method_5_code
def yX1_commonOf : MethodName := ⟨RX1, "commonOf", "(JJ)J"⟩
def RX2 : String := "SteepleStruck$Guesses"
def TX2 : u_T := fun k => match k with
  | _ => ("SteepleStruck$Guesses", "answers", "LSteepleStruck$Row;", true)
def tyX2 : Nat → FieldType := fun k => match k with
  | _ => .object "SteepleStruck$Row"
abbrev wsX20 : List Cond := u_ws RX2 TX2 1
theorem nmX2 : ∀ a, a < 1 → ∀ b, b < 1 → a ≠ b → (TX2 a).2.1 ≠ (TX2 b).2.1 := by decide +kernel
theorem tyX2_ok : ∀ k, k < 1 → parseFieldDescriptor (TX2 k).2.2.1 = some (tyX2 k) := by decide +kernel
abbrev cX2_init : ByteArray := prog_4_method_1_code
def yX2_init : MethodName := ⟨RX2, "<init>", "()V"⟩
abbrev cX2_thingKinds : ByteArray := prog_4_method_2_code
def yX2_thingKinds : MethodName := ⟨RX2, "thingKinds", "(LSteepleStruck$Table;I)I"⟩
abbrev cX2_partKinds : ByteArray := prog_4_method_3_code
def yX2_partKinds : MethodName := ⟨RX2, "partKinds", "(LSteepleStruck$Table;I)I"⟩
abbrev cX2_bestLook : ByteArray := prog_4_method_4_code
def yX2_bestLook : MethodName := ⟨RX2, "bestLook", "(II)I"⟩
abbrev cX2_bestAsk : ByteArray := prog_4_method_5_code
def yX2_bestAsk : MethodName := ⟨RX2, "bestAsk", "(I)I"⟩
abbrev cX2_drawAll : ByteArray := prog_4_method_6_code
def yX2_drawAll : MethodName := ⟨RX2, "drawAll", "(III)V"⟩
abbrev cX2_needAll : ByteArray := prog_4_method_7_code
def yX2_needAll : MethodName := ⟨RX2, "needAll", "(II)V"⟩
abbrev cX2_answering : ByteArray := prog_4_method_8_code
def yX2_answering : MethodName := ⟨RX2, "answering", "(I)I"⟩
abbrev cX2_mostAlike : ByteArray := prog_4_method_9_code
def yX2_mostAlike : MethodName := ⟨RX2, "mostAlike", "(I)I"⟩
def RX3 : String := "SteepleStruck$Kinds"
def TX3 : u_T := fun k => match k with
  | _ => ("", "", "", false)
def tyX3 : Nat → FieldType := fun k => match k with
  | _ => .int
abbrev wsX30 : List Cond := u_ws RX3 TX3 0
theorem nmX3 : ∀ a, a < 0 → ∀ b, b < 0 → a ≠ b → (TX3 a).2.1 ≠ (TX3 b).2.1 := by decide +kernel
theorem tyX3_ok : ∀ k, k < 0 → parseFieldDescriptor (TX3 k).2.2.1 = some (tyX3 k) := by decide +kernel
abbrev cX3_draw : ByteArray := prog_5_method_2_code
def yX3_draw : MethodName := ⟨RX3, "draw", "(IIII)I"⟩
abbrev cX3_need : ByteArray := prog_5_method_3_code
def yX3_need : MethodName := ⟨RX3, "need", "(III)I"⟩
def RX4 : String := "SteepleStruck$Moment"
def TX4 : u_T := fun k => match k with
  | 0 => ("SteepleStruck$Moment", "up", "I", false)
  | 1 => ("SteepleStruck$Moment", "there", "I", false)
  | 2 => ("SteepleStruck$Moment", "charge", "I", false)
  | _ => ("SteepleStruck$Moment", "summer", "I", false)
def tyX4 : Nat → FieldType := fun k => match k with
  | 0 => .int
  | 1 => .int
  | 2 => .int
  | _ => .int
abbrev wsX40 : List Cond := u_ws RX4 TX4 4
theorem nmX4 : ∀ a, a < 4 → ∀ b, b < 4 → a ≠ b → (TX4 a).2.1 ≠ (TX4 b).2.1 := by decide +kernel
theorem tyX4_ok : ∀ k, k < 4 → parseFieldDescriptor (TX4 k).2.2.1 = some (tyX4 k) := by decide +kernel
abbrev cX4_init : ByteArray := prog_6_method_1_code
def yX4_init : MethodName := ⟨RX4, "<init>", "()V"⟩
abbrev cX4_set : ByteArray := prog_6_method_2_code
def yX4_set : MethodName := ⟨RX4, "set", "(IIII)V"⟩
abbrev cX4_takeFrom : ByteArray := prog_6_method_3_code
def yX4_takeFrom : MethodName := ⟨RX4, "takeFrom", "(LSteepleStruck$Moment;)V"⟩
abbrev cX4_isUp : ByteArray := prog_6_method_4_code
def yX4_isUp : MethodName := ⟨RX4, "isUp", "(I)Z"⟩
abbrev cX4_isThere : ByteArray := prog_6_method_5_code
def yX4_isThere : MethodName := ⟨RX4, "isThere", "(I)Z"⟩
abbrev cX4_partsThere : ByteArray := prog_6_method_6_code
def yX4_partsThere : MethodName := ⟨RX4, "partsThere", "()I"⟩
def RX5 : String := "SteepleStruck$Orders"
def TX5 : u_T := fun k => match k with
  | 0 => ("SteepleStruck$Orders", "left", "LSteepleStruck$Row;", true)
  | 1 => ("SteepleStruck$Orders", "least", "LSteepleStruck$Row;", true)
  | 2 => ("SteepleStruck$Orders", "order", "LSteepleStruck$Row;", true)
  | 3 => ("SteepleStruck$Orders", "length", "I", false)
  | _ => ("SteepleStruck$Orders", "most", "I", false)
def tyX5 : Nat → FieldType := fun k => match k with
  | 0 => .object "SteepleStruck$Row"
  | 1 => .object "SteepleStruck$Row"
  | 2 => .object "SteepleStruck$Row"
  | 3 => .int
  | _ => .int
abbrev wsX50 : List Cond := u_ws RX5 TX5 5
theorem nmX5 : ∀ a, a < 5 → ∀ b, b < 5 → a ≠ b → (TX5 a).2.1 ≠ (TX5 b).2.1 := by decide +kernel
theorem tyX5_ok : ∀ k, k < 5 → parseFieldDescriptor (TX5 k).2.2.1 = some (tyX5 k) := by decide +kernel
abbrev cX5_init : ByteArray := prog_7_method_1_code
def yX5_init : MethodName := ⟨RX5, "<init>", "()V"⟩
abbrev cX5_length : ByteArray := prog_7_method_2_code
def yX5_length : MethodName := ⟨RX5, "length", "()I"⟩
abbrev cX5_most : ByteArray := prog_7_method_3_code
def yX5_most : MethodName := ⟨RX5, "most", "()I"⟩
abbrev cX5_at : ByteArray := prog_7_method_4_code
def yX5_at : MethodName := ⟨RX5, "at", "(I)I"⟩
abbrev cX5_search : ByteArray := prog_7_method_5_code
def yX5_search : MethodName := ⟨RX5, "search", "(LSteepleStruck$Village;I)V"⟩
abbrev cX5_spend : ByteArray := prog_7_method_6_code
def yX5_spend : MethodName := ⟨RX5, "spend", "(LSteepleStruck$Village;I)V"⟩
abbrev cX5_mostReached : ByteArray := prog_7_method_7_code
def yX5_mostReached : MethodName := ⟨RX5, "mostReached", "(I)I"⟩
abbrev cX5_reach : ByteArray := prog_7_method_8_code
def yX5_reach : MethodName := ⟨RX5, "reach", "(LSteepleStruck$Village;I)V"⟩
abbrev cX5_choose : ByteArray := prog_7_method_9_code
def yX5_choose : MethodName := ⟨RX5, "choose", "(LSteepleStruck$Village;I)V"⟩
abbrev cX5_firstFitting : ByteArray := prog_7_method_10_code
def yX5_firstFitting : MethodName := ⟨RX5, "firstFitting", "(LSteepleStruck$Village;IIZ)I"⟩
abbrev cX5_needBehind : ByteArray := prog_7_method_11_code
def yX5_needBehind : MethodName := ⟨RX5, "needBehind", "(LSteepleStruck$Village;II)I"⟩
def RX6 : String := "SteepleStruck$Row"
def TX6 : u_T := fun k => match k with
  | _ => ("SteepleStruck$Row", "cells", "[I", true)
def tyX6 : Nat → FieldType := fun k => match k with
  | _ => .array .int
abbrev wsX60 : List Cond := u_ws RX6 TX6 1
theorem nmX6 : ∀ a, a < 1 → ∀ b, b < 1 → a ≠ b → (TX6 a).2.1 ≠ (TX6 b).2.1 := by decide +kernel
theorem tyX6_ok : ∀ k, k < 1 → parseFieldDescriptor (TX6 k).2.2.1 = some (tyX6 k) := by decide +kernel
abbrev cX6_init : ByteArray := prog_8_method_1_code
def yX6_init : MethodName := ⟨RX6, "<init>", "(I)V"⟩
abbrev cX6_at : ByteArray := prog_8_method_2_code
def yX6_at : MethodName := ⟨RX6, "at", "(I)I"⟩
abbrev cX6_put : ByteArray := prog_8_method_3_code
def yX6_put : MethodName := ⟨RX6, "put", "(II)V"⟩
abbrev cX6_fill : ByteArray := prog_8_method_4_code
def yX6_fill : MethodName := ⟨RX6, "fill", "(I)V"⟩
def RX7 : String := "SteepleStruck$Table"
def TX7 : u_T := fun k => match k with
  | 0 => ("SteepleStruck$Table", "most", "I", true)
  | 1 => ("SteepleStruck$Table", "width", "I", true)
  | 2 => ("SteepleStruck$Table", "cells", "[I", true)
  | _ => ("SteepleStruck$Table", "size", "I", false)
def tyX7 : Nat → FieldType := fun k => match k with
  | 0 => .int
  | 1 => .int
  | 2 => .array .int
  | _ => .int
abbrev wsX70 : List Cond := u_ws RX7 TX7 4
theorem nmX7 : ∀ a, a < 4 → ∀ b, b < 4 → a ≠ b → (TX7 a).2.1 ≠ (TX7 b).2.1 := by decide +kernel
theorem tyX7_ok : ∀ k, k < 4 → parseFieldDescriptor (TX7 k).2.2.1 = some (tyX7 k) := by decide +kernel
abbrev cX7_init : ByteArray := prog_9_method_1_code
def yX7_init : MethodName := ⟨RX7, "<init>", "(II)V"⟩
abbrev cX7_size : ByteArray := prog_9_method_2_code
def yX7_size : MethodName := ⟨RX7, "size", "()I"⟩
abbrev cX7_isFull : ByteArray := prog_9_method_3_code
def yX7_isFull : MethodName := ⟨RX7, "isFull", "()Z"⟩
abbrev cX7_empty : ByteArray := prog_9_method_4_code
def yX7_empty : MethodName := ⟨RX7, "empty", "()V"⟩
abbrev cX7_at : ByteArray := prog_9_method_5_code
def yX7_at : MethodName := ⟨RX7, "at", "(II)I"⟩
abbrev cX7_put : ByteArray := prog_9_method_6_code
def yX7_put : MethodName := ⟨RX7, "put", "(III)V"⟩
abbrev cX7_add : ByteArray := prog_9_method_7_code
def yX7_add : MethodName := ⟨RX7, "add", "(IIIII)V"⟩
abbrev cX7_dropFirst : ByteArray := prog_9_method_8_code
def yX7_dropFirst : MethodName := ⟨RX7, "dropFirst", "()V"⟩
abbrev cX7_dropLast : ByteArray := prog_9_method_9_code
def yX7_dropLast : MethodName := ⟨RX7, "dropLast", "()V"⟩
abbrev cX7_takeFrom : ByteArray := prog_9_method_10_code
def yX7_takeFrom : MethodName := ⟨RX7, "takeFrom", "(LSteepleStruck$Table;)V"⟩
abbrev cX7_digestOn : ByteArray := prog_9_method_11_code
def yX7_digestOn : MethodName := ⟨RX7, "digestOn", "(J)J"⟩
def RX8 : String := "SteepleStruck$Text"
def TX8 : u_T := fun k => match k with
  | 0 => ("SteepleStruck$Text", "bytes", "LSteepleStruck$Row;", true)
  | 1 => ("SteepleStruck$Text", "told", "LSteepleStruck$Row;", true)
  | 2 => ("SteepleStruck$Text", "length", "I", false)
  | 3 => ("SteepleStruck$Text", "token", "I", false)
  | 4 => ("SteepleStruck$Text", "start", "I", false)
  | 5 => ("SteepleStruck$Text", "next", "I", false)
  | _ => ("SteepleStruck$Text", "number", "I", false)
def tyX8 : Nat → FieldType := fun k => match k with
  | 0 => .object "SteepleStruck$Row"
  | 1 => .object "SteepleStruck$Row"
  | 2 => .int
  | 3 => .int
  | 4 => .int
  | 5 => .int
  | _ => .int
abbrev wsX80 : List Cond := u_ws RX8 TX8 7
theorem nmX8 : ∀ a, a < 7 → ∀ b, b < 7 → a ≠ b → (TX8 a).2.1 ≠ (TX8 b).2.1 := by decide +kernel
theorem tyX8_ok : ∀ k, k < 7 → parseFieldDescriptor (TX8 k).2.2.1 = some (tyX8 k) := by decide +kernel
abbrev cX8_init : ByteArray := prog_10_method_1_code
def yX8_init : MethodName := ⟨RX8, "<init>", "()V"⟩
abbrev cX8_length : ByteArray := prog_10_method_2_code
def yX8_length : MethodName := ⟨RX8, "length", "()I"⟩
abbrev cX8_isFull : ByteArray := prog_10_method_3_code
def yX8_isFull : MethodName := ⟨RX8, "isFull", "()Z"⟩
abbrev cX8_add : ByteArray := prog_10_method_4_code
def yX8_add : MethodName := ⟨RX8, "add", "(I)V"⟩
abbrev cX8_empty : ByteArray := prog_10_method_5_code
def yX8_empty : MethodName := ⟨RX8, "empty", "()V"⟩
abbrev cX8_tellTo : ByteArray := prog_10_method_6_code
def yX8_tellTo : MethodName := ⟨RX8, "tellTo", "(LSteepleStruck$Village;)I"⟩
abbrev cX8_mayStand : ByteArray := prog_10_method_7_code
def yX8_mayStand : MethodName := ⟨RX8, "mayStand", "(ILSteepleStruck$Village;Z)Z"⟩
abbrev cX8_readNumbers : ByteArray := prog_10_method_8_code
def yX8_readNumbers : MethodName := ⟨RX8, "readNumbers", "(ILSteepleStruck$Village;)Z"⟩
abbrev cX8_readStop : ByteArray := prog_10_method_9_code
def yX8_readStop : MethodName := ⟨RX8, "readStop", "()Z"⟩
abbrev cX8_numbersOf : ByteArray := prog_10_method_10_code
def yX8_numbersOf : MethodName := ⟨RX8, "numbersOf", "(I)I"⟩
abbrev cX8_leastOf : ByteArray := prog_10_method_11_code
def yX8_leastOf : MethodName := ⟨RX8, "leastOf", "(II)I"⟩
abbrev cX8_mostOf : ByteArray := prog_10_method_12_code
def yX8_mostOf : MethodName := ⟨RX8, "mostOf", "(IILSteepleStruck$Village;)I"⟩
abbrev cX8_tell : ByteArray := prog_10_method_13_code
def yX8_tell : MethodName := ⟨RX8, "tell", "(ILSteepleStruck$Village;)V"⟩
abbrev cX8_nextToken : ByteArray := prog_10_method_14_code
def yX8_nextToken : MethodName := ⟨RX8, "nextToken", "()V"⟩
abbrev cX8_runEnd : ByteArray := prog_10_method_15_code
def yX8_runEnd : MethodName := ⟨RX8, "runEnd", "(III)I"⟩
abbrev cX8_numberToken : ByteArray := prog_10_method_16_code
def yX8_numberToken : MethodName := ⟨RX8, "numberToken", "()I"⟩
abbrev cX8_wordToken : ByteArray := prog_10_method_17_code
def yX8_wordToken : MethodName := ⟨RX8, "wordToken", "()I"⟩
abbrev cX8_wordOf : ByteArray := prog_10_method_18_code
def yX8_wordOf : MethodName := ⟨RX8, "wordOf", "(I)Ljava/lang/String;"⟩
abbrev cX8_spells : ByteArray := prog_10_method_19_code
def yX8_spells : MethodName := ⟨RX8, "spells", "(Ljava/lang/String;)Z"⟩
def RX9 : String := "SteepleStruck$Village"
def TX9 : u_T := fun k => match k with
  | 0 => ("SteepleStruck$Village", "storms", "LSteepleStruck$Table;", true)
  | 1 => ("SteepleStruck$Village", "things", "LSteepleStruck$Table;", true)
  | 2 => ("SteepleStruck$Village", "parts", "LSteepleStruck$Table;", true)
  | 3 => ("SteepleStruck$Village", "seen", "LSteepleStruck$Table;", true)
  | 4 => ("SteepleStruck$Village", "notes", "LSteepleStruck$Table;", true)
  | 5 => ("SteepleStruck$Village", "marks", "LSteepleStruck$Table;", true)
  | 6 => ("SteepleStruck$Village", "earlier", "LSteepleStruck$Table;", true)
  | _ => ("SteepleStruck$Village", "now", "LSteepleStruck$Moment;", true)
def tyX9 : Nat → FieldType := fun k => match k with
  | 0 => .object "SteepleStruck$Table"
  | 1 => .object "SteepleStruck$Table"
  | 2 => .object "SteepleStruck$Table"
  | 3 => .object "SteepleStruck$Table"
  | 4 => .object "SteepleStruck$Table"
  | 5 => .object "SteepleStruck$Table"
  | 6 => .object "SteepleStruck$Table"
  | _ => .object "SteepleStruck$Moment"
abbrev wsX90 : List Cond := u_ws RX9 TX9 8
theorem nmX9 : ∀ a, a < 8 → ∀ b, b < 8 → a ≠ b → (TX9 a).2.1 ≠ (TX9 b).2.1 := by decide +kernel
theorem tyX9_ok : ∀ k, k < 8 → parseFieldDescriptor (TX9 k).2.2.1 = some (tyX9 k) := by decide +kernel
abbrev cX9_init : ByteArray := prog_11_method_1_code
def yX9_init : MethodName := ⟨RX9, "<init>", "()V"⟩
abbrev cX9_begin : ByteArray := prog_11_method_2_code
def yX9_begin : MethodName := ⟨RX9, "begin", "()V"⟩
abbrev cX9_takeFrom : ByteArray := prog_11_method_3_code
def yX9_takeFrom : MethodName := ⟨RX9, "takeFrom", "(LSteepleStruck$Village;)V"⟩
abbrev cX9_tellStorm : ByteArray := prog_11_method_4_code
def yX9_tellStorm : MethodName := ⟨RX9, "tellStorm", "(III)V"⟩
abbrev cX9_addThing : ByteArray := prog_11_method_5_code
def yX9_addThing : MethodName := ⟨RX9, "addThing", "(III)I"⟩
abbrev cX9_addPart : ByteArray := prog_11_method_6_code
def yX9_addPart : MethodName := ⟨RX9, "addPart", "(I)I"⟩
abbrev cX9_turn : ByteArray := prog_11_method_7_code
def yX9_turn : MethodName := ⟨RX9, "turn", "(I)V"⟩
abbrev cX9_remember : ByteArray := prog_11_method_8_code
def yX9_remember : MethodName := ⟨RX9, "remember", "()V"⟩
abbrev cX9_goBack : ByteArray := prog_11_method_9_code
def yX9_goBack : MethodName := ⟨RX9, "goBack", "()V"⟩
abbrev cX9_passTold : ByteArray := prog_11_method_10_code
def yX9_passTold : MethodName := ⟨RX9, "passTold", "(LSteepleStruck$Moment;II)V"⟩
abbrev cX9_pass : ByteArray := prog_11_method_11_code
def yX9_pass : MethodName := ⟨RX9, "pass", "(LSteepleStruck$Moment;II)V"⟩
abbrev cX9_needOf : ByteArray := prog_11_method_12_code
def yX9_needOf : MethodName := ⟨RX9, "needOf", "(III)I"⟩
abbrev cX9_drawOf : ByteArray := prog_11_method_13_code
def yX9_drawOf : MethodName := ⟨RX9, "drawOf", "(II)I"⟩
abbrev cX9_mayBeHim : ByteArray := prog_11_method_14_code
def yX9_mayBeHim : MethodName := ⟨RX9, "mayBeHim", "(I)Z"⟩
abbrev cX9_struckNow : ByteArray := prog_11_method_15_code
def yX9_struckNow : MethodName := ⟨RX9, "struckNow", "(I)I"⟩
abbrev cX9_stronger : ByteArray := prog_11_method_16_code
def yX9_stronger : MethodName := ⟨RX9, "stronger", "(I)I"⟩
abbrev cX9_fitsSeen : ByteArray := prog_11_method_17_code
def yX9_fitsSeen : MethodName := ⟨RX9, "fitsSeen", "(II)Z"⟩
abbrev cX9_digestOn : ByteArray := prog_11_method_18_code
def yX9_digestOn : MethodName := ⟨RX9, "digestOn", "(J)J"⟩
abbrev cX9_bringParts : ByteArray := prog_11_method_19_code
def yX9_bringParts : MethodName := ⟨RX9, "bringParts", "(LSteepleStruck$Moment;)V"⟩
abbrev cX9_struckIf : ByteArray := prog_11_method_20_code
def yX9_struckIf : MethodName := ⟨RX9, "struckIf", "(ILSteepleStruck$Moment;II)I"⟩
def RX10 : String := "SteepleStruck"
def TX10 : u_T := fun k => match k with
  | 0 => ("SteepleStruck", "here", "LSteepleStruck$Village;", true)
  | 1 => ("SteepleStruck", "draft", "LSteepleStruck$Village;", true)
  | 2 => ("SteepleStruck", "firstImage", "LSteepleStruck$Village;", true)
  | 3 => ("SteepleStruck", "secondImage", "LSteepleStruck$Village;", true)
  | 4 => ("SteepleStruck", "trial", "LSteepleStruck$Moment;", true)
  | 5 => ("SteepleStruck", "ahead", "LSteepleStruck$Row;", true)
  | 6 => ("SteepleStruck", "text", "LSteepleStruck$Text;", true)
  | 7 => ("SteepleStruck", "fraction", "LSteepleStruck$Fraction;", true)
  | 8 => ("SteepleStruck", "orders", "LSteepleStruck$Orders;", true)
  | 9 => ("SteepleStruck", "guesses", "LSteepleStruck$Guesses;", true)
  | 10 => ("SteepleStruck", "bets", "LSteepleStruck$Bets;", true)
  | 11 => ("SteepleStruck", "firstKept", "Z", false)
  | 12 => ("SteepleStruck", "secondKept", "Z", false)
  | 13 => ("SteepleStruck", "badCalls", "I", false)
  | 14 => ("SteepleStruck", "noCalls", "I", false)
  | _ => ("SteepleStruck", "fullCalls", "I", false)
def tyX10 : Nat → FieldType := fun k => match k with
  | 0 => .object "SteepleStruck$Village"
  | 1 => .object "SteepleStruck$Village"
  | 2 => .object "SteepleStruck$Village"
  | 3 => .object "SteepleStruck$Village"
  | 4 => .object "SteepleStruck$Moment"
  | 5 => .object "SteepleStruck$Row"
  | 6 => .object "SteepleStruck$Text"
  | 7 => .object "SteepleStruck$Fraction"
  | 8 => .object "SteepleStruck$Orders"
  | 9 => .object "SteepleStruck$Guesses"
  | 10 => .object "SteepleStruck$Bets"
  | 11 => .boolean
  | 12 => .boolean
  | 13 => .int
  | 14 => .int
  | _ => .int
abbrev wsX100 : List Cond := u_ws RX10 TX10 16
theorem nmX10 : ∀ a, a < 16 → ∀ b, b < 16 → a ≠ b → (TX10 a).2.1 ≠ (TX10 b).2.1 := by decide +kernel
theorem tyX10_ok : ∀ k, k < 16 → parseFieldDescriptor (TX10 k).2.2.1 = some (tyX10 k) := by decide +kernel
abbrev cX10_init : ByteArray := prog_1_method_1_code
def yX10_init : MethodName := ⟨RX10, "<init>", "()V"⟩
abbrev cX10_village : ByteArray := prog_1_method_2_code
def yX10_village : MethodName := ⟨RX10, "village", "()I"⟩
abbrev cX10_storm : ByteArray := prog_1_method_3_code
def yX10_storm : MethodName := ⟨RX10, "storm", "(III)I"⟩
abbrev cX10_thing : ByteArray := prog_1_method_4_code
def yX10_thing : MethodName := ⟨RX10, "thing", "(III)I"⟩
abbrev cX10_body : ByteArray := prog_1_method_5_code
def yX10_body : MethodName := ⟨RX10, "body", "(I)I"⟩
abbrev cX10_type : ByteArray := prog_1_method_6_code
def yX10_type : MethodName := ⟨RX10, "type", "(I)I"⟩
abbrev cX10_clear : ByteArray := prog_1_method_7_code
def yX10_clear : MethodName := ⟨RX10, "clear", "()I"⟩
abbrev cX10_read : ByteArray := prog_1_method_8_code
def yX10_read : MethodName := ⟨RX10, "read", "()I"⟩
abbrev cX10_summers : ByteArray := prog_1_method_9_code
def yX10_summers : MethodName := ⟨RX10, "summers", "(I)I"⟩
abbrev cX10_takes : ByteArray := prog_1_method_10_code
def yX10_takes : MethodName := ⟨RX10, "takes", "(I)I"⟩
abbrev cX10_undo : ByteArray := prog_1_method_11_code
def yX10_undo : MethodName := ⟨RX10, "undo", "()I"⟩
abbrev cX10_of : ByteArray := prog_1_method_12_code
def yX10_of : MethodName := ⟨RX10, "of", "(II)I"⟩
abbrev cX10_about : ByteArray := prog_1_method_13_code
def yX10_about : MethodName := ⟨RX10, "about", "(II)I"⟩
abbrev cX10_weather : ByteArray := prog_1_method_14_code
def yX10_weather : MethodName := ⟨RX10, "weather", "(II)I"⟩
abbrev cX10_draws : ByteArray := prog_1_method_15_code
def yX10_draws : MethodName := ⟨RX10, "draws", "(II)I"⟩
abbrev cX10_struck : ByteArray := prog_1_method_16_code
def yX10_struck : MethodName := ⟨RX10, "struck", "(I)I"⟩
abbrev cX10_then : ByteArray := prog_1_method_17_code
def yX10_then : MethodName := ⟨RX10, "then", "(I)I"⟩
abbrev cX10_when : ByteArray := prog_1_method_18_code
def yX10_when : MethodName := ⟨RX10, "when", "(I)I"⟩
abbrev cX10_whence : ByteArray := prog_1_method_19_code
def yX10_whence : MethodName := ⟨RX10, "whence", "()I"⟩
abbrev cX10_lead : ByteArray := prog_1_method_20_code
def yX10_lead : MethodName := ⟨RX10, "lead", "(I)I"⟩
abbrev cX10_spare : ByteArray := prog_1_method_21_code
def yX10_spare : MethodName := ⟨RX10, "spare", "()I"⟩
abbrev cX10_order : ByteArray := prog_1_method_22_code
def yX10_order : MethodName := ⟨RX10, "order", "(II)I"⟩
abbrev cX10_seen : ByteArray := prog_1_method_23_code
def yX10_seen : MethodName := ⟨RX10, "seen", "(II)I"⟩
abbrev cX10_tall : ByteArray := prog_1_method_24_code
def yX10_tall : MethodName := ⟨RX10, "tall", "(II)I"⟩
abbrev cX10_note : ByteArray := prog_1_method_25_code
def yX10_note : MethodName := ⟨RX10, "note", "(IIIII)I"⟩
abbrev cX10_mark : ByteArray := prog_1_method_26_code
def yX10_mark : MethodName := ⟨RX10, "mark", "(IIII)I"⟩
abbrev cX10_forget : ByteArray := prog_1_method_27_code
def yX10_forget : MethodName := ⟨RX10, "forget", "(I)I"⟩
abbrev cX10_is : ByteArray := prog_1_method_28_code
def yX10_is : MethodName := ⟨RX10, "is", "(I)I"⟩
abbrev cX10_look : ByteArray := prog_1_method_29_code
def yX10_look : MethodName := ⟨RX10, "look", "(I)I"⟩
abbrev cX10_kinds : ByteArray := prog_1_method_30_code
def yX10_kinds : MethodName := ⟨RX10, "kinds", "(I)I"⟩
abbrev cX10_ask : ByteArray := prog_1_method_31_code
def yX10_ask : MethodName := ⟨RX10, "ask", "(I)I"⟩
abbrev cX10_sweep : ByteArray := prog_1_method_32_code
def yX10_sweep : MethodName := ⟨RX10, "sweep", "(II)I"⟩
abbrev cX10_falls : ByteArray := prog_1_method_33_code
def yX10_falls : MethodName := ⟨RX10, "falls", "(II)I"⟩
abbrev cX10_septembers : ByteArray := prog_1_method_34_code
def yX10_septembers : MethodName := ⟨RX10, "septembers", "(II)I"⟩
abbrev cX10_part : ByteArray := prog_1_method_35_code
def yX10_part : MethodName := ⟨RX10, "part", "(I)J"⟩
abbrev cX10_image : ByteArray := prog_1_method_36_code
def yX10_image : MethodName := ⟨RX10, "image", "(I)I"⟩
abbrev cX10_from : ByteArray := prog_1_method_37_code
def yX10_from : MethodName := ⟨RX10, "from", "(I)I"⟩
abbrev cX10_status : ByteArray := prog_1_method_38_code
def yX10_status : MethodName := ⟨RX10, "status", "(I)I"⟩
abbrev cX10_count : ByteArray := prog_1_method_39_code
def yX10_count : MethodName := ⟨RX10, "count", "(I)I"⟩
abbrev cX10_digest : ByteArray := prog_1_method_40_code
def yX10_digest : MethodName := ⟨RX10, "digest", "()J"⟩
abbrev cX10_refuseBad : ByteArray := prog_1_method_41_code
def yX10_refuseBad : MethodName := ⟨RX10, "refuseBad", "()I"⟩
abbrev cX10_refuseBadTen : ByteArray := prog_1_method_42_code
def yX10_refuseBadTen : MethodName := ⟨RX10, "refuseBadTen", "()I"⟩
abbrev cX10_refuseNo : ByteArray := prog_1_method_43_code
def yX10_refuseNo : MethodName := ⟨RX10, "refuseNo", "()I"⟩
abbrev cX10_refuseFull : ByteArray := prog_1_method_44_code
def yX10_refuseFull : MethodName := ⟨RX10, "refuseFull", "()I"⟩
abbrev cX10_within : ByteArray := prog_1_method_45_code
def yX10_within : MethodName := ⟨RX10, "within", "(III)Z"⟩
abbrev cX10_isCell : ByteArray := prog_1_method_46_code
def yX10_isCell : MethodName := ⟨RX10, "isCell", "(I)Z"⟩
abbrev cX10_isStorm : ByteArray := prog_1_method_47_code
def yX10_isStorm : MethodName := ⟨RX10, "isStorm", "(I)Z"⟩
abbrev cX10_isKind : ByteArray := prog_1_method_48_code
def yX10_isKind : MethodName := ⟨RX10, "isKind", "(I)Z"⟩
abbrev cX10_isHeight : ByteArray := prog_1_method_49_code
def yX10_isHeight : MethodName := ⟨RX10, "isHeight", "(I)Z"⟩
abbrev cX10_isThing : ByteArray := prog_1_method_50_code
def yX10_isThing : MethodName := ⟨RX10, "isThing", "(I)Z"⟩
abbrev cX10_isPart : ByteArray := prog_1_method_51_code
def yX10_isPart : MethodName := ⟨RX10, "isPart", "(I)Z"⟩
abbrev cX10_imageAt : ByteArray := prog_1_method_52_code
def yX10_imageAt : MethodName := ⟨RX10, "imageAt", "(I)LSteepleStruck$Village;"⟩
abbrev cX10_forgetAll : ByteArray := prog_1_method_53_code
def yX10_forgetAll : MethodName := ⟨RX10, "forgetAll", "(LSteepleStruck$Table;)I"⟩
abbrev cX10_isSparedBy : ByteArray := prog_1_method_54_code
def yX10_isSparedBy : MethodName := ⟨RX10, "isSparedBy", "(I)Z"⟩
abbrev cX10_summersUntil : ByteArray := prog_1_method_55_code
def yX10_summersUntil : MethodName := ⟨RX10, "summersUntil", "(I)I"⟩
abbrev cX10_countOf : ByteArray := prog_1_method_56_code
def yX10_countOf : MethodName := ⟨RX10, "countOf", "(I)I"⟩
def RX11 : String := "SteepleStruckModel"
def TX11 : u_T := fun k => match k with
  | 0 => ("SteepleStruckModel", "all", "[I", true)
  | 1 => ("SteepleStruckModel", "kept", "[I", true)
  | 2 => ("SteepleStruckModel", "isKept", "[Z", true)
  | 3 => ("SteepleStruckModel", "refused", "[I", true)
  | 4 => ("SteepleStruckModel", "above", "J", false)
  | 5 => ("SteepleStruckModel", "below", "J", false)
  | 6 => ("SteepleStruckModel", "hand", "[I", true)
  | 7 => ("SteepleStruckModel", "missing", "[I", true)
  | 8 => ("SteepleStruckModel", "order0", "[I", true)
  | 9 => ("SteepleStruckModel", "bestOrder", "[I", true)
  | 10 => ("SteepleStruckModel", "tells", "[I", true)
  | 11 => ("SteepleStruckModel", "bytes", "[I", true)
  | 12 => ("SteepleStruckModel", "bytesLong", "I", false)
  | 13 => ("SteepleStruckModel", "tokenAt", "I", false)
  | 14 => ("SteepleStruckModel", "tokenLong", "I", false)
  | 15 => ("SteepleStruckModel", "token", "I", false)
  | 16 => ("SteepleStruckModel", "value", "I", false)
  | 17 => ("SteepleStruckModel", "anew", "[I", true)
  | _ => ("SteepleStruckModel", "values", "[I", true)
def tyX11 : Nat → FieldType := fun k => match k with
  | 0 => .array .int
  | 1 => .array .int
  | 2 => .array .boolean
  | 3 => .array .int
  | 4 => .long
  | 5 => .long
  | 6 => .array .int
  | 7 => .array .int
  | 8 => .array .int
  | 9 => .array .int
  | 10 => .array .int
  | 11 => .array .int
  | 12 => .int
  | 13 => .int
  | 14 => .int
  | 15 => .int
  | 16 => .int
  | 17 => .array .int
  | _ => .array .int
abbrev wsX110 : List Cond := u_ws RX11 TX11 19
theorem nmX11 : ∀ a, a < 19 → ∀ b, b < 19 → a ≠ b → (TX11 a).2.1 ≠ (TX11 b).2.1 := by decide +kernel
theorem tyX11_ok : ∀ k, k < 19 → parseFieldDescriptor (TX11 k).2.2.1 = some (tyX11 k) := by decide +kernel
abbrev cX11_init : ByteArray := prog_13_method_1_code
def yX11_init : MethodName := ⟨RX11, "<init>", "()V"⟩
abbrev cX11_in : ByteArray := prog_13_method_3_code
def yX11_in : MethodName := ⟨RX11, "in", "(JJJ)Z"⟩
abbrev cX11_bad : ByteArray := prog_13_method_4_code
def yX11_bad : MethodName := ⟨RX11, "bad", "(I)I"⟩
abbrev cX11_no : ByteArray := prog_13_method_5_code
def yX11_no : MethodName := ⟨RX11, "no", "()I"⟩
abbrev cX11_full : ByteArray := prog_13_method_6_code
def yX11_full : MethodName := ⟨RX11, "full", "()I"⟩
abbrev cX11_has : ByteArray := prog_13_method_7_code
def yX11_has : MethodName := ⟨RX11, "has", "(II)Z"⟩
abbrev cX11_bits : ByteArray := prog_13_method_8_code
def yX11_bits : MethodName := ⟨RX11, "bits", "(I)I"⟩
abbrev cX11_begin : ByteArray := prog_13_method_9_code
def yX11_begin : MethodName := ⟨RX11, "begin", "([I)V"⟩
abbrev cX11_many : ByteArray := prog_13_method_10_code
def yX11_many : MethodName := ⟨RX11, "many", "()I"⟩
abbrev cX11_isThing : ByteArray := prog_13_method_11_code
def yX11_isThing : MethodName := ⟨RX11, "isThing", "(I)Z"⟩
abbrev cX11_isPart : ByteArray := prog_13_method_12_code
def yX11_isPart : MethodName := ⟨RX11, "isPart", "(I)Z"⟩
abbrev cX11_isCell : ByteArray := prog_13_method_13_code
def yX11_isCell : MethodName := ⟨RX11, "isCell", "(I)Z"⟩
abbrev cX11_isKind : ByteArray := prog_13_method_14_code
def yX11_isKind : MethodName := ⟨RX11, "isKind", "(I)Z"⟩
abbrev cX11_village : ByteArray := prog_13_method_15_code
def yX11_village : MethodName := ⟨RX11, "village", "()I"⟩
abbrev cX11_storm : ByteArray := prog_13_method_16_code
def yX11_storm : MethodName := ⟨RX11, "storm", "(III)I"⟩
abbrev cX11_layThing : ByteArray := prog_13_method_17_code
def yX11_layThing : MethodName := ⟨RX11, "layThing", "([IIII)V"⟩
abbrev cX11_thing : ByteArray := prog_13_method_18_code
def yX11_thing : MethodName := ⟨RX11, "thing", "(III)I"⟩
abbrev cX11_body : ByteArray := prog_13_method_19_code
def yX11_body : MethodName := ⟨RX11, "body", "(I)I"⟩
abbrev cX11_drawsAs : ByteArray := prog_13_method_20_code
def yX11_drawsAs : MethodName := ⟨RX11, "drawsAs", "(IIII)I"⟩
abbrev cX11_needsAs : ByteArray := prog_13_method_21_code
def yX11_needsAs : MethodName := ⟨RX11, "needsAs", "(III)I"⟩
abbrev cX11_drawsFrom : ByteArray := prog_13_method_22_code
def yX11_drawsFrom : MethodName := ⟨RX11, "drawsFrom", "([III)I"⟩
abbrev cX11_struckOf : ByteArray := prog_13_method_23_code
def yX11_struckOf : MethodName := ⟨RX11, "struckOf", "([III)I"⟩
abbrev cX11_firstOf : ByteArray := prog_13_method_24_code
def yX11_firstOf : MethodName := ⟨RX11, "firstOf", "([I)I"⟩
abbrev cX11_goParts : ByteArray := prog_13_method_25_code
def yX11_goParts : MethodName := ⟨RX11, "goParts", "([I)V"⟩
abbrev cX11_goSummer : ByteArray := prog_13_method_26_code
def yX11_goSummer : MethodName := ⟨RX11, "goSummer", "([III)V"⟩
abbrev cX11_goTold : ByteArray := prog_13_method_27_code
def yX11_goTold : MethodName := ⟨RX11, "goTold", "([I)V"⟩
abbrev cX11_goSummers : ByteArray := prog_13_method_28_code
def yX11_goSummers : MethodName := ⟨RX11, "goSummers", "([II)V"⟩
abbrev cX11_save : ByteArray := prog_13_method_29_code
def yX11_save : MethodName := ⟨RX11, "save", "()V"⟩
abbrev cX11_summers : ByteArray := prog_13_method_30_code
def yX11_summers : MethodName := ⟨RX11, "summers", "(I)I"⟩
abbrev cX11_takes : ByteArray := prog_13_method_31_code
def yX11_takes : MethodName := ⟨RX11, "takes", "(I)I"⟩
abbrev cX11_undo : ByteArray := prog_13_method_32_code
def yX11_undo : MethodName := ⟨RX11, "undo", "()I"⟩
abbrev cX11_of : ByteArray := prog_13_method_33_code
def yX11_of : MethodName := ⟨RX11, "of", "(II)I"⟩
abbrev cX11_about : ByteArray := prog_13_method_34_code
def yX11_about : MethodName := ⟨RX11, "about", "(II)I"⟩
abbrev cX11_weather : ByteArray := prog_13_method_35_code
def yX11_weather : MethodName := ⟨RX11, "weather", "(II)I"⟩
abbrev cX11_draws : ByteArray := prog_13_method_36_code
def yX11_draws : MethodName := ⟨RX11, "draws", "(II)I"⟩
abbrev cX11_struck : ByteArray := prog_13_method_37_code
def yX11_struck : MethodName := ⟨RX11, "struck", "(I)I"⟩
abbrev cX11_layHand : ByteArray := prog_13_method_38_code
def yX11_layHand : MethodName := ⟨RX11, "layHand", "()V"⟩
abbrev cX11_then : ByteArray := prog_13_method_39_code
def yX11_then : MethodName := ⟨RX11, "then", "(I)I"⟩
abbrev cX11_whenOf : ByteArray := prog_13_method_40_code
def yX11_whenOf : MethodName := ⟨RX11, "whenOf", "(I)I"⟩
abbrev cX11_when : ByteArray := prog_13_method_41_code
def yX11_when : MethodName := ⟨RX11, "when", "(I)I"⟩
abbrev cX11_cellsBy : ByteArray := prog_13_method_42_code
def yX11_cellsBy : MethodName := ⟨RX11, "cellsBy", "(I)I"⟩
abbrev cX11_whence : ByteArray := prog_13_method_43_code
def yX11_whence : MethodName := ⟨RX11, "whence", "()I"⟩
abbrev cX11_lead : ByteArray := prog_13_method_44_code
def yX11_lead : MethodName := ⟨RX11, "lead", "(I)I"⟩
abbrev cX11_spare : ByteArray := prog_13_method_45_code
def yX11_spare : MethodName := ⟨RX11, "spare", "()I"⟩
abbrev cX11_layMissing : ByteArray := prog_13_method_46_code
def yX11_layMissing : MethodName := ⟨RX11, "layMissing", "()I"⟩
abbrev cX11_layOrder : ByteArray := prog_13_method_47_code
def yX11_layOrder : MethodName := ⟨RX11, "layOrder", "(II)V"⟩
abbrev cX11_comeBy : ByteArray := prog_13_method_48_code
def yX11_comeBy : MethodName := ⟨RX11, "comeBy", "(II)I"⟩
abbrev cX11_order : ByteArray := prog_13_method_49_code
def yX11_order : MethodName := ⟨RX11, "order", "(II)I"⟩
abbrev cX11_seen : ByteArray := prog_13_method_50_code
def yX11_seen : MethodName := ⟨RX11, "seen", "(II)I"⟩
abbrev cX11_isSeenBy : ByteArray := prog_13_method_51_code
def yX11_isSeenBy : MethodName := ⟨RX11, "isSeenBy", "(II)Z"⟩
abbrev cX11_tall : ByteArray := prog_13_method_52_code
def yX11_tall : MethodName := ⟨RX11, "tall", "(II)I"⟩
abbrev cX11_note : ByteArray := prog_13_method_53_code
def yX11_note : MethodName := ⟨RX11, "note", "(IIIII)I"⟩
abbrev cX11_mark : ByteArray := prog_13_method_54_code
def yX11_mark : MethodName := ⟨RX11, "mark", "(IIII)I"⟩
abbrev cX11_forget : ByteArray := prog_13_method_55_code
def yX11_forget : MethodName := ⟨RX11, "forget", "(I)I"⟩
abbrev cX11_kindsOfThing : ByteArray := prog_13_method_56_code
def yX11_kindsOfThing : MethodName := ⟨RX11, "kindsOfThing", "(I)I"⟩
abbrev cX11_kindsOfPart : ByteArray := prog_13_method_57_code
def yX11_kindsOfPart : MethodName := ⟨RX11, "kindsOfPart", "(I)I"⟩
abbrev cX11_mostAlike : ByteArray := prog_13_method_58_code
def yX11_mostAlike : MethodName := ⟨RX11, "mostAlike", "(I)I"⟩
abbrev cX11_is : ByteArray := prog_13_method_59_code
def yX11_is : MethodName := ⟨RX11, "is", "(I)I"⟩
abbrev cX11_look : ByteArray := prog_13_method_60_code
def yX11_look : MethodName := ⟨RX11, "look", "(I)I"⟩
abbrev cX11_kinds : ByteArray := prog_13_method_61_code
def yX11_kinds : MethodName := ⟨RX11, "kinds", "(I)I"⟩
abbrev cX11_ask : ByteArray := prog_13_method_62_code
def yX11_ask : MethodName := ⟨RX11, "ask", "(I)I"⟩
abbrev cX11_off : ByteArray := prog_13_method_63_code
def yX11_off : MethodName := ⟨RX11, "off", "(II)I"⟩
abbrev cX11_getsBy : ByteArray := prog_13_method_64_code
def yX11_getsBy : MethodName := ⟨RX11, "getsBy", "(III)I"⟩
abbrev cX11_isBest : ByteArray := prog_13_method_65_code
def yX11_isBest : MethodName := ⟨RX11, "isBest", "(III)Z"⟩
abbrev cX11_sweep : ByteArray := prog_13_method_66_code
def yX11_sweep : MethodName := ⟨RX11, "sweep", "(II)I"⟩
abbrev cX11_fraction : ByteArray := prog_13_method_67_code
def yX11_fraction : MethodName := ⟨RX11, "fraction", "(JJ)V"⟩
abbrev cX11_falls : ByteArray := prog_13_method_68_code
def yX11_falls : MethodName := ⟨RX11, "falls", "(II)I"⟩
abbrev cX11_septembers : ByteArray := prog_13_method_69_code
def yX11_septembers : MethodName := ⟨RX11, "septembers", "(II)I"⟩
abbrev cX11_type : ByteArray := prog_13_method_70_code
def yX11_type : MethodName := ⟨RX11, "type", "(I)I"⟩
abbrev cX11_clear : ByteArray := prog_13_method_71_code
def yX11_clear : MethodName := ⟨RX11, "clear", "()I"⟩
abbrev cX11_isSmall : ByteArray := prog_13_method_72_code
def yX11_isSmall : MethodName := ⟨RX11, "isSmall", "(I)Z"⟩
abbrev cX11_isFigure : ByteArray := prog_13_method_73_code
def yX11_isFigure : MethodName := ⟨RX11, "isFigure", "(I)Z"⟩
abbrev cX11_lookAt : ByteArray := prog_13_method_74_code
def yX11_lookAt : MethodName := ⟨RX11, "lookAt", "(I)V"⟩
abbrev cX11_goBehind : ByteArray := prog_13_method_75_code
def yX11_goBehind : MethodName := ⟨RX11, "goBehind", "()V"⟩
abbrev cX11_spells : ByteArray := prog_13_method_76_code
def yX11_spells : MethodName := ⟨RX11, "spells", "(IIIIIII)Z"⟩
abbrev cX11_gives : ByteArray := prog_13_method_77_code
def yX11_gives : MethodName := ⟨RX11, "gives", "(III)Z"⟩
abbrev cX11_givesStorm : ByteArray := prog_13_method_78_code
def yX11_givesStorm : MethodName := ⟨RX11, "givesStorm", "()Z"⟩
abbrev cX11_givesThing : ByteArray := prog_13_method_79_code
def yX11_givesThing : MethodName := ⟨RX11, "givesThing", "()Z"⟩
abbrev cX11_givesPart : ByteArray := prog_13_method_80_code
def yX11_givesPart : MethodName := ⟨RX11, "givesPart", "()Z"⟩
abbrev cX11_givesTake : ByteArray := prog_13_method_81_code
def yX11_givesTake : MethodName := ⟨RX11, "givesTake", "()Z"⟩
abbrev cX11_givesSummers : ByteArray := prog_13_method_82_code
def yX11_givesSummers : MethodName := ⟨RX11, "givesSummers", "()Z"⟩
abbrev cX11_spellsSeven : ByteArray := prog_13_method_83_code
def yX11_spellsSeven : MethodName := ⟨RX11, "spellsSeven", "(IIIIIII)Z"⟩
abbrev cX11_givesItem : ByteArray := prog_13_method_84_code
def yX11_givesItem : MethodName := ⟨RX11, "givesItem", "()Z"⟩
abbrev cX11_read : ByteArray := prog_13_method_85_code
def yX11_read : MethodName := ⟨RX11, "read", "()I"⟩
abbrev cX11_part : ByteArray := prog_13_method_86_code
def yX11_part : MethodName := ⟨RX11, "part", "(I)J"⟩
abbrev cX11_image : ByteArray := prog_13_method_87_code
def yX11_image : MethodName := ⟨RX11, "image", "(I)I"⟩
abbrev cX11_from : ByteArray := prog_13_method_88_code
def yX11_from : MethodName := ⟨RX11, "from", "(I)I"⟩
abbrev cX11_status : ByteArray := prog_13_method_89_code
def yX11_status : MethodName := ⟨RX11, "status", "(I)I"⟩
abbrev cX11_counted : ByteArray := prog_13_method_90_code
def yX11_counted : MethodName := ⟨RX11, "counted", "(I)I"⟩
abbrev cX11_count : ByteArray := prog_13_method_91_code
def yX11_count : MethodName := ⟨RX11, "count", "(I)I"⟩
abbrev cX11_sums : ByteArray := prog_13_method_92_code
def yX11_sums : MethodName := ⟨RX11, "sums", "(JII)J"⟩
abbrev cX11_digest : ByteArray := prog_13_method_93_code
def yX11_digest : MethodName := ⟨RX11, "digest", "()J"⟩
def RJ6 : String := "java/lang/Integer"
def TJ6 : u_T := fun k => match k with
  | _ => ("", "", "", false)
def tyJ6 : Nat → FieldType := fun k => match k with
  | _ => .int
abbrev wsJ60 : List Cond := u_ws RJ6 TJ6 0
theorem nmJ6 : ∀ a, a < 0 → ∀ b, b < 0 → a ≠ b → (TJ6 a).2.1 ≠ (TJ6 b).2.1 := by decide +kernel
theorem tyJ6_ok : ∀ k, k < 0 → parseFieldDescriptor (TJ6 k).2.2.1 = some (tyJ6 k) := by decide +kernel
abbrev cJ6_bitCount_0f7a4 : ByteArray := prog_14_method_49_code
def yJ6_bitCount_0f7a4 : MethodName := ⟨RJ6, "bitCount", "(I)I"⟩
def RJ9 : String := "java/lang/Math"
def TJ9 : u_T := fun k => match k with
  | _ => ("", "", "", false)
def tyJ9 : Nat → FieldType := fun k => match k with
  | _ => .int
abbrev wsJ90 : List Cond := u_ws RJ9 TJ9 0
theorem nmJ9 : ∀ a, a < 0 → ∀ b, b < 0 → a ≠ b → (TJ9 a).2.1 ≠ (TJ9 b).2.1 := by decide +kernel
theorem tyJ9_ok : ∀ k, k < 0 → parseFieldDescriptor (TJ9 k).2.2.1 = some (tyJ9 k) := by decide +kernel
abbrev cJ9_abs_0f7a4 : ByteArray := prog_15_method_59_code
def yJ9_abs_0f7a4 : MethodName := ⟨RJ9, "abs", "(I)I"⟩
abbrev cJ9_max_7cf53 : ByteArray := prog_15_method_65_code
def yJ9_max_7cf53 : MethodName := ⟨RJ9, "max", "(II)I"⟩
abbrev cJ9_min_7cf53 : ByteArray := prog_15_method_69_code
def yJ9_min_7cf53 : MethodName := ⟨RJ9, "min", "(II)I"⟩
def RJ0 : String := "java/lang/String"
def TJ0 : u_T := fun k => match k with
  | _ => ("", "", "", false)
def tyJ0 : Nat → FieldType := fun k => match k with
  | _ => .int
abbrev wsJ00 : List Cond := u_ws RJ0 TJ0 0
theorem nmJ0 : ∀ a, a < 0 → ∀ b, b < 0 → a ≠ b → (TJ0 a).2.1 ≠ (TJ0 b).2.1 := by decide +kernel
theorem tyJ0_ok : ∀ k, k < 0 → parseFieldDescriptor (TJ0 k).2.2.1 = some (tyJ0 k) := by decide +kernel
abbrev cJ0_length_8abf5 : ByteArray := prog_16_method_54_code
def yJ0_length_8abf5 : MethodName := ⟨RJ0, "length", "()I"⟩
abbrev cJ0_charAt_5068e : ByteArray := prog_16_method_56_code
def yJ0_charAt_5068e : MethodName := ⟨RJ0, "charAt", "(I)C"⟩
abbrev cJ0_coder_7d493 : ByteArray := prog_16_method_152_code
def yJ0_coder_7d493 : MethodName := ⟨RJ0, "coder", "()B"⟩
abbrev cJ0_isLatin1_aae02 : ByteArray := prog_16_method_154_code
def yJ0_isLatin1_aae02 : MethodName := ⟨RJ0, "isLatin1", "()Z"⟩
abbrev cJ0_checkIndex_df160 : ByteArray := prog_16_method_155_code
def yJ0_checkIndex_df160 : MethodName := ⟨RJ0, "checkIndex", "(II)V"⟩
def RJ1 : String := "java/lang/StringLatin1"
def TJ1 : u_T := fun k => match k with
  | _ => ("", "", "", false)
def tyJ1 : Nat → FieldType := fun k => match k with
  | _ => .int
abbrev wsJ10 : List Cond := u_ws RJ1 TJ1 0
theorem nmJ1 : ∀ a, a < 0 → ∀ b, b < 0 → a ≠ b → (TJ1 a).2.1 ≠ (TJ1 b).2.1 := by decide +kernel
theorem tyJ1_ok : ∀ k, k < 0 → parseFieldDescriptor (TJ1 k).2.2.1 = some (tyJ1 k) := by decide +kernel
abbrev cJ1_charAt_3b067 : ByteArray := prog_17_method_2_code
def yJ1_charAt_3b067 : MethodName := ⟨RJ1, "charAt", "([BI)C"⟩
def RJ2 : String := "java/lang/StringUTF16"
def TJ2 : u_T := fun k => match k with
  | _ => ("", "", "", false)
def tyJ2 : Nat → FieldType := fun k => match k with
  | _ => .int
abbrev wsJ20 : List Cond := u_ws RJ2 TJ2 0
theorem nmJ2 : ∀ a, a < 0 → ∀ b, b < 0 → a ≠ b → (TJ2 a).2.1 ≠ (TJ2 b).2.1 := by decide +kernel
theorem tyJ2_ok : ∀ k, k < 0 → parseFieldDescriptor (TJ2 k).2.2.1 = some (tyJ2 k) := by decide +kernel
abbrev cJ2_getChar_3b067 : ByteArray := prog_18_method_5_code
def yJ2_getChar_3b067 : MethodName := ⟨RJ2, "getChar", "([BI)C"⟩
abbrev cJ2_length_9d52b : ByteArray := prog_18_method_6_code
def yJ2_length_9d52b : MethodName := ⟨RJ2, "length", "([B)I"⟩
abbrev cJ2_charAt_3b067 : ByteArray := prog_18_method_83_code
def yJ2_charAt_3b067 : MethodName := ⟨RJ2, "charAt", "([BI)C"⟩
abbrev cJ2_checkIndex_2214a : ByteArray := prog_18_method_91_code
def yJ2_checkIndex_2214a : MethodName := ⟨RJ2, "checkIndex", "(I[B)V"⟩
def RJ3 : String := "jdk/internal/util/Preconditions"
def TJ3 : u_T := fun k => match k with
  | _ => ("", "", "", false)
def tyJ3 : Nat → FieldType := fun k => match k with
  | _ => .int
abbrev wsJ30 : List Cond := u_ws RJ3 TJ3 0
theorem nmJ3 : ∀ a, a < 0 → ∀ b, b < 0 → a ≠ b → (TJ3 a).2.1 ≠ (TJ3 b).2.1 := by decide +kernel
theorem tyJ3_ok : ∀ k, k < 0 → parseFieldDescriptor (TJ3 k).2.2.1 = some (tyJ3 k) := by decide +kernel
abbrev cJ3_checkIndex_8e157 : ByteArray := prog_19_method_11_code
def yJ3_checkIndex_8e157 : MethodName := ⟨RJ3, "checkIndex", "(IILjava/util/function/BiFunction;)I"⟩
def RL : String := "SteepleStruckLaw"
abbrev cL_law : ByteArray := code
def yL_law : MethodName := ⟨RL, "law", "([I)Z"⟩
end
section
/-! THE MACHINE LIFTED: the cells of class and reference as one memory of numbers, methods as runs over it -/
abbrev AV : Type := Int32 ⊕ (Int64 ⊕ (Nat × Nat))
abbrev ai (x : Int32) : AV := .inl x
abbrev al (x : Int64) : AV := .inr (.inl x)
abbrev ar (c k : Nat) : AV := .inr (.inr (c, k))
abbrev Mem : Type := (Nat → Nat → Nat → Int32) × (Nat → Nat → Nat → Int64)
abbrev AdT : Type := Nat → Nat → Nat
def cv (ad : AdT) : AV → Value
  | .inl x => .int x
  | .inr (.inl x) => .long x
  | .inr (.inr q) => .ref (ad q.1 q.2)
abbrev MI : Type := MethodName × ByteArray × Nat × Option FieldType × Nat × Nat
/-- how many cells of a kind: objects by class, 20 rows of tables, 21 of Row, 22 of the reference; 12 texts, 23 their bytes, 24 the script -/
def cnt : Nat → Nat
  | 0 => 1 | 1 => 1 | 2 => 1 | 3 => 0 | 4 => 5 | 5 => 1 | 6 => 8 | 7 => 28 | 8 => 1 | 9 => 4 | 10 => 1 | 11 => 1
  | 12 => 6 | 20 => 28 | 21 => 8 | 22 => 12 | 23 => 6 | 24 => 1
  | _ => 0
def kds : List Nat := [0, 1, 2, 3, 4, 5, 6, 7, 8, 9, 10, 11, 20, 21, 22]
def ix : List (Nat × Nat) := kds.flatMap fun c => (List.range (cnt c)).map fun k => (c, k)
def alen : Nat → Nat → Nat
  | 20, k => [12, 18, 6, 10, 30, 24, 32].getD (k % 7) 0
  | 21, k => [12, 150, 3, 64, 64, 6, 6, 10].getD k 0
  | _, k => [142, 284, 2, 3, 46, 6, 6, 6, 6, 150, 110, 3].getD k 0
def nf : Nat → Nat
  | 0 => 2 | 1 => 2 | 2 => 1 | 3 => 0 | 4 => 4 | 5 => 5 | 6 => 1 | 7 => 4 | 8 => 7 | 9 => 8 | 10 => 16 | 11 => 19
  | _ => 0
def favW (x : Int32) (l : Int64) (c k j : Nat) : AV := match c with
  | 0 => match j with
    | 0 => ar 6 7
    | _ => ai x
  | 1 => al l
  | 2 => ar 6 6
  | 5 => match j with
    | 0 => ar 6 3
    | 1 => ar 6 4
    | 2 => ar 6 5
    | _ => ai x
  | 6 => ar 21 k
  | 7 => match j with
    | 2 => ar 20 k
    | _ => ai x
  | 8 => match j with
    | 0 => ar 6 1
    | 1 => ar 6 2
    | _ => ai x
  | 9 => match j with
    | 0 => ar 7 (7 * k)
    | 1 => ar 7 (7 * k + 1)
    | 2 => ar 7 (7 * k + 2)
    | 3 => ar 7 (7 * k + 3)
    | 4 => ar 7 (7 * k + 4)
    | 5 => ar 7 (7 * k + 5)
    | 6 => ar 7 (7 * k + 6)
    | _ => ar 4 k
  | 10 => match j with
    | 0 => ar 9 0
    | 1 => ar 9 1
    | 2 => ar 9 2
    | 3 => ar 9 3
    | 4 => ar 4 4
    | 5 => ar 6 0
    | 6 => ar 8 0
    | 7 => ar 1 0
    | 8 => ar 5 0
    | 9 => ar 2 0
    | 10 => ar 0 0
    | _ => ai x
  | 11 => match j with
    | 0 => ar 22 0
    | 1 => ar 22 1
    | 2 => ar 22 2
    | 3 => ar 22 3
    | 4 => al l
    | 5 => al l
    | 6 => ar 22 4
    | 7 => ar 22 5
    | 8 => ar 22 6
    | 9 => ar 22 7
    | 10 => ar 22 8
    | 11 => ar 22 9
    | 17 => ar 22 10
    | 18 => ar 22 11
    | _ => ai x
  | _ => ai x
def fav (σ : Mem) (c k j : Nat) : AV := favW (σ.1 c k j) (σ.2 c k j) c k j
abbrev classes : List vw_C := [(RX0, TX0, 2), (RX1, TX1, 2), (RX2, TX2, 1), (RX3, TX3, 0), (RX4, TX4, 4), (RX5, TX5, 5), (RX6, TX6, 1), (RX7, TX7, 4), (RX8, TX8, 7), (RX9, TX9, 8), (RX10, TX10, 16), (RX11, TX11, 19)]
/-- the classes' and the arrays' numbers, the addresses, the script -/
abbrev Kx : Type := va_G × (ClassId × ClassId) × AdT × (Nat → Int32) × Nat × List (Nat × Nat)
abbrev Klx (X : Kx) : List (Nat × Nat) := X.2.2.2.2.2
abbrev Kad (X : Kx) : AdT := X.2.2.1
def acell (X : Kx) (σ : Mem) (c k : Nat) : va_E :=
  if c < 12 then .inr (c, (List.range (nf c)).map fun j => cv (Kad X) (fav σ c k j))
  else .inl (if c = 22 ∧ k = 2 then X.2.1.2 else X.2.1.1, alen c k, .inl (σ.1 c k))
def wl (X : Kx) (σ : Mem) : va_W := (Klx X).map fun q => (Kad X q.1 q.2, acell X σ q.1 q.2)
def Wd (X : Kx) (σ : Mem) (H : Heap) : Prop := va_P X.1 classes (wl X σ) H ∧ σ.1 24 0 = X.2.2.2.1 ∧ σ.1 24 1 0 = nI X.2.2.2.2.1
def Wa (X : Kx) : Nat → Prop := fun a => ∃ q ∈ Klx X, a = Kad X q.1 q.2
def Ap (X : Kx) : Prop := ∀ q ∈ Klx X, ∀ r ∈ Klx X, Kad X q.1 q.2 = Kad X r.1 r.2 → q = r
abbrev atys (X : Kx) : List (ClassId × FieldType) := [(X.2.1.1, .int), (X.2.1.2, .boolean)]
def lenJS : List Nat := [7, 5, 5, 4, 4, 7]
def bytJS : List (List Int32) := [[118, 105, 108, 108, 97, 103, 101], [115, 116, 111, 114, 109], [116, 104, 105, 110, 103], [112, 97, 114, 116], [116, 97, 107, 101], [115, 117, 109, 109, 101, 114, 115]]
def txtJS : List String := ["village", "storm", "thing", "part", "take", "summers"]
/-- the words of the tables that every method may hand on -/
def gt : List Cond := lw_tbl.filter goodWord
theorem gt_in {w : Cond} (h : w ∈ lw_tbl) (hg : goodWord w = true) : w ∈ gt := List.mem_filter.mpr ⟨h, hg⟩
def SX (X : Kx) (A : Nat → Prop) (s : State) (H : Heap) : Prop := vk_S 6 lenJS bytJS (Kad X 12) (Kad X 23) A s H ∧ (va_Z "java/lang/String" "COMPACT_STRINGS" "Z" (.int 1) A s H ∧ va_Zq "jdk/internal/util/Preconditions" "SIOOBE_FORMATTER" "Ljava/util/function/BiFunction;" A s H) ∧ (∀ i, i < 6 → vk_R RX8 (138 + 2 * i) (txtJS.getD i "") (Kad X 12 i) s) ∧ va_Nw (.methodLinkNest RX8 88 yX10_within "SteepleStruck") s
def okA (X : Kx) : AV → Prop
  | .inr (.inr q) => if q.1 ∈ kds then q ∈ Klx X else q.2 < cnt q.1
  | _ => True
/-- the cells that are there: of our kinds, each once, and what they refer to is there -/
def Cl (X : Kx) : Prop := (∀ q ∈ Klx X, q.1 ∈ kds) ∧ (Klx X).Nodup ∧ ∀ q ∈ Klx X, ∀ (x : Int32) (l : Int64) (j : Nat), okA X (favW x l q.1 q.2 j)
def okS (X : Kx) (st : List AV) : Prop := ∀ a ∈ st, okA X a
def okL (X : Kx) (L : List (Option AV)) : Prop := ∀ a, some a ∈ L → okA X a
theorem okS.tl {X : Kx} {a : AV} {st : List AV} (h : okS X (a :: st)) : okS X st := fun b hb => h b (List.mem_cons_of_mem _ hb)
theorem okS.hd {X : Kx} {a : AV} {st : List AV} (h : okS X (a :: st)) : okA X a := h a List.mem_cons_self
theorem okS.cons {X : Kx} {a : AV} {st : List AV} (ha : okA X a) (h : okS X st) : okS X (a :: st) := fun b hb => (List.mem_cons.mp hb).elim (fun e => e ▸ ha) (h b)
theorem okS.i {X : Kx} {x : Int32} {st : List AV} (h : okS X st) : okS X (.inl x :: st) := okS.cons trivial h
theorem okS.l {X : Kx} {x : Int64} {st : List AV} (h : okS X st) : okS X (.inr (.inl x) :: st) := okS.cons trivial h
theorem okL.at {X : Kx} {L : List (Option AV)} {i : Nat} {a : AV} (h : okL X L) (hl : L[i]? = some (some a)) : okA X a := h a (List.mem_of_getElem? hl)
theorem okL.set {X : Kx} {L : List (Option AV)} {i : Nat} {a : AV} (h : okL X L) (ha : okA X a) : okL X (L.set i (some a)) := by
  intro b hb
  rcases List.mem_or_eq_of_mem_set hb with h1 | h1
  · exact h b h1
  · cases h1; exact ha
theorem okL.unset {X : Kx} {L : List (Option AV)} {i : Nat} (h : okL X L) : okL X (L.set i none) := by
  intro b hb
  rcases List.mem_or_eq_of_mem_set hb with h1 | h1
  · exact h b h1
  · cases h1
theorem okA.in {X : Kx} {c k : Nat} (h : okA X (.inr (.inr (c, k)))) (hc : c ∈ kds) : (c, k) ∈ Klx X := by
  simp only [okA, hc, if_true] at h
  exact h
/-! the locals -/
def lvR (ad : AdT) (ls : Array Slot) (n : Nat) (L : List (Option AV)) : Prop := ls.size = n ∧ lv_wf ls ∧ ∀ (i : Nat) (a : AV), L[i]? = some (some a) → ls[i]? = some (.val (cv ad a))
def asc (ad : AdT) (L : List (Option AV)) : List (Nat × Value) := (List.range L.length).filterMap fun i => ((L[i]?).getD none).map fun a => (i, cv ad a)
theorem asc_mem {ad : AdT} {L : List (Option AV)} {q : Nat × Value} : q ∈ asc ad L ↔ ∃ a, L[q.1]? = some (some a) ∧ q.2 = cv ad a := by
  constructor
  · intro h
    obtain ⟨i, hi, h2⟩ := List.mem_filterMap.mp h
    cases hl : L[i]? with
    | none => rw [hl] at h2; cases h2
    | some o =>
      rw [hl] at h2
      cases o with
      | none => cases h2
      | some a =>
        cases h2
        exact ⟨a, hl, rfl⟩
  · rintro ⟨a, h1, h2⟩
    refine List.mem_filterMap.mpr ⟨q.1, List.mem_range.mpr (List.getElem?_eq_some_iff.mp h1).1, ?_⟩
    rw [h1]
    show some (q.1, cv ad a) = some q
    rw [← h2]
theorem lvR.has {ad : AdT} {ls : Array Slot} {n : Nat} {L : List (Option AV)} (h : lvR ad ls n L) : lv_has ls n (asc ad L) := by
  refine ⟨h.1, h.2.1, fun q hq => ?_⟩
  obtain ⟨a, h1, h2⟩ := asc_mem.mp hq
  rw [h2]
  exact h.2.2 q.1 a h1
/-- no long stands in the local just ahead -/
def nol (L : List (Option AV)) : Nat → Bool
  | 0 => true
  | i + 1 => match L[i]? with
    | some (some (.inr (.inl _))) => false
    | _ => true
theorem cv_cat2 {ad : AdT} {a : AV} (h : (cv ad a).category = 2) : ∃ x, a = .inr (.inl x) := by
  rcases a with x | x | q
  · cases h
  · exact ⟨x, rfl⟩
  · cases h
theorem nol_use {ad : AdT} {L : List (Option AV)} {i j : Nat} {a : AV} (h : nol L i = true) (hj : L[j]? = some (some a)) (e : j + 1 = i) : ¬ (cv ad a).category = 2 := by
  intro hc
  obtain ⟨x, rfl⟩ := cv_cat2 hc
  subst e
  simp [nol, hj] at h
theorem lvR.of1 {ad : AdT} {ls' : Array Slot} {n : Nat} {L : List (Option AV)} {i : Nat} {a : AV} (hno : nol L i = true) (h : lv_has ls' n ((i, cv ad a) :: (asc ad L).filter (fun q => !(q.1 == i) && !(q.1 + 1 == i && q.2.category == 2)))) : lvR ad ls' n (L.set i (some a)) := by
  refine ⟨h.1, h.2.1, fun j b hj => ?_⟩
  by_cases e : i = j
  · subst e
    rw [List.getElem?_set] at hj
    split at hj
    · split at hj
      · cases hj
        exact h.2.2 _ List.mem_cons_self
      · cases hj
    · exact absurd rfl ‹¬ i = i›
  · rw [List.getElem?_set_ne e] at hj
    refine h.2.2 (j, cv ad b) (List.mem_cons_of_mem _ (List.mem_filter.mpr ⟨asc_mem.mpr ⟨b, hj, rfl⟩, ?_⟩))
    have e2 : ¬ j = i := fun z => e z.symm
    by_cases e3 : j + 1 = i
    · have := nol_use (ad := ad) hno hj e3
      simp [e2, e3, this]
    · simp [e2, e3]
theorem lvR.of2 {ad : AdT} {ls' : Array Slot} {n : Nat} {L : List (Option AV)} {i : Nat} {a : AV} (hno : nol L i = true) (h : lv_has ls' n ((i, cv ad a) :: (asc ad L).filter (fun q => !(q.1 == i) && (!(q.1 == i + 1) && !(q.1 + 1 == i && q.2.category == 2))))) : lvR ad ls' n ((L.set i (some a)).set (i + 1) none) := by
  refine ⟨h.1, h.2.1, fun j b hj => ?_⟩
  by_cases e0 : i + 1 = j
  · subst e0
    rw [List.getElem?_set] at hj
    split at hj
    · split at hj <;> cases hj
    · exact absurd rfl ‹¬ i + 1 = i + 1›
  · rw [List.getElem?_set_ne e0] at hj
    by_cases e : i = j
    · subst e
      rw [List.getElem?_set] at hj
      split at hj
      · split at hj
        · cases hj
          exact h.2.2 _ List.mem_cons_self
        · cases hj
      · exact absurd rfl ‹¬ i = i›
    · rw [List.getElem?_set_ne e] at hj
      refine h.2.2 (j, cv ad b) (List.mem_cons_of_mem _ (List.mem_filter.mpr ⟨asc_mem.mpr ⟨b, hj, rfl⟩, ?_⟩))
      have e2 : ¬ j = i := fun z => e z.symm
      have e4 : ¬ j = i + 1 := fun z => e0 z.symm
      by_cases e3 : j + 1 = i
      · have := nol_use (ad := ad) hno hj e3
        simp [e2, e3, e4, this]
      · simp [e2, e3, e4]
/-! the world -/
theorem lx_nd {X : Kx} (h : (Klx X).Nodup) : ∀ (i j : Nat) (q : Nat × Nat), (Klx X)[i]? = some q → (Klx X)[j]? = some q → i = j := by
  intro i j q hi hj
  exact (List.getElem?_inj (List.getElem?_eq_some_iff.mp hi).1 h).mp (hi.trans hj.symm)
theorem ix_mem {c k : Nat} (hc : c ∈ kds) (hk : k < cnt c) : (c, k) ∈ ix := List.mem_flatMap.mpr ⟨c, hc, List.mem_map.mpr ⟨k, List.mem_range.mpr hk, rfl⟩⟩
theorem ix_kds {q : Nat × Nat} (h : q ∈ ix) : q.1 ∈ kds ∧ q.2 < cnt q.1 := by
  obtain ⟨c, hc, h2⟩ := List.mem_flatMap.mp h
  obtain ⟨k, hk, rfl⟩ := List.mem_map.mp h2
  exact ⟨hc, List.mem_range.mp hk⟩
theorem wl_at {X : Kx} {σ : Mem} {i : Nat} {q : Nat × Nat} (h : (Klx X)[i]? = some q) : (wl X σ)[i]? = some (Kad X q.1 q.2, acell X σ q.1 q.2) := by
  rw [wl, List.getElem?_map, h]; rfl
theorem wl_in {X : Kx} {σ : Mem} {i : Nat} {r : Nat × va_E} (h : (wl X σ)[i]? = some r) : ∃ q, (Klx X)[i]? = some q ∧ r = (Kad X q.1 q.2, acell X σ q.1 q.2) := by
  rw [wl, List.getElem?_map] at h
  cases hi : (Klx X)[i]? with
  | none => rw [hi] at h; cases h
  | some q => rw [hi] at h; exact ⟨q, rfl, (Option.some.inj h).symm⟩
theorem wl_set {X : Kx} {σ σ' : Mem} {i : Nat} {c k : Nat} (hC : Cl X) (h : (Klx X)[i]? = some (c, k)) (ho : ∀ q ∈ Klx X, q ≠ (c, k) → acell X σ' q.1 q.2 = acell X σ q.1 q.2) : (wl X σ).set i (Kad X c k, acell X σ' c k) = wl X σ' := by
  apply List.ext_getElem?
  intro j
  by_cases e : i = j
  · subst e
    rw [List.getElem?_set, wl_at (σ := σ') h]
    have := (List.getElem?_eq_some_iff.mp (wl_at (X := X) (σ := σ) h)).1
    simp [this]
  · rw [List.getElem?_set_ne e]
    cases hj : (Klx X)[j]? with
    | none => rw [wl, wl, List.getElem?_map, List.getElem?_map, hj]; rfl
    | some q =>
      rw [wl_at hj, wl_at hj, ho q (List.mem_of_getElem? hj)]
      intro z
      subst z
      exact e (lx_nd hC.2.1 i j _ h hj)
theorem wl_D {X : Kx} {σ : Mem} {A : Nat → Prop} (hC : Cl X) (hA : Ap X) (hin : ∀ q ∈ Klx X, A (Kad X q.1 q.2)) : va_D A (wl X σ) := by
  refine ⟨fun i j p q hi hj e => ?_, fun k q hk => ?_⟩
  · obtain ⟨r, h1, rfl⟩ := wl_in hi
    obtain ⟨t, h2, rfl⟩ := wl_in hj
    have := hA r (List.mem_of_getElem? h1) t (List.mem_of_getElem? h2) e
    subst this
    exact lx_nd hC.2.1 i j _ h1 h2
  · obtain ⟨r, h1, rfl⟩ := wl_in hk
    exact hin r (List.mem_of_getElem? h1)
/-- the frame's context -/
def Fr (y : MI) (X : Kx) (p : Program) (R : Room) (s : State) (m : MethodId) (args : Array Value) (meth : Method) (c : Code) (A : Nat → Prop) (cells slots : Nat) : Prop :=
  p.tables.exec = Jvm.exec ∧ c.code = y.2.1 ∧ c.maxLocals = y.2.2.1 ∧ s.vm.findClass y.1.cls = some m.cls ∧ (∀ w ∈ gt, w.before args s = true) ∧
  va_K X.1 classes (atys X) s ∧ (Cl X ∧ Ap X) ∧ (∀ q ∈ Klx X, A (Kad X q.1 q.2)) ∧ SX X A s s.heap ∧
  (y.1.cls = RL → va_X (Kad X 24 0) X.2.2.2.2.1 X.2.2.2.1 s s.heap ∧ Kad X 24 0 < s.heap.size ∧ ¬ A (Kad X 24 0) ∧ X.2.2.2.2.1 ≤ 384) ∧
  y.2.2.2.2.1 ≤ R.frames ∧ y.2.2.2.2.2 ≤ R.locals ∧ cells ≤ R.cells ∧ slots ≤ R.slots
def retIns : Option FieldType → Instr
  | none => .return_
  | some .long => .lreturn
  | some (.object _) => .areturn
  | some _ => .ireturn
/-- the answer is of the method's kind -/
def vok : Option FieldType → Option AV → Prop
  | none, none => True
  | some .int, some (.inl _) => True
  | some .boolean, some (.inl v) => v = 0 ∨ v = 1
  | some .byte, some (.inl v) => narrow .byte (.int v) = .int v
  | some .char, some (.inl v) => narrow .char (.int v) = .int v
  | some .long, some (.inr (.inl _)) => True
  | some (.object _), some (.inr (.inr _)) => True
  | _, _ => False
/-- what the method's end needs -/
def Rt (y : MI) (X : Kx) (p : Program) (l : Launch) (e : Env) (R : Room) (s : State) (m : MethodId) (args : Array Value) (below : List Frame) (meth : Method) (c : Code) (A : Nat → Prop) (cells slots : Nat) (Q : State → Prop) (V : Option AV) (S : Mem) : Prop :=
  ∀ (pc : Nat) (H : Heap) (locs : List Loc) (ls : Array Slot), decode y.2.1 pc = .ok (retIns y.2.2.2.1, 1) → vok y.2.2.2.1 V → okS X V.toList → Wd X S H → va_S A s.heap H locs →
    W p l e R s m args below meth c H locs cells slots Q (F0 m pc ls (V.toList.map (cv (Kad X))))
/-- from here on the method comes to its end with V, the memory being S -/
def Go (y : MI) (pc : Nat) (L : List (Option AV)) (st : List AV) (σ : Mem) (V : Option AV) (S : Mem) : Prop :=
  ∀ (X : Kx) (p : Program) (l : Launch) (e : Env) (R : Room) (s : State) (m : MethodId) (args : Array Value) (below : List Frame) (meth : Method) (c : Code) (A : Nat → Prop) (cells slots : Nat) (Q : State → Prop),
    Fr y X p R s m args meth c A cells slots → Rt y X p l e R s m args below meth c A cells slots Q V S → okL X L → okS X st →
    ∀ (H : Heap) (locs : List Loc) (ls : Array Slot), lvR (Kad X) ls y.2.2.1 L → Wd X σ H → va_S A s.heap H locs →
      W p l e R s m args below meth c H locs cells slots Q (F0 m pc ls (st.map (cv (Kad X))))
def At (b : ByteArray) (pc : Nat) (i : Instr) (len n : Nat) : Prop := decode b pc = .ok (i, len) ∧ pc + len = n
/-- fewer locals told -/
def sbl : List (Option AV) → List (Option AV) → Prop
  | [], _ => True
  | none :: l', _ :: l => sbl l' l
  | none :: l', [] => sbl l' []
  | some a :: l', b :: l => b = some a ∧ sbl l' l
  | some _ :: _, [] => False
theorem sbl_use : ∀ {L' L : List (Option AV)}, sbl L' L → ∀ (i : Nat) (a : AV), L'[i]? = some (some a) → L[i]? = some (some a)
  | [], _, _, i, a, h => by simp at h
  | none :: l', _ :: l, hs, i, a, h => by
    cases i with
    | zero => simp at h
    | succ i => rw [List.getElem?_cons_succ] at h ⊢; exact sbl_use (L' := l') (L := l) hs i a h
  | none :: l', [], hs, i, a, h => by
    cases i with
    | zero => simp at h
    | succ i =>
      rw [List.getElem?_cons_succ] at h
      have := sbl_use (L' := l') (L := []) hs i a h
      simp at this
  | some b :: l', x :: l, hs, i, a, h => by
    cases i with
    | zero => rw [List.getElem?_cons_zero] at h ⊢; rw [← h]; exact congrArg some hs.1
    | succ i => rw [List.getElem?_cons_succ] at h ⊢; exact sbl_use (L' := l') (L := l) hs.2 i a h
theorem g_weak {y : MI} {pc : Nat} {L L' : List (Option AV)} {st : List AV} {σ S : Mem} {V : Option AV} (k : Go y pc L' st σ V S) (h : sbl L' L) : Go y pc L st σ V S := by
  intro X p l e R s m args below meth c A cells slots Q F hr oL oS H locs ls hl hW hS
  refine k X p l e R s m args below meth c A cells slots Q F hr (fun a ha => ?_) oS H locs ls ⟨hl.1, hl.2.1, fun i a hi => hl.2.2 i a (sbl_use h i a hi)⟩ hW hS
  obtain ⟨i, hi⟩ := List.getElem?_of_mem ha
  exact oL a (List.mem_of_getElem? (sbl_use h i a hi))
section RULES
variable {y : MI} {pc n : Nat} {L : List (Option AV)} {st : List AV} {σ S : Mem} {V : Option AV}
theorem g_ret (hd : At y.2.1 pc (retIns y.2.2.2.1) 1 n) (hk : vok y.2.2.2.1 V) : Go y pc L V.toList σ V σ := by
  intro X p l e R s m args below meth c A cells slots Q F hr oL oS H locs ls hl hW hS
  exact hr pc H locs ls hd.1 hk oS hW hS
theorem g_retE {st : List AV} {V : Option AV} {σ S : Mem} (hd : At y.2.1 pc (retIns y.2.2.2.1) 1 n) (hk : vok y.2.2.2.1 V) (hv : V.toList = st) (hs : S = σ) : Go y pc L st σ V S := by
  subst hv; subst hs
  exact g_ret hd hk
theorem g_iconst {i : Int} {v : Int32} (hd : At y.2.1 pc (.iconst i) 1 n) (hv : Int32.ofInt i = v) (k : Go y n L (.inl v :: st) σ V S) : Go y pc L st σ V S := by
  obtain ⟨hd, rfl⟩ := hd
  intro X p l e R s m args below meth c A cells slots Q F hr oL oS H locs ls hl hW hS
  exact lv_iconst F.1 F.2.1 hd hv (k X p l e R s m args below meth c A cells slots Q F hr oL oS.i H locs ls hl hW hS)
theorem g_bipush {i : Int} {v : Int32} (hd : At y.2.1 pc (.bipush i) 2 n) (hv : (Int8.ofInt i).toInt32 = v) (k : Go y n L (.inl v :: st) σ V S) : Go y pc L st σ V S := by
  obtain ⟨hd, rfl⟩ := hd
  intro X p l e R s m args below meth c A cells slots Q F hr oL oS H locs ls hl hW hS
  exact lv_bipush F.1 F.2.1 hd hv (k X p l e R s m args below meth c A cells slots Q F hr oL oS.i H locs ls hl hW hS)
theorem g_sipush {i : Int} {v : Int32} (hd : At y.2.1 pc (.sipush i) 3 n) (hv : (Int16.ofInt i).toInt32 = v) (k : Go y n L (.inl v :: st) σ V S) : Go y pc L st σ V S := by
  obtain ⟨hd, rfl⟩ := hd
  intro X p l e R s m args below meth c A cells slots Q F hr oL oS H locs ls hl hW hS
  exact lv_sipush F.1 F.2.1 hd hv (k X p l e R s m args below meth c A cells slots Q F hr oL oS.i H locs ls hl hW hS)
theorem g_lconst {i : Fin 2} {v : Int64} (hd : At y.2.1 pc (.lconst i) 1 n) (hv : Int64.ofNat (i : Nat) = v) (k : Go y n L (.inr (.inl v) :: st) σ V S) : Go y pc L st σ V S := by
  obtain ⟨hd, rfl⟩ := hd
  intro X p l e R s m args below meth c A cells slots Q F hr oL oS H locs ls hl hW hS
  exact lv_lconst F.1 F.2.1 hd hv (k X p l e R s m args below meth c A cells slots Q F hr oL oS.l H locs ls hl hW hS)
theorem g_ldc {i : Nat} {v : Int32} (hd : At y.2.1 pc (.ldc i) 2 n) (hw : Cond.constant y.1.cls i v ∈ gt) (k : Go y n L (.inl v :: st) σ V S) : Go y pc L st σ V S := by
  obtain ⟨hd, rfl⟩ := hd
  intro X p l e R s m args below meth c A cells slots Q F hr oL oS H locs ls hl hW hS
  exact lv_ldc F.1 F.2.1 F.2.2.2.1 (F.2.2.2.2.1 _ hw) hd (k X p l e R s m args below meth c A cells slots Q F hr oL oS.i H locs ls hl hW hS)
theorem g_ldcw {i : Nat} {v : Int32} (hd : At y.2.1 pc (.ldc_w i) 3 n) (hw : Cond.constant y.1.cls i v ∈ gt) (k : Go y n L (.inl v :: st) σ V S) : Go y pc L st σ V S := by
  obtain ⟨hd, rfl⟩ := hd
  intro X p l e R s m args below meth c A cells slots Q F hr oL oS H locs ls hl hW hS
  exact lv_ldcw F.1 F.2.1 F.2.2.2.1 (F.2.2.2.2.1 _ hw) hd (k X p l e R s m args below meth c A cells slots Q F hr oL oS.i H locs ls hl hW hS)
theorem g_ldc2 {i : Nat} {v : Int64} (hd : At y.2.1 pc (.ldc2_w i) 3 n) (hw : Cond.constantLong y.1.cls i v ∈ gt) (k : Go y n L (.inr (.inl v) :: st) σ V S) : Go y pc L st σ V S := by
  obtain ⟨hd, rfl⟩ := hd
  intro X p l e R s m args below meth c A cells slots Q F hr oL oS H locs ls hl hW hS
  exact lv_ldc2 F.1 F.2.1 F.2.2.2.1 (F.2.2.2.2.1 _ hw) hd (k X p l e R s m args below meth c A cells slots Q F hr oL oS.l H locs ls hl hW hS)
end RULES
end
section
/-! the rules, one an instruction, over the memory -/
section RULES2
variable {y : MI} {pc n : Nat} {L : List (Option AV)} {st : List AV} {σ S : Mem} {V : Option AV}
theorem g_iload {i : Nat} {x : Int32} (hd : At y.2.1 pc (.iload i) 2 n) (hv : L[i]? = some (some (.inl x))) (k : Go y n L (.inl x :: st) σ V S) : Go y pc L (st) σ V S := by
  obtain ⟨hd, rfl⟩ := hd
  intro X p l e R s m args below meth c A cells slots Q F hr oL oS H locs ls hl hW hS
  exact lv_iload F.1 F.2.1 hd (hl.2.2 _ _ hv) (k X p l e R s m args below meth c A cells slots Q F hr oL (oS.cons (oL.at hv)) H locs ls hl hW hS)
theorem g_iload_n {i : Fin 4} {x : Int32} (hd : At y.2.1 pc (.iload_n i) 1 n) (hv : L[(i : Nat)]? = some (some (.inl x))) (k : Go y n L (.inl x :: st) σ V S) : Go y pc L (st) σ V S := by
  obtain ⟨hd, rfl⟩ := hd
  intro X p l e R s m args below meth c A cells slots Q F hr oL oS H locs ls hl hW hS
  exact lv_iload_n F.1 F.2.1 hd rfl (hl.2.2 _ _ hv) (k X p l e R s m args below meth c A cells slots Q F hr oL (oS.cons (oL.at hv)) H locs ls hl hW hS)
theorem g_lload {i : Nat} {x : Int64} (hd : At y.2.1 pc (.lload i) 2 n) (hv : L[i]? = some (some (.inr (.inl x)))) (k : Go y n L (.inr (.inl x) :: st) σ V S) : Go y pc L (st) σ V S := by
  obtain ⟨hd, rfl⟩ := hd
  intro X p l e R s m args below meth c A cells slots Q F hr oL oS H locs ls hl hW hS
  exact lv_lload F.1 F.2.1 hd (hl.2.2 _ _ hv) (k X p l e R s m args below meth c A cells slots Q F hr oL (oS.cons (oL.at hv)) H locs ls hl hW hS)
theorem g_lload_n {i : Fin 4} {x : Int64} (hd : At y.2.1 pc (.lload_n i) 1 n) (hv : L[(i : Nat)]? = some (some (.inr (.inl x)))) (k : Go y n L (.inr (.inl x) :: st) σ V S) : Go y pc L (st) σ V S := by
  obtain ⟨hd, rfl⟩ := hd
  intro X p l e R s m args below meth c A cells slots Q F hr oL oS H locs ls hl hW hS
  exact lv_lload_n F.1 F.2.1 hd rfl (hl.2.2 _ _ hv) (k X p l e R s m args below meth c A cells slots Q F hr oL (oS.cons (oL.at hv)) H locs ls hl hW hS)
theorem g_aload {i : Nat} {x : Nat × Nat} (hd : At y.2.1 pc (.aload i) 2 n) (hv : L[i]? = some (some (.inr (.inr x)))) (k : Go y n L (.inr (.inr x) :: st) σ V S) : Go y pc L (st) σ V S := by
  obtain ⟨hd, rfl⟩ := hd
  intro X p l e R s m args below meth c A cells slots Q F hr oL oS H locs ls hl hW hS
  exact lv_aload F.1 F.2.1 hd (hl.2.2 _ _ hv) (k X p l e R s m args below meth c A cells slots Q F hr oL (oS.cons (oL.at hv)) H locs ls hl hW hS)
theorem g_aload_n {i : Fin 4} {x : Nat × Nat} (hd : At y.2.1 pc (.aload_n i) 1 n) (hv : L[(i : Nat)]? = some (some (.inr (.inr x)))) (k : Go y n L (.inr (.inr x) :: st) σ V S) : Go y pc L (st) σ V S := by
  obtain ⟨hd, rfl⟩ := hd
  intro X p l e R s m args below meth c A cells slots Q F hr oL oS H locs ls hl hW hS
  exact lv_aload_n F.1 F.2.1 hd rfl (hl.2.2 _ _ hv) (k X p l e R s m args below meth c A cells slots Q F hr oL (oS.cons (oL.at hv)) H locs ls hl hW hS)
theorem g_istore {i : Nat} {x : Int32} {L' : List (Option AV)} (hd : At y.2.1 pc (.istore i) 2 n) (hlt : i < y.2.2.1) (hno : nol L i = true) (hL : L.set i (some (.inl x)) = L') (k : Go y n L' (st) σ V S) : Go y pc L (.inl x :: st) σ V S := by
  obtain ⟨hd, rfl⟩ := hd
  intro X p l e R s m args below meth c A cells slots Q F hr oL oS H locs ls hl hW hS
  subst hL
  exact lv_istore F.1 F.2.1 hd hl.has hlt rfl (fun ls' hl' => k X p l e R s m args below meth c A cells slots Q F hr (oL.set oS.hd) oS.tl H locs ls' (lvR.of1 hno hl') hW hS)
theorem g_istore_n {i : Fin 4} {x : Int32} {L' : List (Option AV)} (hd : At y.2.1 pc (.istore_n i) 1 n) (hlt : (i : Nat) < y.2.2.1) (hno : nol L (i : Nat) = true) (hL : L.set (i : Nat) (some (.inl x)) = L') (k : Go y n L' (st) σ V S) : Go y pc L (.inl x :: st) σ V S := by
  obtain ⟨hd, rfl⟩ := hd
  intro X p l e R s m args below meth c A cells slots Q F hr oL oS H locs ls hl hW hS
  subst hL
  exact lv_istore_n F.1 F.2.1 hd rfl hl.has hlt rfl (fun ls' hl' => k X p l e R s m args below meth c A cells slots Q F hr (oL.set oS.hd) oS.tl H locs ls' (lvR.of1 hno hl') hW hS)
theorem g_astore {i : Nat} {x : Nat × Nat} {L' : List (Option AV)} (hd : At y.2.1 pc (.astore i) 2 n) (hlt : i < y.2.2.1) (hno : nol L i = true) (hL : L.set i (some (.inr (.inr x))) = L') (k : Go y n L' (st) σ V S) : Go y pc L (.inr (.inr x) :: st) σ V S := by
  obtain ⟨hd, rfl⟩ := hd
  intro X p l e R s m args below meth c A cells slots Q F hr oL oS H locs ls hl hW hS
  subst hL
  exact lv_astore F.1 F.2.1 hd hl.has hlt rfl (fun ls' hl' => k X p l e R s m args below meth c A cells slots Q F hr (oL.set oS.hd) oS.tl H locs ls' (lvR.of1 hno hl') hW hS)
theorem g_astore_n {i : Fin 4} {x : Nat × Nat} {L' : List (Option AV)} (hd : At y.2.1 pc (.astore_n i) 1 n) (hlt : (i : Nat) < y.2.2.1) (hno : nol L (i : Nat) = true) (hL : L.set (i : Nat) (some (.inr (.inr x))) = L') (k : Go y n L' (st) σ V S) : Go y pc L (.inr (.inr x) :: st) σ V S := by
  obtain ⟨hd, rfl⟩ := hd
  intro X p l e R s m args below meth c A cells slots Q F hr oL oS H locs ls hl hW hS
  subst hL
  exact lv_astore_n F.1 F.2.1 hd rfl hl.has hlt rfl (fun ls' hl' => k X p l e R s m args below meth c A cells slots Q F hr (oL.set oS.hd) oS.tl H locs ls' (lvR.of1 hno hl') hW hS)
theorem g_lstore {i : Nat} {x : Int64} {L' : List (Option AV)} (hd : At y.2.1 pc (.lstore i) 2 n) (hlt : i + 1 < y.2.2.1) (hno : nol L i = true) (hL : (L.set i (some (.inr (.inl x)))).set (i + 1) none = L') (k : Go y n L' (st) σ V S) : Go y pc L (.inr (.inl x) :: st) σ V S := by
  obtain ⟨hd, rfl⟩ := hd
  intro X p l e R s m args below meth c A cells slots Q F hr oL oS H locs ls hl hW hS
  subst hL
  exact lv_lstore F.1 F.2.1 hd hl.has hlt rfl (fun ls' hl' => k X p l e R s m args below meth c A cells slots Q F hr (oL.set oS.hd).unset oS.tl H locs ls' (lvR.of2 hno hl') hW hS)
theorem g_lstore_n {i : Fin 4} {x : Int64} {L' : List (Option AV)} (hd : At y.2.1 pc (.lstore_n i) 1 n) (hlt : (i : Nat) + 1 < y.2.2.1) (hno : nol L (i : Nat) = true) (hL : (L.set (i : Nat) (some (.inr (.inl x)))).set ((i : Nat) + 1) none = L') (k : Go y n L' (st) σ V S) : Go y pc L (.inr (.inl x) :: st) σ V S := by
  obtain ⟨hd, rfl⟩ := hd
  intro X p l e R s m args below meth c A cells slots Q F hr oL oS H locs ls hl hW hS
  subst hL
  exact lv_lstore_n F.1 F.2.1 hd rfl hl.has hlt rfl (fun ls' hl' => k X p l e R s m args below meth c A cells slots Q F hr (oL.set oS.hd).unset oS.tl H locs ls' (lvR.of2 hno hl') hW hS)
theorem g_iinc {i : Nat} {d : Int} {x v : Int32} {L' : List (Option AV)} (hd : At y.2.1 pc (.iinc i d) 3 n) (hx : L[i]? = some (some (.inl x))) (hv : x + Int32.ofInt d = v) (hlt : i < y.2.2.1) (hno : nol L i = true) (hL : L.set i (some (.inl v)) = L') (k : Go y n L' (st) σ V S) : Go y pc L (st) σ V S := by
  obtain ⟨hd, rfl⟩ := hd
  intro X p l e R s m args below meth c A cells slots Q F hr oL oS H locs ls hl hW hS
  subst hL
  obtain ⟨q, hq⟩ := List.getElem?_of_mem (asc_mem (ad := Kad X) (q := (i, cv (Kad X) (.inl x))).mpr ⟨_, hx, rfl⟩)
  exact lv_iinc F.1 F.2.1 hd hl.has hq hv hlt rfl (fun ls' hl' => k X p l e R s m args below meth c A cells slots Q F hr (oL.set trivial) oS H locs ls' (lvR.of1 hno hl') hW hS)
theorem g_iadd {x z : Int32} (hd : At y.2.1 pc .iadd 1 n) (k : Go y n L (.inl (x + z) :: st) σ V S) : Go y pc L (.inl z :: .inl x :: st) σ V S := by
  obtain ⟨hd, rfl⟩ := hd
  intro X p l e R s m args below meth c A cells slots Q F hr oL oS H locs ls hl hW hS
  exact lv_iadd F.1 F.2.1 hd (k X p l e R s m args below meth c A cells slots Q F hr oL oS.tl.tl.i H locs ls hl hW hS)
theorem g_isub {x z : Int32} (hd : At y.2.1 pc .isub 1 n) (k : Go y n L (.inl (x - z) :: st) σ V S) : Go y pc L (.inl z :: .inl x :: st) σ V S := by
  obtain ⟨hd, rfl⟩ := hd
  intro X p l e R s m args below meth c A cells slots Q F hr oL oS H locs ls hl hW hS
  exact lv_isub F.1 F.2.1 hd (k X p l e R s m args below meth c A cells slots Q F hr oL oS.tl.tl.i H locs ls hl hW hS)
theorem g_imul {x z : Int32} (hd : At y.2.1 pc .imul 1 n) (k : Go y n L (.inl (x * z) :: st) σ V S) : Go y pc L (.inl z :: .inl x :: st) σ V S := by
  obtain ⟨hd, rfl⟩ := hd
  intro X p l e R s m args below meth c A cells slots Q F hr oL oS H locs ls hl hW hS
  exact lv_imul F.1 F.2.1 hd (k X p l e R s m args below meth c A cells slots Q F hr oL oS.tl.tl.i H locs ls hl hW hS)
theorem g_iand {x z : Int32} (hd : At y.2.1 pc .iand 1 n) (k : Go y n L (.inl (x &&& z) :: st) σ V S) : Go y pc L (.inl z :: .inl x :: st) σ V S := by
  obtain ⟨hd, rfl⟩ := hd
  intro X p l e R s m args below meth c A cells slots Q F hr oL oS H locs ls hl hW hS
  exact lv_iand F.1 F.2.1 hd (k X p l e R s m args below meth c A cells slots Q F hr oL oS.tl.tl.i H locs ls hl hW hS)
theorem g_ior {x z : Int32} (hd : At y.2.1 pc .ior 1 n) (k : Go y n L (.inl (x ||| z) :: st) σ V S) : Go y pc L (.inl z :: .inl x :: st) σ V S := by
  obtain ⟨hd, rfl⟩ := hd
  intro X p l e R s m args below meth c A cells slots Q F hr oL oS H locs ls hl hW hS
  exact lv_ior F.1 F.2.1 hd (k X p l e R s m args below meth c A cells slots Q F hr oL oS.tl.tl.i H locs ls hl hW hS)
theorem g_ixor {x z : Int32} (hd : At y.2.1 pc .ixor 1 n) (k : Go y n L (.inl (x ^^^ z) :: st) σ V S) : Go y pc L (.inl z :: .inl x :: st) σ V S := by
  obtain ⟨hd, rfl⟩ := hd
  intro X p l e R s m args below meth c A cells slots Q F hr oL oS H locs ls hl hW hS
  exact lv_ixor F.1 F.2.1 hd (k X p l e R s m args below meth c A cells slots Q F hr oL oS.tl.tl.i H locs ls hl hW hS)
theorem g_ladd {x z : Int64} (hd : At y.2.1 pc .ladd 1 n) (k : Go y n L (.inr (.inl (x + z)) :: st) σ V S) : Go y pc L (.inr (.inl z) :: .inr (.inl x) :: st) σ V S := by
  obtain ⟨hd, rfl⟩ := hd
  intro X p l e R s m args below meth c A cells slots Q F hr oL oS H locs ls hl hW hS
  exact lv_ladd F.1 F.2.1 hd (k X p l e R s m args below meth c A cells slots Q F hr oL oS.tl.tl.l H locs ls hl hW hS)
theorem g_lmul {x z : Int64} (hd : At y.2.1 pc .lmul 1 n) (k : Go y n L (.inr (.inl (x * z)) :: st) σ V S) : Go y pc L (.inr (.inl z) :: .inr (.inl x) :: st) σ V S := by
  obtain ⟨hd, rfl⟩ := hd
  intro X p l e R s m args below meth c A cells slots Q F hr oL oS H locs ls hl hW hS
  exact lv_lmul F.1 F.2.1 hd (k X p l e R s m args below meth c A cells slots Q F hr oL oS.tl.tl.l H locs ls hl hW hS)
theorem g_idiv {x z : Int32} (hd : At y.2.1 pc .idiv 1 n) (h0 : ¬ z = 0) (k : Go y n L (.inl (x / z) :: st) σ V S) : Go y pc L (.inl z :: .inl x :: st) σ V S := by
  obtain ⟨hd, rfl⟩ := hd
  intro X p l e R s m args below meth c A cells slots Q F hr oL oS H locs ls hl hW hS
  exact lv_idiv F.1 F.2.1 hd h0 (k X p l e R s m args below meth c A cells slots Q F hr oL oS.tl.tl.i H locs ls hl hW hS)
theorem g_irem {x z : Int32} (hd : At y.2.1 pc .irem 1 n) (h0 : ¬ z = 0) (k : Go y n L (.inl (x - x / z * z) :: st) σ V S) : Go y pc L (.inl z :: .inl x :: st) σ V S := by
  obtain ⟨hd, rfl⟩ := hd
  intro X p l e R s m args below meth c A cells slots Q F hr oL oS H locs ls hl hW hS
  exact lv_irem F.1 F.2.1 hd h0 (k X p l e R s m args below meth c A cells slots Q F hr oL oS.tl.tl.i H locs ls hl hW hS)
theorem g_ldiv {x z : Int64} (hd : At y.2.1 pc .ldiv 1 n) (h0 : ¬ z = 0) (k : Go y n L (.inr (.inl (x / z)) :: st) σ V S) : Go y pc L (.inr (.inl z) :: .inr (.inl x) :: st) σ V S := by
  obtain ⟨hd, rfl⟩ := hd
  intro X p l e R s m args below meth c A cells slots Q F hr oL oS H locs ls hl hW hS
  exact lv_ldiv F.1 F.2.1 hd h0 (k X p l e R s m args below meth c A cells slots Q F hr oL oS.tl.tl.l H locs ls hl hW hS)
theorem g_lrem {x z : Int64} (hd : At y.2.1 pc .lrem 1 n) (h0 : ¬ z = 0) (k : Go y n L (.inr (.inl (x - x / z * z)) :: st) σ V S) : Go y pc L (.inr (.inl z) :: .inr (.inl x) :: st) σ V S := by
  obtain ⟨hd, rfl⟩ := hd
  intro X p l e R s m args below meth c A cells slots Q F hr oL oS H locs ls hl hW hS
  exact lv_lrem F.1 F.2.1 hd h0 (k X p l e R s m args below meth c A cells slots Q F hr oL oS.tl.tl.l H locs ls hl hW hS)
theorem g_ineg {x : Int32} (hd : At y.2.1 pc .ineg 1 n) (k : Go y n L (.inl (-x) :: st) σ V S) : Go y pc L (.inl x :: st) σ V S := by
  obtain ⟨hd, rfl⟩ := hd
  intro X p l e R s m args below meth c A cells slots Q F hr oL oS H locs ls hl hW hS
  exact lv_ineg F.1 F.2.1 hd (k X p l e R s m args below meth c A cells slots Q F hr oL oS.tl.i H locs ls hl hW hS)
theorem g_ishl {x z : Int32} (hd : At y.2.1 pc .ishl 1 n) (k : Go y n L (.inl (x <<< (z &&& 31)) :: st) σ V S) : Go y pc L (.inl z :: .inl x :: st) σ V S := by
  obtain ⟨hd, rfl⟩ := hd
  intro X p l e R s m args below meth c A cells slots Q F hr oL oS H locs ls hl hW hS
  exact lv_ishl F.1 F.2.1 hd (k X p l e R s m args below meth c A cells slots Q F hr oL oS.tl.tl.i H locs ls hl hW hS)
theorem g_ishr {x z : Int32} (hd : At y.2.1 pc .ishr 1 n) (k : Go y n L (.inl (x >>> (z &&& 31)) :: st) σ V S) : Go y pc L (.inl z :: .inl x :: st) σ V S := by
  obtain ⟨hd, rfl⟩ := hd
  intro X p l e R s m args below meth c A cells slots Q F hr oL oS H locs ls hl hW hS
  exact lv_ishr F.1 F.2.1 hd (k X p l e R s m args below meth c A cells slots Q F hr oL oS.tl.tl.i H locs ls hl hW hS)
theorem g_iushr {x z : Int32} (hd : At y.2.1 pc .iushr 1 n) (k : Go y n L (.inl ((x.toUInt32 >>> (z.toUInt32 &&& Int32.toUInt32 31)).toInt32) :: st) σ V S) : Go y pc L (.inl z :: .inl x :: st) σ V S := by
  obtain ⟨hd, rfl⟩ := hd
  intro X p l e R s m args below meth c A cells slots Q F hr oL oS H locs ls hl hW hS
  exact lv_iushr F.1 F.2.1 hd rfl (k X p l e R s m args below meth c A cells slots Q F hr oL oS.tl.tl.i H locs ls hl hW hS)
theorem g_i2l {x : Int32} (hd : At y.2.1 pc .i2l 1 n) (k : Go y n L (.inr (.inl x.toInt64) :: st) σ V S) : Go y pc L (.inl x :: st) σ V S := by
  obtain ⟨hd, rfl⟩ := hd
  intro X p l e R s m args below meth c A cells slots Q F hr oL oS H locs ls hl hW hS
  exact lv_i2l F.1 F.2.1 hd rfl (k X p l e R s m args below meth c A cells slots Q F hr oL oS.tl.l H locs ls hl hW hS)
theorem g_l2i {x : Int64} (hd : At y.2.1 pc .l2i 1 n) (k : Go y n L (.inl x.toInt32 :: st) σ V S) : Go y pc L (.inr (.inl x) :: st) σ V S := by
  obtain ⟨hd, rfl⟩ := hd
  intro X p l e R s m args below meth c A cells slots Q F hr oL oS H locs ls hl hW hS
  exact lv_l2i F.1 F.2.1 hd rfl (k X p l e R s m args below meth c A cells slots Q F hr oL oS.tl.i H locs ls hl hW hS)
theorem g_lcmp {x z : Int64} (hd : At y.2.1 pc .lcmp 1 n) (k : Go y n L (.inl (lg_cmp x z) :: st) σ V S) : Go y pc L (.inr (.inl z) :: .inr (.inl x) :: st) σ V S := by
  obtain ⟨hd, rfl⟩ := hd
  intro X p l e R s m args below meth c A cells slots Q F hr oL oS H locs ls hl hW hS
  exact W.lcmp F.1 F.2.1 hd (k X p l e R s m args below meth c A cells slots Q F hr oL oS.tl.tl.i H locs ls hl hW hS)
theorem g_dup {x : AV} (hd : At y.2.1 pc .dup 1 n) (hx : ∀ ad, (cv ad x).category = 1) (k : Go y n L (x :: x :: st) σ V S) : Go y pc L (x :: st) σ V S := by
  obtain ⟨hd, rfl⟩ := hd
  intro X p l e R s m args below meth c A cells slots Q F hr oL oS H locs ls hl hW hS
  exact lv_dup F.1 F.2.1 hd (hx _) (k X p l e R s m args below meth c A cells slots Q F hr oL (oS.cons oS.hd) H locs ls hl hW hS)
theorem g_pop {x : AV} (hd : At y.2.1 pc .pop 1 n) (hx : ∀ ad, (cv ad x).category = 1) (k : Go y n L (st) σ V S) : Go y pc L (x :: st) σ V S := by
  obtain ⟨hd, rfl⟩ := hd
  intro X p l e R s m args below meth c A cells slots Q F hr oL oS H locs ls hl hW hS
  exact lv_pop F.1 F.2.1 hd (hx _) (k X p l e R s m args below meth c A cells slots Q F hr oL oS.tl H locs ls hl hW hS)
theorem g_dup2 {x z : AV} (hd : At y.2.1 pc .dup2 1 n) (hx : ∀ ad, (cv ad x).category = 1) (hz : ∀ ad, (cv ad z).category = 1) (k : Go y n L (x :: z :: x :: z :: st) σ V S) : Go y pc L (x :: z :: st) σ V S := by
  obtain ⟨hd, rfl⟩ := hd
  intro X p l e R s m args below meth c A cells slots Q F hr oL oS H locs ls hl hW hS
  exact lv_dup2_11 F.1 F.2.1 hd (hx _) (hz _) (k X p l e R s m args below meth c A cells slots Q F hr oL ((oS.cons oS.tl.hd).cons oS.hd) H locs ls hl hW hS)
theorem g_if_eq {x : Int32} {off : Int} {tgt : Nat} (hd : At y.2.1 pc (.ifCond .eq off) 3 n) (ht : (pc : Int) + off = (tgt : Int)) (kt : x = 0 → Go y tgt L st σ V S) (kf : ¬ x = 0 → Go y n L st σ V S) : Go y pc L (.inl x :: st) σ V S := by
  obtain ⟨hd, rfl⟩ := hd
  intro X p l e R s m args below meth c A cells slots Q F hr oL oS H locs ls hl hW hS
  exact lv_if_eq F.1 F.2.1 hd ht (fun h => kt h X p l e R s m args below meth c A cells slots Q F hr oL oS.tl H locs ls hl hW hS) (fun h => kf h X p l e R s m args below meth c A cells slots Q F hr oL oS.tl H locs ls hl hW hS)
theorem g_icmp_eq {x z : Int32} {off : Int} {tgt : Nat} (hd : At y.2.1 pc (.if_icmp .eq off) 3 n) (ht : (pc : Int) + off = (tgt : Int)) (kt : x = z → Go y tgt L st σ V S) (kf : ¬ x = z → Go y n L st σ V S) : Go y pc L (.inl z :: .inl x :: st) σ V S := by
  obtain ⟨hd, rfl⟩ := hd
  intro X p l e R s m args below meth c A cells slots Q F hr oL oS H locs ls hl hW hS
  exact lv_icmp_eq F.1 F.2.1 hd ht (fun h => kt h X p l e R s m args below meth c A cells slots Q F hr oL oS.tl.tl H locs ls hl hW hS) (fun h => kf h X p l e R s m args below meth c A cells slots Q F hr oL oS.tl.tl H locs ls hl hW hS)
theorem g_if_ne {x : Int32} {off : Int} {tgt : Nat} (hd : At y.2.1 pc (.ifCond .ne off) 3 n) (ht : (pc : Int) + off = (tgt : Int)) (kt : ¬ x = 0 → Go y tgt L st σ V S) (kf : x = 0 → Go y n L st σ V S) : Go y pc L (.inl x :: st) σ V S := by
  obtain ⟨hd, rfl⟩ := hd
  intro X p l e R s m args below meth c A cells slots Q F hr oL oS H locs ls hl hW hS
  exact lv_if_ne F.1 F.2.1 hd ht (fun h => kt h X p l e R s m args below meth c A cells slots Q F hr oL oS.tl H locs ls hl hW hS) (fun h => kf h X p l e R s m args below meth c A cells slots Q F hr oL oS.tl H locs ls hl hW hS)
theorem g_icmp_ne {x z : Int32} {off : Int} {tgt : Nat} (hd : At y.2.1 pc (.if_icmp .ne off) 3 n) (ht : (pc : Int) + off = (tgt : Int)) (kt : ¬ x = z → Go y tgt L st σ V S) (kf : x = z → Go y n L st σ V S) : Go y pc L (.inl z :: .inl x :: st) σ V S := by
  obtain ⟨hd, rfl⟩ := hd
  intro X p l e R s m args below meth c A cells slots Q F hr oL oS H locs ls hl hW hS
  exact lv_icmp_ne F.1 F.2.1 hd ht (fun h => kt h X p l e R s m args below meth c A cells slots Q F hr oL oS.tl.tl H locs ls hl hW hS) (fun h => kf h X p l e R s m args below meth c A cells slots Q F hr oL oS.tl.tl H locs ls hl hW hS)
theorem g_if_lt {x : Int32} {off : Int} {tgt : Nat} (hd : At y.2.1 pc (.ifCond .lt off) 3 n) (ht : (pc : Int) + off = (tgt : Int)) (kt : x < 0 → Go y tgt L st σ V S) (kf : ¬ x < 0 → Go y n L st σ V S) : Go y pc L (.inl x :: st) σ V S := by
  obtain ⟨hd, rfl⟩ := hd
  intro X p l e R s m args below meth c A cells slots Q F hr oL oS H locs ls hl hW hS
  exact lv_if_lt F.1 F.2.1 hd ht (fun h => kt h X p l e R s m args below meth c A cells slots Q F hr oL oS.tl H locs ls hl hW hS) (fun h => kf h X p l e R s m args below meth c A cells slots Q F hr oL oS.tl H locs ls hl hW hS)
theorem g_icmp_lt {x z : Int32} {off : Int} {tgt : Nat} (hd : At y.2.1 pc (.if_icmp .lt off) 3 n) (ht : (pc : Int) + off = (tgt : Int)) (kt : x < z → Go y tgt L st σ V S) (kf : ¬ x < z → Go y n L st σ V S) : Go y pc L (.inl z :: .inl x :: st) σ V S := by
  obtain ⟨hd, rfl⟩ := hd
  intro X p l e R s m args below meth c A cells slots Q F hr oL oS H locs ls hl hW hS
  exact lv_icmp_lt F.1 F.2.1 hd ht (fun h => kt h X p l e R s m args below meth c A cells slots Q F hr oL oS.tl.tl H locs ls hl hW hS) (fun h => kf h X p l e R s m args below meth c A cells slots Q F hr oL oS.tl.tl H locs ls hl hW hS)
theorem g_if_ge {x : Int32} {off : Int} {tgt : Nat} (hd : At y.2.1 pc (.ifCond .ge off) 3 n) (ht : (pc : Int) + off = (tgt : Int)) (kt : 0 ≤ x → Go y tgt L st σ V S) (kf : ¬ 0 ≤ x → Go y n L st σ V S) : Go y pc L (.inl x :: st) σ V S := by
  obtain ⟨hd, rfl⟩ := hd
  intro X p l e R s m args below meth c A cells slots Q F hr oL oS H locs ls hl hW hS
  exact lv_if_ge F.1 F.2.1 hd ht (fun h => kt h X p l e R s m args below meth c A cells slots Q F hr oL oS.tl H locs ls hl hW hS) (fun h => kf h X p l e R s m args below meth c A cells slots Q F hr oL oS.tl H locs ls hl hW hS)
theorem g_icmp_ge {x z : Int32} {off : Int} {tgt : Nat} (hd : At y.2.1 pc (.if_icmp .ge off) 3 n) (ht : (pc : Int) + off = (tgt : Int)) (kt : z ≤ x → Go y tgt L st σ V S) (kf : ¬ z ≤ x → Go y n L st σ V S) : Go y pc L (.inl z :: .inl x :: st) σ V S := by
  obtain ⟨hd, rfl⟩ := hd
  intro X p l e R s m args below meth c A cells slots Q F hr oL oS H locs ls hl hW hS
  exact lv_icmp_ge F.1 F.2.1 hd ht (fun h => kt h X p l e R s m args below meth c A cells slots Q F hr oL oS.tl.tl H locs ls hl hW hS) (fun h => kf h X p l e R s m args below meth c A cells slots Q F hr oL oS.tl.tl H locs ls hl hW hS)
theorem g_if_gt {x : Int32} {off : Int} {tgt : Nat} (hd : At y.2.1 pc (.ifCond .gt off) 3 n) (ht : (pc : Int) + off = (tgt : Int)) (kt : 0 < x → Go y tgt L st σ V S) (kf : ¬ 0 < x → Go y n L st σ V S) : Go y pc L (.inl x :: st) σ V S := by
  obtain ⟨hd, rfl⟩ := hd
  intro X p l e R s m args below meth c A cells slots Q F hr oL oS H locs ls hl hW hS
  exact lv_if_gt F.1 F.2.1 hd ht (fun h => kt h X p l e R s m args below meth c A cells slots Q F hr oL oS.tl H locs ls hl hW hS) (fun h => kf h X p l e R s m args below meth c A cells slots Q F hr oL oS.tl H locs ls hl hW hS)
theorem g_icmp_gt {x z : Int32} {off : Int} {tgt : Nat} (hd : At y.2.1 pc (.if_icmp .gt off) 3 n) (ht : (pc : Int) + off = (tgt : Int)) (kt : z < x → Go y tgt L st σ V S) (kf : ¬ z < x → Go y n L st σ V S) : Go y pc L (.inl z :: .inl x :: st) σ V S := by
  obtain ⟨hd, rfl⟩ := hd
  intro X p l e R s m args below meth c A cells slots Q F hr oL oS H locs ls hl hW hS
  exact lv_icmp_gt F.1 F.2.1 hd ht (fun h => kt h X p l e R s m args below meth c A cells slots Q F hr oL oS.tl.tl H locs ls hl hW hS) (fun h => kf h X p l e R s m args below meth c A cells slots Q F hr oL oS.tl.tl H locs ls hl hW hS)
theorem g_if_le {x : Int32} {off : Int} {tgt : Nat} (hd : At y.2.1 pc (.ifCond .le off) 3 n) (ht : (pc : Int) + off = (tgt : Int)) (kt : x ≤ 0 → Go y tgt L st σ V S) (kf : ¬ x ≤ 0 → Go y n L st σ V S) : Go y pc L (.inl x :: st) σ V S := by
  obtain ⟨hd, rfl⟩ := hd
  intro X p l e R s m args below meth c A cells slots Q F hr oL oS H locs ls hl hW hS
  exact lv_if_le F.1 F.2.1 hd ht (fun h => kt h X p l e R s m args below meth c A cells slots Q F hr oL oS.tl H locs ls hl hW hS) (fun h => kf h X p l e R s m args below meth c A cells slots Q F hr oL oS.tl H locs ls hl hW hS)
theorem g_icmp_le {x z : Int32} {off : Int} {tgt : Nat} (hd : At y.2.1 pc (.if_icmp .le off) 3 n) (ht : (pc : Int) + off = (tgt : Int)) (kt : x ≤ z → Go y tgt L st σ V S) (kf : ¬ x ≤ z → Go y n L st σ V S) : Go y pc L (.inl z :: .inl x :: st) σ V S := by
  obtain ⟨hd, rfl⟩ := hd
  intro X p l e R s m args below meth c A cells slots Q F hr oL oS H locs ls hl hW hS
  exact lv_icmp_le F.1 F.2.1 hd ht (fun h => kt h X p l e R s m args below meth c A cells slots Q F hr oL oS.tl.tl H locs ls hl hW hS) (fun h => kf h X p l e R s m args below meth c A cells slots Q F hr oL oS.tl.tl H locs ls hl hW hS)
theorem g_goto {off : Int} {tgt : Nat} (hd : At y.2.1 pc (.goto off) 3 n) (ht : (pc : Int) + off = (tgt : Int)) (k : Go y tgt L st σ V S) : Go y pc L st σ V S := by
  obtain ⟨hd, rfl⟩ := hd
  intro X p l e R s m args below meth c A cells slots Q F hr oL oS H locs ls hl hW hS
  exact lv_goto F.1 F.2.1 hd ht (k X p l e R s m args below meth c A cells slots Q F hr oL oS H locs ls hl hW hS)
theorem g_tsOut {dflt lo hi : Int} {offs : Array Int} {len : Nat} {x : Int32} {tgt : Nat} (hd : At y.2.1 pc (.tableswitch dflt lo hi offs) len n) (h : x.toInt < lo ∨ hi < x.toInt) (ht : (pc : Int) + dflt = (tgt : Int)) (k : Go y tgt L st σ V S) : Go y pc L (.inl x :: st) σ V S := by
  obtain ⟨hd, rfl⟩ := hd
  intro X p l e R s m args below meth c A cells slots Q F hr oL oS H locs ls hl hW hS
  exact lv_tableOut F.1 F.2.1 hd h ht (k X p l e R s m args below meth c A cells slots Q F hr oL oS.tl H locs ls hl hW hS)
theorem g_tsIn {dflt lo hi : Int} {offs : Array Int} {len : Nat} {x : Int32} {off : Int} {tgt : Nat} (hd : At y.2.1 pc (.tableswitch dflt lo hi offs) len n) (h1 : ¬ x.toInt < lo) (h2 : ¬ hi < x.toInt) (ho : offs[(x.toInt - lo).toNat]? = some off) (ht : (pc : Int) + off = (tgt : Int)) (k : Go y tgt L st σ V S) : Go y pc L (.inl x :: st) σ V S := by
  obtain ⟨hd, rfl⟩ := hd
  intro X p l e R s m args below meth c A cells slots Q F hr oL oS H locs ls hl hW hS
  exact lv_tableIn F.1 F.2.1 hd h1 h2 ho ht (k X p l e R s m args below meth c A cells slots Q F hr oL oS.tl H locs ls hl hW hS)
theorem g_lsw {dflt : Int} {ps : Array (Int × Int)} {len : Nat} {x : Int32} {off : Int} {tgt : Nat} (hd : At y.2.1 pc (.lookupswitch dflt ps) len n) (hp : (ps.toList.zip (ps.toList.drop 1)).all (fun (a, next) => a.1 < next.1) = true) (ho : Op.lookupswitch.offset ps.toList dflt x.toInt = off) (ht : (pc : Int) + off = (tgt : Int)) (k : Go y tgt L st σ V S) : Go y pc L (.inl x :: st) σ V S := by
  obtain ⟨hd, rfl⟩ := hd
  intro X p l e R s m args below meth c A cells slots Q F hr oL oS H locs ls hl hW hS
  exact lv_lookup F.1 F.2.1 hd hp ho ht (k X p l e R s m args below meth c A cells slots Q F hr oL oS.tl H locs ls hl hW hS)
end RULES2
/-! the heap -/
/-- a field of a class of ours, linked from a class: its words -/
def FS (own : String) (idx c j : Nat) : Prop := ∃ (C : String) (T : u_T), classes[c]? = some (C, T, nf c) ∧ j < nf c ∧ c < 12 ∧ (∀ w ∈ u_ws C T (nf c), w ∈ gt) ∧ Cond.fieldLink own idx C (T j).2.1 (T j).2.2.1 ∈ gt ∧ (T j).1 = C
/-- it may be put: a number of a kind -/
def PS (c j : Nat) (ty : FieldType) : Prop := ∃ (C : String) (T : u_T) (t0 : Nat → FieldType), classes[c]? = some (C, T, nf c) ∧ (T j).2.2.2 = false ∧ parseFieldDescriptor (T j).2.2.1 = some ty ∧ (∀ k, k < nf c → parseFieldDescriptor (T k).2.2.1 = some (t0 k)) ∧ (∀ a, a < nf c → ∀ b, b < nf c → a ≠ b → (T a).2.1 ≠ (T b).2.1)
/-- a row of the memory anew -/
def sA (σ : Mem) (c k : Nat) (f : Nat → Int32) : Mem := (fun c' k' => if c' = c ∧ k' = k then f else σ.1 c' k', σ.2)
def sI (σ : Mem) (c k j : Nat) (x : Int32) : Mem := sA σ c k (upd (σ.1 c k) j x)
def sL (σ : Mem) (c k j : Nat) (x : Int64) : Mem := (σ.1, fun c' k' => if c' = c ∧ k' = k then vp_updL (σ.2 c k) j x else σ.2 c' k')
theorem sA_at (σ : Mem) (c k : Nat) (f : Nat → Int32) : (sA σ c k f).1 c k = f := by simp [sA]
theorem sA_off {σ : Mem} {c k c' k' : Nat} {f : Nat → Int32} (h : ¬ (c' = c ∧ k' = k)) : (sA σ c k f).1 c' k' = σ.1 c' k' := by simp only [sA, if_neg h]
theorem sA_2 (σ : Mem) (c k : Nat) (f : Nat → Int32) : (sA σ c k f).2 = σ.2 := rfl
theorem fav_off {σ σ' : Mem} {c k j : Nat} (h1 : σ'.1 c k = σ.1 c k) (h2 : σ'.2 c k = σ.2 c k) : fav σ' c k j = fav σ c k j := by
  unfold fav
  rw [h1, h2]
theorem acell_off {X : Kx} {σ σ' : Mem} {c k : Nat} (h1 : σ'.1 c k = σ.1 c k) (h2 : σ'.2 c k = σ.2 c k) : acell X σ' c k = acell X σ c k := by
  unfold acell
  rw [h1]
  congr 3
  exact List.map_congr_left (fun j _ => by rw [fav_off h1 h2])
theorem cl_in {X : Kx} {c k : Nat} (h : okA X (.inr (.inr (c, k)))) (hc : c ∈ kds) : ∃ i : Nat, (Klx X)[i]? = some (c, k) := List.getElem?_of_mem (h.in hc)
section HEAP
variable {y : MI} {pc n : Nat} {L : List (Option AV)} {st : List AV} {σ S : Mem} {V : Option AV}
theorem kds_lt {c : Nat} (h : c < 12) : c ∈ kds := by
  unfold kds
  simp only [List.mem_cons]
  omega
theorem g_getf {cc k idx j : Nat} {v : AV} (hd : At y.2.1 pc (.getfield idx) 3 n) (hf : FS y.1.cls idx cc j) (hv : fav σ cc k j = v) (kk : Go y n L (v :: st) σ V S) : Go y pc L (.inr (.inr (cc, k)) :: st) σ V S := by
  obtain ⟨hd, rfl⟩ := hd
  intro X p l e R s m args below meth c A cells slots Q F hr oL oS H locs ls hl hW hS
  obtain ⟨C, T, hc, hj, h12, hin, hw, hT⟩ := hf
  have hk := oS.hd
  obtain ⟨i, hi⟩ := cl_in hk (kds_lt h12)
  have hcell : (wl X σ)[i]? = some (Kad X cc k, .inr (cc, (List.range (nf cc)).map fun j => cv (Kad X) (fav σ cc k j))) := by
    rw [wl_at hi]
    simp [acell, h12]
  refine va_get (D := X.1) (ci := cc) (v := cv (Kad X) v) (C := C) (T := T) (N := nf cc) F.1 F.2.1 F.2.2.2.2.1 hin F.2.2.2.1 F.2.2.2.2.2.1 hW.1 i hcell hc j hj (F.2.2.2.2.1 _ hw) (fun _ h9 => by rw [← hT]; exact h9) ?_ hd (kk X p l e R s m args below meth c A cells slots Q F hr oL (oS.tl.cons (by rw [← hv]; exact F.2.2.2.2.2.2.1.1.2.2 _ (hk.in (kds_lt h12)) _ _ _)) H locs ls hl hW hS)
  rw [List.getElem?_map, List.getElem?_range hj, ← hv]
  rfl
theorem Wd_of {X : Kx} {σ σ' : Mem} {H H1 : Heap} (hW : Wd X σ H) (h : va_P X.1 classes (wl X σ') H1) (h1 : σ'.1 24 = σ.1 24) : Wd X σ' H1 := ⟨h, by rw [h1]; exact hW.2.1, by rw [h1]; exact hW.2.2⟩
theorem put_go {X : Kx} {p : Program} {l : Launch} {e : Env} {R : Room} {s : State} {m : MethodId} {args : Array Value} {below : List Frame} {meth : Method} {c : Code} {A : Nat → Prop} {cells slots : Nat} {Q : State → Prop} {H : Heap} {locs : List Loc} {ls : Array Slot} {rest : List Value}
    (F : Fr y X p R s m args meth c A cells slots) {cc k idx j : Nat} {ty : FieldType} {v : Value} {σ' : Mem} (hd : decode y.2.1 pc = .ok (.putfield idx, 3)) (hf : FS y.1.cls idx cc j) (hp : PS cc j ty) (hk : okA X (.inr (.inr (cc, k)))) (hn : narrow ty v = v) (hfit : fits ty v = true)
    (ho : ∀ q, q ≠ (cc, k) → σ'.1 q.1 q.2 = σ.1 q.1 q.2 ∧ σ'.2 q.1 q.2 = σ.2 q.1 q.2) (hv : ∀ i, cv (Kad X) (fav σ' cc k i) = if i = j then v else cv (Kad X) (fav σ cc k i))
    (hW : Wd X σ H) (hS : va_S A s.heap H locs) (kk : ∀ (H1 : Heap) (locs1 : List Loc), Wd X σ' H1 → va_S A s.heap H1 locs1 → W p l e R s m args below meth c H1 locs1 cells slots Q (F0 m (pc + 3) ls rest)) : W p l e R s m args below meth c H locs cells slots Q (F0 m pc ls (v :: .ref (Kad X cc k) :: rest)) := by
  obtain ⟨C, T, hc, hj, h12, hin, hw, hT⟩ := hf
  obtain ⟨C', T', t0, hc', hfin, hty, hall, hnm⟩ := hp
  cases hc.symm.trans hc'
  obtain ⟨i, hi⟩ := cl_in hk (kds_lt h12)
  have hcell : (wl X σ)[i]? = some (Kad X cc k, .inr (cc, (List.range (nf cc)).map fun j => cv (Kad X) (fav σ cc k j))) := by
    rw [wl_at hi]
    simp [acell, h12]
  refine va_put (D := X.1) (ci := cc) (v := v) (ty := ty) (C := C) (T := T) (N := nf cc) F.1 F.2.1 F.2.2.2.2.1 hin t0 hall hnm F.2.2.2.1 F.2.2.2.2.2.1 hW.1 (wl_D F.2.2.2.2.2.2.1.1 F.2.2.2.2.2.2.1.2 F.2.2.2.2.2.2.2.1) hS i hcell hc j hj (F.2.2.2.2.1 _ hw) (fun _ h9 => by rw [← hT]; exact h9) hfin hty hn hfit (by rw [List.length_map, List.length_range]; exact hj) hd (fun H1 locs1 hP1 _ hS1 => kk H1 locs1 (Wd_of hW ?_ ?_) hS1)
  · have e : acell X σ' cc k = .inr (cc, ((List.range (nf cc)).map fun j => cv (Kad X) (fav σ cc k j)).set j v) := by
      simp only [acell, h12, if_true]
      congr 2
      apply List.ext_getElem?
      intro q
      rw [List.getElem?_set, List.getElem?_map, List.getElem?_map, List.length_map, List.length_range]
      by_cases hq : q < nf cc
      · rw [List.getElem?_range hq]
        show some (cv (Kad X) (fav σ' cc k q)) = _
        rw [hv q]
        by_cases z : q = j
        · subst z
          simp [hq]
        · have z2 : ¬ j = q := fun t => z t.symm
          simp [z, z2]
      · have hq2 : (List.range (nf cc))[q]? = none := by simp; omega
        rw [hq2]
        have z2 : ¬ j = q := fun t => hq (t ▸ hj)
        simp [z2]
    rw [← wl_set F.2.2.2.2.2.2.1.1 hi (fun q _ hq => acell_off (ho q hq).1 (ho q hq).2), e]
    exact hP1
  · funext q
    exact (ho (24, q) (fun z => by cases z; exact absurd h12 (by decide))).1
end HEAP
end
section
/-! fields put, rows read and written, calls -/
section HEAP2
variable {y : MI} {pc n : Nat} {L : List (Option AV)} {st : List AV} {σ S : Mem} {V : Option AV}
theorem sI_off {σ : Mem} {c k j : Nat} {x : Int32} : ∀ q : Nat × Nat, q ≠ (c, k) → (sI σ c k j x).1 q.1 q.2 = σ.1 q.1 q.2 ∧ (sI σ c k j x).2 q.1 q.2 = σ.2 q.1 q.2 := by
  intro q hq
  exact ⟨sA_off (fun z => hq (Prod.ext z.1 z.2)), rfl⟩
theorem sA_offq {σ : Mem} {c k : Nat} {f : Nat → Int32} : ∀ q : Nat × Nat, q ≠ (c, k) → (sA σ c k f).1 q.1 q.2 = σ.1 q.1 q.2 ∧ (sA σ c k f).2 q.1 q.2 = σ.2 q.1 q.2 := by
  intro q hq
  exact ⟨sA_off (fun z => hq (Prod.ext z.1 z.2)), rfl⟩
theorem sL_off {σ : Mem} {c k j : Nat} {x : Int64} : ∀ q : Nat × Nat, q ≠ (c, k) → (sL σ c k j x).1 q.1 q.2 = σ.1 q.1 q.2 ∧ (sL σ c k j x).2 q.1 q.2 = σ.2 q.1 q.2 := by
  intro q hq
  refine ⟨rfl, ?_⟩
  have z : ¬ (q.1 = c ∧ q.2 = k) := fun z => hq (Prod.ext z.1 z.2)
  simp only [sL, if_neg z]
/-- an int field: what is read of it is the number put -/
def iF (c j : Nat) : Prop := ∀ (x : Int32) (l : Int64) (k : Nat), favW x l c k j = .inl x
def lF (c j : Nat) : Prop := ∀ (x : Int32) (l : Int64) (k : Nat), favW x l c k j = .inr (.inl l)
/-- the other fields don't look at that slot's number -/
theorem fav_sI {ad : AdT} {σ : Mem} {c k j : Nat} {x : Int32} (h : iF c j) : ∀ i, cv ad (fav (sI σ c k j x) c k i) = if i = j then .int x else cv ad (fav σ c k i) := by
  intro i
  by_cases e : i = j
  · subst e
    rw [if_pos rfl]
    unfold fav
    rw [h]
    show Value.int ((sI σ c k i x).1 c k i) = _
    rw [sI, sA_at]
    simp [upd]
  · rw [if_neg e]
    unfold fav
    rw [sI, sA_at]
    simp only [upd, if_neg e]
    rfl
theorem fav_sL {ad : AdT} {σ : Mem} {c k j : Nat} {x : Int64} (h : lF c j) : ∀ i, cv ad (fav (sL σ c k j x) c k i) = if i = j then .long x else cv ad (fav σ c k i) := by
  intro i
  by_cases e : i = j
  · subst e
    rw [if_pos rfl]
    unfold fav
    rw [h]
    show Value.long ((sL σ c k i x).2 c k i) = _
    simp [sL, vp_updL]
  · rw [if_neg e]
    unfold fav
    simp [sL, vp_updL, e]
theorem g_puti {cc k idx j : Nat} {x : Int32} (hd : At y.2.1 pc (.putfield idx) 3 n) (hf : FS y.1.cls idx cc j) (hp : PS cc j .int) (hi : iF cc j) (kk : Go y n L st (sI σ cc k j x) V S) : Go y pc L (.inl x :: .inr (.inr (cc, k)) :: st) σ V S := by
  obtain ⟨hd, rfl⟩ := hd
  intro X p l e R s m args below meth c A cells slots Q F hr oL oS H locs ls hl hW hS
  exact put_go F (v := .int x) hd hf hp oS.tl.hd rfl rfl sI_off (fav_sI hi) hW hS (fun H1 locs1 h1 h2 => kk X p l e R s m args below meth c A cells slots Q F hr oL oS.tl.tl H1 locs1 ls hl h1 h2)
theorem g_putz {cc k idx j : Nat} {x : Int32} (hd : At y.2.1 pc (.putfield idx) 3 n) (hf : FS y.1.cls idx cc j) (hp : PS cc j .boolean) (hi : iF cc j) (hx : x = 0 ∨ x = 1) (kk : Go y n L st (sI σ cc k j x) V S) : Go y pc L (.inl x :: .inr (.inr (cc, k)) :: st) σ V S := by
  obtain ⟨hd, rfl⟩ := hd
  intro X p l e R s m args below meth c A cells slots Q F hr oL oS H locs ls hl hW hS
  exact put_go F (v := .int x) hd hf hp oS.tl.hd (by rcases hx with rfl | rfl <;> rfl) (by rcases hx with rfl | rfl <;> rfl) sI_off (fav_sI hi) hW hS (fun H1 locs1 h1 h2 => kk X p l e R s m args below meth c A cells slots Q F hr oL oS.tl.tl H1 locs1 ls hl h1 h2)
theorem g_putl {cc k idx j : Nat} {x : Int64} (hd : At y.2.1 pc (.putfield idx) 3 n) (hf : FS y.1.cls idx cc j) (hp : PS cc j .long) (hi : lF cc j) (kk : Go y n L st (sL σ cc k j x) V S) : Go y pc L (.inr (.inl x) :: .inr (.inr (cc, k)) :: st) σ V S := by
  obtain ⟨hd, rfl⟩ := hd
  intro X p l e R s m args below meth c A cells slots Q F hr oL oS H locs ls hl hW hS
  exact put_go F (v := .long x) hd hf hp oS.tl.hd rfl rfl sL_off (fav_sL hi) hW hS (fun H1 locs1 h1 h2 => kk X p l e R s m args below meth c A cells slots Q F hr oL oS.tl.tl H1 locs1 ls hl h1 h2)
/-- a row of ints of ours -/
def rI (c k : Nat) : Prop := c ∈ kds ∧ ¬ c < 12 ∧ ¬ (c = 22 ∧ k = 2)
theorem rw_at {X : Kx} {σ : Mem} {i c k : Nat} (h : (Klx X)[i]? = some (c, k)) (hr : rI c k) : (wl X σ)[i]? = some (Kad X c k, .inl (X.2.1.1, alen c k, .inl (σ.1 c k))) := by
  rw [wl_at h]
  simp only [acell, if_neg hr.2.1, if_neg hr.2.2]
theorem g_iald {cc k : Nat} {i x : Int32} (hd : At y.2.1 pc .iaload 1 n) (hr0 : rI cc k) (hin : vp_in i (alen cc k)) (hx : σ.1 cc k i.toNatClampNeg = x) (kk : Go y n L (.inl x :: st) σ V S) : Go y pc L (.inl i :: .inr (.inr (cc, k)) :: st) σ V S := by
  obtain ⟨hd, rfl⟩ := hd
  subst hx
  intro X p l e R s m args below meth c A cells slots Q F hr oL oS H locs ls hl hW hS
  obtain ⟨q, hq⟩ := cl_in oS.tl.hd hr0.1
  exact va_iald (tys := atys X) F.1 F.2.1 F.2.2.2.2.2.1 hW.1 q 0 (rw_at hq hr0) rfl hin hd (kk X p l e R s m args below meth c A cells slots Q F hr oL oS.tl.tl.i H locs ls hl hW hS)
theorem g_iast {cc k j : Nat} {i x : Int32} (hd : At y.2.1 pc .iastore 1 n) (hr0 : rI cc k) (hin : vp_in i (alen cc k)) (hj : i.toNatClampNeg = j) (kk : Go y n L st (sI σ cc k j x) V S) : Go y pc L (.inl x :: .inl i :: .inr (.inr (cc, k)) :: st) σ V S := by
  obtain ⟨hd, rfl⟩ := hd
  subst hj
  intro X p l e R s m args below meth c A cells slots Q F hr oL oS H locs ls hl hW hS
  obtain ⟨q, hq⟩ := cl_in oS.tl.tl.hd hr0.1
  refine va_iast (tys := atys X) F.1 F.2.1 F.2.2.2.2.2.1 hW.1 (wl_D F.2.2.2.2.2.2.1.1 F.2.2.2.2.2.2.1.2 F.2.2.2.2.2.2.2.1) hS q 0 (rw_at hq hr0) rfl hin hd (fun H1 locs1 hP1 _ hS1 => kk X p l e R s m args below meth c A cells slots Q F hr oL oS.tl.tl.tl H1 locs1 ls hl (Wd_of hW ?_ ?_) hS1)
  · rw [← wl_set F.2.2.2.2.2.2.1.1 hq (fun q _ hq => acell_off (sI_off q hq).1 (sI_off q hq).2)]
    rw [show acell X (sI σ cc k i.toNatClampNeg x) cc k = .inl (X.2.1.1, alen cc k, .inl (upd (σ.1 cc k) i.toNatClampNeg x)) from by simp only [acell, if_neg hr0.2.1, if_neg hr0.2.2, sI, sA_at]]
    exact hP1
  · funext q
    exact (sI_off (24, q) (fun z => by cases z; exact absurd hr0.1 (by decide))).1
theorem g_zald {i x : Int32} (hd : At y.2.1 pc .baload 1 n) (hin : vp_in i 2) (hx : σ.1 22 2 i.toNatClampNeg = x) (kk : Go y n L (.inl x :: st) σ V S) : Go y pc L (.inl i :: .inr (.inr (22, 2)) :: st) σ V S := by
  obtain ⟨hd, rfl⟩ := hd
  subst hx
  intro X p l e R s m args below meth c A cells slots Q F hr oL oS H locs ls hl hW hS
  obtain ⟨q, hq⟩ := cl_in oS.tl.hd (by decide)
  exact va_zald (tys := atys X) F.1 F.2.1 F.2.2.2.2.2.1 hW.1 q 1 (wl_at hq) rfl hin hd (kk X p l e R s m args below meth c A cells slots Q F hr oL oS.tl.tl.i H locs ls hl hW hS)
theorem g_zast {i x : Int32} {j : Nat} (hd : At y.2.1 pc .bastore 1 n) (hin : vp_in i 2) (h01 : x = 0 ∨ x = 1) (hj : i.toNatClampNeg = j) (kk : Go y n L st (sI σ 22 2 j x) V S) : Go y pc L (.inl x :: .inl i :: .inr (.inr (22, 2)) :: st) σ V S := by
  obtain ⟨hd, rfl⟩ := hd
  subst hj
  have hn : vp_nar .boolean x = x := by rcases h01 with rfl | rfl <;> rfl
  intro X p l e R s m args below meth c A cells slots Q F hr oL oS H locs ls hl hW hS
  obtain ⟨q, hq⟩ := cl_in oS.tl.tl.hd (by decide)
  refine va_zast (tys := atys X) F.1 F.2.1 F.2.2.2.2.2.1 hW.1 (wl_D F.2.2.2.2.2.2.1.1 F.2.2.2.2.2.2.1.2 F.2.2.2.2.2.2.2.1) hS q 1 (wl_at hq) rfl hin hd (fun H1 locs1 hP1 _ hS1 => kk X p l e R s m args below meth c A cells slots Q F hr oL oS.tl.tl.tl H1 locs1 ls hl (Wd_of hW ?_ ?_) hS1)
  · rw [hn] at hP1
    rw [← wl_set F.2.2.2.2.2.2.1.1 hq (fun q _ hq => acell_off (sI_off q hq).1 (sI_off q hq).2)]
    rw [show acell X (sI σ 22 2 i.toNatClampNeg x) 22 2 = .inl (X.2.1.2, 2, .inl (upd (σ.1 22 2) i.toNatClampNeg x)) from by simp only [acell, sI, sA_at]; rfl]
    exact hP1
  · funext q
    exact (sI_off (24, q) (fun z => by cases z)).1
theorem g_alen {cc k : Nat} {x : Int32} (hd : At y.2.1 pc .arraylength 1 n) (hr0 : rI cc k) (hx : Int32.ofNat (alen cc k) = x) (kk : Go y n L (.inl x :: st) σ V S) : Go y pc L (.inr (.inr (cc, k)) :: st) σ V S := by
  obtain ⟨hd, rfl⟩ := hd
  intro X p l e R s m args below meth c A cells slots Q F hr oL oS H locs ls hl hW hS
  obtain ⟨q, hq⟩ := cl_in oS.hd hr0.1
  exact va_alen (tys := atys X) F.1 F.2.1 F.2.2.2.2.2.1 hW.1 q 0 (rw_at hq hr0) rfl hx hd (kk X p l e R s m args below meth c A cells slots Q F hr oL oS.tl.i H locs ls hl hW hS)
theorem g_slen {x : Int32} (hy : y.1.cls = RL) (hd : At y.2.1 pc .arraylength 1 n) (hx : σ.1 24 1 0 = x) (kk : Go y n L (.inl x :: st) σ V S) : Go y pc L (.inr (.inr (24, 0)) :: st) σ V S := by
  obtain ⟨hd, rfl⟩ := hd
  intro X p l e R s m args below meth c A cells slots Q F hr oL oS H locs ls hl hW hS
  obtain ⟨h1, h2, h3, h4⟩ := F.2.2.2.2.2.2.2.2.2.1 hy
  have e : x = Int32.ofNat X.2.2.2.2.1 := by rw [← hx]; exact hW.2.2
  subst e
  exact va_slen F.1 F.2.1 h1 h2 h3 hS hd (kk X p l e R s m args below meth c A cells slots Q F hr oL oS.tl.i H locs ls hl hW hS)
theorem g_sld {i x : Int32} (hy : y.1.cls = RL) (hd : At y.2.1 pc .iaload 1 n) (hin : ∀ N : Nat, N ≤ 384 → σ.1 24 1 0 = nI N → vp_in i N) (hx : σ.1 24 0 i.toNatClampNeg = x) (kk : Go y n L (.inl x :: st) σ V S) : Go y pc L (.inl i :: .inr (.inr (24, 0)) :: st) σ V S := by
  obtain ⟨hd, rfl⟩ := hd
  intro X p l e R s m args below meth c A cells slots Q F hr oL oS H locs ls hl hW hS
  obtain ⟨h1, h2, h3, h4⟩ := F.2.2.2.2.2.2.2.2.2.1 hy
  have e : x = X.2.2.2.1 i.toNatClampNeg := by rw [← hx]; exact congrFun hW.2.1 _
  subst e
  exact va_sld F.1 F.2.1 h1 h2 h3 hS (hin _ h4 hW.2.2) hd (kk X p l e R s m args below meth c A cells slots Q F hr oL oS.tl.tl.i H locs ls hl hW hS)
end HEAP2
/-! calls -/
/-- what the tables say of a method -/
def MOK (y : MI) : Prop := Cond.code y.1 y.2.1 y.2.2.1 y.2.2.2.1 ∈ gt ∧ plainName y.1.cls = true ∧ Cond.initialized y.1.cls ∈ gt ∧ (y.1.cls ≠ "java/lang/invoke/MethodHandle" ∧ y.1.cls ≠ "java/lang/invoke/VarHandle") ∧ y.1.cls ≠ RL
theorem lw_good : ∀ w ∈ gt, goodWord w = true := fun _ h => (List.mem_filter.mp h).2
/-- the locals at a method's begin -/
def lay : List AV → List (Option AV)
  | [] => []
  | .inr (.inl x) :: l => some (.inr (.inl x)) :: none :: lay l
  | a :: l => some a :: lay l
def ini (y : MI) (As : List AV) : List (Option AV) := lay As ++ List.replicate (y.2.2.1 - (lay As).length) none
def Ev (y : MI) (As : List AV) (σ : Mem) (V : Option AV) (S : Mem) : Prop := Go y 0 (ini y As) [] σ V S
def Qm (X : Kx) (rt : Option FieldType) (V : Option AV) (S : Mem) : Array Value → State → Outcome → State → Prop := fun _ st o t =>
  o = .returned (V.map (cv (Kad X))) ∧ vok rt V ∧ okS X V.toList ∧ Wd X S t.heap ∧ va_F (Wa X) st t
def Pm (X : Kx) (As : List AV) (σ : Mem) : Array Value → State → Prop := va_Pc (As.map (cv (Kad X))) (fun U => Wd X σ U.heap ∧ va_K X.1 classes (atys X) U ∧ SX X (Wa X) U U.heap)
def wsM (y : MI) : List Cond := Cond.code y.1 y.2.1 y.2.2.1 y.2.2.2.1 :: gt
def rmM (y : MI) : Room := { frames := y.2.2.2.2.1, cells := 0, slots := 0, locals := y.2.2.2.2.2 }
theorem lay_lv {ad : AdT} : ∀ (As : List AV) (i0 i : Nat) (a : AV), (lay As)[i]? = some (some a) → (i0 + i, cv ad a) ∈ lv_args i0 (As.map (cv ad))
  | [], _, _, _, h => by simp [lay] at h
  | .inl x :: l, i0, i, a, h => by
    cases i with
    | zero =>
      simp only [lay, List.getElem?_cons_zero, Option.some.injEq] at h
      subst h
      exact List.mem_cons_self
    | succ i =>
      simp only [lay, List.getElem?_cons_succ] at h
      have := lay_lv (ad := ad) l (i0 + 1) i a h
      rw [show i0 + (i + 1) = i0 + 1 + i by omega]
      exact List.mem_cons_of_mem _ this
  | .inr (.inl x) :: l, i0, i, a, h => by
    match i, h with
    | 0, h =>
      simp only [lay, List.getElem?_cons_zero, Option.some.injEq] at h
      subst h
      exact List.mem_cons_self
    | 1, h => simp [lay] at h
    | i + 2, h =>
      simp only [lay, List.getElem?_cons_succ] at h
      have := lay_lv (ad := ad) l (i0 + 2) i a h
      rw [show i0 + (i + 2) = i0 + 2 + i by omega]
      exact List.mem_cons_of_mem _ this
  | .inr (.inr q) :: l, i0, i, a, h => by
    cases i with
    | zero =>
      simp only [lay, List.getElem?_cons_zero, Option.some.injEq] at h
      subst h
      exact List.mem_cons_self
    | succ i =>
      simp only [lay, List.getElem?_cons_succ] at h
      have := lay_lv (ad := ad) l (i0 + 1) i a h
      rw [show i0 + (i + 1) = i0 + 1 + i by omega]
      exact List.mem_cons_of_mem _ this
theorem lay_len {ad : AdT} : ∀ As : List AV, (lay As).length = (lg_sl (As.map (cv ad))).length
  | [] => rfl
  | .inl x :: l => by simp only [lay, List.map_cons, List.length_cons]; rw [lay_len (ad := ad) l]; rfl
  | .inr (.inl x) :: l => by simp only [lay, List.map_cons, List.length_cons]; rw [lay_len (ad := ad) l]; rfl
  | .inr (.inr q) :: l => by simp only [lay, List.map_cons, List.length_cons]; rw [lay_len (ad := ad) l]; rfl
end
section
/-! a run is a contract, and a contract serves at a call -/
theorem SX.same {X : Kx} {A : Nat → Prop} {u U : State} {H : Heap} (hv : u.vm = U.vm) (h : SX X A u H) : SX X A U H :=
  have al : u.vm.Alike U.vm := by rw [← hv]; exact Vm.Alike.refl _
  ⟨h.1.moved al, ⟨h.2.1.1.moved al, h.2.1.2.moved al⟩, fun i hi => vk_R.same hv.symm (h.2.2.1 i hi), va_Nw.same rfl hv h.2.2.2⟩
theorem SX.warm {X : Kx} {A : Nat → Prop} {s U : State} {H : Heap} (hW : s.WarmedH U.vm) (h : SX X A s H) : SX X A U H :=
  ⟨h.1.moved hW.alike, ⟨h.2.1.1.moved hW.alike, h.2.1.2.moved hW.alike⟩, fun i hi => vk_R.warm hW (h.2.2.1 i hi), va_Nw.warmM hW h.2.2.2⟩
theorem SX.down {X : Kx} {A B : Nat → Prop} {s : State} {H : Heap} {locs : List Loc} (h : SX X A s s.heap) (hS : va_S A s.heap H locs) (hAB : ∀ q, B q → A q) : SX X B s H :=
  ⟨(h.1.kept hS.2.1).narrow hAB, ⟨(h.2.1.1.kept hS.2.1).narrow hAB, (h.2.1.2.kept hS.2.1).narrow hAB⟩, h.2.2⟩
theorem Pm_blind {X : Kx} {As : List AV} {σ : Mem} : FrameBlind (Pm X As σ) := by
  intro a U g mk h
  obtain ⟨h1, h2, h3, h4⟩ := h
  exact ⟨h1, h2, va_K.moved (u := U) (U := U.calling g mk a) (Vm.Alike.refl U.vm) h3, SX.same (u := U) (U := U.calling g mk a) rfl h4⟩
theorem Wa_in {X : Kx} {A : Nat → Prop} (h : ∀ q ∈ Klx X, A (Kad X q.1 q.2)) : ∀ a, Wa X a → A a := by
  rintro a ⟨q, hq, rfl⟩
  exact h q hq
theorem ret_go {y : MI} {X : Kx} {p : Program} {l : Launch} {e : Env} {R : Room} {s : State} {m : MethodId} {args : Array Value} {below : List Frame} {meth : Method} {c : Code} {V : Option AV} {S : Mem} (hx : p.tables.exec = Jvm.exec) (hb : c.code = y.2.1) (hr : meth.sig.returnType = y.2.2.2.1) (hlk : meth.locks = false) : Rt y X p l e R s m args below meth c (Wa X) 0 0 (MQ below (Qm X y.2.2.2.1 V S) args s 0 0 (Wa X)) V S := by
  intro pc H locs ls hd hv oS hW hS
  have hq : ∀ t : State, t.heap = H → s.WarmedH t.vm → Qm X y.2.2.2.1 V S args s (.returned (V.map (cv (Kad X)))) t := fun t ht _ => ⟨rfl, hv, oS, by rw [ht]; exact hW, hS.F ht⟩
  obtain ⟨y1, y2, y3, y4, y5⟩ := y
  dsimp only at hv hd hr hb hq ⊢
  cases y4 with
  | none =>
    cases V with
    | none => exact W.vret hx hb hr hq hS.2.2 hd hlk
    | some v => exact hv.elim
  | some ty =>
    cases V with
    | none => cases ty <;> exact hv.elim
    | some v =>
      cases ty <;> rcases v with v | v | v <;> first
        | exact hv.elim
        | exact W.iret hx hb hr hq hS.2.2 hd hlk
        | exact W.lret hx hb hr hq hS.2.2 hd hlk
        | exact W.zret (ty := .byte) hx hb hr hv hq hS.2.2 hd hlk
        | exact W.zret (ty := .char) hx hb hr hv hq hS.2.2 hd hlk
        | exact W.zret (ty := .boolean) hx hb hr (by rcases hv with rfl | rfl <;> rfl) hq hS.2.2 hd hlk
        | exact W.aret hx hb hr (Or.inl ⟨_, rfl⟩) (Or.inr ⟨_, rfl⟩) hq hS.2.2 hd hlk
theorem met_of {y : MI} {As : List AV} {σ S : Mem} {V : Option AV} (hE : Ev y As σ V S) (hM : MOK y) (hL : (lay As).length ≤ y.2.2.1) (l : Launch) (X : Kx) (hA : okS X As) (hAp : Cl X ∧ Ap X) : Met l y.1 (wsM y) (rmM y) (Pm X As σ) (Qm X y.2.2.2.1 V S) 0 0 (Wa X) := by
  refine Met.ofW (cc := y.2.1) (maxL := y.2.2.1) (ret := y.2.2.2.1) hM.2.1 rfl ?_
  intro p e s m args below meth c s₁ B hml hv0
  obtain ⟨rfl, hW, hK, hX⟩ := hv0
  have hts := atoms_spec (ws := wsM y) B.pre
  have hlen : (lg_sl (As.map (cv (Kad X)))).length ≤ y.2.2.1 := by rw [← lay_len]; exact hL
  have hl := lv_entry (As.map (cv (Kad X))) (n := y.2.2.1) hlen
  rw [lg_entry_eq]
  refine hE X p l e _ s m _ below meth c (Wa X) 0 0 _ ⟨B.exec, B.bytes, hml, findClass_of_methodNamed B.named, fun w hw => hts w (List.mem_cons_of_mem _ hw), hK, hAp, fun q hq => ⟨q, hq, rfl⟩, hX, fun h => absurd h hM.2.2.2.2, Nat.le_refl _, Nat.le_refl _, Nat.zero_le _, Nat.zero_le _⟩ (ret_go B.exec B.bytes B.returns B.notSynchronized) ?_ (fun _ h => by cases h) s.heap [] _ ⟨hl.1, hl.2.1, fun i a hi => ?_⟩ hW va_S.rf
  · intro a ha
    rcases List.mem_append.mp ha with h | h
    · have key : ∀ (l : List AV), some a ∈ lay l → a ∈ l := by
        intro l
        induction l with
        | nil => intro h; simp [lay] at h
        | cons b l ih =>
          intro h
          rcases b with x | x | q
          · simp only [lay, List.mem_cons, Option.some.injEq] at h
            rcases h with rfl | h
            · exact List.mem_cons_self
            · exact List.mem_cons_of_mem _ (ih h)
          · simp only [lay, List.mem_cons, Option.some.injEq] at h
            rcases h with rfl | h | h
            · exact List.mem_cons_self
            · cases h
            · exact List.mem_cons_of_mem _ (ih h)
          · simp only [lay, List.mem_cons, Option.some.injEq] at h
            rcases h with rfl | h
            · exact List.mem_cons_self
            · exact List.mem_cons_of_mem _ (ih h)
      exact hA a (key As h)
    · have := List.eq_of_mem_replicate h
      cases this
  · rw [ini, List.getElem?_append] at hi
    split at hi
    · have := lay_lv (ad := Kad X) As 0 i a hi
      rw [Nat.zero_add] at this
      exact hl.2.2 _ this
    · rw [List.getElem?_replicate] at hi
      split at hi <;> cases hi
section CALL
variable {p : Program} {l : Launch} {e : Env} {R : Room} {s : State} {m : MethodId} {args : Array Value} {below : List Frame} {meth : Method} {c : Code} {H : Heap} {locs : List Loc} {cells slots : Nat} {Q : State → Prop}
variable {pc : Nat} {ls : Array Slot} {rest st0 : List Value} {a : Array Value} {A0 : Nat → Prop} {H0 : Heap} {X : Kx} {V : Option AV} {S : Mem} {rt : Option FieldType}
theorem run_go (hr : va_Run p l e R s m args below meth c H locs cells slots 0 0 (F0 m pc ls st0) rest (Qm X rt V S a) (Wa X)) (hS : va_S A0 H0 H locs) (hA : ∀ q, Wa X q → A0 q)
    (kk : ∀ (H1 : Heap) (locs1 : List Loc), vok rt V → okS X V.toList → Wd X S H1 → va_S A0 H0 H1 locs1 → W p l e R s m args below meth c H1 locs1 cells slots Q (F0 m (pc + 3) ls ((V.map (cv (Kad X))).toList ++ rest))) : W p l e R s m args below meth c H locs cells slots Q (F0 m pc ls st0) := by
  intro T hT X'
  obtain ⟨v, st₀, t, T', L, h0, X', hL, e1, e2, ⟨hv, hvk, ho, hW, hz, hk⟩, st⟩ := hr T hT X'
  cases hv
  rw [h0] at hz hk
  obtain ⟨t2, a1, b1⟩ := kk T'.heap (locs ++ L) hvk ho (by rw [e1]; exact hW)
    ⟨Nat.le_trans hS.1 (by rw [e1]; exact hz), fun q h1 h2 => by rw [e1, hk q (Nat.lt_of_lt_of_le h1 hS.1) (fun z => h2 (hA q z))]; exact hS.2.1 q h1 h2, fun q hq => by
      rcases List.mem_append.mp hq with h | h
      · exact hS.2.2 q h
      · exact hA _ (hL q h)⟩ T' rfl X'
  exact ⟨t2, st t2 a1, b1⟩
end CALL
theorem gt_GoodIn {y : MI} (hM : MOK y) : GoodIn gt (wsM y) := by
  intro w hw
  have h : w ∈ gt := (List.mem_cons.mp hw).elim (fun e => e ▸ hM.1) id
  exact ⟨h, good_of_word (lw_good w h)⟩
/-- a call's words -/
def CS (own : String) (idx : Nat) (z : MI) (na : Nat) : Prop := MOK z ∧ Cond.methodLink own idx z.1 ∈ gt ∧ Cond.static z.1 ∈ gt ∧ (parseMethodDescriptor z.1.desc).map (fun d => d.parameters.length) = some na
def CV (own : String) (idx : Nat) (z : MI) (na cc : Nat) : Prop := MOK z ∧ Cond.methodLink own idx z.1 ∈ gt ∧ Cond.instanceMethod z.1 ∈ gt ∧ Cond.selects z.1.cls z.1 z.1 ∈ gt ∧ (parseMethodDescriptor z.1.desc).map (fun d => d.parameters.length) = some na ∧ cc < 12 ∧ (classes[cc]?).map (fun q => q.1) = some z.1.cls
def CT (own : String) (idx : Nat) (z : MI) (na : Nat) : Prop := MOK z ∧ Cond.methodLink own idx z.1 ∈ gt ∧ Cond.instanceMethod z.1 ∈ gt ∧ Cond.selects z.1.cls z.1 z.1 ∈ gt ∧ (parseMethodDescriptor z.1.desc).map (fun d => d.parameters.length) = some na ∧ z.1.cls = "java/lang/String"
def cat1 (st : List AV) : Nat := (st.map fun a => match a with | .inr (.inl _) => 2 | _ => 1).sum
theorem cat_sum {ad : AdT} (st : List AV) : ((st.map (cv ad)).map fun v => v.category).sum = cat1 st := by
  induction st with
  | nil => rfl
  | cons a st ih =>
    simp only [cat1, List.map_cons, List.sum_cons] at ih ⊢
    rw [ih]
    rcases a with x | x | q <;> rfl
/-- the sizes of a call, by one count -/
def szOK (y z : MI) (As st : List AV) (d : Nat) : Bool := Nat.ble ((lay As).length + d) z.2.2.1 && (Nat.ble (z.2.2.2.2.1 + 1) y.2.2.2.2.1 && (Nat.ble (8 + (z.2.2.1 + 11) + z.2.2.2.2.2) y.2.2.2.2.2 && Nat.ble (cat1 st) 8))
theorem szOK_use {y z : MI} {As st : List AV} {d : Nat} (h : szOK y z As st d = true) : (lay As).length + d ≤ z.2.2.1 ∧ (z.2.2.2.2.1 + 1 ≤ y.2.2.2.2.1 ∧ 8 + (z.2.2.1 + 11) + z.2.2.2.2.2 ≤ y.2.2.2.2.2) ∧ cat1 st ≤ 8 := by
  simp only [szOK, Bool.and_eq_true] at h
  exact ⟨Nat.le_of_ble_eq_true h.1, ⟨Nat.le_of_ble_eq_true h.2.1, Nat.le_of_ble_eq_true h.2.2.1⟩, Nat.le_of_ble_eq_true h.2.2.2⟩
section CALL2
variable {y z : MI} {pc n idx na cc k : Nat} {L : List (Option AV)} {As st : List AV} {σ σ1 S : Mem} {V V1 : Option AV}
/-- the room that the callee asks for is there -/
def rmOK (y z : MI) : Prop := z.2.2.2.2.1 + 1 ≤ y.2.2.2.2.1 ∧ 8 + (z.2.2.1 + 11) + z.2.2.2.2.2 ≤ y.2.2.2.2.2
theorem okS_rev {X : Kx} {As st : List AV} (h : okS X (As.reverse ++ st)) : okS X As ∧ okS X st := ⟨fun a ha => h a (List.mem_append_left _ (List.mem_reverse.mpr ha)), fun a ha => h a (List.mem_append_right _ ha)⟩
theorem map_stack {ad : AdT} {As st : List AV} : (As.reverse ++ st).map (cv ad) = (As.map (cv ad)).reverse ++ st.map (cv ad) := by simp
theorem val_stack {ad : AdT} {V1 : Option AV} {st : List AV} : (V1.map (cv ad)).toList ++ st.map (cv ad) = (V1.toList ++ st).map (cv ad) := by cases V1 <;> rfl
theorem g_callS (hd : At y.2.1 pc (.invokestatic idx) 3 n) (hc : CS y.1.cls idx z na) (hE : Ev z As σ V1 σ1) (hlen : As.length = na) (hlay : (lay As).length ≤ z.2.2.1) (hrm : rmOK y z) (hcat : cat1 st ≤ 8)
    (kk : vok z.2.2.2.1 V1 → Go y n L (V1.toList ++ st) σ1 V S) : Go y pc L (As.reverse ++ st) σ V S := by
  obtain ⟨hd, rfl⟩ := hd
  intro X p l e R s m args below meth c A cells slots Q F hr oL oS H locs ls hl hW hS
  obtain ⟨o1, o2⟩ := okS_rev oS
  obtain ⟨hM, hlk, hst, hna⟩ := hc
  have hmet := met_of hE hM hlay l X o1 F.2.2.2.2.2.2.1
  have hts := F.2.2.2.2.1
  have hR : (rmM z).frames + 1 ≤ R.frames ∧ 8 + (z.2.2.1 + 11) + (rmM z).locals ≤ R.locals := ⟨Nat.le_trans hrm.1 F.2.2.2.2.2.2.2.2.2.2.1, Nat.le_trans hrm.2 F.2.2.2.2.2.2.2.2.2.2.2.1⟩
  have cw := callB_of (y := z.1) (bytes := z.2.1) (maxL := z.2.2.1) (ret := z.2.2.2.1) (mc := 0) (ms := 0) (own := y.1.cls) (index := idx) na hts (gt_GoodIn hM) (show wsM z = _ :: gt from rfl) rfl rfl (hts _ hM.2.2.1) (hts _ hlk) ⟨hM.2.2.2.1.1, hM.2.2.2.1.2, hna⟩ hR
  have hWA := Wa_in F.2.2.2.2.2.2.2.1
  refine run_go (va_runS (As := As.map (cv (Kad X))) (rest := st.map (cv (Kad X))) (Ts := gt) ⟨F.1, F.2.1, F.2.2.1, F.2.2.2.1, hts⟩ hmet ⟨cw, hts _ hst⟩ ⟨Pm_blind, fun U hU hWm => ⟨rfl, by rw [hU]; exact hW, va_K.moved hWm.alike F.2.2.2.2.2.1, ?_⟩⟩ rfl (by rw [List.length_map]; exact hlen) hl.1 map_stack (lv_room (by rw [cat_sum]; exact hcat)) hd ⟨F.2.2.2.2.2.2.2.2.2.2.2.2.1, F.2.2.2.2.2.2.2.2.2.2.2.2.2⟩) hS hWA (fun H1 locs1 h0 h1 h2 h3 => ?_)
  · rw [hU]
    exact SX.warm hWm (F.2.2.2.2.2.2.2.2.1.down hS hWA)
  · rw [val_stack]
    refine kk h0 X p l e R s m args below meth c A cells slots Q F hr oL ?_ H1 locs1 ls hl h2 h3
    intro b hb
    rcases List.mem_append.mp hb with hb | hb
    · exact h1 b hb
    · exact o2 b hb
theorem g_callV (hd : At y.2.1 pc (.invokevirtual idx) 3 n) (hc : CV y.1.cls idx z na cc) (hE : Ev z (.inr (.inr (cc, k)) :: As) σ V1 σ1) (hlen : As.length = na) (hlay : (lay As).length + 1 ≤ z.2.2.1) (hrm : rmOK y z) (hcat : cat1 st ≤ 8)
    (kk : vok z.2.2.2.1 V1 → Go y n L (V1.toList ++ st) σ1 V S) : Go y pc L (As.reverse ++ .inr (.inr (cc, k)) :: st) σ V S := by
  obtain ⟨hd, rfl⟩ := hd
  intro X p l e R s m args below meth c A cells slots Q F hr oL oS H locs ls hl hW hS
  obtain ⟨o1, o2⟩ := okS_rev oS
  obtain ⟨hM, hlk, hin, hse, hna, h12, hcl⟩ := hc
  have hmet := met_of hE hM hlay l X (o1.cons o2.hd) F.2.2.2.2.2.2.1
  have hts := F.2.2.2.2.1
  have hR : (rmM z).frames + 1 ≤ R.frames ∧ 8 + (z.2.2.1 + 11) + (rmM z).locals ≤ R.locals := ⟨Nat.le_trans hrm.1 F.2.2.2.2.2.2.2.2.2.2.1, Nat.le_trans hrm.2 F.2.2.2.2.2.2.2.2.2.2.2.1⟩
  have cw := callB_of (y := z.1) (bytes := z.2.1) (maxL := z.2.2.1) (ret := z.2.2.2.1) (mc := 0) (ms := 0) (own := y.1.cls) (index := idx) na hts (gt_GoodIn hM) (show wsM z = _ :: gt from rfl) rfl rfl (hts _ hM.2.2.1) (hts _ hlk) ⟨hM.2.2.2.1.1, hM.2.2.2.1.2, hna⟩ hR
  have hWA := Wa_in F.2.2.2.2.2.2.2.1
  obtain ⟨i, hi⟩ := cl_in o2.hd (kds_lt h12)
  have hcell : (wl X σ)[i]? = some (Kad X cc k, .inr (cc, (List.range (nf cc)).map fun j => cv (Kad X) (fav σ cc k j))) := by
    rw [wl_at hi]
    simp [acell, h12]
  obtain ⟨qc, hqc⟩ : ∃ qc, classes[cc]? = some qc := by
    cases hz : classes[cc]? with
    | none => rw [hz] at hcl; cases hcl
    | some qc => exact ⟨qc, rfl⟩
  have hq1 : qc.1 = z.1.cls := by
    rw [hqc] at hcl
    exact Option.some.inj hcl
  have hrec := va_recv F.2.2.2.2.2.1 hW.1 hqc hcell
  rw [hq1] at hrec
  refine run_go (va_runV (As := As.map (cv (Kad X))) (rest := st.map (cv (Kad X))) (b := Kad X cc k) (C := z.1.cls) (Ts := gt) ⟨F.1, F.2.1, F.2.2.1, F.2.2.2.1, hts⟩ hmet ⟨cw, hts _ hin, hts _ hse⟩ ⟨Pm_blind, hrec, fun U hU hWm => ⟨rfl, by rw [hU]; exact hW, va_K.moved hWm.alike F.2.2.2.2.2.1, ?_⟩⟩ rfl (by rw [List.length_map]; exact hlen) hl.1 map_stack (lv_room (by rw [cat_sum]; exact hcat)) hd ⟨F.2.2.2.2.2.2.2.2.2.2.2.2.1, F.2.2.2.2.2.2.2.2.2.2.2.2.2⟩) hS hWA (fun H1 locs1 h0 h1 h2 h3 => ?_)
  · rw [hU]
    exact SX.warm hWm (F.2.2.2.2.2.2.2.2.1.down hS hWA)
  · rw [val_stack]
    refine kk h0 X p l e R s m args below meth c A cells slots Q F hr oL ?_ H1 locs1 ls hl h2 h3
    intro b hb
    rcases List.mem_append.mp hb with hb | hb
    · exact h1 b hb
    · exact o2.tl b hb
/-- a method of a text constant -/
theorem g_callT (hd : At y.2.1 pc (.invokevirtual idx) 3 n) (hc : CT y.1.cls idx z na) (hE : Ev z (.inr (.inr (12, k)) :: As) σ V1 σ1) (hlen : As.length = na) (hlay : (lay As).length + 1 ≤ z.2.2.1) (hrm : rmOK y z) (hcat : cat1 st ≤ 8)
    (kk : vok z.2.2.2.1 V1 → Go y n L (V1.toList ++ st) σ1 V S) : Go y pc L (As.reverse ++ .inr (.inr (12, k)) :: st) σ V S := by
  obtain ⟨hd, rfl⟩ := hd
  intro X p l e R s m args below meth c A cells slots Q F hr oL oS H locs ls hl hW hS
  obtain ⟨o1, o2⟩ := okS_rev oS
  obtain ⟨hM, hlk, hin, hse, hna, hzc⟩ := hc
  have hmet := met_of hE hM hlay l X (o1.cons o2.hd) F.2.2.2.2.2.2.1
  have hts := F.2.2.2.2.1
  have hR : (rmM z).frames + 1 ≤ R.frames ∧ 8 + (z.2.2.1 + 11) + (rmM z).locals ≤ R.locals := ⟨Nat.le_trans hrm.1 F.2.2.2.2.2.2.2.2.2.2.1, Nat.le_trans hrm.2 F.2.2.2.2.2.2.2.2.2.2.2.1⟩
  have cw := callB_of (y := z.1) (bytes := z.2.1) (maxL := z.2.2.1) (ret := z.2.2.2.1) (mc := 0) (ms := 0) (own := y.1.cls) (index := idx) na hts (gt_GoodIn hM) (show wsM z = _ :: gt from rfl) rfl rfl (hts _ hM.2.2.1) (hts _ hlk) ⟨hM.2.2.2.1.1, hM.2.2.2.1.2, hna⟩ hR
  have hWA := Wa_in F.2.2.2.2.2.2.2.1
  have hrec := vk_recv F.2.2.2.2.2.2.2.2.1.1 (by have z := o2.hd; simp only [okA, show ¬ (12 ∈ kds) from by decide, if_false] at z; exact z) hS
  rw [← hzc] at hrec
  refine run_go (va_runV (As := As.map (cv (Kad X))) (rest := st.map (cv (Kad X))) (b := Kad X 12 k) (C := z.1.cls) (Ts := gt) ⟨F.1, F.2.1, F.2.2.1, F.2.2.2.1, hts⟩ hmet ⟨cw, hts _ hin, hts _ hse⟩ ⟨Pm_blind, hrec, fun U hU hWm => ⟨rfl, by rw [hU]; exact hW, va_K.moved hWm.alike F.2.2.2.2.2.1, ?_⟩⟩ rfl (by rw [List.length_map]; exact hlen) hl.1 map_stack (lv_room (by rw [cat_sum]; exact hcat)) hd ⟨F.2.2.2.2.2.2.2.2.2.2.2.2.1, F.2.2.2.2.2.2.2.2.2.2.2.2.2⟩) hS hWA (fun H1 locs1 h0 h1 h2 h3 => ?_)
  · rw [hU]
    exact SX.warm hWm (F.2.2.2.2.2.2.2.2.1.down hS hWA)
  · rw [val_stack]
    refine kk h0 X p l e R s m args below meth c A cells slots Q F hr oL ?_ H1 locs1 ls hl h2 h3
    intro b hb
    rcases List.mem_append.mp hb with hb | hb
    · exact h1 b hb
    · exact o2.tl b hb
/-- a private static method of a nest mate: here one alone -/
theorem g_callW (hy : y.1.cls = RX8) (hd : At y.2.1 pc (.invokestatic 88) 3 n) (hz : z.1 = yX10_within) (hM : MOK z) (hst : Cond.static z.1 ∈ gt) (hE : Ev z As σ V1 σ1) (hlen : As.length = 3) (hlay : (lay As).length ≤ z.2.2.1) (hrm : rmOK y z) (hcat : cat1 st ≤ 8)
    (kk : vok z.2.2.2.1 V1 → Go y n L (V1.toList ++ st) σ1 V S) : Go y pc L (As.reverse ++ st) σ V S := by
  obtain ⟨hd, rfl⟩ := hd
  intro X p l e R s m args below meth c A cells slots Q F hr oL oS H locs ls hl hW hS
  obtain ⟨o1, o2⟩ := okS_rev oS
  have hmet := met_of hE hM hlay l X o1 F.2.2.2.2.2.2.1
  have hts := F.2.2.2.2.1
  have hR : (rmM z).frames + 1 ≤ R.frames ∧ 8 + (z.2.2.1 + 11) + (rmM z).locals ≤ R.locals := ⟨Nat.le_trans hrm.1 F.2.2.2.2.2.2.2.2.2.2.1, Nat.le_trans hrm.2 F.2.2.2.2.2.2.2.2.2.2.2.1⟩
  have hna : (parseMethodDescriptor z.1.desc).map (fun d => d.parameters.length) = some 3 := by rw [hz]; decide +kernel
  have h8 := F.2.2.2.2.2.2.2.2.1
  have cw := va_cnB (y := z.1) (bytes := z.2.1) (maxL := z.2.2.1) (ret := z.2.2.2.1) (mc := 0) (ms := 0) (own := y.1.cls) (host := "SteepleStruck") (index := 88) 3 hts (gt_GoodIn hM) (show wsM z = _ :: gt from rfl) rfl rfl (by rw [hy, hz]; exact h8.2.2.2) (hts _ hM.2.2.1) ⟨hM.2.2.2.1.1, hM.2.2.2.1.2, hna⟩ hR
  have hWA := Wa_in F.2.2.2.2.2.2.2.1
  refine run_go (va_runSN (As := As.map (cv (Kad X))) (rest := st.map (cv (Kad X))) (Ts := gt) ⟨F.1, F.2.1, F.2.2.1, F.2.2.2.1, hts⟩ hmet ⟨cw, hts _ hst, trivial⟩ ⟨Pm_blind, fun U hU hWm => ⟨rfl, by rw [hU]; exact hW, va_K.moved hWm.alike F.2.2.2.2.2.1, ?_⟩⟩ rfl (by rw [List.length_map]; exact hlen) hl.1 map_stack (lv_room (by rw [cat_sum]; exact hcat)) hd ⟨F.2.2.2.2.2.2.2.2.2.2.2.2.1, F.2.2.2.2.2.2.2.2.2.2.2.2.2⟩) hS hWA (fun H1 locs1 h0 h1 h2 h3 => ?_)
  · rw [hU]
    exact SX.warm hWm (h8.down hS hWA)
  · rw [val_stack]
    refine kk h0 X p l e R s m args below meth c A cells slots Q F hr oL ?_ H1 locs1 ls hl h2 h3
    intro b hb
    rcases List.mem_append.mp hb with hb | hb
    · exact h1 b hb
    · exact o2 b hb
end CALL2
end
section
/-! words for decompiled runs -/
def ck {α : Type} (b : Bool) (k : Option α) : Option α := match b with
  | true => k
  | false => none
def bnd {α β : Type} (o : Option α) (k : α → Option β) : Option β := match o with
  | some a => k a
  | none => none
def lt {α β : Type} (a : α) (k : α → β) : β := k a
def sm {α β γ : Type} (o : α ⊕ β) (f : α → γ) (g : β → γ) : γ := match o with
  | .inl a => f a
  | .inr b => g b
def inb (i : Int32) (n : Nat) : Bool := decide (¬ (i < 0 ∨ n ≤ i.toNatClampNeg))
theorem ck_inv {α : Type} {b : Bool} {k : Option α} {r : α} (h : ck b k = some r) : b = true ∧ k = some r := by
  cases b with
  | true => exact ⟨rfl, h⟩
  | false => cases h
theorem bnd_inv {α β : Type} {o : Option α} {k : α → Option β} {r : β} (h : bnd o k = some r) : ∃ w, o = some w ∧ k w = some r := by
  cases o with
  | some a => exact ⟨a, rfl, h⟩
  | none => cases h
theorem lt_inv {α β : Type} {a : α} {k : α → β} {r : β} (h : lt a k = r) : ∃ w, a = w ∧ k w = r := ⟨a, rfl, h⟩
theorem sm_l {α β γ : Type} {u : α} {f : α → γ} {g : β → γ} {r : γ} (h : sm (.inl u) f g = r) : f u = r := h
theorem sm_r {α β γ : Type} {u : β} {f : α → γ} {g : β → γ} {r : γ} (h : sm (.inr u) f g = r) : g u = r := h
theorem inb_ok {i : Int32} {n : Nat} (h : inb i n = true) : vp_in i n := by
  simp only [inb, decide_eq_true_eq] at h
  exact h
theorem rI20 (k : Nat) : rI 20 k := ⟨by decide, by decide, fun h => absurd h.1 (by decide)⟩
theorem rI21 (k : Nat) : rI 21 k := ⟨by decide, by decide, fun h => absurd h.1 (by decide)⟩
theorem rI22 {k : Nat} (h : ¬ k = 2) : rI 22 k := ⟨by decide, by decide, fun q => h q.2⟩
section WRAP
variable {y z : MI} {pc n idx cc k : Nat} {L : List (Option AV)} {st : List AV} {σ σ1 S : Mem} {V : Option AV}
theorem g_V0s {v1 : AV} (hd : At y.2.1 pc (.invokevirtual idx) 3 n) (hc : CV y.1.cls idx z 0 cc) (hE : Ev z (.inr (.inr (cc, k)) :: []) σ (some v1) σ1) (hq : szOK y z [] st 1 = true) (kk : vok z.2.2.2.1 (some v1) → Go y n L (v1 :: st) σ1 V S) : Go y pc L (.inr (.inr (cc, k)) :: st) σ V S :=
  g_callV (As := []) hd hc hE rfl (szOK_use hq).1 (szOK_use hq).2.1 (szOK_use hq).2.2 kk
theorem g_V0n (hd : At y.2.1 pc (.invokevirtual idx) 3 n) (hc : CV y.1.cls idx z 0 cc) (hE : Ev z (.inr (.inr (cc, k)) :: []) σ none σ1) (hq : szOK y z [] st 1 = true) (kk : vok z.2.2.2.1 none → Go y n L (st) σ1 V S) : Go y pc L (.inr (.inr (cc, k)) :: st) σ V S :=
  g_callV (As := []) hd hc hE rfl (szOK_use hq).1 (szOK_use hq).2.1 (szOK_use hq).2.2 kk
theorem g_V1s {a0 : AV} {v1 : AV} (hd : At y.2.1 pc (.invokevirtual idx) 3 n) (hc : CV y.1.cls idx z 1 cc) (hE : Ev z (.inr (.inr (cc, k)) :: [a0]) σ (some v1) σ1) (hq : szOK y z [a0] st 1 = true) (kk : vok z.2.2.2.1 (some v1) → Go y n L (v1 :: st) σ1 V S) : Go y pc L (a0 :: .inr (.inr (cc, k)) :: st) σ V S :=
  g_callV (As := [a0]) hd hc hE rfl (szOK_use hq).1 (szOK_use hq).2.1 (szOK_use hq).2.2 kk
theorem g_V1n {a0 : AV} (hd : At y.2.1 pc (.invokevirtual idx) 3 n) (hc : CV y.1.cls idx z 1 cc) (hE : Ev z (.inr (.inr (cc, k)) :: [a0]) σ none σ1) (hq : szOK y z [a0] st 1 = true) (kk : vok z.2.2.2.1 none → Go y n L (st) σ1 V S) : Go y pc L (a0 :: .inr (.inr (cc, k)) :: st) σ V S :=
  g_callV (As := [a0]) hd hc hE rfl (szOK_use hq).1 (szOK_use hq).2.1 (szOK_use hq).2.2 kk
theorem g_V2s {a0 a1 : AV} {v1 : AV} (hd : At y.2.1 pc (.invokevirtual idx) 3 n) (hc : CV y.1.cls idx z 2 cc) (hE : Ev z (.inr (.inr (cc, k)) :: [a0, a1]) σ (some v1) σ1) (hq : szOK y z [a0, a1] st 1 = true) (kk : vok z.2.2.2.1 (some v1) → Go y n L (v1 :: st) σ1 V S) : Go y pc L (a1 :: a0 :: .inr (.inr (cc, k)) :: st) σ V S :=
  g_callV (As := [a0, a1]) hd hc hE rfl (szOK_use hq).1 (szOK_use hq).2.1 (szOK_use hq).2.2 kk
theorem g_V2n {a0 a1 : AV} (hd : At y.2.1 pc (.invokevirtual idx) 3 n) (hc : CV y.1.cls idx z 2 cc) (hE : Ev z (.inr (.inr (cc, k)) :: [a0, a1]) σ none σ1) (hq : szOK y z [a0, a1] st 1 = true) (kk : vok z.2.2.2.1 none → Go y n L (st) σ1 V S) : Go y pc L (a1 :: a0 :: .inr (.inr (cc, k)) :: st) σ V S :=
  g_callV (As := [a0, a1]) hd hc hE rfl (szOK_use hq).1 (szOK_use hq).2.1 (szOK_use hq).2.2 kk
theorem g_V3s {a0 a1 a2 : AV} {v1 : AV} (hd : At y.2.1 pc (.invokevirtual idx) 3 n) (hc : CV y.1.cls idx z 3 cc) (hE : Ev z (.inr (.inr (cc, k)) :: [a0, a1, a2]) σ (some v1) σ1) (hq : szOK y z [a0, a1, a2] st 1 = true) (kk : vok z.2.2.2.1 (some v1) → Go y n L (v1 :: st) σ1 V S) : Go y pc L (a2 :: a1 :: a0 :: .inr (.inr (cc, k)) :: st) σ V S :=
  g_callV (As := [a0, a1, a2]) hd hc hE rfl (szOK_use hq).1 (szOK_use hq).2.1 (szOK_use hq).2.2 kk
theorem g_V3n {a0 a1 a2 : AV} (hd : At y.2.1 pc (.invokevirtual idx) 3 n) (hc : CV y.1.cls idx z 3 cc) (hE : Ev z (.inr (.inr (cc, k)) :: [a0, a1, a2]) σ none σ1) (hq : szOK y z [a0, a1, a2] st 1 = true) (kk : vok z.2.2.2.1 none → Go y n L (st) σ1 V S) : Go y pc L (a2 :: a1 :: a0 :: .inr (.inr (cc, k)) :: st) σ V S :=
  g_callV (As := [a0, a1, a2]) hd hc hE rfl (szOK_use hq).1 (szOK_use hq).2.1 (szOK_use hq).2.2 kk
theorem g_V4s {a0 a1 a2 a3 : AV} {v1 : AV} (hd : At y.2.1 pc (.invokevirtual idx) 3 n) (hc : CV y.1.cls idx z 4 cc) (hE : Ev z (.inr (.inr (cc, k)) :: [a0, a1, a2, a3]) σ (some v1) σ1) (hq : szOK y z [a0, a1, a2, a3] st 1 = true) (kk : vok z.2.2.2.1 (some v1) → Go y n L (v1 :: st) σ1 V S) : Go y pc L (a3 :: a2 :: a1 :: a0 :: .inr (.inr (cc, k)) :: st) σ V S :=
  g_callV (As := [a0, a1, a2, a3]) hd hc hE rfl (szOK_use hq).1 (szOK_use hq).2.1 (szOK_use hq).2.2 kk
theorem g_V4n {a0 a1 a2 a3 : AV} (hd : At y.2.1 pc (.invokevirtual idx) 3 n) (hc : CV y.1.cls idx z 4 cc) (hE : Ev z (.inr (.inr (cc, k)) :: [a0, a1, a2, a3]) σ none σ1) (hq : szOK y z [a0, a1, a2, a3] st 1 = true) (kk : vok z.2.2.2.1 none → Go y n L (st) σ1 V S) : Go y pc L (a3 :: a2 :: a1 :: a0 :: .inr (.inr (cc, k)) :: st) σ V S :=
  g_callV (As := [a0, a1, a2, a3]) hd hc hE rfl (szOK_use hq).1 (szOK_use hq).2.1 (szOK_use hq).2.2 kk
theorem g_V5s {a0 a1 a2 a3 a4 : AV} {v1 : AV} (hd : At y.2.1 pc (.invokevirtual idx) 3 n) (hc : CV y.1.cls idx z 5 cc) (hE : Ev z (.inr (.inr (cc, k)) :: [a0, a1, a2, a3, a4]) σ (some v1) σ1) (hq : szOK y z [a0, a1, a2, a3, a4] st 1 = true) (kk : vok z.2.2.2.1 (some v1) → Go y n L (v1 :: st) σ1 V S) : Go y pc L (a4 :: a3 :: a2 :: a1 :: a0 :: .inr (.inr (cc, k)) :: st) σ V S :=
  g_callV (As := [a0, a1, a2, a3, a4]) hd hc hE rfl (szOK_use hq).1 (szOK_use hq).2.1 (szOK_use hq).2.2 kk
theorem g_V5n {a0 a1 a2 a3 a4 : AV} (hd : At y.2.1 pc (.invokevirtual idx) 3 n) (hc : CV y.1.cls idx z 5 cc) (hE : Ev z (.inr (.inr (cc, k)) :: [a0, a1, a2, a3, a4]) σ none σ1) (hq : szOK y z [a0, a1, a2, a3, a4] st 1 = true) (kk : vok z.2.2.2.1 none → Go y n L (st) σ1 V S) : Go y pc L (a4 :: a3 :: a2 :: a1 :: a0 :: .inr (.inr (cc, k)) :: st) σ V S :=
  g_callV (As := [a0, a1, a2, a3, a4]) hd hc hE rfl (szOK_use hq).1 (szOK_use hq).2.1 (szOK_use hq).2.2 kk
theorem g_V6s {a0 a1 a2 a3 a4 a5 : AV} {v1 : AV} (hd : At y.2.1 pc (.invokevirtual idx) 3 n) (hc : CV y.1.cls idx z 6 cc) (hE : Ev z (.inr (.inr (cc, k)) :: [a0, a1, a2, a3, a4, a5]) σ (some v1) σ1) (hq : szOK y z [a0, a1, a2, a3, a4, a5] st 1 = true) (kk : vok z.2.2.2.1 (some v1) → Go y n L (v1 :: st) σ1 V S) : Go y pc L (a5 :: a4 :: a3 :: a2 :: a1 :: a0 :: .inr (.inr (cc, k)) :: st) σ V S :=
  g_callV (As := [a0, a1, a2, a3, a4, a5]) hd hc hE rfl (szOK_use hq).1 (szOK_use hq).2.1 (szOK_use hq).2.2 kk
theorem g_V6n {a0 a1 a2 a3 a4 a5 : AV} (hd : At y.2.1 pc (.invokevirtual idx) 3 n) (hc : CV y.1.cls idx z 6 cc) (hE : Ev z (.inr (.inr (cc, k)) :: [a0, a1, a2, a3, a4, a5]) σ none σ1) (hq : szOK y z [a0, a1, a2, a3, a4, a5] st 1 = true) (kk : vok z.2.2.2.1 none → Go y n L (st) σ1 V S) : Go y pc L (a5 :: a4 :: a3 :: a2 :: a1 :: a0 :: .inr (.inr (cc, k)) :: st) σ V S :=
  g_callV (As := [a0, a1, a2, a3, a4, a5]) hd hc hE rfl (szOK_use hq).1 (szOK_use hq).2.1 (szOK_use hq).2.2 kk
theorem g_V7s {a0 a1 a2 a3 a4 a5 a6 : AV} {v1 : AV} (hd : At y.2.1 pc (.invokevirtual idx) 3 n) (hc : CV y.1.cls idx z 7 cc) (hE : Ev z (.inr (.inr (cc, k)) :: [a0, a1, a2, a3, a4, a5, a6]) σ (some v1) σ1) (hq : szOK y z [a0, a1, a2, a3, a4, a5, a6] st 1 = true) (kk : vok z.2.2.2.1 (some v1) → Go y n L (v1 :: st) σ1 V S) : Go y pc L (a6 :: a5 :: a4 :: a3 :: a2 :: a1 :: a0 :: .inr (.inr (cc, k)) :: st) σ V S :=
  g_callV (As := [a0, a1, a2, a3, a4, a5, a6]) hd hc hE rfl (szOK_use hq).1 (szOK_use hq).2.1 (szOK_use hq).2.2 kk
theorem g_V7n {a0 a1 a2 a3 a4 a5 a6 : AV} (hd : At y.2.1 pc (.invokevirtual idx) 3 n) (hc : CV y.1.cls idx z 7 cc) (hE : Ev z (.inr (.inr (cc, k)) :: [a0, a1, a2, a3, a4, a5, a6]) σ none σ1) (hq : szOK y z [a0, a1, a2, a3, a4, a5, a6] st 1 = true) (kk : vok z.2.2.2.1 none → Go y n L (st) σ1 V S) : Go y pc L (a6 :: a5 :: a4 :: a3 :: a2 :: a1 :: a0 :: .inr (.inr (cc, k)) :: st) σ V S :=
  g_callV (As := [a0, a1, a2, a3, a4, a5, a6]) hd hc hE rfl (szOK_use hq).1 (szOK_use hq).2.1 (szOK_use hq).2.2 kk
theorem g_S0s {v1 : AV} (hd : At y.2.1 pc (.invokestatic idx) 3 n) (hc : CS y.1.cls idx z 0) (hE : Ev z ([]) σ (some v1) σ1) (hq : szOK y z [] st 0 = true) (kk : vok z.2.2.2.1 (some v1) → Go y n L (v1 :: st) σ1 V S) : Go y pc L (st) σ V S :=
  g_callS (As := []) hd hc hE rfl (szOK_use hq).1 (szOK_use hq).2.1 (szOK_use hq).2.2 kk
theorem g_S0n (hd : At y.2.1 pc (.invokestatic idx) 3 n) (hc : CS y.1.cls idx z 0) (hE : Ev z ([]) σ none σ1) (hq : szOK y z [] st 0 = true) (kk : vok z.2.2.2.1 none → Go y n L (st) σ1 V S) : Go y pc L (st) σ V S :=
  g_callS (As := []) hd hc hE rfl (szOK_use hq).1 (szOK_use hq).2.1 (szOK_use hq).2.2 kk
theorem g_S1s {a0 : AV} {v1 : AV} (hd : At y.2.1 pc (.invokestatic idx) 3 n) (hc : CS y.1.cls idx z 1) (hE : Ev z ([a0]) σ (some v1) σ1) (hq : szOK y z [a0] st 0 = true) (kk : vok z.2.2.2.1 (some v1) → Go y n L (v1 :: st) σ1 V S) : Go y pc L (a0 :: st) σ V S :=
  g_callS (As := [a0]) hd hc hE rfl (szOK_use hq).1 (szOK_use hq).2.1 (szOK_use hq).2.2 kk
theorem g_S1n {a0 : AV} (hd : At y.2.1 pc (.invokestatic idx) 3 n) (hc : CS y.1.cls idx z 1) (hE : Ev z ([a0]) σ none σ1) (hq : szOK y z [a0] st 0 = true) (kk : vok z.2.2.2.1 none → Go y n L (st) σ1 V S) : Go y pc L (a0 :: st) σ V S :=
  g_callS (As := [a0]) hd hc hE rfl (szOK_use hq).1 (szOK_use hq).2.1 (szOK_use hq).2.2 kk
theorem g_S2s {a0 a1 : AV} {v1 : AV} (hd : At y.2.1 pc (.invokestatic idx) 3 n) (hc : CS y.1.cls idx z 2) (hE : Ev z ([a0, a1]) σ (some v1) σ1) (hq : szOK y z [a0, a1] st 0 = true) (kk : vok z.2.2.2.1 (some v1) → Go y n L (v1 :: st) σ1 V S) : Go y pc L (a1 :: a0 :: st) σ V S :=
  g_callS (As := [a0, a1]) hd hc hE rfl (szOK_use hq).1 (szOK_use hq).2.1 (szOK_use hq).2.2 kk
theorem g_S2n {a0 a1 : AV} (hd : At y.2.1 pc (.invokestatic idx) 3 n) (hc : CS y.1.cls idx z 2) (hE : Ev z ([a0, a1]) σ none σ1) (hq : szOK y z [a0, a1] st 0 = true) (kk : vok z.2.2.2.1 none → Go y n L (st) σ1 V S) : Go y pc L (a1 :: a0 :: st) σ V S :=
  g_callS (As := [a0, a1]) hd hc hE rfl (szOK_use hq).1 (szOK_use hq).2.1 (szOK_use hq).2.2 kk
theorem g_S3s {a0 a1 a2 : AV} {v1 : AV} (hd : At y.2.1 pc (.invokestatic idx) 3 n) (hc : CS y.1.cls idx z 3) (hE : Ev z ([a0, a1, a2]) σ (some v1) σ1) (hq : szOK y z [a0, a1, a2] st 0 = true) (kk : vok z.2.2.2.1 (some v1) → Go y n L (v1 :: st) σ1 V S) : Go y pc L (a2 :: a1 :: a0 :: st) σ V S :=
  g_callS (As := [a0, a1, a2]) hd hc hE rfl (szOK_use hq).1 (szOK_use hq).2.1 (szOK_use hq).2.2 kk
theorem g_S3n {a0 a1 a2 : AV} (hd : At y.2.1 pc (.invokestatic idx) 3 n) (hc : CS y.1.cls idx z 3) (hE : Ev z ([a0, a1, a2]) σ none σ1) (hq : szOK y z [a0, a1, a2] st 0 = true) (kk : vok z.2.2.2.1 none → Go y n L (st) σ1 V S) : Go y pc L (a2 :: a1 :: a0 :: st) σ V S :=
  g_callS (As := [a0, a1, a2]) hd hc hE rfl (szOK_use hq).1 (szOK_use hq).2.1 (szOK_use hq).2.2 kk
theorem g_S4s {a0 a1 a2 a3 : AV} {v1 : AV} (hd : At y.2.1 pc (.invokestatic idx) 3 n) (hc : CS y.1.cls idx z 4) (hE : Ev z ([a0, a1, a2, a3]) σ (some v1) σ1) (hq : szOK y z [a0, a1, a2, a3] st 0 = true) (kk : vok z.2.2.2.1 (some v1) → Go y n L (v1 :: st) σ1 V S) : Go y pc L (a3 :: a2 :: a1 :: a0 :: st) σ V S :=
  g_callS (As := [a0, a1, a2, a3]) hd hc hE rfl (szOK_use hq).1 (szOK_use hq).2.1 (szOK_use hq).2.2 kk
theorem g_S4n {a0 a1 a2 a3 : AV} (hd : At y.2.1 pc (.invokestatic idx) 3 n) (hc : CS y.1.cls idx z 4) (hE : Ev z ([a0, a1, a2, a3]) σ none σ1) (hq : szOK y z [a0, a1, a2, a3] st 0 = true) (kk : vok z.2.2.2.1 none → Go y n L (st) σ1 V S) : Go y pc L (a3 :: a2 :: a1 :: a0 :: st) σ V S :=
  g_callS (As := [a0, a1, a2, a3]) hd hc hE rfl (szOK_use hq).1 (szOK_use hq).2.1 (szOK_use hq).2.2 kk
theorem g_S5s {a0 a1 a2 a3 a4 : AV} {v1 : AV} (hd : At y.2.1 pc (.invokestatic idx) 3 n) (hc : CS y.1.cls idx z 5) (hE : Ev z ([a0, a1, a2, a3, a4]) σ (some v1) σ1) (hq : szOK y z [a0, a1, a2, a3, a4] st 0 = true) (kk : vok z.2.2.2.1 (some v1) → Go y n L (v1 :: st) σ1 V S) : Go y pc L (a4 :: a3 :: a2 :: a1 :: a0 :: st) σ V S :=
  g_callS (As := [a0, a1, a2, a3, a4]) hd hc hE rfl (szOK_use hq).1 (szOK_use hq).2.1 (szOK_use hq).2.2 kk
theorem g_S5n {a0 a1 a2 a3 a4 : AV} (hd : At y.2.1 pc (.invokestatic idx) 3 n) (hc : CS y.1.cls idx z 5) (hE : Ev z ([a0, a1, a2, a3, a4]) σ none σ1) (hq : szOK y z [a0, a1, a2, a3, a4] st 0 = true) (kk : vok z.2.2.2.1 none → Go y n L (st) σ1 V S) : Go y pc L (a4 :: a3 :: a2 :: a1 :: a0 :: st) σ V S :=
  g_callS (As := [a0, a1, a2, a3, a4]) hd hc hE rfl (szOK_use hq).1 (szOK_use hq).2.1 (szOK_use hq).2.2 kk
theorem g_S6s {a0 a1 a2 a3 a4 a5 : AV} {v1 : AV} (hd : At y.2.1 pc (.invokestatic idx) 3 n) (hc : CS y.1.cls idx z 6) (hE : Ev z ([a0, a1, a2, a3, a4, a5]) σ (some v1) σ1) (hq : szOK y z [a0, a1, a2, a3, a4, a5] st 0 = true) (kk : vok z.2.2.2.1 (some v1) → Go y n L (v1 :: st) σ1 V S) : Go y pc L (a5 :: a4 :: a3 :: a2 :: a1 :: a0 :: st) σ V S :=
  g_callS (As := [a0, a1, a2, a3, a4, a5]) hd hc hE rfl (szOK_use hq).1 (szOK_use hq).2.1 (szOK_use hq).2.2 kk
theorem g_S6n {a0 a1 a2 a3 a4 a5 : AV} (hd : At y.2.1 pc (.invokestatic idx) 3 n) (hc : CS y.1.cls idx z 6) (hE : Ev z ([a0, a1, a2, a3, a4, a5]) σ none σ1) (hq : szOK y z [a0, a1, a2, a3, a4, a5] st 0 = true) (kk : vok z.2.2.2.1 none → Go y n L (st) σ1 V S) : Go y pc L (a5 :: a4 :: a3 :: a2 :: a1 :: a0 :: st) σ V S :=
  g_callS (As := [a0, a1, a2, a3, a4, a5]) hd hc hE rfl (szOK_use hq).1 (szOK_use hq).2.1 (szOK_use hq).2.2 kk
theorem g_S7s {a0 a1 a2 a3 a4 a5 a6 : AV} {v1 : AV} (hd : At y.2.1 pc (.invokestatic idx) 3 n) (hc : CS y.1.cls idx z 7) (hE : Ev z ([a0, a1, a2, a3, a4, a5, a6]) σ (some v1) σ1) (hq : szOK y z [a0, a1, a2, a3, a4, a5, a6] st 0 = true) (kk : vok z.2.2.2.1 (some v1) → Go y n L (v1 :: st) σ1 V S) : Go y pc L (a6 :: a5 :: a4 :: a3 :: a2 :: a1 :: a0 :: st) σ V S :=
  g_callS (As := [a0, a1, a2, a3, a4, a5, a6]) hd hc hE rfl (szOK_use hq).1 (szOK_use hq).2.1 (szOK_use hq).2.2 kk
theorem g_S7n {a0 a1 a2 a3 a4 a5 a6 : AV} (hd : At y.2.1 pc (.invokestatic idx) 3 n) (hc : CS y.1.cls idx z 7) (hE : Ev z ([a0, a1, a2, a3, a4, a5, a6]) σ none σ1) (hq : szOK y z [a0, a1, a2, a3, a4, a5, a6] st 0 = true) (kk : vok z.2.2.2.1 none → Go y n L (st) σ1 V S) : Go y pc L (a6 :: a5 :: a4 :: a3 :: a2 :: a1 :: a0 :: st) σ V S :=
  g_callS (As := [a0, a1, a2, a3, a4, a5, a6]) hd hc hE rfl (szOK_use hq).1 (szOK_use hq).2.1 (szOK_use hq).2.2 kk
theorem g_T0s {v1 : AV} (hd : At y.2.1 pc (.invokevirtual idx) 3 n) (hc : CT y.1.cls idx z 0) (hE : Ev z (.inr (.inr (12, k)) :: []) σ (some v1) σ1) (hq : szOK y z [] st 1 = true) (kk : vok z.2.2.2.1 (some v1) → Go y n L (v1 :: st) σ1 V S) : Go y pc L (.inr (.inr (12, k)) :: st) σ V S :=
  g_callT (As := []) hd hc hE rfl (szOK_use hq).1 (szOK_use hq).2.1 (szOK_use hq).2.2 kk
theorem g_T1s {a0 : AV} {v1 : AV} (hd : At y.2.1 pc (.invokevirtual idx) 3 n) (hc : CT y.1.cls idx z 1) (hE : Ev z (.inr (.inr (12, k)) :: [a0]) σ (some v1) σ1) (hq : szOK y z [a0] st 1 = true) (kk : vok z.2.2.2.1 (some v1) → Go y n L (v1 :: st) σ1 V S) : Go y pc L (a0 :: .inr (.inr (12, k)) :: st) σ V S :=
  g_callT (As := [a0]) hd hc hE rfl (szOK_use hq).1 (szOK_use hq).2.1 (szOK_use hq).2.2 kk
theorem g_ldcS {q : Nat} (hy : y.1.cls = RX8) (hd : At y.2.1 pc (.ldc (138 + 2 * q)) 2 n) (hq : q < 6) (k : Go y n L (.inr (.inr (12, q)) :: st) σ V S) : Go y pc L st σ V S := by
  obtain ⟨hd, rfl⟩ := hd
  intro X p l e R s m args below meth c A cells slots Q F hr oL oS H locs ls hl hW hS
  have hown := F.2.2.2.1
  rw [hy] at hown
  exact va_ldcS F.1 F.2.1 hown (F.2.2.2.2.2.2.2.2.1.2.2.1 q hq) hd (k X p l e R s m args below meth c A cells slots Q F hr oL (oS.cons (by simp only [okA, show ¬ (12 ∈ kds) from by decide, if_false]; exact hq)) H locs ls hl hW hS)
theorem g_W3s {a0 a1 a2 v1 : AV} (hy : y.1.cls = RX8) (hd : At y.2.1 pc (.invokestatic 88) 3 n) (hz : z.1 = yX10_within) (hM : MOK z) (hst : Cond.static z.1 ∈ gt) (hE : Ev z [a0, a1, a2] σ (some v1) σ1) (hq : szOK y z [a0, a1, a2] st 0 = true) (kk : vok z.2.2.2.1 (some v1) → Go y n L (v1 :: st) σ1 V S) : Go y pc L (a2 :: a1 :: a0 :: st) σ V S :=
  g_callW (As := [a0, a1, a2]) hy hd hz hM hst hE rfl (szOK_use hq).1 (szOK_use hq).2.1 (szOK_use hq).2.2 kk
end WRAP
theorem in_of {ws : List Cond} (h : ws.all (fun w => decide (w ∈ lw_tbl) && goodWord w) = true) : ∀ w ∈ ws, w ∈ gt := by
  intro w hw
  have h1 := List.all_eq_true.mp h w hw
  simp only [Bool.and_eq_true, decide_eq_true_eq] at h1
  exact gt_in h1.1 h1.2
theorem at_of {i : Nat} {w : Cond} (h : lw_tbl[i]? = some w) (hg : goodWord w = true) : w ∈ gt := gt_in (List.mem_of_getElem? h) hg
theorem in0 : ∀ w ∈ u_ws RX0 TX0 2, w ∈ gt := in_of (by decide +kernel)
theorem in1 : ∀ w ∈ u_ws RX1 TX1 2, w ∈ gt := in_of (by decide +kernel)
theorem in2 : ∀ w ∈ u_ws RX2 TX2 1, w ∈ gt := in_of (by decide +kernel)
theorem in3 : ∀ w ∈ u_ws RX3 TX3 0, w ∈ gt := in_of (by decide +kernel)
theorem in4 : ∀ w ∈ u_ws RX4 TX4 4, w ∈ gt := in_of (by decide +kernel)
theorem in5 : ∀ w ∈ u_ws RX5 TX5 5, w ∈ gt := in_of (by decide +kernel)
theorem in6 : ∀ w ∈ u_ws RX6 TX6 1, w ∈ gt := in_of (by decide +kernel)
theorem in7 : ∀ w ∈ u_ws RX7 TX7 4, w ∈ gt := in_of (by decide +kernel)
theorem in8 : ∀ w ∈ u_ws RX8 TX8 7, w ∈ gt := in_of (by decide +kernel)
theorem in9 : ∀ w ∈ u_ws RX9 TX9 8, w ∈ gt := in_of (by decide +kernel)
theorem in10 : ∀ w ∈ u_ws RX10 TX10 16, w ∈ gt := in_of (by decide +kernel)
theorem in11 : ∀ w ∈ u_ws RX11 TX11 19, w ∈ gt := in_of (by decide +kernel)
theorem t1_lw {w : Cond} (h : w ∈ tables_1) : w ∈ lw_tbl := List.mem_append_right _ h
theorem mt1 {j : Nat} {w : Cond} (e : tables_1_1[j]? = some w) (hg : goodWord w = true) : w ∈ gt := by
  have h := List.mem_of_getElem? e
  exact gt_in (t1_lw (List.mem_append_left _ h)) hg
theorem mt2 {j : Nat} {w : Cond} (e : tables_1_2[j]? = some w) (hg : goodWord w = true) : w ∈ gt := by
  have h := List.mem_of_getElem? e
  exact gt_in (t1_lw (List.mem_append_right _ (List.mem_append_left _ h))) hg
theorem mt3 {j : Nat} {w : Cond} (e : tables_1_3[j]? = some w) (hg : goodWord w = true) : w ∈ gt := by
  have h := List.mem_of_getElem? e
  exact gt_in (t1_lw (List.mem_append_right _ (List.mem_append_right _ (List.mem_append_left _ h)))) hg
theorem mt4 {j : Nat} {w : Cond} (e : tables_1_4[j]? = some w) (hg : goodWord w = true) : w ∈ gt := by
  have h := List.mem_of_getElem? e
  exact gt_in (t1_lw (List.mem_append_right _ (List.mem_append_right _ (List.mem_append_right _ (List.mem_append_left _ h))))) hg
theorem mt5 {j : Nat} {w : Cond} (e : tables_1_5[j]? = some w) (hg : goodWord w = true) : w ∈ gt := by
  have h := List.mem_of_getElem? e
  exact gt_in (t1_lw (List.mem_append_right _ (List.mem_append_right _ (List.mem_append_right _ (List.mem_append_right _ (List.mem_append_left _ h)))))) hg
theorem mt6 {j : Nat} {w : Cond} (e : tables_1_6[j]? = some w) (hg : goodWord w = true) : w ∈ gt := by
  have h := List.mem_of_getElem? e
  exact gt_in (t1_lw (List.mem_append_right _ (List.mem_append_right _ (List.mem_append_right _ (List.mem_append_right _ (List.mem_append_right _ (h))))))) hg
def mxI (x z : Int32) : Int32 := if x < z then z else x
def mnI (x z : Int32) : Int32 := if z < x then z else x
def abI (x : Int32) : Int32 := if 0 ≤ x then x else 0 - x
def CM (own : String) (idx : Nat) (nm : MethodName) (b : ByteArray) (na : Nat) : Prop := Cond.methodLink own idx nm ∈ gt ∧ Cond.static nm ∈ gt ∧ Cond.initialized "java/lang/Math" ∈ gt ∧ Cond.code nm b na (some .int) ∈ gt
def szM (y : MI) (st : List AV) : Bool := Nat.ble 1 y.2.2.2.2.1 && Nat.ble (cat1 st + 13) y.2.2.2.2.2
section MATH
variable {y : MI} {pc n idx : Nat} {L : List (Option AV)} {st : List AV} {σ S : Mem} {V : Option AV}
theorem g_max {x z : Int32} (hd : At y.2.1 pc (.invokestatic idx) 3 n) (hc : CM y.1.cls idx Lib.Math.max.name Lib.Math.max.code 2) (hq : szM y st = true) (k : Go y n L (.inl (mxI x z) :: st) σ V S) : Go y pc L (.inl z :: .inl x :: st) σ V S := by
  obtain ⟨hd, rfl⟩ := hd
  intro X p l e R s m args below meth c A cells slots Q F hr oL oS H locs ls hl hW hS
  simp only [szM, Bool.and_eq_true] at hq
  have hts := F.2.2.2.2.1
  exact va_mmax F.1 F.2.1 (by rw [F.2.2.1]; exact hl.1.symm) F.2.2.2.1 (hts _ hc.1) (hts _ hc.2.1) (hts _ hc.2.2.1) (hts _ hc.2.2.2) (Nat.le_trans (Nat.le_of_ble_eq_true hq.1) F.2.2.2.2.2.2.2.2.2.2.1) (by rw [cat_sum]; exact Nat.le_trans (Nat.le_of_ble_eq_true hq.2) F.2.2.2.2.2.2.2.2.2.2.2.1) F.2.2.2.2.2.2.2.2.2.2.2.2.1 F.2.2.2.2.2.2.2.2.2.2.2.2.2 hd (k X p l e R s m args below meth c A cells slots Q F hr oL oS.tl.tl.i H locs ls hl hW hS)
theorem g_min {x z : Int32} (hd : At y.2.1 pc (.invokestatic idx) 3 n) (hc : CM y.1.cls idx Lib.Math.min.name Lib.Math.min.code 2) (hq : szM y st = true) (k : Go y n L (.inl (mnI x z) :: st) σ V S) : Go y pc L (.inl z :: .inl x :: st) σ V S := by
  obtain ⟨hd, rfl⟩ := hd
  intro X p l e R s m args below meth c A cells slots Q F hr oL oS H locs ls hl hW hS
  simp only [szM, Bool.and_eq_true] at hq
  have hts := F.2.2.2.2.1
  exact va_mmin F.1 F.2.1 (by rw [F.2.2.1]; exact hl.1.symm) F.2.2.2.1 (hts _ hc.1) (hts _ hc.2.1) (hts _ hc.2.2.1) (hts _ hc.2.2.2) (Nat.le_trans (Nat.le_of_ble_eq_true hq.1) F.2.2.2.2.2.2.2.2.2.2.1) (by rw [cat_sum]; exact Nat.le_trans (Nat.le_of_ble_eq_true hq.2) F.2.2.2.2.2.2.2.2.2.2.2.1) F.2.2.2.2.2.2.2.2.2.2.2.2.1 F.2.2.2.2.2.2.2.2.2.2.2.2.2 hd (k X p l e R s m args below meth c A cells slots Q F hr oL oS.tl.tl.i H locs ls hl hW hS)
theorem g_abs {x : Int32} (hd : At y.2.1 pc (.invokestatic idx) 3 n) (hc : CM y.1.cls idx Lib.Math.abs.name Lib.Math.abs.code 1) (hq : szM y st = true) (k : Go y n L (.inl (abI x) :: st) σ V S) : Go y pc L (.inl x :: st) σ V S := by
  obtain ⟨hd, rfl⟩ := hd
  intro X p l e R s m args below meth c A cells slots Q F hr oL oS H locs ls hl hW hS
  simp only [szM, Bool.and_eq_true] at hq
  have hts := F.2.2.2.2.1
  exact va_mabs F.1 F.2.1 (by rw [F.2.2.1]; exact hl.1.symm) F.2.2.2.1 (hts _ hc.1) (hts _ hc.2.1) (hts _ hc.2.2.1) (hts _ hc.2.2.2) (Nat.le_trans (Nat.le_of_ble_eq_true hq.1) F.2.2.2.2.2.2.2.2.2.2.1) (by rw [cat_sum]; exact Nat.le_trans (Nat.le_of_ble_eq_true hq.2) F.2.2.2.2.2.2.2.2.2.2.2.1) F.2.2.2.2.2.2.2.2.2.2.2.2.1 F.2.2.2.2.2.2.2.2.2.2.2.2.2 hd (k X p l e R s m args below meth c A cells slots Q F hr oL oS.tl.i H locs ls hl hW hS)
end MATH
end
section
/-! the methods, and the words at their calls and fields -/
abbrev m7_empty : MI := (yX7_empty, cX7_empty, 1, none, 0, 0)
abbrev m7_isFull : MI := (yX7_isFull, cX7_isFull, 1, some .boolean, 0, 0)
abbrev m7_put : MI := (yX7_put, cX7_put, 6, none, 0, 0)
abbrev m7_add : MI := (yX7_add, cX7_add, 7, none, 1, 25)
abbrev m4_set : MI := (yX4_set, cX4_set, 5, none, 0, 0)
abbrev m9_begin : MI := (yX9_begin, cX9_begin, 2, none, 2, 51)
abbrev m7_size : MI := (yX7_size, cX7_size, 1, some .int, 0, 0)
abbrev m10_village : MI := (yX10_village, cX10_village, 2, some .int, 3, 72)
abbrev m10_within : MI := (yX10_within, cX10_within, 3, some .boolean, 0, 0)
abbrev m10_isStorm : MI := (yX10_isStorm, cX10_isStorm, 1, some .boolean, 1, 22)
abbrev m10_isCell : MI := (yX10_isCell, cX10_isCell, 1, some .boolean, 1, 22)
abbrev m10_refuseBad : MI := (yX10_refuseBad, cX10_refuseBad, 1, some .int, 0, 0)
abbrev m7_at : MI := (yX7_at, cX7_at, 5, some .int, 0, 0)
abbrev m9_tellStorm : MI := (yX9_tellStorm, cX9_tellStorm, 4, none, 1, 25)
abbrev m10_storm : MI := (yX10_storm, cX10_storm, 5, some .int, 2, 48)
abbrev m10_isKind : MI := (yX10_isKind, cX10_isKind, 1, some .boolean, 1, 22)
abbrev m10_isHeight : MI := (yX10_isHeight, cX10_isHeight, 1, some .boolean, 1, 22)
abbrev m10_refuseFull : MI := (yX10_refuseFull, cX10_refuseFull, 1, some .int, 0, 0)
abbrev m9_addThing : MI := (yX9_addThing, cX9_addThing, 5, some .int, 2, 51)
abbrev m10_thing : MI := (yX10_thing, cX10_thing, 4, some .int, 3, 75)
abbrev m9_addPart : MI := (yX9_addPart, cX9_addPart, 3, some .int, 2, 51)
abbrev m10_body : MI := (yX10_body, cX10_body, 2, some .int, 3, 73)
abbrev m8_isFull : MI := (yX8_isFull, cX8_isFull, 1, some .boolean, 0, 0)
abbrev m6_put : MI := (yX6_put, cX6_put, 3, none, 0, 0)
abbrev m8_add : MI := (yX8_add, cX8_add, 2, none, 1, 22)
abbrev m8_length : MI := (yX8_length, cX8_length, 1, some .int, 0, 0)
abbrev m10_type : MI := (yX10_type, cX10_type, 2, some .int, 2, 43)
abbrev m8_empty : MI := (yX8_empty, cX8_empty, 1, none, 0, 0)
abbrev m10_clear : MI := (yX10_clear, cX10_clear, 2, some .int, 1, 21)
abbrev m6_at : MI := (yX6_at, cX6_at, 2, some .int, 0, 0)
abbrev m8_runEnd : MI := (yX8_runEnd, cX8_runEnd, 5, some .int, 1, 22)
abbrev m8_wordOf : MI := (yX8_wordOf, cX8_wordOf, 1, some (.object "java/lang/String"), 0, 0)
abbrev mJ0_length : MI := (yJ0_length_8abf5, cJ0_length_8abf5, 1, some .int, 3, 64)
abbrev mJ0_charAt : MI := (yJ0_charAt_5068e, cJ0_charAt_5068e, 2, some .char, 3, 64)
abbrev m8_spells : MI := (yX8_spells, cX8_spells, 3, some .boolean, 4, 85)
abbrev m8_wordToken : MI := (yX8_wordToken, cX8_wordToken, 2, some .int, 5, 107)
abbrev m8_numberToken : MI := (yX8_numberToken, cX8_numberToken, 2, some .int, 1, 21)
abbrev m8_nextToken : MI := (yX8_nextToken, cX8_nextToken, 2, none, 6, 128)
abbrev m8_mayStand : MI := (yX8_mayStand, cX8_mayStand, 3, some .boolean, 1, 21)
abbrev m8_numbersOf : MI := (yX8_numbersOf, cX8_numbersOf, 1, some .int, 0, 0)
abbrev m8_leastOf : MI := (yX8_leastOf, cX8_leastOf, 3, some .int, 0, 0)
abbrev m8_mostOf : MI := (yX8_mostOf, cX8_mostOf, 3, some .int, 1, 21)
abbrev m8_readNumbers : MI := (yX8_readNumbers, cX8_readNumbers, 6, some .boolean, 7, 149)
abbrev m8_readStop : MI := (yX8_readStop, cX8_readStop, 1, some .boolean, 7, 149)
abbrev m9_turn : MI := (yX9_turn, cX9_turn, 2, none, 0, 0)
abbrev m3_draw : MI := (yX3_draw, cX3_draw, 7, some .int, 0, 0)
abbrev m4_isUp : MI := (yX4_isUp, cX4_isUp, 2, some .boolean, 0, 0)
abbrev m9_struckIf : MI := (yX9_struckIf, cX9_struckIf, 11, some .int, 1, 26)
abbrev m4_isThere : MI := (yX4_isThere, cX4_isThere, 2, some .boolean, 0, 0)
abbrev mJ6_bitCount : MI := (yJ6_bitCount_0f7a4, cJ6_bitCount_0f7a4, 1, some .int, 0, 0)
abbrev m4_partsThere : MI := (yX4_partsThere, cX4_partsThere, 1, some .int, 1, 21)
abbrev m3_need : MI := (yX3_need, cX3_need, 6, some .int, 0, 0)
abbrev m9_bringParts : MI := (yX9_bringParts, cX9_bringParts, 4, none, 2, 42)
abbrev m9_pass : MI := (yX9_pass, cX9_pass, 4, none, 3, 65)
abbrev m9_passTold : MI := (yX9_passTold, cX9_passTold, 6, none, 4, 88)
abbrev m8_tell : MI := (yX8_tell, cX8_tell, 3, none, 5, 113)
abbrev m8_tellTo : MI := (yX8_tellTo, cX8_tellTo, 4, some .int, 8, 174)
abbrev m7_takeFrom : MI := (yX7_takeFrom, cX7_takeFrom, 4, none, 1, 25)
abbrev m4_takeFrom : MI := (yX4_takeFrom, cX4_takeFrom, 2, none, 1, 24)
abbrev m9_takeFrom : MI := (yX9_takeFrom, cX9_takeFrom, 2, none, 2, 48)
abbrev m10_read : MI := (yX10_read, cX10_read, 2, some .int, 9, 197)
abbrev m7_dropLast : MI := (yX7_dropLast, cX7_dropLast, 1, none, 1, 21)
abbrev m7_dropFirst : MI := (yX7_dropFirst, cX7_dropFirst, 3, none, 2, 42)
abbrev m9_remember : MI := (yX9_remember, cX9_remember, 1, none, 3, 64)
abbrev m10_summers : MI := (yX10_summers, cX10_summers, 2, some .int, 5, 113)
abbrev m10_isThing : MI := (yX10_isThing, cX10_isThing, 2, some .boolean, 1, 22)
abbrev m10_takes : MI := (yX10_takes, cX10_takes, 2, some .int, 4, 85)
abbrev m10_refuseNo : MI := (yX10_refuseNo, cX10_refuseNo, 1, some .int, 0, 0)
abbrev m9_goBack : MI := (yX9_goBack, cX9_goBack, 2, none, 2, 42)
abbrev m10_undo : MI := (yX10_undo, cX10_undo, 1, some .int, 3, 63)
abbrev m10_of : MI := (yX10_of, cX10_of, 3, some .int, 2, 43)
abbrev m10_isPart : MI := (yX10_isPart, cX10_isPart, 2, some .boolean, 1, 22)
abbrev m9_needOf : MI := (yX9_needOf, cX9_needOf, 4, some .int, 1, 25)
abbrev m10_about : MI := (yX10_about, cX10_about, 3, some .int, 2, 48)
abbrev m10_weather : MI := (yX10_weather, cX10_weather, 3, some .int, 2, 43)
abbrev m9_drawOf : MI := (yX9_drawOf, cX9_drawOf, 4, some .int, 1, 26)
abbrev m10_draws : MI := (yX10_draws, cX10_draws, 3, some .int, 2, 49)
abbrev m9_struckNow : MI := (yX9_struckNow, cX9_struckNow, 2, some .int, 2, 56)
abbrev m10_struck : MI := (yX10_struck, cX10_struck, 2, some .int, 3, 77)
abbrev m10_then : MI := (yX10_then, cX10_then, 2, some .int, 5, 113)
abbrev m10_summersUntil : MI := (yX10_summersUntil, cX10_summersUntil, 3, some .int, 5, 113)
abbrev m10_when : MI := (yX10_when, cX10_when, 2, some .int, 6, 135)
abbrev m10_whence : MI := (yX10_whence, cX10_whence, 3, some .int, 3, 77)
abbrev m9_mayBeHim : MI := (yX9_mayBeHim, cX9_mayBeHim, 2, some .boolean, 2, 49)
abbrev m9_stronger : MI := (yX9_stronger, cX9_stronger, 5, some .int, 2, 49)
abbrev m10_lead : MI := (yX10_lead, cX10_lead, 2, some .int, 3, 73)
abbrev m10_isSparedBy : MI := (yX10_isSparedBy, cX10_isSparedBy, 3, some .boolean, 1, 21)
abbrev m10_spare : MI := (yX10_spare, cX10_spare, 5, some .int, 3, 73)
abbrev m10_refuseBadTen : MI := (yX10_refuseBadTen, cX10_refuseBadTen, 1, some .int, 0, 0)
abbrev m6_fill : MI := (yX6_fill, cX6_fill, 3, none, 0, 0)
abbrev m5_needBehind : MI := (yX5_needBehind, cX5_needBehind, 3, some .int, 2, 48)
abbrev m5_spend : MI := (yX5_spend, cX5_spend, 7, none, 3, 70)
abbrev m5_mostReached : MI := (yX5_mostReached, cX5_mostReached, 4, some .int, 1, 21)
abbrev m5_reach : MI := (yX5_reach, cX5_reach, 7, none, 3, 70)
abbrev m5_firstFitting : MI := (yX5_firstFitting, cX5_firstFitting, 8, some .int, 3, 70)
abbrev m5_choose : MI := (yX5_choose, cX5_choose, 7, none, 4, 97)
abbrev m5_search : MI := (yX5_search, cX5_search, 4, none, 5, 123)
abbrev m5_most : MI := (yX5_most, cX5_most, 1, some .int, 0, 0)
abbrev m5_length : MI := (yX5_length, cX5_length, 1, some .int, 0, 0)
abbrev m5_at : MI := (yX5_at, cX5_at, 2, some .int, 1, 21)
abbrev m10_order : MI := (yX10_order, cX10_order, 3, some .int, 6, 146)
abbrev m10_seen : MI := (yX10_seen, cX10_seen, 3, some .int, 2, 51)
abbrev m9_fitsSeen : MI := (yX9_fitsSeen, cX9_fitsSeen, 4, some .boolean, 2, 56)
abbrev m10_tall : MI := (yX10_tall, cX10_tall, 7, some .int, 3, 79)
abbrev m10_note : MI := (yX10_note, cX10_note, 7, some .int, 2, 51)
abbrev m10_mark : MI := (yX10_mark, cX10_mark, 6, some .int, 2, 51)
abbrev m10_forgetAll : MI := (yX10_forgetAll, cX10_forgetAll, 2, some .int, 1, 21)
abbrev m10_forget : MI := (yX10_forget, cX10_forget, 2, some .int, 2, 42)
abbrev m2_drawAll : MI := (yX2_drawAll, cX2_drawAll, 5, none, 1, 26)
abbrev m2_answering : MI := (yX2_answering, cX2_answering, 4, some .int, 1, 21)
abbrev m2_thingKinds : MI := (yX2_thingKinds, cX2_thingKinds, 5, some .int, 2, 50)
abbrev m10_is : MI := (yX10_is, cX10_is, 2, some .int, 3, 74)
abbrev m2_mostAlike : MI := (yX2_mostAlike, cX2_mostAlike, 4, some .int, 2, 44)
abbrev m2_bestLook : MI := (yX2_bestLook, cX2_bestLook, 8, some .int, 3, 67)
abbrev m10_look : MI := (yX10_look, cX10_look, 3, some .int, 4, 94)
abbrev m2_needAll : MI := (yX2_needAll, cX2_needAll, 4, none, 1, 25)
abbrev m2_partKinds : MI := (yX2_partKinds, cX2_partKinds, 5, some .int, 2, 48)
abbrev m10_kinds : MI := (yX10_kinds, cX10_kinds, 2, some .int, 3, 72)
abbrev m2_bestAsk : MI := (yX2_bestAsk, cX2_bestAsk, 7, some .int, 3, 67)
abbrev m10_ask : MI := (yX10_ask, cX10_ask, 2, some .int, 4, 93)
abbrev m0_gain : MI := (yX0_gain, cX0_gain, 5, some .int, 1, 21)
abbrev m0_settle : MI := (yX0_settle, cX0_settle, 5, none, 2, 45)
abbrev m0_rests : MI := (yX0_rests, cX0_rests, 4, some .boolean, 2, 45)
abbrev m0_resting : MI := (yX0_resting, cX0_resting, 3, some .int, 3, 68)
abbrev m0_restingAt : MI := (yX0_restingAt, cX0_restingAt, 4, some .int, 3, 68)
abbrev m10_sweep : MI := (yX10_sweep, cX10_sweep, 4, some .int, 6, 135)
abbrev m1_commonOf : MI := (yX1_commonOf, cX1_commonOf, 11, some .long, 0, 0)
abbrev m1_set : MI := (yX1_set, cX1_set, 7, none, 1, 30)
abbrev m10_falls : MI := (yX10_falls, cX10_falls, 9, some .int, 3, 73)
abbrev m10_septembers : MI := (yX10_septembers, cX10_septembers, 6, some .int, 4, 88)
abbrev m1_above : MI := (yX1_above, cX1_above, 1, some .long, 0, 0)
abbrev m1_below : MI := (yX1_below, cX1_below, 1, some .long, 0, 0)
abbrev m10_part : MI := (yX10_part, cX10_part, 2, some .long, 1, 22)
abbrev m10_imageAt : MI := (yX10_imageAt, cX10_imageAt, 2, some (.object "SteepleStruck$Village"), 0, 0)
abbrev m10_image : MI := (yX10_image, cX10_image, 2, some .int, 3, 69)
abbrev m10_from : MI := (yX10_from, cX10_from, 2, some .int, 3, 69)
abbrev m10_status : MI := (yX10_status, cX10_status, 2, some .int, 1, 21)
abbrev m10_countOf : MI := (yX10_countOf, cX10_countOf, 2, some .int, 2, 42)
abbrev m10_count : MI := (yX10_count, cX10_count, 2, some .int, 3, 63)
abbrev m7_digestOn : MI := (yX7_digestOn, cX7_digestOn, 7, some .long, 1, 24)
abbrev m9_digestOn : MI := (yX9_digestOn, cX9_digestOn, 6, some .long, 2, 50)
abbrev m10_digest : MI := (yX10_digest, cX10_digest, 4, some .long, 3, 75)
abbrev m11_begin : MI := (yX11_begin, cX11_begin, 2, none, 0, 0)
abbrev m11_many : MI := (yX11_many, cX11_many, 1, some .int, 0, 0)
abbrev m11_village : MI := (yX11_village, cX11_village, 2, some .int, 1, 21)
abbrev m11_in : MI := (yX11_in, cX11_in, 6, some .boolean, 0, 0)
abbrev m11_isCell : MI := (yX11_isCell, cX11_isCell, 1, some .boolean, 1, 25)
abbrev m11_bad : MI := (yX11_bad, cX11_bad, 2, some .int, 0, 0)
abbrev m11_storm : MI := (yX11_storm, cX11_storm, 5, some .int, 2, 46)
abbrev m11_isKind : MI := (yX11_isKind, cX11_isKind, 1, some .boolean, 1, 25)
abbrev m11_full : MI := (yX11_full, cX11_full, 1, some .int, 0, 0)
abbrev m11_layThing : MI := (yX11_layThing, cX11_layThing, 5, none, 0, 0)
abbrev m11_thing : MI := (yX11_thing, cX11_thing, 4, some .int, 2, 46)
abbrev m11_body : MI := (yX11_body, cX11_body, 2, some .int, 2, 46)
abbrev m11_save : MI := (yX11_save, cX11_save, 2, none, 0, 0)
abbrev m11_has : MI := (yX11_has, cX11_has, 2, some .boolean, 0, 0)
abbrev m11_drawsAs : MI := (yX11_drawsAs, cX11_drawsAs, 5, some .int, 0, 0)
abbrev m11_drawsFrom : MI := (yX11_drawsFrom, cX11_drawsFrom, 4, some .int, 1, 24)
abbrev m11_struckOf : MI := (yX11_struckOf, cX11_struckOf, 7, some .int, 2, 47)
abbrev m11_firstOf : MI := (yX11_firstOf, cX11_firstOf, 2, some .int, 1, 21)
abbrev m11_bits : MI := (yX11_bits, cX11_bits, 3, some .int, 0, 0)
abbrev m11_needsAs : MI := (yX11_needsAs, cX11_needsAs, 5, some .int, 0, 0)
abbrev m11_goParts : MI := (yX11_goParts, cX11_goParts, 2, none, 2, 42)
abbrev m11_goSummer : MI := (yX11_goSummer, cX11_goSummer, 4, none, 3, 73)
abbrev m11_goTold : MI := (yX11_goTold, cX11_goTold, 2, none, 4, 96)
abbrev m11_goSummers : MI := (yX11_goSummers, cX11_goSummers, 3, none, 5, 117)
abbrev m11_summers : MI := (yX11_summers, cX11_summers, 2, some .int, 6, 139)
abbrev m11_isThing : MI := (yX11_isThing, cX11_isThing, 2, some .boolean, 1, 25)
abbrev m11_takes : MI := (yX11_takes, cX11_takes, 2, some .int, 2, 46)
abbrev m11_no : MI := (yX11_no, cX11_no, 1, some .int, 0, 0)
abbrev m11_undo : MI := (yX11_undo, cX11_undo, 2, some .int, 1, 21)
abbrev m11_of : MI := (yX11_of, cX11_of, 3, some .int, 2, 46)
abbrev m11_isPart : MI := (yX11_isPart, cX11_isPart, 2, some .boolean, 1, 25)
abbrev m11_about : MI := (yX11_about, cX11_about, 3, some .int, 2, 46)
abbrev m11_weather : MI := (yX11_weather, cX11_weather, 3, some .int, 1, 25)
abbrev m11_draws : MI := (yX11_draws, cX11_draws, 3, some .int, 2, 47)
abbrev m11_struck : MI := (yX11_struck, cX11_struck, 2, some .int, 3, 73)
abbrev m11_layHand : MI := (yX11_layHand, cX11_layHand, 2, none, 0, 0)
abbrev m11_then : MI := (yX11_then, cX11_then, 3, some .int, 5, 117)
abbrev m11_whenOf : MI := (yX11_whenOf, cX11_whenOf, 3, some .int, 5, 117)
abbrev m11_when : MI := (yX11_when, cX11_when, 2, some .int, 6, 139)
abbrev m11_cellsBy : MI := (yX11_cellsBy, cX11_cellsBy, 4, some .int, 3, 73)
abbrev m11_whence : MI := (yX11_whence, cX11_whence, 1, some .int, 4, 96)
abbrev m11_lead : MI := (yX11_lead, cX11_lead, 5, some .int, 3, 73)
abbrev m11_spare : MI := (yX11_spare, cX11_spare, 4, some .int, 4, 96)
abbrev m11_layMissing : MI := (yX11_layMissing, cX11_layMissing, 3, some .int, 1, 21)
abbrev m11_layOrder : MI := (yX11_layOrder, cX11_layOrder, 9, none, 1, 21)
abbrev m11_comeBy : MI := (yX11_comeBy, cX11_comeBy, 6, some .int, 1, 24)
abbrev m11_order : MI := (yX11_order, cX11_order, 9, some .int, 2, 49)
abbrev m11_seen : MI := (yX11_seen, cX11_seen, 3, some .int, 2, 46)
abbrev m11_isSeenBy : MI := (yX11_isSeenBy, cX11_isSeenBy, 5, some .boolean, 3, 73)
abbrev m11_tall : MI := (yX11_tall, cX11_tall, 7, some .int, 4, 97)
abbrev m11_note : MI := (yX11_note, cX11_note, 7, some .int, 2, 46)
abbrev m11_mark : MI := (yX11_mark, cX11_mark, 6, some .int, 2, 46)
abbrev m11_forget : MI := (yX11_forget, cX11_forget, 3, some .int, 1, 25)
abbrev m11_kindsOfThing : MI := (yX11_kindsOfThing, cX11_kindsOfThing, 7, some .int, 1, 24)
abbrev m11_is : MI := (yX11_is, cX11_is, 2, some .int, 2, 50)
abbrev m11_mostAlike : MI := (yX11_mostAlike, cX11_mostAlike, 6, some .int, 1, 21)
abbrev m11_look : MI := (yX11_look, cX11_look, 8, some .int, 2, 50)
abbrev m11_kindsOfPart : MI := (yX11_kindsOfPart, cX11_kindsOfPart, 7, some .int, 1, 24)
abbrev m11_kinds : MI := (yX11_kinds, cX11_kinds, 2, some .int, 2, 50)
abbrev m11_ask : MI := (yX11_ask, cX11_ask, 8, some .int, 2, 50)
abbrev m11_off : MI := (yX11_off, cX11_off, 2, some .int, 0, 0)
abbrev m11_getsBy : MI := (yX11_getsBy, cX11_getsBy, 5, some .int, 1, 21)
abbrev m11_isBest : MI := (yX11_isBest, cX11_isBest, 5, some .boolean, 2, 45)
abbrev m11_sweep : MI := (yX11_sweep, cX11_sweep, 6, some .int, 6, 139)
abbrev m11_fraction : MI := (yX11_fraction, cX11_fraction, 11, none, 0, 0)
abbrev m11_falls : MI := (yX11_falls, cX11_falls, 11, some .int, 3, 73)
abbrev m11_septembers : MI := (yX11_septembers, cX11_septembers, 6, some .int, 4, 96)
abbrev m11_type : MI := (yX11_type, cX11_type, 2, some .int, 1, 25)
abbrev m11_clear : MI := (yX11_clear, cX11_clear, 2, some .int, 0, 0)
abbrev m11_isSmall : MI := (yX11_isSmall, cX11_isSmall, 1, some .boolean, 1, 25)
abbrev m11_isFigure : MI := (yX11_isFigure, cX11_isFigure, 1, some .boolean, 1, 25)
abbrev m11_lookAt : MI := (yX11_lookAt, cX11_lookAt, 5, none, 2, 46)
abbrev m11_spellsSeven : MI := (yX11_spellsSeven, cX11_spellsSeven, 9, some .boolean, 0, 0)
abbrev m11_goBehind : MI := (yX11_goBehind, cX11_goBehind, 1, none, 3, 70)
abbrev m11_spells : MI := (yX11_spells, cX11_spells, 10, some .boolean, 0, 0)
abbrev m11_gives : MI := (yX11_gives, cX11_gives, 4, some .boolean, 4, 91)
abbrev m11_givesStorm : MI := (yX11_givesStorm, cX11_givesStorm, 1, some .boolean, 5, 114)
abbrev m11_givesThing : MI := (yX11_givesThing, cX11_givesThing, 1, some .boolean, 5, 114)
abbrev m11_givesPart : MI := (yX11_givesPart, cX11_givesPart, 1, some .boolean, 5, 114)
abbrev m11_givesTake : MI := (yX11_givesTake, cX11_givesTake, 1, some .boolean, 5, 114)
abbrev m11_givesSummers : MI := (yX11_givesSummers, cX11_givesSummers, 1, some .boolean, 6, 139)
abbrev m11_givesItem : MI := (yX11_givesItem, cX11_givesItem, 1, some .boolean, 7, 160)
abbrev m11_read : MI := (yX11_read, cX11_read, 3, some .int, 8, 181)
abbrev m11_part : MI := (yX11_part, cX11_part, 2, some .long, 1, 21)
abbrev m11_image : MI := (yX11_image, cX11_image, 3, some .int, 1, 25)
abbrev m11_from : MI := (yX11_from, cX11_from, 3, some .int, 1, 25)
abbrev m11_status : MI := (yX11_status, cX11_status, 2, some .int, 1, 25)
abbrev m11_counted : MI := (yX11_counted, cX11_counted, 2, some .int, 1, 22)
abbrev m11_count : MI := (yX11_count, cX11_count, 2, some .int, 2, 43)
abbrev m11_sums : MI := (yX11_sums, cX11_sums, 8, some .long, 0, 0)
abbrev m11_digest : MI := (yX11_digest, cX11_digest, 4, some .long, 2, 43)
abbrev mJ0_coder : MI := (yJ0_coder_7d493, cJ0_coder_7d493, 1, some .byte, 0, 0)
abbrev mJ0_isLatin1 : MI := (yJ0_isLatin1_aae02, cJ0_isLatin1_aae02, 1, some .boolean, 0, 0)
abbrev mJ1_charAt : MI := (yJ1_charAt_3b067, cJ1_charAt_3b067, 2, some .char, 2, 43)
abbrev mJ0_checkIndex : MI := (yJ0_checkIndex_df160, cJ0_checkIndex_df160, 2, none, 1, 22)
abbrev mJ3_checkIndex : MI := (yJ3_checkIndex_8e157, cJ3_checkIndex_8e157, 3, some .int, 0, 0)
abbrev mL_law : MI := (yL_law, cL_law, 4, some .boolean, 10, 218)
theorem mok7_empty : MOK m7_empty := ⟨mt1 (j := 92) rfl rfl, by decide +kernel, mt1 (j := 3) rfl rfl, ⟨by decide +kernel, by decide +kernel⟩, by decide +kernel⟩
theorem mok7_isFull : MOK m7_isFull := ⟨mt1 (j := 100) rfl rfl, by decide +kernel, mt1 (j := 3) rfl rfl, ⟨by decide +kernel, by decide +kernel⟩, by decide +kernel⟩
theorem mok7_put : MOK m7_put := ⟨mt1 (j := 104) rfl rfl, by decide +kernel, mt1 (j := 3) rfl rfl, ⟨by decide +kernel, by decide +kernel⟩, by decide +kernel⟩
theorem mok7_add : MOK m7_add := ⟨mt1 (j := 96) rfl rfl, by decide +kernel, mt1 (j := 3) rfl rfl, ⟨by decide +kernel, by decide +kernel⟩, by decide +kernel⟩
theorem mok4_set : MOK m4_set := ⟨mt1 (j := 108) rfl rfl, by decide +kernel, mt1 (j := 5) rfl rfl, ⟨by decide +kernel, by decide +kernel⟩, by decide +kernel⟩
theorem mok9_begin : MOK m9_begin := ⟨mt1 (j := 88) rfl rfl, by decide +kernel, mt1 (j := 2) rfl rfl, ⟨by decide +kernel, by decide +kernel⟩, by decide +kernel⟩
theorem mok7_size : MOK m7_size := ⟨mt2 (j := 70) rfl rfl, by decide +kernel, mt1 (j := 3) rfl rfl, ⟨by decide +kernel, by decide +kernel⟩, by decide +kernel⟩
theorem mok10_village : MOK m10_village := ⟨mt2 (j := 66) rfl rfl, by decide +kernel, mt1 (j := 1) rfl rfl, ⟨by decide +kernel, by decide +kernel⟩, by decide +kernel⟩
theorem mok10_within : MOK m10_within := ⟨mt2 (j := 81) rfl rfl, by decide +kernel, mt1 (j := 1) rfl rfl, ⟨by decide +kernel, by decide +kernel⟩, by decide +kernel⟩
theorem mok10_isStorm : MOK m10_isStorm := ⟨mt2 (j := 78) rfl rfl, by decide +kernel, mt1 (j := 1) rfl rfl, ⟨by decide +kernel, by decide +kernel⟩, by decide +kernel⟩
theorem mok10_isCell : MOK m10_isCell := ⟨mt2 (j := 84) rfl rfl, by decide +kernel, mt1 (j := 1) rfl rfl, ⟨by decide +kernel, by decide +kernel⟩, by decide +kernel⟩
theorem mok10_refuseBad : MOK m10_refuseBad := ⟨mt2 (j := 88) rfl rfl, by decide +kernel, mt1 (j := 1) rfl rfl, ⟨by decide +kernel, by decide +kernel⟩, by decide +kernel⟩
theorem mok7_at : MOK m7_at := ⟨mt2 (j := 92) rfl rfl, by decide +kernel, mt1 (j := 3) rfl rfl, ⟨by decide +kernel, by decide +kernel⟩, by decide +kernel⟩
theorem mok9_tellStorm : MOK m9_tellStorm := ⟨mt2 (j := 96) rfl rfl, by decide +kernel, mt1 (j := 2) rfl rfl, ⟨by decide +kernel, by decide +kernel⟩, by decide +kernel⟩
theorem mok10_storm : MOK m10_storm := ⟨mt2 (j := 75) rfl rfl, by decide +kernel, mt1 (j := 1) rfl rfl, ⟨by decide +kernel, by decide +kernel⟩, by decide +kernel⟩
theorem mok10_isKind : MOK m10_isKind := ⟨mt2 (j := 104) rfl rfl, by decide +kernel, mt1 (j := 1) rfl rfl, ⟨by decide +kernel, by decide +kernel⟩, by decide +kernel⟩
theorem mok10_isHeight : MOK m10_isHeight := ⟨mt2 (j := 107) rfl rfl, by decide +kernel, mt1 (j := 1) rfl rfl, ⟨by decide +kernel, by decide +kernel⟩, by decide +kernel⟩
theorem mok10_refuseFull : MOK m10_refuseFull := ⟨mt2 (j := 112) rfl rfl, by decide +kernel, mt1 (j := 1) rfl rfl, ⟨by decide +kernel, by decide +kernel⟩, by decide +kernel⟩
theorem mok9_addThing : MOK m9_addThing := ⟨mt2 (j := 116) rfl rfl, by decide +kernel, mt1 (j := 2) rfl rfl, ⟨by decide +kernel, by decide +kernel⟩, by decide +kernel⟩
theorem mok10_thing : MOK m10_thing := ⟨mt2 (j := 101) rfl rfl, by decide +kernel, mt1 (j := 1) rfl rfl, ⟨by decide +kernel, by decide +kernel⟩, by decide +kernel⟩
theorem mok9_addPart : MOK m9_addPart := ⟨mt2 (j := 125) rfl rfl, by decide +kernel, mt1 (j := 2) rfl rfl, ⟨by decide +kernel, by decide +kernel⟩, by decide +kernel⟩
theorem mok10_body : MOK m10_body := ⟨mt2 (j := 121) rfl rfl, by decide +kernel, mt1 (j := 1) rfl rfl, ⟨by decide +kernel, by decide +kernel⟩, by decide +kernel⟩
theorem mok8_isFull : MOK m8_isFull := ⟨mt2 (j := 133) rfl rfl, by decide +kernel, mt1 (j := 7) rfl rfl, ⟨by decide +kernel, by decide +kernel⟩, by decide +kernel⟩
theorem mok6_put : MOK m6_put := ⟨mt2 (j := 141) rfl rfl, by decide +kernel, mt1 (j := 6) rfl rfl, ⟨by decide +kernel, by decide +kernel⟩, by decide +kernel⟩
theorem mok8_add : MOK m8_add := ⟨mt2 (j := 137) rfl rfl, by decide +kernel, mt1 (j := 7) rfl rfl, ⟨by decide +kernel, by decide +kernel⟩, by decide +kernel⟩
theorem mok8_length : MOK m8_length := ⟨mt2 (j := 145) rfl rfl, by decide +kernel, mt1 (j := 7) rfl rfl, ⟨by decide +kernel, by decide +kernel⟩, by decide +kernel⟩
theorem mok10_type : MOK m10_type := ⟨mt2 (j := 129) rfl rfl, by decide +kernel, mt1 (j := 1) rfl rfl, ⟨by decide +kernel, by decide +kernel⟩, by decide +kernel⟩
theorem mok8_empty : MOK m8_empty := ⟨mt2 (j := 153) rfl rfl, by decide +kernel, mt1 (j := 7) rfl rfl, ⟨by decide +kernel, by decide +kernel⟩, by decide +kernel⟩
theorem mok10_clear : MOK m10_clear := ⟨mt2 (j := 149) rfl rfl, by decide +kernel, mt1 (j := 1) rfl rfl, ⟨by decide +kernel, by decide +kernel⟩, by decide +kernel⟩
theorem mok6_at : MOK m6_at := ⟨mt2 (j := 173) rfl rfl, by decide +kernel, mt1 (j := 6) rfl rfl, ⟨by decide +kernel, by decide +kernel⟩, by decide +kernel⟩
theorem mok8_runEnd : MOK m8_runEnd := ⟨mt2 (j := 169) rfl rfl, by decide +kernel, mt1 (j := 7) rfl rfl, ⟨by decide +kernel, by decide +kernel⟩, by decide +kernel⟩
theorem mok8_wordOf : MOK m8_wordOf := ⟨mt2 (j := 181) rfl rfl, by decide +kernel, mt1 (j := 7) rfl rfl, ⟨by decide +kernel, by decide +kernel⟩, by decide +kernel⟩
theorem mokJ0_length : MOK mJ0_length := ⟨mt2 (j := 195) rfl rfl, by decide +kernel, mt1 (j := 13) rfl rfl, ⟨by decide +kernel, by decide +kernel⟩, by decide +kernel⟩
theorem mokJ0_charAt : MOK mJ0_charAt := ⟨mt2 (j := 205) rfl rfl, by decide +kernel, mt1 (j := 13) rfl rfl, ⟨by decide +kernel, by decide +kernel⟩, by decide +kernel⟩
theorem mok8_spells : MOK m8_spells := ⟨mt2 (j := 191) rfl rfl, by decide +kernel, mt1 (j := 7) rfl rfl, ⟨by decide +kernel, by decide +kernel⟩, by decide +kernel⟩
theorem mok8_wordToken : MOK m8_wordToken := ⟨mt2 (j := 178) rfl rfl, by decide +kernel, mt1 (j := 7) rfl rfl, ⟨by decide +kernel, by decide +kernel⟩, by decide +kernel⟩
theorem mok8_numberToken : MOK m8_numberToken := ⟨mt3 (j := 3) rfl rfl, by decide +kernel, mt1 (j := 7) rfl rfl, ⟨by decide +kernel, by decide +kernel⟩, by decide +kernel⟩
theorem mok8_nextToken : MOK m8_nextToken := ⟨mt2 (j := 165) rfl rfl, by decide +kernel, mt1 (j := 7) rfl rfl, ⟨by decide +kernel, by decide +kernel⟩, by decide +kernel⟩
theorem mok8_mayStand : MOK m8_mayStand := ⟨mt3 (j := 6) rfl rfl, by decide +kernel, mt1 (j := 7) rfl rfl, ⟨by decide +kernel, by decide +kernel⟩, by decide +kernel⟩
theorem mok8_numbersOf : MOK m8_numbersOf := ⟨mt3 (j := 14) rfl rfl, by decide +kernel, mt1 (j := 7) rfl rfl, ⟨by decide +kernel, by decide +kernel⟩, by decide +kernel⟩
theorem mok8_leastOf : MOK m8_leastOf := ⟨mt3 (j := 17) rfl rfl, by decide +kernel, mt1 (j := 7) rfl rfl, ⟨by decide +kernel, by decide +kernel⟩, by decide +kernel⟩
theorem mok8_mostOf : MOK m8_mostOf := ⟨mt3 (j := 20) rfl rfl, by decide +kernel, mt1 (j := 7) rfl rfl, ⟨by decide +kernel, by decide +kernel⟩, by decide +kernel⟩
theorem mok8_readNumbers : MOK m8_readNumbers := ⟨mt3 (j := 11) rfl rfl, by decide +kernel, mt1 (j := 7) rfl rfl, ⟨by decide +kernel, by decide +kernel⟩, by decide +kernel⟩
theorem mok8_readStop : MOK m8_readStop := ⟨mt3 (j := 25) rfl rfl, by decide +kernel, mt1 (j := 7) rfl rfl, ⟨by decide +kernel, by decide +kernel⟩, by decide +kernel⟩
theorem mok9_turn : MOK m9_turn := ⟨mt3 (j := 36) rfl rfl, by decide +kernel, mt1 (j := 2) rfl rfl, ⟨by decide +kernel, by decide +kernel⟩, by decide +kernel⟩
theorem mok3_draw : MOK m3_draw := ⟨mt3 (j := 55) rfl rfl, by decide +kernel, mt1 (j := 17) rfl rfl, ⟨by decide +kernel, by decide +kernel⟩, by decide +kernel⟩
theorem mok4_isUp : MOK m4_isUp := ⟨mt3 (j := 59) rfl rfl, by decide +kernel, mt1 (j := 5) rfl rfl, ⟨by decide +kernel, by decide +kernel⟩, by decide +kernel⟩
theorem mok9_struckIf : MOK m9_struckIf := ⟨mt3 (j := 49) rfl rfl, by decide +kernel, mt1 (j := 2) rfl rfl, ⟨by decide +kernel, by decide +kernel⟩, by decide +kernel⟩
theorem mok4_isThere : MOK m4_isThere := ⟨mt3 (j := 70) rfl rfl, by decide +kernel, mt1 (j := 5) rfl rfl, ⟨by decide +kernel, by decide +kernel⟩, by decide +kernel⟩
theorem mokJ6_bitCount : MOK mJ6_bitCount := ⟨mt3 (j := 77) rfl rfl, by decide +kernel, mt1 (j := 18) rfl rfl, ⟨by decide +kernel, by decide +kernel⟩, by decide +kernel⟩
theorem mok4_partsThere : MOK m4_partsThere := ⟨mt3 (j := 74) rfl rfl, by decide +kernel, mt1 (j := 5) rfl rfl, ⟨by decide +kernel, by decide +kernel⟩, by decide +kernel⟩
theorem mok3_need : MOK m3_need := ⟨mt3 (j := 83) rfl rfl, by decide +kernel, mt1 (j := 17) rfl rfl, ⟨by decide +kernel, by decide +kernel⟩, by decide +kernel⟩
theorem mok9_bringParts : MOK m9_bringParts := ⟨mt3 (j := 66) rfl rfl, by decide +kernel, mt1 (j := 2) rfl rfl, ⟨by decide +kernel, by decide +kernel⟩, by decide +kernel⟩
theorem mok9_pass : MOK m9_pass := ⟨mt3 (j := 45) rfl rfl, by decide +kernel, mt1 (j := 2) rfl rfl, ⟨by decide +kernel, by decide +kernel⟩, by decide +kernel⟩
theorem mok9_passTold : MOK m9_passTold := ⟨mt3 (j := 40) rfl rfl, by decide +kernel, mt1 (j := 2) rfl rfl, ⟨by decide +kernel, by decide +kernel⟩, by decide +kernel⟩
theorem mok8_tell : MOK m8_tell := ⟨mt3 (j := 29) rfl rfl, by decide +kernel, mt1 (j := 7) rfl rfl, ⟨by decide +kernel, by decide +kernel⟩, by decide +kernel⟩
theorem mok8_tellTo : MOK m8_tellTo := ⟨mt2 (j := 161) rfl rfl, by decide +kernel, mt1 (j := 7) rfl rfl, ⟨by decide +kernel, by decide +kernel⟩, by decide +kernel⟩
theorem mok7_takeFrom : MOK m7_takeFrom := ⟨mt3 (j := 91) rfl rfl, by decide +kernel, mt1 (j := 3) rfl rfl, ⟨by decide +kernel, by decide +kernel⟩, by decide +kernel⟩
theorem mok4_takeFrom : MOK m4_takeFrom := ⟨mt3 (j := 97) rfl rfl, by decide +kernel, mt1 (j := 5) rfl rfl, ⟨by decide +kernel, by decide +kernel⟩, by decide +kernel⟩
theorem mok9_takeFrom : MOK m9_takeFrom := ⟨mt3 (j := 87) rfl rfl, by decide +kernel, mt1 (j := 2) rfl rfl, ⟨by decide +kernel, by decide +kernel⟩, by decide +kernel⟩
theorem mok10_read : MOK m10_read := ⟨mt2 (j := 157) rfl rfl, by decide +kernel, mt1 (j := 1) rfl rfl, ⟨by decide +kernel, by decide +kernel⟩, by decide +kernel⟩
theorem mok7_dropLast : MOK m7_dropLast := ⟨mt3 (j := 116) rfl rfl, by decide +kernel, mt1 (j := 3) rfl rfl, ⟨by decide +kernel, by decide +kernel⟩, by decide +kernel⟩
theorem mok7_dropFirst : MOK m7_dropFirst := ⟨mt3 (j := 112) rfl rfl, by decide +kernel, mt1 (j := 3) rfl rfl, ⟨by decide +kernel, by decide +kernel⟩, by decide +kernel⟩
theorem mok9_remember : MOK m9_remember := ⟨mt3 (j := 107) rfl rfl, by decide +kernel, mt1 (j := 2) rfl rfl, ⟨by decide +kernel, by decide +kernel⟩, by decide +kernel⟩
theorem mok10_summers : MOK m10_summers := ⟨mt3 (j := 103) rfl rfl, by decide +kernel, mt1 (j := 1) rfl rfl, ⟨by decide +kernel, by decide +kernel⟩, by decide +kernel⟩
theorem mok10_isThing : MOK m10_isThing := ⟨mt3 (j := 126) rfl rfl, by decide +kernel, mt1 (j := 1) rfl rfl, ⟨by decide +kernel, by decide +kernel⟩, by decide +kernel⟩
theorem mok10_takes : MOK m10_takes := ⟨mt3 (j := 122) rfl rfl, by decide +kernel, mt1 (j := 1) rfl rfl, ⟨by decide +kernel, by decide +kernel⟩, by decide +kernel⟩
theorem mok10_refuseNo : MOK m10_refuseNo := ⟨mt3 (j := 136) rfl rfl, by decide +kernel, mt1 (j := 1) rfl rfl, ⟨by decide +kernel, by decide +kernel⟩, by decide +kernel⟩
theorem mok9_goBack : MOK m9_goBack := ⟨mt3 (j := 140) rfl rfl, by decide +kernel, mt1 (j := 2) rfl rfl, ⟨by decide +kernel, by decide +kernel⟩, by decide +kernel⟩
theorem mok10_undo : MOK m10_undo := ⟨mt3 (j := 132) rfl rfl, by decide +kernel, mt1 (j := 1) rfl rfl, ⟨by decide +kernel, by decide +kernel⟩, by decide +kernel⟩
theorem mok10_of : MOK m10_of := ⟨mt3 (j := 145) rfl rfl, by decide +kernel, mt1 (j := 1) rfl rfl, ⟨by decide +kernel, by decide +kernel⟩, by decide +kernel⟩
theorem mok10_isPart : MOK m10_isPart := ⟨mt3 (j := 153) rfl rfl, by decide +kernel, mt1 (j := 1) rfl rfl, ⟨by decide +kernel, by decide +kernel⟩, by decide +kernel⟩
theorem mok9_needOf : MOK m9_needOf := ⟨mt3 (j := 158) rfl rfl, by decide +kernel, mt1 (j := 2) rfl rfl, ⟨by decide +kernel, by decide +kernel⟩, by decide +kernel⟩
theorem mok10_about : MOK m10_about := ⟨mt3 (j := 149) rfl rfl, by decide +kernel, mt1 (j := 1) rfl rfl, ⟨by decide +kernel, by decide +kernel⟩, by decide +kernel⟩
theorem mok10_weather : MOK m10_weather := ⟨mt3 (j := 162) rfl rfl, by decide +kernel, mt1 (j := 1) rfl rfl, ⟨by decide +kernel, by decide +kernel⟩, by decide +kernel⟩
theorem mok9_drawOf : MOK m9_drawOf := ⟨mt3 (j := 170) rfl rfl, by decide +kernel, mt1 (j := 2) rfl rfl, ⟨by decide +kernel, by decide +kernel⟩, by decide +kernel⟩
theorem mok10_draws : MOK m10_draws := ⟨mt3 (j := 166) rfl rfl, by decide +kernel, mt1 (j := 1) rfl rfl, ⟨by decide +kernel, by decide +kernel⟩, by decide +kernel⟩
theorem mok9_struckNow : MOK m9_struckNow := ⟨mt3 (j := 178) rfl rfl, by decide +kernel, mt1 (j := 2) rfl rfl, ⟨by decide +kernel, by decide +kernel⟩, by decide +kernel⟩
theorem mok10_struck : MOK m10_struck := ⟨mt3 (j := 174) rfl rfl, by decide +kernel, mt1 (j := 1) rfl rfl, ⟨by decide +kernel, by decide +kernel⟩, by decide +kernel⟩
theorem mok10_then : MOK m10_then := ⟨mt3 (j := 182) rfl rfl, by decide +kernel, mt1 (j := 1) rfl rfl, ⟨by decide +kernel, by decide +kernel⟩, by decide +kernel⟩
theorem mok10_summersUntil : MOK m10_summersUntil := ⟨mt3 (j := 192) rfl rfl, by decide +kernel, mt1 (j := 1) rfl rfl, ⟨by decide +kernel, by decide +kernel⟩, by decide +kernel⟩
theorem mok10_when : MOK m10_when := ⟨mt3 (j := 188) rfl rfl, by decide +kernel, mt1 (j := 1) rfl rfl, ⟨by decide +kernel, by decide +kernel⟩, by decide +kernel⟩
theorem mok10_whence : MOK m10_whence := ⟨mt3 (j := 196) rfl rfl, by decide +kernel, mt1 (j := 1) rfl rfl, ⟨by decide +kernel, by decide +kernel⟩, by decide +kernel⟩
theorem mok9_mayBeHim : MOK m9_mayBeHim := ⟨mt3 (j := 204) rfl rfl, by decide +kernel, mt1 (j := 2) rfl rfl, ⟨by decide +kernel, by decide +kernel⟩, by decide +kernel⟩
theorem mok9_stronger : MOK m9_stronger := ⟨mt3 (j := 209) rfl rfl, by decide +kernel, mt1 (j := 2) rfl rfl, ⟨by decide +kernel, by decide +kernel⟩, by decide +kernel⟩
theorem mok10_lead : MOK m10_lead := ⟨mt3 (j := 200) rfl rfl, by decide +kernel, mt1 (j := 1) rfl rfl, ⟨by decide +kernel, by decide +kernel⟩, by decide +kernel⟩
theorem mok10_isSparedBy : MOK m10_isSparedBy := ⟨mt3 (j := 219) rfl rfl, by decide +kernel, mt1 (j := 1) rfl rfl, ⟨by decide +kernel, by decide +kernel⟩, by decide +kernel⟩
theorem mok10_spare : MOK m10_spare := ⟨mt3 (j := 213) rfl rfl, by decide +kernel, mt1 (j := 1) rfl rfl, ⟨by decide +kernel, by decide +kernel⟩, by decide +kernel⟩
theorem mok10_refuseBadTen : MOK m10_refuseBadTen := ⟨mt3 (j := 228) rfl rfl, by decide +kernel, mt1 (j := 1) rfl rfl, ⟨by decide +kernel, by decide +kernel⟩, by decide +kernel⟩
theorem mok6_fill : MOK m6_fill := ⟨mt4 (j := 2) rfl rfl, by decide +kernel, mt1 (j := 6) rfl rfl, ⟨by decide +kernel, by decide +kernel⟩, by decide +kernel⟩
theorem mok5_needBehind : MOK m5_needBehind := ⟨mt4 (j := 7) rfl rfl, by decide +kernel, mt1 (j := 9) rfl rfl, ⟨by decide +kernel, by decide +kernel⟩, by decide +kernel⟩
theorem mok5_spend : MOK m5_spend := ⟨mt3 (j := 238) rfl rfl, by decide +kernel, mt1 (j := 9) rfl rfl, ⟨by decide +kernel, by decide +kernel⟩, by decide +kernel⟩
theorem mok5_mostReached : MOK m5_mostReached := ⟨mt4 (j := 12) rfl rfl, by decide +kernel, mt1 (j := 9) rfl rfl, ⟨by decide +kernel, by decide +kernel⟩, by decide +kernel⟩
theorem mok5_reach : MOK m5_reach := ⟨mt4 (j := 17) rfl rfl, by decide +kernel, mt1 (j := 9) rfl rfl, ⟨by decide +kernel, by decide +kernel⟩, by decide +kernel⟩
theorem mok5_firstFitting : MOK m5_firstFitting := ⟨mt4 (j := 27) rfl rfl, by decide +kernel, mt1 (j := 9) rfl rfl, ⟨by decide +kernel, by decide +kernel⟩, by decide +kernel⟩
theorem mok5_choose : MOK m5_choose := ⟨mt4 (j := 23) rfl rfl, by decide +kernel, mt1 (j := 9) rfl rfl, ⟨by decide +kernel, by decide +kernel⟩, by decide +kernel⟩
theorem mok5_search : MOK m5_search := ⟨mt3 (j := 232) rfl rfl, by decide +kernel, mt1 (j := 9) rfl rfl, ⟨by decide +kernel, by decide +kernel⟩, by decide +kernel⟩
theorem mok5_most : MOK m5_most := ⟨mt4 (j := 31) rfl rfl, by decide +kernel, mt1 (j := 9) rfl rfl, ⟨by decide +kernel, by decide +kernel⟩, by decide +kernel⟩
theorem mok5_length : MOK m5_length := ⟨mt4 (j := 35) rfl rfl, by decide +kernel, mt1 (j := 9) rfl rfl, ⟨by decide +kernel, by decide +kernel⟩, by decide +kernel⟩
theorem mok5_at : MOK m5_at := ⟨mt4 (j := 39) rfl rfl, by decide +kernel, mt1 (j := 9) rfl rfl, ⟨by decide +kernel, by decide +kernel⟩, by decide +kernel⟩
theorem mok10_order : MOK m10_order := ⟨mt3 (j := 224) rfl rfl, by decide +kernel, mt1 (j := 1) rfl rfl, ⟨by decide +kernel, by decide +kernel⟩, by decide +kernel⟩
theorem mok10_seen : MOK m10_seen := ⟨mt4 (j := 43) rfl rfl, by decide +kernel, mt1 (j := 1) rfl rfl, ⟨by decide +kernel, by decide +kernel⟩, by decide +kernel⟩
theorem mok9_fitsSeen : MOK m9_fitsSeen := ⟨mt4 (j := 52) rfl rfl, by decide +kernel, mt1 (j := 2) rfl rfl, ⟨by decide +kernel, by decide +kernel⟩, by decide +kernel⟩
theorem mok10_tall : MOK m10_tall := ⟨mt4 (j := 48) rfl rfl, by decide +kernel, mt1 (j := 1) rfl rfl, ⟨by decide +kernel, by decide +kernel⟩, by decide +kernel⟩
theorem mok10_note : MOK m10_note := ⟨mt4 (j := 56) rfl rfl, by decide +kernel, mt1 (j := 1) rfl rfl, ⟨by decide +kernel, by decide +kernel⟩, by decide +kernel⟩
theorem mok10_mark : MOK m10_mark := ⟨mt4 (j := 60) rfl rfl, by decide +kernel, mt1 (j := 1) rfl rfl, ⟨by decide +kernel, by decide +kernel⟩, by decide +kernel⟩
theorem mok10_forgetAll : MOK m10_forgetAll := ⟨mt4 (j := 67) rfl rfl, by decide +kernel, mt1 (j := 1) rfl rfl, ⟨by decide +kernel, by decide +kernel⟩, by decide +kernel⟩
theorem mok10_forget : MOK m10_forget := ⟨mt4 (j := 64) rfl rfl, by decide +kernel, mt1 (j := 1) rfl rfl, ⟨by decide +kernel, by decide +kernel⟩, by decide +kernel⟩
theorem mok2_drawAll : MOK m2_drawAll := ⟨mt4 (j := 82) rfl rfl, by decide +kernel, mt1 (j := 10) rfl rfl, ⟨by decide +kernel, by decide +kernel⟩, by decide +kernel⟩
theorem mok2_answering : MOK m2_answering := ⟨mt4 (j := 88) rfl rfl, by decide +kernel, mt1 (j := 10) rfl rfl, ⟨by decide +kernel, by decide +kernel⟩, by decide +kernel⟩
theorem mok2_thingKinds : MOK m2_thingKinds := ⟨mt4 (j := 76) rfl rfl, by decide +kernel, mt1 (j := 10) rfl rfl, ⟨by decide +kernel, by decide +kernel⟩, by decide +kernel⟩
theorem mok10_is : MOK m10_is := ⟨mt4 (j := 72) rfl rfl, by decide +kernel, mt1 (j := 1) rfl rfl, ⟨by decide +kernel, by decide +kernel⟩, by decide +kernel⟩
theorem mok2_mostAlike : MOK m2_mostAlike := ⟨mt4 (j := 101) rfl rfl, by decide +kernel, mt1 (j := 10) rfl rfl, ⟨by decide +kernel, by decide +kernel⟩, by decide +kernel⟩
theorem mok2_bestLook : MOK m2_bestLook := ⟨mt4 (j := 97) rfl rfl, by decide +kernel, mt1 (j := 10) rfl rfl, ⟨by decide +kernel, by decide +kernel⟩, by decide +kernel⟩
theorem mok10_look : MOK m10_look := ⟨mt4 (j := 93) rfl rfl, by decide +kernel, mt1 (j := 1) rfl rfl, ⟨by decide +kernel, by decide +kernel⟩, by decide +kernel⟩
theorem mok2_needAll : MOK m2_needAll := ⟨mt4 (j := 115) rfl rfl, by decide +kernel, mt1 (j := 10) rfl rfl, ⟨by decide +kernel, by decide +kernel⟩, by decide +kernel⟩
theorem mok2_partKinds : MOK m2_partKinds := ⟨mt4 (j := 111) rfl rfl, by decide +kernel, mt1 (j := 10) rfl rfl, ⟨by decide +kernel, by decide +kernel⟩, by decide +kernel⟩
theorem mok10_kinds : MOK m10_kinds := ⟨mt4 (j := 107) rfl rfl, by decide +kernel, mt1 (j := 1) rfl rfl, ⟨by decide +kernel, by decide +kernel⟩, by decide +kernel⟩
theorem mok2_bestAsk : MOK m2_bestAsk := ⟨mt4 (j := 124) rfl rfl, by decide +kernel, mt1 (j := 10) rfl rfl, ⟨by decide +kernel, by decide +kernel⟩, by decide +kernel⟩
theorem mok10_ask : MOK m10_ask := ⟨mt4 (j := 120) rfl rfl, by decide +kernel, mt1 (j := 1) rfl rfl, ⟨by decide +kernel, by decide +kernel⟩, by decide +kernel⟩
theorem mok0_gain : MOK m0_gain := ⟨mt4 (j := 137) rfl rfl, by decide +kernel, mt1 (j := 11) rfl rfl, ⟨by decide +kernel, by decide +kernel⟩, by decide +kernel⟩
theorem mok0_settle : MOK m0_settle := ⟨mt4 (j := 133) rfl rfl, by decide +kernel, mt1 (j := 11) rfl rfl, ⟨by decide +kernel, by decide +kernel⟩, by decide +kernel⟩
theorem mok0_rests : MOK m0_rests := ⟨mt4 (j := 148) rfl rfl, by decide +kernel, mt1 (j := 11) rfl rfl, ⟨by decide +kernel, by decide +kernel⟩, by decide +kernel⟩
theorem mok0_resting : MOK m0_resting := ⟨mt4 (j := 144) rfl rfl, by decide +kernel, mt1 (j := 11) rfl rfl, ⟨by decide +kernel, by decide +kernel⟩, by decide +kernel⟩
theorem mok0_restingAt : MOK m0_restingAt := ⟨mt4 (j := 153) rfl rfl, by decide +kernel, mt1 (j := 11) rfl rfl, ⟨by decide +kernel, by decide +kernel⟩, by decide +kernel⟩
theorem mok10_sweep : MOK m10_sweep := ⟨mt4 (j := 128) rfl rfl, by decide +kernel, mt1 (j := 1) rfl rfl, ⟨by decide +kernel, by decide +kernel⟩, by decide +kernel⟩
theorem mok1_commonOf : MOK m1_commonOf := ⟨mt4 (j := 164) rfl rfl, by decide +kernel, mt1 (j := 8) rfl rfl, ⟨by decide +kernel, by decide +kernel⟩, by decide +kernel⟩
theorem mok1_set : MOK m1_set := ⟨mt4 (j := 161) rfl rfl, by decide +kernel, mt1 (j := 8) rfl rfl, ⟨by decide +kernel, by decide +kernel⟩, by decide +kernel⟩
theorem mok10_falls : MOK m10_falls := ⟨mt4 (j := 157) rfl rfl, by decide +kernel, mt1 (j := 1) rfl rfl, ⟨by decide +kernel, by decide +kernel⟩, by decide +kernel⟩
theorem mok10_septembers : MOK m10_septembers := ⟨mt4 (j := 169) rfl rfl, by decide +kernel, mt1 (j := 1) rfl rfl, ⟨by decide +kernel, by decide +kernel⟩, by decide +kernel⟩
theorem mok1_above : MOK m1_above := ⟨mt4 (j := 185) rfl rfl, by decide +kernel, mt1 (j := 8) rfl rfl, ⟨by decide +kernel, by decide +kernel⟩, by decide +kernel⟩
theorem mok1_below : MOK m1_below := ⟨mt4 (j := 189) rfl rfl, by decide +kernel, mt1 (j := 8) rfl rfl, ⟨by decide +kernel, by decide +kernel⟩, by decide +kernel⟩
theorem mok10_part : MOK m10_part := ⟨mt4 (j := 181) rfl rfl, by decide +kernel, mt1 (j := 1) rfl rfl, ⟨by decide +kernel, by decide +kernel⟩, by decide +kernel⟩
theorem mok10_imageAt : MOK m10_imageAt := ⟨mt4 (j := 197) rfl rfl, by decide +kernel, mt1 (j := 1) rfl rfl, ⟨by decide +kernel, by decide +kernel⟩, by decide +kernel⟩
theorem mok10_image : MOK m10_image := ⟨mt4 (j := 193) rfl rfl, by decide +kernel, mt1 (j := 1) rfl rfl, ⟨by decide +kernel, by decide +kernel⟩, by decide +kernel⟩
theorem mok10_from : MOK m10_from := ⟨mt4 (j := 201) rfl rfl, by decide +kernel, mt1 (j := 1) rfl rfl, ⟨by decide +kernel, by decide +kernel⟩, by decide +kernel⟩
theorem mok10_status : MOK m10_status := ⟨mt4 (j := 205) rfl rfl, by decide +kernel, mt1 (j := 1) rfl rfl, ⟨by decide +kernel, by decide +kernel⟩, by decide +kernel⟩
theorem mok10_countOf : MOK m10_countOf := ⟨mt4 (j := 213) rfl rfl, by decide +kernel, mt1 (j := 1) rfl rfl, ⟨by decide +kernel, by decide +kernel⟩, by decide +kernel⟩
theorem mok10_count : MOK m10_count := ⟨mt4 (j := 209) rfl rfl, by decide +kernel, mt1 (j := 1) rfl rfl, ⟨by decide +kernel, by decide +kernel⟩, by decide +kernel⟩
theorem mok7_digestOn : MOK m7_digestOn := ⟨mt4 (j := 227) rfl rfl, by decide +kernel, mt1 (j := 3) rfl rfl, ⟨by decide +kernel, by decide +kernel⟩, by decide +kernel⟩
theorem mok9_digestOn : MOK m9_digestOn := ⟨mt4 (j := 223) rfl rfl, by decide +kernel, mt1 (j := 2) rfl rfl, ⟨by decide +kernel, by decide +kernel⟩, by decide +kernel⟩
theorem mok10_digest : MOK m10_digest := ⟨mt4 (j := 217) rfl rfl, by decide +kernel, mt1 (j := 1) rfl rfl, ⟨by decide +kernel, by decide +kernel⟩, by decide +kernel⟩
theorem mok11_begin : MOK m11_begin := ⟨mt4 (j := 238) rfl rfl, by decide +kernel, mt1 (j := 12) rfl rfl, ⟨by decide +kernel, by decide +kernel⟩, by decide +kernel⟩
theorem mok11_many : MOK m11_many := ⟨mt5 (j := 65) rfl rfl, by decide +kernel, mt1 (j := 12) rfl rfl, ⟨by decide +kernel, by decide +kernel⟩, by decide +kernel⟩
theorem mok11_village : MOK m11_village := ⟨mt5 (j := 61) rfl rfl, by decide +kernel, mt1 (j := 12) rfl rfl, ⟨by decide +kernel, by decide +kernel⟩, by decide +kernel⟩
theorem mok11_in : MOK m11_in := ⟨mt5 (j := 73) rfl rfl, by decide +kernel, mt1 (j := 12) rfl rfl, ⟨by decide +kernel, by decide +kernel⟩, by decide +kernel⟩
theorem mok11_isCell : MOK m11_isCell := ⟨mt5 (j := 76) rfl rfl, by decide +kernel, mt1 (j := 12) rfl rfl, ⟨by decide +kernel, by decide +kernel⟩, by decide +kernel⟩
theorem mok11_bad : MOK m11_bad := ⟨mt5 (j := 82) rfl rfl, by decide +kernel, mt1 (j := 12) rfl rfl, ⟨by decide +kernel, by decide +kernel⟩, by decide +kernel⟩
theorem mok11_storm : MOK m11_storm := ⟨mt5 (j := 69) rfl rfl, by decide +kernel, mt1 (j := 12) rfl rfl, ⟨by decide +kernel, by decide +kernel⟩, by decide +kernel⟩
theorem mok11_isKind : MOK m11_isKind := ⟨mt5 (j := 89) rfl rfl, by decide +kernel, mt1 (j := 12) rfl rfl, ⟨by decide +kernel, by decide +kernel⟩, by decide +kernel⟩
theorem mok11_full : MOK m11_full := ⟨mt5 (j := 94) rfl rfl, by decide +kernel, mt1 (j := 12) rfl rfl, ⟨by decide +kernel, by decide +kernel⟩, by decide +kernel⟩
theorem mok11_layThing : MOK m11_layThing := ⟨mt5 (j := 97) rfl rfl, by decide +kernel, mt1 (j := 12) rfl rfl, ⟨by decide +kernel, by decide +kernel⟩, by decide +kernel⟩
theorem mok11_thing : MOK m11_thing := ⟨mt5 (j := 86) rfl rfl, by decide +kernel, mt1 (j := 12) rfl rfl, ⟨by decide +kernel, by decide +kernel⟩, by decide +kernel⟩
theorem mok11_body : MOK m11_body := ⟨mt5 (j := 101) rfl rfl, by decide +kernel, mt1 (j := 12) rfl rfl, ⟨by decide +kernel, by decide +kernel⟩, by decide +kernel⟩
theorem mok11_save : MOK m11_save := ⟨mt5 (j := 110) rfl rfl, by decide +kernel, mt1 (j := 12) rfl rfl, ⟨by decide +kernel, by decide +kernel⟩, by decide +kernel⟩
theorem mok11_has : MOK m11_has := ⟨mt5 (j := 125) rfl rfl, by decide +kernel, mt1 (j := 12) rfl rfl, ⟨by decide +kernel, by decide +kernel⟩, by decide +kernel⟩
theorem mok11_drawsAs : MOK m11_drawsAs := ⟨mt5 (j := 131) rfl rfl, by decide +kernel, mt1 (j := 12) rfl rfl, ⟨by decide +kernel, by decide +kernel⟩, by decide +kernel⟩
theorem mok11_drawsFrom : MOK m11_drawsFrom := ⟨mt5 (j := 128) rfl rfl, by decide +kernel, mt1 (j := 12) rfl rfl, ⟨by decide +kernel, by decide +kernel⟩, by decide +kernel⟩
theorem mok11_struckOf : MOK m11_struckOf := ⟨mt5 (j := 122) rfl rfl, by decide +kernel, mt1 (j := 12) rfl rfl, ⟨by decide +kernel, by decide +kernel⟩, by decide +kernel⟩
theorem mok11_firstOf : MOK m11_firstOf := ⟨mt5 (j := 137) rfl rfl, by decide +kernel, mt1 (j := 12) rfl rfl, ⟨by decide +kernel, by decide +kernel⟩, by decide +kernel⟩
theorem mok11_bits : MOK m11_bits := ⟨mt5 (j := 140) rfl rfl, by decide +kernel, mt1 (j := 12) rfl rfl, ⟨by decide +kernel, by decide +kernel⟩, by decide +kernel⟩
theorem mok11_needsAs : MOK m11_needsAs := ⟨mt5 (j := 143) rfl rfl, by decide +kernel, mt1 (j := 12) rfl rfl, ⟨by decide +kernel, by decide +kernel⟩, by decide +kernel⟩
theorem mok11_goParts : MOK m11_goParts := ⟨mt5 (j := 134) rfl rfl, by decide +kernel, mt1 (j := 12) rfl rfl, ⟨by decide +kernel, by decide +kernel⟩, by decide +kernel⟩
theorem mok11_goSummer : MOK m11_goSummer := ⟨mt5 (j := 119) rfl rfl, by decide +kernel, mt1 (j := 12) rfl rfl, ⟨by decide +kernel, by decide +kernel⟩, by decide +kernel⟩
theorem mok11_goTold : MOK m11_goTold := ⟨mt5 (j := 116) rfl rfl, by decide +kernel, mt1 (j := 12) rfl rfl, ⟨by decide +kernel, by decide +kernel⟩, by decide +kernel⟩
theorem mok11_goSummers : MOK m11_goSummers := ⟨mt5 (j := 113) rfl rfl, by decide +kernel, mt1 (j := 12) rfl rfl, ⟨by decide +kernel, by decide +kernel⟩, by decide +kernel⟩
theorem mok11_summers : MOK m11_summers := ⟨mt5 (j := 105) rfl rfl, by decide +kernel, mt1 (j := 12) rfl rfl, ⟨by decide +kernel, by decide +kernel⟩, by decide +kernel⟩
theorem mok11_isThing : MOK m11_isThing := ⟨mt5 (j := 151) rfl rfl, by decide +kernel, mt1 (j := 12) rfl rfl, ⟨by decide +kernel, by decide +kernel⟩, by decide +kernel⟩
theorem mok11_takes : MOK m11_takes := ⟨mt5 (j := 147) rfl rfl, by decide +kernel, mt1 (j := 12) rfl rfl, ⟨by decide +kernel, by decide +kernel⟩, by decide +kernel⟩
theorem mok11_no : MOK m11_no := ⟨mt5 (j := 159) rfl rfl, by decide +kernel, mt1 (j := 12) rfl rfl, ⟨by decide +kernel, by decide +kernel⟩, by decide +kernel⟩
theorem mok11_undo : MOK m11_undo := ⟨mt5 (j := 155) rfl rfl, by decide +kernel, mt1 (j := 12) rfl rfl, ⟨by decide +kernel, by decide +kernel⟩, by decide +kernel⟩
theorem mok11_of : MOK m11_of := ⟨mt5 (j := 163) rfl rfl, by decide +kernel, mt1 (j := 12) rfl rfl, ⟨by decide +kernel, by decide +kernel⟩, by decide +kernel⟩
theorem mok11_isPart : MOK m11_isPart := ⟨mt5 (j := 172) rfl rfl, by decide +kernel, mt1 (j := 12) rfl rfl, ⟨by decide +kernel, by decide +kernel⟩, by decide +kernel⟩
theorem mok11_about : MOK m11_about := ⟨mt5 (j := 168) rfl rfl, by decide +kernel, mt1 (j := 12) rfl rfl, ⟨by decide +kernel, by decide +kernel⟩, by decide +kernel⟩
theorem mok11_weather : MOK m11_weather := ⟨mt5 (j := 177) rfl rfl, by decide +kernel, mt1 (j := 12) rfl rfl, ⟨by decide +kernel, by decide +kernel⟩, by decide +kernel⟩
theorem mok11_draws : MOK m11_draws := ⟨mt5 (j := 181) rfl rfl, by decide +kernel, mt1 (j := 12) rfl rfl, ⟨by decide +kernel, by decide +kernel⟩, by decide +kernel⟩
theorem mok11_struck : MOK m11_struck := ⟨mt5 (j := 185) rfl rfl, by decide +kernel, mt1 (j := 12) rfl rfl, ⟨by decide +kernel, by decide +kernel⟩, by decide +kernel⟩
theorem mok11_layHand : MOK m11_layHand := ⟨mt5 (j := 193) rfl rfl, by decide +kernel, mt1 (j := 12) rfl rfl, ⟨by decide +kernel, by decide +kernel⟩, by decide +kernel⟩
theorem mok11_then : MOK m11_then := ⟨mt5 (j := 189) rfl rfl, by decide +kernel, mt1 (j := 12) rfl rfl, ⟨by decide +kernel, by decide +kernel⟩, by decide +kernel⟩
theorem mok11_whenOf : MOK m11_whenOf := ⟨mt5 (j := 201) rfl rfl, by decide +kernel, mt1 (j := 12) rfl rfl, ⟨by decide +kernel, by decide +kernel⟩, by decide +kernel⟩
theorem mok11_when : MOK m11_when := ⟨mt5 (j := 197) rfl rfl, by decide +kernel, mt1 (j := 12) rfl rfl, ⟨by decide +kernel, by decide +kernel⟩, by decide +kernel⟩
theorem mok11_cellsBy : MOK m11_cellsBy := ⟨mt5 (j := 209) rfl rfl, by decide +kernel, mt1 (j := 12) rfl rfl, ⟨by decide +kernel, by decide +kernel⟩, by decide +kernel⟩
theorem mok11_whence : MOK m11_whence := ⟨mt5 (j := 205) rfl rfl, by decide +kernel, mt1 (j := 12) rfl rfl, ⟨by decide +kernel, by decide +kernel⟩, by decide +kernel⟩
theorem mok11_lead : MOK m11_lead := ⟨mt5 (j := 213) rfl rfl, by decide +kernel, mt1 (j := 12) rfl rfl, ⟨by decide +kernel, by decide +kernel⟩, by decide +kernel⟩
theorem mok11_spare : MOK m11_spare := ⟨mt5 (j := 217) rfl rfl, by decide +kernel, mt1 (j := 12) rfl rfl, ⟨by decide +kernel, by decide +kernel⟩, by decide +kernel⟩
theorem mok11_layMissing : MOK m11_layMissing := ⟨mt5 (j := 226) rfl rfl, by decide +kernel, mt1 (j := 12) rfl rfl, ⟨by decide +kernel, by decide +kernel⟩, by decide +kernel⟩
theorem mok11_layOrder : MOK m11_layOrder := ⟨mt5 (j := 230) rfl rfl, by decide +kernel, mt1 (j := 12) rfl rfl, ⟨by decide +kernel, by decide +kernel⟩, by decide +kernel⟩
theorem mok11_comeBy : MOK m11_comeBy := ⟨mt5 (j := 234) rfl rfl, by decide +kernel, mt1 (j := 12) rfl rfl, ⟨by decide +kernel, by decide +kernel⟩, by decide +kernel⟩
theorem mok11_order : MOK m11_order := ⟨mt5 (j := 221) rfl rfl, by decide +kernel, mt1 (j := 12) rfl rfl, ⟨by decide +kernel, by decide +kernel⟩, by decide +kernel⟩
theorem mok11_seen : MOK m11_seen := ⟨mt5 (j := 238) rfl rfl, by decide +kernel, mt1 (j := 12) rfl rfl, ⟨by decide +kernel, by decide +kernel⟩, by decide +kernel⟩
theorem mok11_isSeenBy : MOK m11_isSeenBy := ⟨mt6 (j := 6) rfl rfl, by decide +kernel, mt1 (j := 12) rfl rfl, ⟨by decide +kernel, by decide +kernel⟩, by decide +kernel⟩
theorem mok11_tall : MOK m11_tall := ⟨mt6 (j := 2) rfl rfl, by decide +kernel, mt1 (j := 12) rfl rfl, ⟨by decide +kernel, by decide +kernel⟩, by decide +kernel⟩
theorem mok11_note : MOK m11_note := ⟨mt6 (j := 10) rfl rfl, by decide +kernel, mt1 (j := 12) rfl rfl, ⟨by decide +kernel, by decide +kernel⟩, by decide +kernel⟩
theorem mok11_mark : MOK m11_mark := ⟨mt6 (j := 14) rfl rfl, by decide +kernel, mt1 (j := 12) rfl rfl, ⟨by decide +kernel, by decide +kernel⟩, by decide +kernel⟩
theorem mok11_forget : MOK m11_forget := ⟨mt6 (j := 18) rfl rfl, by decide +kernel, mt1 (j := 12) rfl rfl, ⟨by decide +kernel, by decide +kernel⟩, by decide +kernel⟩
theorem mok11_kindsOfThing : MOK m11_kindsOfThing := ⟨mt6 (j := 26) rfl rfl, by decide +kernel, mt1 (j := 12) rfl rfl, ⟨by decide +kernel, by decide +kernel⟩, by decide +kernel⟩
theorem mok11_is : MOK m11_is := ⟨mt6 (j := 22) rfl rfl, by decide +kernel, mt1 (j := 12) rfl rfl, ⟨by decide +kernel, by decide +kernel⟩, by decide +kernel⟩
theorem mok11_mostAlike : MOK m11_mostAlike := ⟨mt6 (j := 35) rfl rfl, by decide +kernel, mt1 (j := 12) rfl rfl, ⟨by decide +kernel, by decide +kernel⟩, by decide +kernel⟩
theorem mok11_look : MOK m11_look := ⟨mt6 (j := 30) rfl rfl, by decide +kernel, mt1 (j := 12) rfl rfl, ⟨by decide +kernel, by decide +kernel⟩, by decide +kernel⟩
theorem mok11_kindsOfPart : MOK m11_kindsOfPart := ⟨mt6 (j := 43) rfl rfl, by decide +kernel, mt1 (j := 12) rfl rfl, ⟨by decide +kernel, by decide +kernel⟩, by decide +kernel⟩
theorem mok11_kinds : MOK m11_kinds := ⟨mt6 (j := 39) rfl rfl, by decide +kernel, mt1 (j := 12) rfl rfl, ⟨by decide +kernel, by decide +kernel⟩, by decide +kernel⟩
theorem mok11_ask : MOK m11_ask := ⟨mt6 (j := 47) rfl rfl, by decide +kernel, mt1 (j := 12) rfl rfl, ⟨by decide +kernel, by decide +kernel⟩, by decide +kernel⟩
theorem mok11_off : MOK m11_off := ⟨mt6 (j := 60) rfl rfl, by decide +kernel, mt1 (j := 12) rfl rfl, ⟨by decide +kernel, by decide +kernel⟩, by decide +kernel⟩
theorem mok11_getsBy : MOK m11_getsBy := ⟨mt6 (j := 57) rfl rfl, by decide +kernel, mt1 (j := 12) rfl rfl, ⟨by decide +kernel, by decide +kernel⟩, by decide +kernel⟩
theorem mok11_isBest : MOK m11_isBest := ⟨mt6 (j := 54) rfl rfl, by decide +kernel, mt1 (j := 12) rfl rfl, ⟨by decide +kernel, by decide +kernel⟩, by decide +kernel⟩
theorem mok11_sweep : MOK m11_sweep := ⟨mt6 (j := 51) rfl rfl, by decide +kernel, mt1 (j := 12) rfl rfl, ⟨by decide +kernel, by decide +kernel⟩, by decide +kernel⟩
theorem mok11_fraction : MOK m11_fraction := ⟨mt6 (j := 69) rfl rfl, by decide +kernel, mt1 (j := 12) rfl rfl, ⟨by decide +kernel, by decide +kernel⟩, by decide +kernel⟩
theorem mok11_falls : MOK m11_falls := ⟨mt6 (j := 64) rfl rfl, by decide +kernel, mt1 (j := 12) rfl rfl, ⟨by decide +kernel, by decide +kernel⟩, by decide +kernel⟩
theorem mok11_septembers : MOK m11_septembers := ⟨mt6 (j := 73) rfl rfl, by decide +kernel, mt1 (j := 12) rfl rfl, ⟨by decide +kernel, by decide +kernel⟩, by decide +kernel⟩
theorem mok11_type : MOK m11_type := ⟨mt6 (j := 84) rfl rfl, by decide +kernel, mt1 (j := 12) rfl rfl, ⟨by decide +kernel, by decide +kernel⟩, by decide +kernel⟩
theorem mok11_clear : MOK m11_clear := ⟨mt6 (j := 89) rfl rfl, by decide +kernel, mt1 (j := 12) rfl rfl, ⟨by decide +kernel, by decide +kernel⟩, by decide +kernel⟩
theorem mok11_isSmall : MOK m11_isSmall := ⟨mt6 (j := 100) rfl rfl, by decide +kernel, mt1 (j := 12) rfl rfl, ⟨by decide +kernel, by decide +kernel⟩, by decide +kernel⟩
theorem mok11_isFigure : MOK m11_isFigure := ⟨mt6 (j := 105) rfl rfl, by decide +kernel, mt1 (j := 12) rfl rfl, ⟨by decide +kernel, by decide +kernel⟩, by decide +kernel⟩
theorem mok11_lookAt : MOK m11_lookAt := ⟨mt6 (j := 97) rfl rfl, by decide +kernel, mt1 (j := 12) rfl rfl, ⟨by decide +kernel, by decide +kernel⟩, by decide +kernel⟩
theorem mok11_spellsSeven : MOK m11_spellsSeven := ⟨mt6 (j := 111) rfl rfl, by decide +kernel, mt1 (j := 12) rfl rfl, ⟨by decide +kernel, by decide +kernel⟩, by decide +kernel⟩
theorem mok11_goBehind : MOK m11_goBehind := ⟨mt6 (j := 115) rfl rfl, by decide +kernel, mt1 (j := 12) rfl rfl, ⟨by decide +kernel, by decide +kernel⟩, by decide +kernel⟩
theorem mok11_spells : MOK m11_spells := ⟨mt6 (j := 123) rfl rfl, by decide +kernel, mt1 (j := 12) rfl rfl, ⟨by decide +kernel, by decide +kernel⟩, by decide +kernel⟩
theorem mok11_gives : MOK m11_gives := ⟨mt6 (j := 131) rfl rfl, by decide +kernel, mt1 (j := 12) rfl rfl, ⟨by decide +kernel, by decide +kernel⟩, by decide +kernel⟩
theorem mok11_givesStorm : MOK m11_givesStorm := ⟨mt6 (j := 127) rfl rfl, by decide +kernel, mt1 (j := 12) rfl rfl, ⟨by decide +kernel, by decide +kernel⟩, by decide +kernel⟩
theorem mok11_givesThing : MOK m11_givesThing := ⟨mt6 (j := 135) rfl rfl, by decide +kernel, mt1 (j := 12) rfl rfl, ⟨by decide +kernel, by decide +kernel⟩, by decide +kernel⟩
theorem mok11_givesPart : MOK m11_givesPart := ⟨mt6 (j := 139) rfl rfl, by decide +kernel, mt1 (j := 12) rfl rfl, ⟨by decide +kernel, by decide +kernel⟩, by decide +kernel⟩
theorem mok11_givesTake : MOK m11_givesTake := ⟨mt6 (j := 143) rfl rfl, by decide +kernel, mt1 (j := 12) rfl rfl, ⟨by decide +kernel, by decide +kernel⟩, by decide +kernel⟩
theorem mok11_givesSummers : MOK m11_givesSummers := ⟨mt6 (j := 147) rfl rfl, by decide +kernel, mt1 (j := 12) rfl rfl, ⟨by decide +kernel, by decide +kernel⟩, by decide +kernel⟩
theorem mok11_givesItem : MOK m11_givesItem := ⟨mt6 (j := 119) rfl rfl, by decide +kernel, mt1 (j := 12) rfl rfl, ⟨by decide +kernel, by decide +kernel⟩, by decide +kernel⟩
theorem mok11_read : MOK m11_read := ⟨mt6 (j := 93) rfl rfl, by decide +kernel, mt1 (j := 12) rfl rfl, ⟨by decide +kernel, by decide +kernel⟩, by decide +kernel⟩
theorem mok11_part : MOK m11_part := ⟨mt6 (j := 151) rfl rfl, by decide +kernel, mt1 (j := 12) rfl rfl, ⟨by decide +kernel, by decide +kernel⟩, by decide +kernel⟩
theorem mok11_image : MOK m11_image := ⟨mt6 (j := 155) rfl rfl, by decide +kernel, mt1 (j := 12) rfl rfl, ⟨by decide +kernel, by decide +kernel⟩, by decide +kernel⟩
theorem mok11_from : MOK m11_from := ⟨mt6 (j := 159) rfl rfl, by decide +kernel, mt1 (j := 12) rfl rfl, ⟨by decide +kernel, by decide +kernel⟩, by decide +kernel⟩
theorem mok11_status : MOK m11_status := ⟨mt6 (j := 163) rfl rfl, by decide +kernel, mt1 (j := 12) rfl rfl, ⟨by decide +kernel, by decide +kernel⟩, by decide +kernel⟩
theorem mok11_counted : MOK m11_counted := ⟨mt6 (j := 171) rfl rfl, by decide +kernel, mt1 (j := 12) rfl rfl, ⟨by decide +kernel, by decide +kernel⟩, by decide +kernel⟩
theorem mok11_count : MOK m11_count := ⟨mt6 (j := 167) rfl rfl, by decide +kernel, mt1 (j := 12) rfl rfl, ⟨by decide +kernel, by decide +kernel⟩, by decide +kernel⟩
theorem mok11_sums : MOK m11_sums := ⟨mt6 (j := 181) rfl rfl, by decide +kernel, mt1 (j := 12) rfl rfl, ⟨by decide +kernel, by decide +kernel⟩, by decide +kernel⟩
theorem mok11_digest : MOK m11_digest := ⟨mt6 (j := 175) rfl rfl, by decide +kernel, mt1 (j := 12) rfl rfl, ⟨by decide +kernel, by decide +kernel⟩, by decide +kernel⟩
theorem mokJ0_coder : MOK mJ0_coder := ⟨mt2 (j := 199) rfl rfl, by decide +kernel, mt1 (j := 13) rfl rfl, ⟨by decide +kernel, by decide +kernel⟩, by decide +kernel⟩
theorem mokJ0_isLatin1 : MOK mJ0_isLatin1 := ⟨mt2 (j := 209) rfl rfl, by decide +kernel, mt1 (j := 13) rfl rfl, ⟨by decide +kernel, by decide +kernel⟩, by decide +kernel⟩
theorem mokJ1_charAt : MOK mJ1_charAt := ⟨mt2 (j := 212) rfl rfl, by decide +kernel, mt1 (j := 14) rfl rfl, ⟨by decide +kernel, by decide +kernel⟩, by decide +kernel⟩
theorem mokJ0_checkIndex : MOK mJ0_checkIndex := ⟨mt2 (j := 215) rfl rfl, by decide +kernel, mt1 (j := 13) rfl rfl, ⟨by decide +kernel, by decide +kernel⟩, by decide +kernel⟩
theorem mokJ3_checkIndex : MOK mJ3_checkIndex := ⟨mt2 (j := 220) rfl rfl, by decide +kernel, mt1 (j := 15) rfl rfl, ⟨by decide +kernel, by decide +kernel⟩, by decide +kernel⟩
theorem wstwithin : Cond.static m10_within.1 ∈ gt := mt2 (j := 80) rfl rfl
theorem flJ0_9 : Cond.fieldLink RJ0 9 "java/lang/String" "value" "[B" ∈ gt := mt6 (j := 182) rfl rfl
theorem flJ0_15 : Cond.fieldLink RJ0 15 "java/lang/String" "coder" "B" ∈ gt := mt6 (j := 183) rfl rfl
theorem flJ0_38 : Cond.fieldLink RJ0 38 "java/lang/String" "COMPACT_STRINGS" "Z" ∈ gt := mt2 (j := 200) rfl rfl
theorem flJ0_1053 : Cond.fieldLink RJ0 1053 "jdk/internal/util/Preconditions" "SIOOBE_FORMATTER" "Ljava/util/function/BiFunction;" ∈ gt := mt2 (j := 216) rfl rfl
theorem wc5_93 : Cond.constant RX5 93 1000000 ∈ gt := mt4 (j := 18) rfl rfl
theorem wc10_209 : Cond.constant RX10 209 1000000 ∈ gt := mt3 (j := 184) rfl rfl
theorem wc10_303 : Cond.constant RX10 303 999999 ∈ gt := mt4 (j := 170) rfl rfl
theorem wc11_175 : Cond.constant RX11 175 1000000 ∈ gt := mt6 (j := 31) rfl rfl
theorem wcJ6_265 : Cond.constant RJ6 265 1431655765 ∈ gt := mt3 (j := 78) rfl rfl
theorem wcJ6_266 : Cond.constant RJ6 266 858993459 ∈ gt := mt3 (j := 79) rfl rfl
theorem wcJ6_267 : Cond.constant RJ6 267 252645135 ∈ gt := mt3 (j := 80) rfl rfl
theorem wl7_46 : Cond.constantLong RX7 46 31 ∈ gt := mt4 (j := 228) rfl rfl
theorem wl9_142 : Cond.constantLong RX9 142 31 ∈ gt := mt4 (j := 229) rfl rfl
theorem wl10_301 : Cond.constantLong RX10 301 10 ∈ gt := mt4 (j := 165) rfl rfl
theorem wl10_304 : Cond.constantLong RX10 304 1103515245 ∈ gt := mt4 (j := 171) rfl rfl
theorem wl10_306 : Cond.constantLong RX10 306 12345 ∈ gt := mt4 (j := 172) rfl rfl
theorem wl10_308 : Cond.constantLong RX10 308 2147483648 ∈ gt := mt4 (j := 173) rfl rfl
theorem wl10_310 : Cond.constantLong RX10 310 65536 ∈ gt := mt4 (j := 174) rfl rfl
theorem wl10_312 : Cond.constantLong RX10 312 12 ∈ gt := mt4 (j := 175) rfl rfl
theorem wl10_314 : Cond.constantLong RX10 314 1048576 ∈ gt := mt4 (j := 176) rfl rfl
theorem wl10_349 : Cond.constantLong RX10 349 1621 ∈ gt := mt4 (j := 218) rfl rfl
theorem wl10_351 : Cond.constantLong RX10 351 31 ∈ gt := mt4 (j := 219) rfl rfl
theorem wl11_125 : Cond.constantLong RX11 125 60 ∈ gt := mt5 (j := 106) rfl rfl
theorem wl11_140 : Cond.constantLong RX11 140 3 ∈ gt := mt5 (j := 164) rfl rfl
theorem wl11_145 : Cond.constantLong RX11 145 2 ∈ gt := mt5 (j := 173) rfl rfl
theorem wl11_156 : Cond.constantLong RX11 156 99 ∈ gt := mt5 (j := 222) rfl rfl
theorem wl11_195 : Cond.constantLong RX11 195 10 ∈ gt := mt6 (j := 65) rfl rfl
theorem wl11_201 : Cond.constantLong RX11 201 999999 ∈ gt := mt6 (j := 74) rfl rfl
theorem wl11_203 : Cond.constantLong RX11 203 1103515245 ∈ gt := mt6 (j := 75) rfl rfl
theorem wl11_205 : Cond.constantLong RX11 205 12345 ∈ gt := mt6 (j := 76) rfl rfl
theorem wl11_207 : Cond.constantLong RX11 207 2147483648 ∈ gt := mt6 (j := 77) rfl rfl
theorem wl11_209 : Cond.constantLong RX11 209 65536 ∈ gt := mt6 (j := 78) rfl rfl
theorem wl11_211 : Cond.constantLong RX11 211 12 ∈ gt := mt6 (j := 79) rfl rfl
theorem wl11_213 : Cond.constantLong RX11 213 1048576 ∈ gt := mt6 (j := 80) rfl rfl
theorem wl11_215 : Cond.constantLong RX11 215 127 ∈ gt := mt6 (j := 85) rfl rfl
theorem wl11_221 : Cond.constantLong RX11 221 97 ∈ gt := mt6 (j := 101) rfl rfl
theorem wl11_223 : Cond.constantLong RX11 223 122 ∈ gt := mt6 (j := 102) rfl rfl
theorem wl11_225 : Cond.constantLong RX11 225 48 ∈ gt := mt6 (j := 106) rfl rfl
theorem wl11_227 : Cond.constantLong RX11 227 57 ∈ gt := mt6 (j := 107) rfl rfl
theorem wl11_286 : Cond.constantLong RX11 286 31 ∈ gt := mt6 (j := 177) rfl rfl
theorem wl11_288 : Cond.constantLong RX11 288 1621 ∈ gt := mt6 (j := 176) rfl rfl
theorem wl11_63 : Cond.constantLong RX11 63 11 ∈ gt := mt5 (j := 77) rfl rfl
theorem wl11_65 : Cond.constantLong RX11 65 5 ∈ gt := mt5 (j := 70) rfl rfl
theorem wl11_71 : Cond.constantLong RX11 71 9 ∈ gt := mt5 (j := 78) rfl rfl
theorem wl11_80 : Cond.constantLong RX11 80 30 ∈ gt := mt5 (j := 90) rfl rfl
theorem fs0_16 : FS RX0 16 0 0 := ⟨RX0, TX0, rfl, by decide, by decide, in0, mt2 (j := 7) rfl rfl, rfl⟩
theorem fs0_20 : FS RX0 20 0 1 := ⟨RX0, TX0, rfl, by decide, by decide, in0, mt2 (j := 8) rfl rfl, rfl⟩
theorem fs1_13 : FS RX1 13 1 1 := ⟨RX1, TX1, rfl, by decide, by decide, in1, mt1 (j := 197) rfl rfl, rfl⟩
theorem fs1_7 : FS RX1 7 1 0 := ⟨RX1, TX1, rfl, by decide, by decide, in1, mt1 (j := 196) rfl rfl, rfl⟩
theorem fs2_14 : FS RX2 14 2 0 := ⟨RX2, TX2, rfl, by decide, by decide, in2, mt1 (j := 235) rfl rfl, rfl⟩
theorem fs4_13 : FS RX4 13 4 1 := ⟨RX4, TX4, rfl, by decide, by decide, in4, mt1 (j := 65) rfl rfl, rfl⟩
theorem fs4_16 : FS RX4 16 4 2 := ⟨RX4, TX4, rfl, by decide, by decide, in4, mt1 (j := 69) rfl rfl, rfl⟩
theorem fs4_19 : FS RX4 19 4 3 := ⟨RX4, TX4, rfl, by decide, by decide, in4, mt1 (j := 72) rfl rfl, rfl⟩
theorem fs4_7 : FS RX4 7 4 0 := ⟨RX4, TX4, rfl, by decide, by decide, in4, mt1 (j := 62) rfl rfl, rfl⟩
theorem fs5_101 : FS RX5 101 4 3 := ⟨RX4, TX4, rfl, by decide, by decide, in4, mt1 (j := 74) rfl rfl, rfl⟩
theorem fs5_16 : FS RX5 16 5 0 := ⟨RX5, TX5, rfl, by decide, by decide, in5, mt1 (j := 211) rfl rfl, rfl⟩
theorem fs5_20 : FS RX5 20 5 1 := ⟨RX5, TX5, rfl, by decide, by decide, in5, mt1 (j := 212) rfl rfl, rfl⟩
theorem fs5_23 : FS RX5 23 5 2 := ⟨RX5, TX5, rfl, by decide, by decide, in5, mt1 (j := 213) rfl rfl, rfl⟩
theorem fs5_26 : FS RX5 26 5 3 := ⟨RX5, TX5, rfl, by decide, by decide, in5, mt1 (j := 214) rfl rfl, rfl⟩
theorem fs5_30 : FS RX5 30 5 4 := ⟨RX5, TX5, rfl, by decide, by decide, in5, mt1 (j := 215) rfl rfl, rfl⟩
theorem fs5_37 : FS RX5 37 9 7 := ⟨RX9, TX9, rfl, by decide, by decide, in9, mt1 (j := 127) rfl rfl, rfl⟩
theorem fs5_43 : FS RX5 43 4 1 := ⟨RX4, TX4, rfl, by decide, by decide, in4, mt1 (j := 66) rfl rfl, rfl⟩
theorem fs5_48 : FS RX5 48 9 2 := ⟨RX9, TX9, rfl, by decide, by decide, in9, mt1 (j := 115) rfl rfl, rfl⟩
theorem fs6_13 : FS RX6 13 6 0 := ⟨RX6, TX6, rfl, by decide, by decide, in6, mt1 (j := 156) rfl rfl, rfl⟩
theorem fs7_13 : FS RX7 13 7 1 := ⟨RX7, TX7, rfl, by decide, by decide, in7, mt1 (j := 43) rfl rfl, rfl⟩
theorem fs7_22 : FS RX7 22 7 2 := ⟨RX7, TX7, rfl, by decide, by decide, in7, mt1 (j := 44) rfl rfl, rfl⟩
theorem fs7_26 : FS RX7 26 7 3 := ⟨RX7, TX7, rfl, by decide, by decide, in7, mt1 (j := 45) rfl rfl, rfl⟩
theorem fs7_7 : FS RX7 7 7 0 := ⟨RX7, TX7, rfl, by decide, by decide, in7, mt1 (j := 42) rfl rfl, rfl⟩
theorem fs8_113 : FS RX8 113 9 7 := ⟨RX9, TX9, rfl, by decide, by decide, in9, mt1 (j := 129) rfl rfl, rfl⟩
theorem fs8_16 : FS RX8 16 8 0 := ⟨RX8, TX8, rfl, by decide, by decide, in8, mt1 (j := 168) rfl rfl, rfl⟩
theorem fs8_20 : FS RX8 20 8 1 := ⟨RX8, TX8, rfl, by decide, by decide, in8, mt1 (j := 169) rfl rfl, rfl⟩
theorem fs8_23 : FS RX8 23 8 2 := ⟨RX8, TX8, rfl, by decide, by decide, in8, mt1 (j := 170) rfl rfl, rfl⟩
theorem fs8_31 : FS RX8 31 8 5 := ⟨RX8, TX8, rfl, by decide, by decide, in8, mt1 (j := 173) rfl rfl, rfl⟩
theorem fs8_37 : FS RX8 37 8 3 := ⟨RX8, TX8, rfl, by decide, by decide, in8, mt1 (j := 171) rfl rfl, rfl⟩
theorem fs8_52 : FS RX8 52 8 4 := ⟨RX8, TX8, rfl, by decide, by decide, in8, mt1 (j := 172) rfl rfl, rfl⟩
theorem fs8_59 : FS RX8 59 9 1 := ⟨RX9, TX9, rfl, by decide, by decide, in9, mt1 (j := 113) rfl rfl, rfl⟩
theorem fs8_70 : FS RX8 70 9 2 := ⟨RX9, TX9, rfl, by decide, by decide, in9, mt1 (j := 117) rfl rfl, rfl⟩
theorem fs8_77 : FS RX8 77 8 6 := ⟨RX8, TX8, rfl, by decide, by decide, in8, mt1 (j := 174) rfl rfl, rfl⟩
theorem fs9_14 : FS RX9 14 9 0 := ⟨RX9, TX9, rfl, by decide, by decide, in9, mt1 (j := 109) rfl rfl, rfl⟩
theorem fs9_20 : FS RX9 20 9 1 := ⟨RX9, TX9, rfl, by decide, by decide, in9, mt1 (j := 111) rfl rfl, rfl⟩
theorem fs9_23 : FS RX9 23 9 2 := ⟨RX9, TX9, rfl, by decide, by decide, in9, mt1 (j := 114) rfl rfl, rfl⟩
theorem fs9_26 : FS RX9 26 9 3 := ⟨RX9, TX9, rfl, by decide, by decide, in9, mt1 (j := 118) rfl rfl, rfl⟩
theorem fs9_29 : FS RX9 29 9 4 := ⟨RX9, TX9, rfl, by decide, by decide, in9, mt1 (j := 120) rfl rfl, rfl⟩
theorem fs9_32 : FS RX9 32 9 5 := ⟨RX9, TX9, rfl, by decide, by decide, in9, mt1 (j := 122) rfl rfl, rfl⟩
theorem fs9_35 : FS RX9 35 9 6 := ⟨RX9, TX9, rfl, by decide, by decide, in9, mt1 (j := 124) rfl rfl, rfl⟩
theorem fs9_41 : FS RX9 41 9 7 := ⟨RX9, TX9, rfl, by decide, by decide, in9, mt1 (j := 126) rfl rfl, rfl⟩
theorem fs9_74 : FS RX9 74 4 0 := ⟨RX4, TX4, rfl, by decide, by decide, in4, mt1 (j := 63) rfl rfl, rfl⟩
theorem fs9_85 : FS RX9 85 4 1 := ⟨RX4, TX4, rfl, by decide, by decide, in4, mt1 (j := 67) rfl rfl, rfl⟩
theorem fs9_88 : FS RX9 88 4 2 := ⟨RX4, TX4, rfl, by decide, by decide, in4, mt1 (j := 70) rfl rfl, rfl⟩
theorem fs9_91 : FS RX9 91 4 3 := ⟨RX4, TX4, rfl, by decide, by decide, in4, mt1 (j := 73) rfl rfl, rfl⟩
theorem fs10_10 : FS RX10 10 10 0 := ⟨RX10, TX10, rfl, by decide, by decide, in10, mt2 (j := 14) rfl rfl, rfl⟩
theorem fs10_103 : FS RX10 103 9 0 := ⟨RX9, TX9, rfl, by decide, by decide, in9, mt1 (j := 110) rfl rfl, rfl⟩
theorem fs10_131 : FS RX10 131 9 2 := ⟨RX9, TX9, rfl, by decide, by decide, in9, mt1 (j := 116) rfl rfl, rfl⟩
theorem fs10_159 : FS RX10 159 9 7 := ⟨RX9, TX9, rfl, by decide, by decide, in9, mt1 (j := 128) rfl rfl, rfl⟩
theorem fs10_16 : FS RX10 16 10 1 := ⟨RX10, TX10, rfl, by decide, by decide, in10, mt2 (j := 15) rfl rfl, rfl⟩
theorem fs10_178 : FS RX10 178 9 6 := ⟨RX9, TX9, rfl, by decide, by decide, in9, mt1 (j := 125) rfl rfl, rfl⟩
theorem fs10_187 : FS RX10 187 4 3 := ⟨RX4, TX4, rfl, by decide, by decide, in4, mt1 (j := 75) rfl rfl, rfl⟩
theorem fs10_19 : FS RX10 19 10 2 := ⟨RX10, TX10, rfl, by decide, by decide, in10, mt2 (j := 16) rfl rfl, rfl⟩
theorem fs10_210 : FS RX10 210 4 1 := ⟨RX4, TX4, rfl, by decide, by decide, in4, mt1 (j := 68) rfl rfl, rfl⟩
theorem fs10_22 : FS RX10 22 10 3 := ⟨RX10, TX10, rfl, by decide, by decide, in10, mt2 (j := 17) rfl rfl, rfl⟩
theorem fs10_222 : FS RX10 222 4 0 := ⟨RX4, TX4, rfl, by decide, by decide, in4, mt1 (j := 64) rfl rfl, rfl⟩
theorem fs10_250 : FS RX10 250 9 3 := ⟨RX9, TX9, rfl, by decide, by decide, in9, mt1 (j := 119) rfl rfl, rfl⟩
theorem fs10_260 : FS RX10 260 9 4 := ⟨RX9, TX9, rfl, by decide, by decide, in9, mt1 (j := 121) rfl rfl, rfl⟩
theorem fs10_263 : FS RX10 263 9 5 := ⟨RX9, TX9, rfl, by decide, by decide, in9, mt1 (j := 123) rfl rfl, rfl⟩
theorem fs10_28 : FS RX10 28 10 4 := ⟨RX10, TX10, rfl, by decide, by decide, in10, mt2 (j := 18) rfl rfl, rfl⟩
theorem fs10_330 : FS RX10 330 10 11 := ⟨RX10, TX10, rfl, by decide, by decide, in10, mt2 (j := 25) rfl rfl, rfl⟩
theorem fs10_334 : FS RX10 334 10 12 := ⟨RX10, TX10, rfl, by decide, by decide, in10, mt2 (j := 26) rfl rfl, rfl⟩
theorem fs10_337 : FS RX10 337 10 13 := ⟨RX10, TX10, rfl, by decide, by decide, in10, mt2 (j := 27) rfl rfl, rfl⟩
theorem fs10_340 : FS RX10 340 10 14 := ⟨RX10, TX10, rfl, by decide, by decide, in10, mt2 (j := 28) rfl rfl, rfl⟩
theorem fs10_343 : FS RX10 343 10 15 := ⟨RX10, TX10, rfl, by decide, by decide, in10, mt2 (j := 29) rfl rfl, rfl⟩
theorem fs10_359 : FS RX10 359 4 2 := ⟨RX4, TX4, rfl, by decide, by decide, in4, mt1 (j := 71) rfl rfl, rfl⟩
theorem fs10_37 : FS RX10 37 10 5 := ⟨RX10, TX10, rfl, by decide, by decide, in10, mt2 (j := 19) rfl rfl, rfl⟩
theorem fs10_44 : FS RX10 44 10 6 := ⟨RX10, TX10, rfl, by decide, by decide, in10, mt2 (j := 20) rfl rfl, rfl⟩
theorem fs10_51 : FS RX10 51 10 7 := ⟨RX10, TX10, rfl, by decide, by decide, in10, mt2 (j := 21) rfl rfl, rfl⟩
theorem fs10_58 : FS RX10 58 10 8 := ⟨RX10, TX10, rfl, by decide, by decide, in10, mt2 (j := 22) rfl rfl, rfl⟩
theorem fs10_65 : FS RX10 65 10 9 := ⟨RX10, TX10, rfl, by decide, by decide, in10, mt2 (j := 23) rfl rfl, rfl⟩
theorem fs10_72 : FS RX10 72 10 10 := ⟨RX10, TX10, rfl, by decide, by decide, in10, mt2 (j := 24) rfl rfl, rfl⟩
theorem fs10_76 : FS RX10 76 9 1 := ⟨RX9, TX9, rfl, by decide, by decide, in9, mt1 (j := 112) rfl rfl, rfl⟩
theorem fs11_13 : FS RX11 13 11 1 := ⟨RX11, TX11, rfl, by decide, by decide, in11, mt5 (j := 0) rfl rfl, rfl⟩
theorem fs11_16 : FS RX11 16 11 2 := ⟨RX11, TX11, rfl, by decide, by decide, in11, mt5 (j := 1) rfl rfl, rfl⟩
theorem fs11_192 : FS RX11 192 11 4 := ⟨RX11, TX11, rfl, by decide, by decide, in11, mt5 (j := 3) rfl rfl, rfl⟩
theorem fs11_20 : FS RX11 20 11 3 := ⟨RX11, TX11, rfl, by decide, by decide, in11, mt5 (j := 2) rfl rfl, rfl⟩
theorem fs11_217 : FS RX11 217 11 12 := ⟨RX11, TX11, rfl, by decide, by decide, in11, mt5 (j := 11) rfl rfl, rfl⟩
theorem fs11_229 : FS RX11 229 11 13 := ⟨RX11, TX11, rfl, by decide, by decide, in11, mt5 (j := 12) rfl rfl, rfl⟩
theorem fs11_23 : FS RX11 23 11 5 := ⟨RX11, TX11, rfl, by decide, by decide, in11, mt5 (j := 4) rfl rfl, rfl⟩
theorem fs11_232 : FS RX11 232 11 14 := ⟨RX11, TX11, rfl, by decide, by decide, in11, mt5 (j := 13) rfl rfl, rfl⟩
theorem fs11_235 : FS RX11 235 11 15 := ⟨RX11, TX11, rfl, by decide, by decide, in11, mt5 (j := 14) rfl rfl, rfl⟩
theorem fs11_238 : FS RX11 238 11 16 := ⟨RX11, TX11, rfl, by decide, by decide, in11, mt5 (j := 15) rfl rfl, rfl⟩
theorem fs11_27 : FS RX11 27 11 6 := ⟨RX11, TX11, rfl, by decide, by decide, in11, mt5 (j := 5) rfl rfl, rfl⟩
theorem fs11_30 : FS RX11 30 11 7 := ⟨RX11, TX11, rfl, by decide, by decide, in11, mt5 (j := 6) rfl rfl, rfl⟩
theorem fs11_33 : FS RX11 33 11 8 := ⟨RX11, TX11, rfl, by decide, by decide, in11, mt5 (j := 7) rfl rfl, rfl⟩
theorem fs11_36 : FS RX11 36 11 9 := ⟨RX11, TX11, rfl, by decide, by decide, in11, mt5 (j := 8) rfl rfl, rfl⟩
theorem fs11_39 : FS RX11 39 11 10 := ⟨RX11, TX11, rfl, by decide, by decide, in11, mt5 (j := 9) rfl rfl, rfl⟩
theorem fs11_42 : FS RX11 42 11 11 := ⟨RX11, TX11, rfl, by decide, by decide, in11, mt5 (j := 10) rfl rfl, rfl⟩
theorem fs11_45 : FS RX11 45 11 17 := ⟨RX11, TX11, rfl, by decide, by decide, in11, mt5 (j := 16) rfl rfl, rfl⟩
theorem fs11_48 : FS RX11 48 11 18 := ⟨RX11, TX11, rfl, by decide, by decide, in11, mt5 (j := 17) rfl rfl, rfl⟩
theorem fs11_7 : FS RX11 7 11 0 := ⟨RX11, TX11, rfl, by decide, by decide, in11, mt4 (j := 239) rfl rfl, rfl⟩
theorem ps0_1 : PS 0 1 .int := ⟨RX0, TX0, tyX0, rfl, rfl, by decide +kernel, tyX0_ok, nmX0⟩
theorem ps1_0 : PS 1 0 .long := ⟨RX1, TX1, tyX1, rfl, rfl, by decide +kernel, tyX1_ok, nmX1⟩
theorem ps1_1 : PS 1 1 .long := ⟨RX1, TX1, tyX1, rfl, rfl, by decide +kernel, tyX1_ok, nmX1⟩
theorem ps10_11 : PS 10 11 .boolean := ⟨RX10, TX10, tyX10, rfl, rfl, by decide +kernel, tyX10_ok, nmX10⟩
theorem ps10_12 : PS 10 12 .boolean := ⟨RX10, TX10, tyX10, rfl, rfl, by decide +kernel, tyX10_ok, nmX10⟩
theorem ps10_13 : PS 10 13 .int := ⟨RX10, TX10, tyX10, rfl, rfl, by decide +kernel, tyX10_ok, nmX10⟩
theorem ps10_14 : PS 10 14 .int := ⟨RX10, TX10, tyX10, rfl, rfl, by decide +kernel, tyX10_ok, nmX10⟩
theorem ps10_15 : PS 10 15 .int := ⟨RX10, TX10, tyX10, rfl, rfl, by decide +kernel, tyX10_ok, nmX10⟩
theorem ps11_12 : PS 11 12 .int := ⟨RX11, TX11, tyX11, rfl, rfl, by decide +kernel, tyX11_ok, nmX11⟩
theorem ps11_13 : PS 11 13 .int := ⟨RX11, TX11, tyX11, rfl, rfl, by decide +kernel, tyX11_ok, nmX11⟩
theorem ps11_14 : PS 11 14 .int := ⟨RX11, TX11, tyX11, rfl, rfl, by decide +kernel, tyX11_ok, nmX11⟩
theorem ps11_15 : PS 11 15 .int := ⟨RX11, TX11, tyX11, rfl, rfl, by decide +kernel, tyX11_ok, nmX11⟩
theorem ps11_16 : PS 11 16 .int := ⟨RX11, TX11, tyX11, rfl, rfl, by decide +kernel, tyX11_ok, nmX11⟩
theorem ps11_4 : PS 11 4 .long := ⟨RX11, TX11, tyX11, rfl, rfl, by decide +kernel, tyX11_ok, nmX11⟩
theorem ps11_5 : PS 11 5 .long := ⟨RX11, TX11, tyX11, rfl, rfl, by decide +kernel, tyX11_ok, nmX11⟩
theorem ps4_0 : PS 4 0 .int := ⟨RX4, TX4, tyX4, rfl, rfl, by decide +kernel, tyX4_ok, nmX4⟩
theorem ps4_1 : PS 4 1 .int := ⟨RX4, TX4, tyX4, rfl, rfl, by decide +kernel, tyX4_ok, nmX4⟩
theorem ps4_2 : PS 4 2 .int := ⟨RX4, TX4, tyX4, rfl, rfl, by decide +kernel, tyX4_ok, nmX4⟩
theorem ps4_3 : PS 4 3 .int := ⟨RX4, TX4, tyX4, rfl, rfl, by decide +kernel, tyX4_ok, nmX4⟩
theorem ps5_3 : PS 5 3 .int := ⟨RX5, TX5, tyX5, rfl, rfl, by decide +kernel, tyX5_ok, nmX5⟩
theorem ps5_4 : PS 5 4 .int := ⟨RX5, TX5, tyX5, rfl, rfl, by decide +kernel, tyX5_ok, nmX5⟩
theorem ps7_3 : PS 7 3 .int := ⟨RX7, TX7, tyX7, rfl, rfl, by decide +kernel, tyX7_ok, nmX7⟩
theorem ps8_2 : PS 8 2 .int := ⟨RX8, TX8, tyX8, rfl, rfl, by decide +kernel, tyX8_ok, nmX8⟩
theorem ps8_3 : PS 8 3 .int := ⟨RX8, TX8, tyX8, rfl, rfl, by decide +kernel, tyX8_ok, nmX8⟩
theorem ps8_4 : PS 8 4 .int := ⟨RX8, TX8, tyX8, rfl, rfl, by decide +kernel, tyX8_ok, nmX8⟩
theorem ps8_5 : PS 8 5 .int := ⟨RX8, TX8, tyX8, rfl, rfl, by decide +kernel, tyX8_ok, nmX8⟩
theorem ps8_6 : PS 8 6 .int := ⟨RX8, TX8, tyX8, rfl, rfl, by decide +kernel, tyX8_ok, nmX8⟩
theorem cs1_16 : CS RX1 16 m1_commonOf 2 := ⟨mok1_commonOf, mt4 (j := 162) rfl rfl, mt4 (j := 163) rfl rfl, by decide +kernel⟩
theorem cs2_45 : CS RX2 45 m3_draw 4 := ⟨mok3_draw, mt4 (j := 83) rfl rfl, mt3 (j := 54) rfl rfl, by decide +kernel⟩
theorem cs2_54 : CS RX2 54 m3_need 3 := ⟨mok3_need, mt4 (j := 116) rfl rfl, mt3 (j := 82) rfl rfl, by decide +kernel⟩
theorem cs2_60 : CS RX2 60 mJ6_bitCount 1 := ⟨mokJ6_bitCount, mt4 (j := 102) rfl rfl, mt3 (j := 76) rfl rfl, by decide +kernel⟩
theorem cs4_26 : CS RX4 26 mJ6_bitCount 1 := ⟨mokJ6_bitCount, mt3 (j := 75) rfl rfl, mt3 (j := 76) rfl rfl, by decide +kernel⟩
theorem cs5_58 : CS RX5 58 mJ6_bitCount 1 := ⟨mokJ6_bitCount, mt3 (j := 234) rfl rfl, mt3 (j := 76) rfl rfl, by decide +kernel⟩
theorem cs5_83 : CS RX5 83 m5_needBehind 3 := ⟨mok5_needBehind, mt4 (j := 5) rfl rfl, mt4 (j := 6) rfl rfl, by decide +kernel⟩
theorem cs8_130 : CS RX8 130 m8_wordOf 1 := ⟨mok8_wordOf, mt2 (j := 179) rfl rfl, mt2 (j := 180) rfl rfl, by decide +kernel⟩
theorem cs8_40 : CS RX8 40 m8_mayStand 3 := ⟨mok8_mayStand, mt3 (j := 4) rfl rfl, mt3 (j := 5) rfl rfl, by decide +kernel⟩
theorem cs8_73 : CS RX8 73 m8_numbersOf 1 := ⟨mok8_numbersOf, mt3 (j := 12) rfl rfl, mt3 (j := 13) rfl rfl, by decide +kernel⟩
theorem cs8_80 : CS RX8 80 m8_leastOf 2 := ⟨mok8_leastOf, mt3 (j := 15) rfl rfl, mt3 (j := 16) rfl rfl, by decide +kernel⟩
theorem cs8_84 : CS RX8 84 m8_mostOf 3 := ⟨mok8_mostOf, mt3 (j := 18) rfl rfl, mt3 (j := 19) rfl rfl, by decide +kernel⟩
theorem cs9_117 : CS RX9 117 m3_need 3 := ⟨mok3_need, mt3 (j := 81) rfl rfl, mt3 (j := 82) rfl rfl, by decide +kernel⟩
theorem cs9_127 : CS RX9 127 m3_draw 4 := ⟨mok3_draw, mt3 (j := 53) rfl rfl, mt3 (j := 54) rfl rfl, by decide +kernel⟩
theorem cs10_114 : CS RX10 114 m10_isKind 1 := ⟨mok10_isKind, mt2 (j := 102) rfl rfl, mt2 (j := 103) rfl rfl, by decide +kernel⟩
theorem cs10_117 : CS RX10 117 m10_isHeight 1 := ⟨mok10_isHeight, mt2 (j := 105) rfl rfl, mt2 (j := 106) rfl rfl, by decide +kernel⟩
theorem cs10_229 : CS RX10 229 mJ6_bitCount 1 := ⟨mokJ6_bitCount, mt3 (j := 215) rfl rfl, mt3 (j := 76) rfl rfl, by decide +kernel⟩
theorem cs10_266 : CS RX10 266 m10_forgetAll 1 := ⟨mok10_forgetAll, mt4 (j := 65) rfl rfl, mt4 (j := 66) rfl rfl, by decide +kernel⟩
theorem cs10_89 : CS RX10 89 m10_isStorm 1 := ⟨mok10_isStorm, mt2 (j := 76) rfl rfl, mt2 (j := 77) rfl rfl, by decide +kernel⟩
theorem cs10_93 : CS RX10 93 m10_isCell 1 := ⟨mok10_isCell, mt2 (j := 82) rfl rfl, mt2 (j := 83) rfl rfl, by decide +kernel⟩
theorem cs10_96 : CS RX10 96 m10_within 3 := ⟨mok10_within, mt2 (j := 79) rfl rfl, mt2 (j := 80) rfl rfl, by decide +kernel⟩
theorem cs11_101 : CS RX11 101 m11_firstOf 1 := ⟨mok11_firstOf, mt5 (j := 135) rfl rfl, mt5 (j := 136) rfl rfl, by decide +kernel⟩
theorem cs11_105 : CS RX11 105 m11_bits 1 := ⟨mok11_bits, mt5 (j := 138) rfl rfl, mt5 (j := 139) rfl rfl, by decide +kernel⟩
theorem cs11_108 : CS RX11 108 m11_needsAs 3 := ⟨mok11_needsAs, mt5 (j := 141) rfl rfl, mt5 (j := 142) rfl rfl, by decide +kernel⟩
theorem cs11_112 : CS RX11 112 m11_struckOf 3 := ⟨mok11_struckOf, mt5 (j := 120) rfl rfl, mt5 (j := 121) rfl rfl, by decide +kernel⟩
theorem cs11_115 : CS RX11 115 m11_goParts 1 := ⟨mok11_goParts, mt5 (j := 132) rfl rfl, mt5 (j := 133) rfl rfl, by decide +kernel⟩
theorem cs11_118 : CS RX11 118 m11_goSummer 3 := ⟨mok11_goSummer, mt5 (j := 117) rfl rfl, mt5 (j := 118) rfl rfl, by decide +kernel⟩
theorem cs11_122 : CS RX11 122 m11_goTold 1 := ⟨mok11_goTold, mt5 (j := 114) rfl rfl, mt5 (j := 115) rfl rfl, by decide +kernel⟩
theorem cs11_130 : CS RX11 130 m11_goSummers 2 := ⟨mok11_goSummers, mt5 (j := 111) rfl rfl, mt5 (j := 112) rfl rfl, by decide +kernel⟩
theorem cs11_182 : CS RX11 182 m11_off 2 := ⟨mok11_off, mt6 (j := 58) rfl rfl, mt6 (j := 59) rfl rfl, by decide +kernel⟩
theorem cs11_185 : CS RX11 185 m11_getsBy 3 := ⟨mok11_getsBy, mt6 (j := 55) rfl rfl, mt6 (j := 56) rfl rfl, by decide +kernel⟩
theorem cs11_188 : CS RX11 188 m11_isBest 3 := ⟨mok11_isBest, mt6 (j := 52) rfl rfl, mt6 (j := 53) rfl rfl, by decide +kernel⟩
theorem cs11_241 : CS RX11 241 m11_isSmall 1 := ⟨mok11_isSmall, mt6 (j := 98) rfl rfl, mt6 (j := 99) rfl rfl, by decide +kernel⟩
theorem cs11_244 : CS RX11 244 m11_isFigure 1 := ⟨mok11_isFigure, mt6 (j := 103) rfl rfl, mt6 (j := 104) rfl rfl, by decide +kernel⟩
theorem cs11_51 : CS RX11 51 m11_begin 1 := ⟨mok11_begin, mt4 (j := 236) rfl rfl, mt4 (j := 237) rfl rfl, by decide +kernel⟩
theorem cs11_59 : CS RX11 59 m11_in 3 := ⟨mok11_in, mt5 (j := 71) rfl rfl, mt5 (j := 72) rfl rfl, by decide +kernel⟩
theorem cs11_67 : CS RX11 67 m11_isCell 1 := ⟨mok11_isCell, mt5 (j := 74) rfl rfl, mt5 (j := 75) rfl rfl, by decide +kernel⟩
theorem cs11_77 : CS RX11 77 m11_isKind 1 := ⟨mok11_isKind, mt5 (j := 87) rfl rfl, mt5 (j := 88) rfl rfl, by decide +kernel⟩
theorem cs11_85 : CS RX11 85 m11_layThing 4 := ⟨mok11_layThing, mt5 (j := 95) rfl rfl, mt5 (j := 96) rfl rfl, by decide +kernel⟩
theorem cs11_89 : CS RX11 89 m11_drawsAs 4 := ⟨mok11_drawsAs, mt5 (j := 129) rfl rfl, mt5 (j := 130) rfl rfl, by decide +kernel⟩
theorem cs11_93 : CS RX11 93 m11_has 2 := ⟨mok11_has, mt5 (j := 123) rfl rfl, mt5 (j := 124) rfl rfl, by decide +kernel⟩
theorem cs11_97 : CS RX11 97 m11_drawsFrom 3 := ⟨mok11_drawsFrom, mt5 (j := 126) rfl rfl, mt5 (j := 127) rfl rfl, by decide +kernel⟩
theorem csJ0_1059 : CS RJ0 1059 mJ3_checkIndex 3 := ⟨mokJ3_checkIndex, mt2 (j := 218) rfl rfl, mt2 (j := 219) rfl rfl, by decide +kernel⟩
theorem csJ0_495 : CS RJ0 495 mJ1_charAt 2 := ⟨mokJ1_charAt, mt2 (j := 210) rfl rfl, mt2 (j := 211) rfl rfl, by decide +kernel⟩
theorem csJ1_9 : CS RJ1 9 mJ0_checkIndex 2 := ⟨mokJ0_checkIndex, mt2 (j := 213) rfl rfl, mt2 (j := 214) rfl rfl, by decide +kernel⟩
theorem cv0_24 : CV RX0 24 m0_gain 2 0 := ⟨mok0_gain, mt4 (j := 134) rfl rfl, mt4 (j := 136) rfl rfl, at_of (i := 27) (by decide +kernel) rfl, by decide +kernel, by decide, by decide +kernel⟩
theorem cv0_33 : CV RX0 33 m6_put 2 6 := ⟨mok6_put, mt4 (j := 140) rfl rfl, mt2 (j := 139) rfl rfl, mt2 (j := 140) rfl rfl, by decide +kernel, by decide, by decide +kernel⟩
theorem cv0_37 : CV RX0 37 m0_rests 1 0 := ⟨mok0_rests, mt4 (j := 145) rfl rfl, mt4 (j := 147) rfl rfl, at_of (i := 28) (by decide +kernel) rfl, by decide +kernel, by decide, by decide +kernel⟩
theorem cv0_41 : CV RX0 41 m6_at 1 6 := ⟨mok6_at, mt4 (j := 149) rfl rfl, mt2 (j := 171) rfl rfl, mt2 (j := 172) rfl rfl, by decide +kernel, by decide, by decide +kernel⟩
theorem cv2_20 : CV RX2 20 m7_size 0 7 := ⟨mok7_size, mt4 (j := 77) rfl rfl, mt2 (j := 68) rfl rfl, mt2 (j := 69) rfl rfl, by decide +kernel, by decide, by decide +kernel⟩
theorem cv2_26 : CV RX2 26 m7_at 2 7 := ⟨mok7_at, mt4 (j := 78) rfl rfl, mt2 (j := 90) rfl rfl, mt2 (j := 91) rfl rfl, by decide +kernel, by decide, by decide +kernel⟩
theorem cv2_30 : CV RX2 30 m2_drawAll 3 2 := ⟨mok2_drawAll, mt4 (j := 79) rfl rfl, mt4 (j := 81) rfl rfl, at_of (i := 23) (by decide +kernel) rfl, by decide +kernel, by decide, by decide +kernel⟩
theorem cv2_34 : CV RX2 34 m2_answering 1 2 := ⟨mok2_answering, mt4 (j := 85) rfl rfl, mt4 (j := 87) rfl rfl, at_of (i := 24) (by decide +kernel) rfl, by decide +kernel, by decide, by decide +kernel⟩
theorem cv2_38 : CV RX2 38 m2_needAll 2 2 := ⟨mok2_needAll, mt4 (j := 112) rfl rfl, mt4 (j := 114) rfl rfl, at_of (i := 26) (by decide +kernel) rfl, by decide +kernel, by decide, by decide +kernel⟩
theorem cv2_42 : CV RX2 42 m2_mostAlike 1 2 := ⟨mok2_mostAlike, mt4 (j := 98) rfl rfl, mt4 (j := 100) rfl rfl, at_of (i := 25) (by decide +kernel) rfl, by decide +kernel, by decide, by decide +kernel⟩
theorem cv2_51 : CV RX2 51 m6_put 2 6 := ⟨mok6_put, mt4 (j := 84) rfl rfl, mt2 (j := 139) rfl rfl, mt2 (j := 140) rfl rfl, by decide +kernel, by decide, by decide +kernel⟩
theorem cv2_58 : CV RX2 58 m6_at 1 6 := ⟨mok6_at, mt4 (j := 89) rfl rfl, mt2 (j := 171) rfl rfl, mt2 (j := 172) rfl rfl, by decide +kernel, by decide, by decide +kernel⟩
theorem cv4_22 : CV RX4 22 m4_set 4 4 := ⟨mok4_set, mt3 (j := 98) rfl rfl, mt1 (j := 106) rfl rfl, mt1 (j := 107) rfl rfl, by decide +kernel, by decide, by decide +kernel⟩
theorem cv5_104 : CV RX5 104 m9_needOf 3 9 := ⟨mok9_needOf, mt4 (j := 8) rfl rfl, mt3 (j := 156) rfl rfl, mt3 (j := 157) rfl rfl, by decide +kernel, by decide, by decide +kernel⟩
theorem cv5_33 : CV RX5 33 m6_at 1 6 := ⟨mok6_at, mt4 (j := 4) rfl rfl, mt2 (j := 171) rfl rfl, mt2 (j := 172) rfl rfl, by decide +kernel, by decide, by decide +kernel⟩
theorem cv5_52 : CV RX5 52 m7_size 0 7 := ⟨mok7_size, mt3 (j := 233) rfl rfl, mt2 (j := 68) rfl rfl, mt2 (j := 69) rfl rfl, by decide +kernel, by decide, by decide +kernel⟩
theorem cv5_63 : CV RX5 63 m5_spend 2 5 := ⟨mok5_spend, mt3 (j := 235) rfl rfl, mt3 (j := 237) rfl rfl, at_of (i := 18) (by decide +kernel) rfl, by decide +kernel, by decide, by decide +kernel⟩
theorem cv5_67 : CV RX5 67 m5_mostReached 1 5 := ⟨mok5_mostReached, mt4 (j := 9) rfl rfl, mt4 (j := 11) rfl rfl, at_of (i := 19) (by decide +kernel) rfl, by decide +kernel, by decide, by decide +kernel⟩
theorem cv5_70 : CV RX5 70 m5_reach 2 5 := ⟨mok5_reach, mt4 (j := 14) rfl rfl, mt4 (j := 16) rfl rfl, at_of (i := 20) (by decide +kernel) rfl, by decide +kernel, by decide, by decide +kernel⟩
theorem cv5_73 : CV RX5 73 m5_choose 2 5 := ⟨mok5_choose, mt4 (j := 20) rfl rfl, mt4 (j := 22) rfl rfl, at_of (i := 21) (by decide +kernel) rfl, by decide +kernel, by decide, by decide +kernel⟩
theorem cv5_76 : CV RX5 76 m6_fill 1 6 := ⟨mok6_fill, mt3 (j := 239) rfl rfl, mt4 (j := 0) rfl rfl, mt4 (j := 1) rfl rfl, by decide +kernel, by decide, by decide +kernel⟩
theorem cv5_79 : CV RX5 79 m6_put 2 6 := ⟨mok6_put, mt4 (j := 3) rfl rfl, mt2 (j := 139) rfl rfl, mt2 (j := 140) rfl rfl, by decide +kernel, by decide, by decide +kernel⟩
theorem cv5_97 : CV RX5 97 m5_firstFitting 4 5 := ⟨mok5_firstFitting, mt4 (j := 24) rfl rfl, mt4 (j := 26) rfl rfl, at_of (i := 22) (by decide +kernel) rfl, by decide +kernel, by decide, by decide +kernel⟩
theorem cv7_29 : CV RX7 29 m7_isFull 0 7 := ⟨mok7_isFull, mt1 (j := 97) rfl rfl, mt1 (j := 98) rfl rfl, mt1 (j := 99) rfl rfl, by decide +kernel, by decide, by decide +kernel⟩
theorem cv7_33 : CV RX7 33 m7_put 3 7 := ⟨mok7_put, mt1 (j := 101) rfl rfl, mt1 (j := 102) rfl rfl, mt1 (j := 103) rfl rfl, by decide +kernel, by decide, by decide +kernel⟩
theorem cv7_37 : CV RX7 37 m7_at 2 7 := ⟨mok7_at, mt3 (j := 93) rfl rfl, mt2 (j := 90) rfl rfl, mt2 (j := 91) rfl rfl, by decide +kernel, by decide, by decide +kernel⟩
theorem cv7_40 : CV RX7 40 m7_dropLast 0 7 := ⟨mok7_dropLast, mt3 (j := 113) rfl rfl, mt3 (j := 114) rfl rfl, mt3 (j := 115) rfl rfl, by decide +kernel, by decide, by decide +kernel⟩
theorem cv8_103 : CV RX8 103 m9_addThing 3 9 := ⟨mok9_addThing, mt3 (j := 31) rfl rfl, mt2 (j := 114) rfl rfl, mt2 (j := 115) rfl rfl, by decide +kernel, by decide, by decide +kernel⟩
theorem cv8_107 : CV RX8 107 m9_addPart 1 9 := ⟨mok9_addPart, mt3 (j := 32) rfl rfl, mt2 (j := 123) rfl rfl, mt2 (j := 124) rfl rfl, by decide +kernel, by decide, by decide +kernel⟩
theorem cv8_110 : CV RX8 110 m9_turn 1 9 := ⟨mok9_turn, mt3 (j := 33) rfl rfl, mt3 (j := 34) rfl rfl, mt3 (j := 35) rfl rfl, by decide +kernel, by decide, by decide +kernel⟩
theorem cv8_117 : CV RX8 117 m9_passTold 3 9 := ⟨mok9_passTold, mt3 (j := 37) rfl rfl, mt3 (j := 38) rfl rfl, mt3 (j := 39) rfl rfl, by decide +kernel, by decide, by decide +kernel⟩
theorem cv8_121 : CV RX8 121 m8_runEnd 3 8 := ⟨mok8_runEnd, mt2 (j := 166) rfl rfl, mt2 (j := 168) rfl rfl, at_of (i := 3) (by decide +kernel) rfl, by decide +kernel, by decide, by decide +kernel⟩
theorem cv8_124 : CV RX8 124 m8_wordToken 0 8 := ⟨mok8_wordToken, mt2 (j := 175) rfl rfl, mt2 (j := 177) rfl rfl, at_of (i := 4) (by decide +kernel) rfl, by decide +kernel, by decide, by decide +kernel⟩
theorem cv8_127 : CV RX8 127 m8_numberToken 0 8 := ⟨mok8_numberToken, mt3 (j := 0) rfl rfl, mt3 (j := 2) rfl rfl, at_of (i := 6) (by decide +kernel) rfl, by decide +kernel, by decide, by decide +kernel⟩
theorem cv8_134 : CV RX8 134 m8_spells 1 8 := ⟨mok8_spells, mt2 (j := 188) rfl rfl, mt2 (j := 190) rfl rfl, at_of (i := 5) (by decide +kernel) rfl, by decide +kernel, by decide, by decide +kernel⟩
theorem cv8_150 : CT RX8 150 mJ0_length 0 := ⟨mokJ0_length, mt2 (j := 192) rfl rfl, mt2 (j := 193) rfl rfl, mt2 (j := 194) rfl rfl, by decide +kernel, rfl⟩
theorem cv8_154 : CT RX8 154 mJ0_charAt 1 := ⟨mokJ0_charAt, mt2 (j := 202) rfl rfl, mt2 (j := 203) rfl rfl, mt2 (j := 204) rfl rfl, by decide +kernel, rfl⟩
theorem cv8_27 : CV RX8 27 m6_put 2 6 := ⟨mok6_put, mt2 (j := 138) rfl rfl, mt2 (j := 139) rfl rfl, mt2 (j := 140) rfl rfl, by decide +kernel, by decide, by decide +kernel⟩
theorem cv8_34 : CV RX8 34 m8_nextToken 0 8 := ⟨mok8_nextToken, mt2 (j := 162) rfl rfl, mt2 (j := 164) rfl rfl, at_of (i := 2) (by decide +kernel) rfl, by decide +kernel, by decide, by decide +kernel⟩
theorem cv8_44 : CV RX8 44 m8_readNumbers 2 8 := ⟨mok8_readNumbers, mt3 (j := 8) rfl rfl, mt3 (j := 10) rfl rfl, at_of (i := 7) (by decide +kernel) rfl, by decide +kernel, by decide, by decide +kernel⟩
theorem cv8_48 : CV RX8 48 m8_readStop 0 8 := ⟨mok8_readStop, mt3 (j := 22) rfl rfl, mt3 (j := 24) rfl rfl, at_of (i := 8) (by decide +kernel) rfl, by decide +kernel, by decide, by decide +kernel⟩
theorem cv8_55 : CV RX8 55 m8_tell 2 8 := ⟨mok8_tell, mt3 (j := 26) rfl rfl, mt3 (j := 28) rfl rfl, at_of (i := 9) (by decide +kernel) rfl, by decide +kernel, by decide, by decide +kernel⟩
theorem cv8_65 : CV RX8 65 m7_isFull 0 7 := ⟨mok7_isFull, mt3 (j := 7) rfl rfl, mt1 (j := 98) rfl rfl, mt1 (j := 99) rfl rfl, by decide +kernel, by decide, by decide +kernel⟩
theorem cv8_92 : CV RX8 92 m7_size 0 7 := ⟨mok7_size, mt3 (j := 21) rfl rfl, mt2 (j := 68) rfl rfl, mt2 (j := 69) rfl rfl, by decide +kernel, by decide, by decide +kernel⟩
theorem cv8_96 : CV RX8 96 m6_at 1 6 := ⟨mok6_at, mt2 (j := 170) rfl rfl, mt2 (j := 171) rfl rfl, mt2 (j := 172) rfl rfl, by decide +kernel, by decide, by decide +kernel⟩
theorem cv8_99 : CV RX8 99 m9_tellStorm 3 9 := ⟨mok9_tellStorm, mt3 (j := 30) rfl rfl, mt2 (j := 94) rfl rfl, mt2 (j := 95) rfl rfl, by decide +kernel, by decide, by decide +kernel⟩
theorem cv9_101 : CV RX9 101 m9_pass 3 9 := ⟨mok9_pass, mt3 (j := 42) rfl rfl, mt3 (j := 43) rfl rfl, mt3 (j := 44) rfl rfl, by decide +kernel, by decide, by decide +kernel⟩
theorem cv9_105 : CV RX9 105 m9_struckIf 4 9 := ⟨mok9_struckIf, mt3 (j := 46) rfl rfl, mt3 (j := 48) rfl rfl, at_of (i := 10) (by decide +kernel) rfl, by decide +kernel, by decide, by decide +kernel⟩
theorem cv9_114 : CV RX9 114 m9_bringParts 1 9 := ⟨mok9_bringParts, mt3 (j := 63) rfl rfl, mt3 (j := 65) rfl rfl, at_of (i := 11) (by decide +kernel) rfl, by decide +kernel, by decide, by decide +kernel⟩
theorem cv9_131 : CV RX9 131 m4_isUp 1 4 := ⟨mok4_isUp, mt3 (j := 56) rfl rfl, mt3 (j := 57) rfl rfl, mt3 (j := 58) rfl rfl, by decide +kernel, by decide, by decide +kernel⟩
theorem cv9_135 : CV RX9 135 m9_drawOf 2 9 := ⟨mok9_drawOf, mt3 (j := 205) rfl rfl, mt3 (j := 168) rfl rfl, mt3 (j := 169) rfl rfl, by decide +kernel, by decide, by decide +kernel⟩
theorem cv9_138 : CV RX9 138 m7_digestOn 1 7 := ⟨mok7_digestOn, mt4 (j := 224) rfl rfl, mt4 (j := 225) rfl rfl, mt4 (j := 226) rfl rfl, by decide +kernel, by decide, by decide +kernel⟩
theorem cv9_144 : CV RX9 144 m4_isThere 1 4 := ⟨mok4_isThere, mt3 (j := 67) rfl rfl, mt3 (j := 68) rfl rfl, mt3 (j := 69) rfl rfl, by decide +kernel, by decide, by decide +kernel⟩
theorem cv9_147 : CV RX9 147 m4_partsThere 0 4 := ⟨mok4_partsThere, mt3 (j := 71) rfl rfl, mt3 (j := 72) rfl rfl, mt3 (j := 73) rfl rfl, by decide +kernel, by decide, by decide +kernel⟩
theorem cv9_48 : CV RX9 48 m7_empty 0 7 := ⟨mok7_empty, mt1 (j := 89) rfl rfl, mt1 (j := 90) rfl rfl, mt1 (j := 91) rfl rfl, by decide +kernel, by decide, by decide +kernel⟩
theorem cv9_51 : CV RX9 51 m7_add 5 7 := ⟨mok7_add, mt1 (j := 93) rfl rfl, mt1 (j := 94) rfl rfl, mt1 (j := 95) rfl rfl, by decide +kernel, by decide, by decide +kernel⟩
theorem cv9_55 : CV RX9 55 m4_set 4 4 := ⟨mok4_set, mt1 (j := 105) rfl rfl, mt1 (j := 106) rfl rfl, mt1 (j := 107) rfl rfl, by decide +kernel, by decide, by decide +kernel⟩
theorem cv9_59 : CV RX9 59 m7_takeFrom 1 7 := ⟨mok7_takeFrom, mt3 (j := 88) rfl rfl, mt3 (j := 89) rfl rfl, mt3 (j := 90) rfl rfl, by decide +kernel, by decide, by decide +kernel⟩
theorem cv9_63 : CV RX9 63 m4_takeFrom 1 4 := ⟨mok4_takeFrom, mt3 (j := 94) rfl rfl, mt3 (j := 95) rfl rfl, mt3 (j := 96) rfl rfl, by decide +kernel, by decide, by decide +kernel⟩
theorem cv9_66 : CV RX9 66 m7_put 3 7 := ⟨mok7_put, mt2 (j := 97) rfl rfl, mt1 (j := 102) rfl rfl, mt1 (j := 103) rfl rfl, by decide +kernel, by decide, by decide +kernel⟩
theorem cv9_70 : CV RX9 70 m7_size 0 7 := ⟨mok7_size, mt2 (j := 117) rfl rfl, mt2 (j := 68) rfl rfl, mt2 (j := 69) rfl rfl, by decide +kernel, by decide, by decide +kernel⟩
theorem cv9_78 : CV RX9 78 m7_isFull 0 7 := ⟨mok7_isFull, mt3 (j := 108) rfl rfl, mt1 (j := 98) rfl rfl, mt1 (j := 99) rfl rfl, by decide +kernel, by decide, by decide +kernel⟩
theorem cv9_82 : CV RX9 82 m7_dropFirst 0 7 := ⟨mok7_dropFirst, mt3 (j := 109) rfl rfl, mt3 (j := 110) rfl rfl, mt3 (j := 111) rfl rfl, by decide +kernel, by decide, by decide +kernel⟩
theorem cv9_94 : CV RX9 94 m7_at 2 7 := ⟨mok7_at, mt3 (j := 41) rfl rfl, mt2 (j := 90) rfl rfl, mt2 (j := 91) rfl rfl, by decide +kernel, by decide, by decide +kernel⟩
theorem cv9_98 : CV RX9 98 m7_dropLast 0 7 := ⟨mok7_dropLast, mt3 (j := 141) rfl rfl, mt3 (j := 114) rfl rfl, mt3 (j := 115) rfl rfl, by decide +kernel, by decide, by decide +kernel⟩
theorem cv10_100 : CV RX10 100 m10_refuseBad 0 10 := ⟨mok10_refuseBad, mt2 (j := 85) rfl rfl, mt2 (j := 87) rfl rfl, at_of (i := 0) (by decide +kernel) rfl, by decide +kernel, by decide, by decide +kernel⟩
theorem cv10_106 : CV RX10 106 m7_at 2 7 := ⟨mok7_at, mt2 (j := 89) rfl rfl, mt2 (j := 90) rfl rfl, mt2 (j := 91) rfl rfl, by decide +kernel, by decide, by decide +kernel⟩
theorem cv10_110 : CV RX10 110 m9_tellStorm 3 9 := ⟨mok9_tellStorm, mt2 (j := 93) rfl rfl, mt2 (j := 94) rfl rfl, mt2 (j := 95) rfl rfl, by decide +kernel, by decide, by decide +kernel⟩
theorem cv10_120 : CV RX10 120 m7_isFull 0 7 := ⟨mok7_isFull, mt2 (j := 108) rfl rfl, mt1 (j := 98) rfl rfl, mt1 (j := 99) rfl rfl, by decide +kernel, by decide, by decide +kernel⟩
theorem cv10_124 : CV RX10 124 m10_refuseFull 0 10 := ⟨mok10_refuseFull, mt2 (j := 109) rfl rfl, mt2 (j := 111) rfl rfl, at_of (i := 1) (by decide +kernel) rfl, by decide +kernel, by decide, by decide +kernel⟩
theorem cv10_127 : CV RX10 127 m9_addThing 3 9 := ⟨mok9_addThing, mt2 (j := 113) rfl rfl, mt2 (j := 114) rfl rfl, mt2 (j := 115) rfl rfl, by decide +kernel, by decide, by decide +kernel⟩
theorem cv10_134 : CV RX10 134 m9_addPart 1 9 := ⟨mok9_addPart, mt2 (j := 122) rfl rfl, mt2 (j := 123) rfl rfl, mt2 (j := 124) rfl rfl, by decide +kernel, by decide, by decide +kernel⟩
theorem cv10_138 : CV RX10 138 m8_isFull 0 8 := ⟨mok8_isFull, mt2 (j := 130) rfl rfl, mt2 (j := 131) rfl rfl, mt2 (j := 132) rfl rfl, by decide +kernel, by decide, by decide +kernel⟩
theorem cv10_139 : CV RX10 139 m8_add 1 8 := ⟨mok8_add, mt2 (j := 134) rfl rfl, mt2 (j := 135) rfl rfl, mt2 (j := 136) rfl rfl, by decide +kernel, by decide, by decide +kernel⟩
theorem cv10_142 : CV RX10 142 m8_length 0 8 := ⟨mok8_length, mt2 (j := 142) rfl rfl, mt2 (j := 143) rfl rfl, mt2 (j := 144) rfl rfl, by decide +kernel, by decide, by decide +kernel⟩
theorem cv10_145 : CV RX10 145 m8_empty 0 8 := ⟨mok8_empty, mt2 (j := 150) rfl rfl, mt2 (j := 151) rfl rfl, mt2 (j := 152) rfl rfl, by decide +kernel, by decide, by decide +kernel⟩
theorem cv10_148 : CV RX10 148 m8_tellTo 1 8 := ⟨mok8_tellTo, mt2 (j := 158) rfl rfl, mt2 (j := 159) rfl rfl, mt2 (j := 160) rfl rfl, by decide +kernel, by decide, by decide +kernel⟩
theorem cv10_152 : CV RX10 152 m9_takeFrom 1 9 := ⟨mok9_takeFrom, mt3 (j := 84) rfl rfl, mt3 (j := 85) rfl rfl, mt3 (j := 86) rfl rfl, by decide +kernel, by decide, by decide +kernel⟩
theorem cv10_156 : CV RX10 156 m9_remember 0 9 := ⟨mok9_remember, mt3 (j := 104) rfl rfl, mt3 (j := 105) rfl rfl, mt3 (j := 106) rfl rfl, by decide +kernel, by decide, by decide +kernel⟩
theorem cv10_162 : CV RX10 162 m9_passTold 3 9 := ⟨mok9_passTold, mt3 (j := 117) rfl rfl, mt3 (j := 38) rfl rfl, mt3 (j := 39) rfl rfl, by decide +kernel, by decide, by decide +kernel⟩
theorem cv10_166 : CV RX10 166 m4_partsThere 0 4 := ⟨mok4_partsThere, mt3 (j := 118) rfl rfl, mt3 (j := 72) rfl rfl, mt3 (j := 73) rfl rfl, by decide +kernel, by decide, by decide +kernel⟩
theorem cv10_169 : CV RX10 169 m10_isThing 1 10 := ⟨mok10_isThing, mt3 (j := 123) rfl rfl, mt3 (j := 125) rfl rfl, at_of (i := 12) (by decide +kernel) rfl, by decide +kernel, by decide, by decide +kernel⟩
theorem cv10_172 : CV RX10 172 m9_turn 1 9 := ⟨mok9_turn, mt3 (j := 127) rfl rfl, mt3 (j := 34) rfl rfl, mt3 (j := 35) rfl rfl, by decide +kernel, by decide, by decide +kernel⟩
theorem cv10_175 : CV RX10 175 m4_isUp 1 4 := ⟨mok4_isUp, mt3 (j := 128) rfl rfl, mt3 (j := 57) rfl rfl, mt3 (j := 58) rfl rfl, by decide +kernel, by decide, by decide +kernel⟩
theorem cv10_181 : CV RX10 181 m10_refuseNo 0 10 := ⟨mok10_refuseNo, mt3 (j := 133) rfl rfl, mt3 (j := 135) rfl rfl, at_of (i := 13) (by decide +kernel) rfl, by decide +kernel, by decide, by decide +kernel⟩
theorem cv10_184 : CV RX10 184 m9_goBack 0 9 := ⟨mok9_goBack, mt3 (j := 137) rfl rfl, mt3 (j := 138) rfl rfl, mt3 (j := 139) rfl rfl, by decide +kernel, by decide, by decide +kernel⟩
theorem cv10_191 : CV RX10 191 m10_isPart 1 10 := ⟨mok10_isPart, mt3 (j := 150) rfl rfl, mt3 (j := 152) rfl rfl, at_of (i := 14) (by decide +kernel) rfl, by decide +kernel, by decide, by decide +kernel⟩
theorem cv10_194 : CV RX10 194 m4_isThere 1 4 := ⟨mok4_isThere, mt3 (j := 154) rfl rfl, mt3 (j := 68) rfl rfl, mt3 (j := 69) rfl rfl, by decide +kernel, by decide, by decide +kernel⟩
theorem cv10_197 : CV RX10 197 m9_needOf 3 9 := ⟨mok9_needOf, mt3 (j := 155) rfl rfl, mt3 (j := 156) rfl rfl, mt3 (j := 157) rfl rfl, by decide +kernel, by decide, by decide +kernel⟩
theorem cv10_200 : CV RX10 200 m9_drawOf 2 9 := ⟨mok9_drawOf, mt3 (j := 167) rfl rfl, mt3 (j := 168) rfl rfl, mt3 (j := 169) rfl rfl, by decide +kernel, by decide, by decide +kernel⟩
theorem cv10_203 : CV RX10 203 m9_struckNow 1 9 := ⟨mok9_struckNow, mt3 (j := 175) rfl rfl, mt3 (j := 176) rfl rfl, mt3 (j := 177) rfl rfl, by decide +kernel, by decide, by decide +kernel⟩
theorem cv10_206 : CV RX10 206 m4_takeFrom 1 4 := ⟨mok4_takeFrom, mt3 (j := 183) rfl rfl, mt3 (j := 95) rfl rfl, mt3 (j := 96) rfl rfl, by decide +kernel, by decide, by decide +kernel⟩
theorem cv10_213 : CV RX10 213 m10_summersUntil 1 10 := ⟨mok10_summersUntil, mt3 (j := 189) rfl rfl, mt3 (j := 191) rfl rfl, at_of (i := 15) (by decide +kernel) rfl, by decide +kernel, by decide, by decide +kernel⟩
theorem cv10_216 : CV RX10 216 m9_mayBeHim 1 9 := ⟨mok9_mayBeHim, mt3 (j := 201) rfl rfl, mt3 (j := 202) rfl rfl, mt3 (j := 203) rfl rfl, by decide +kernel, by decide, by decide +kernel⟩
theorem cv10_219 : CV RX10 219 m9_stronger 1 9 := ⟨mok9_stronger, mt3 (j := 206) rfl rfl, mt3 (j := 207) rfl rfl, mt3 (j := 208) rfl rfl, by decide +kernel, by decide, by decide +kernel⟩
theorem cv10_225 : CV RX10 225 m6_put 2 6 := ⟨mok6_put, mt3 (j := 214) rfl rfl, mt2 (j := 139) rfl rfl, mt2 (j := 140) rfl rfl, by decide +kernel, by decide, by decide +kernel⟩
theorem cv10_234 : CV RX10 234 m10_isSparedBy 1 10 := ⟨mok10_isSparedBy, mt3 (j := 216) rfl rfl, mt3 (j := 218) rfl rfl, at_of (i := 16) (by decide +kernel) rfl, by decide +kernel, by decide, by decide +kernel⟩
theorem cv10_237 : CV RX10 237 m10_refuseBadTen 0 10 := ⟨mok10_refuseBadTen, mt3 (j := 225) rfl rfl, mt3 (j := 227) rfl rfl, at_of (i := 17) (by decide +kernel) rfl, by decide +kernel, by decide, by decide +kernel⟩
theorem cv10_240 : CV RX10 240 m5_search 2 5 := ⟨mok5_search, mt3 (j := 229) rfl rfl, mt3 (j := 230) rfl rfl, mt3 (j := 231) rfl rfl, by decide +kernel, by decide, by decide +kernel⟩
theorem cv10_244 : CV RX10 244 m5_most 0 5 := ⟨mok5_most, mt4 (j := 28) rfl rfl, mt4 (j := 29) rfl rfl, mt4 (j := 30) rfl rfl, by decide +kernel, by decide, by decide +kernel⟩
theorem cv10_247 : CV RX10 247 m5_length 0 5 := ⟨mok5_length, mt4 (j := 32) rfl rfl, mt4 (j := 33) rfl rfl, mt4 (j := 34) rfl rfl, by decide +kernel, by decide, by decide +kernel⟩
theorem cv10_248 : CV RX10 248 m5_at 1 5 := ⟨mok5_at, mt4 (j := 36) rfl rfl, mt4 (j := 37) rfl rfl, mt4 (j := 38) rfl rfl, by decide +kernel, by decide, by decide +kernel⟩
theorem cv10_253 : CV RX10 253 m7_add 5 7 := ⟨mok7_add, mt4 (j := 44) rfl rfl, mt1 (j := 94) rfl rfl, mt1 (j := 95) rfl rfl, by decide +kernel, by decide, by decide +kernel⟩
theorem cv10_256 : CV RX10 256 m9_fitsSeen 2 9 := ⟨mok9_fitsSeen, mt4 (j := 49) rfl rfl, mt4 (j := 50) rfl rfl, mt4 (j := 51) rfl rfl, by decide +kernel, by decide, by decide +kernel⟩
theorem cv10_270 : CV RX10 270 m2_thingKinds 2 2 := ⟨mok2_thingKinds, mt4 (j := 73) rfl rfl, mt4 (j := 74) rfl rfl, mt4 (j := 75) rfl rfl, by decide +kernel, by decide, by decide +kernel⟩
theorem cv10_274 : CV RX10 274 m2_bestLook 2 2 := ⟨mok2_bestLook, mt4 (j := 94) rfl rfl, mt4 (j := 95) rfl rfl, mt4 (j := 96) rfl rfl, by decide +kernel, by decide, by decide +kernel⟩
theorem cv10_277 : CV RX10 277 m2_partKinds 2 2 := ⟨mok2_partKinds, mt4 (j := 108) rfl rfl, mt4 (j := 109) rfl rfl, mt4 (j := 110) rfl rfl, by decide +kernel, by decide, by decide +kernel⟩
theorem cv10_280 : CV RX10 280 m2_bestAsk 1 2 := ⟨mok2_bestAsk, mt4 (j := 121) rfl rfl, mt4 (j := 122) rfl rfl, mt4 (j := 123) rfl rfl, by decide +kernel, by decide, by decide +kernel⟩
theorem cv10_288 : CV RX10 288 m0_settle 1 0 := ⟨mok0_settle, mt4 (j := 130) rfl rfl, mt4 (j := 131) rfl rfl, mt4 (j := 132) rfl rfl, by decide +kernel, by decide, by decide +kernel⟩
theorem cv10_291 : CV RX10 291 m0_resting 0 0 := ⟨mok0_resting, mt4 (j := 141) rfl rfl, mt4 (j := 142) rfl rfl, mt4 (j := 143) rfl rfl, by decide +kernel, by decide, by decide +kernel⟩
theorem cv10_294 : CV RX10 294 m0_restingAt 1 0 := ⟨mok0_restingAt, mt4 (j := 150) rfl rfl, mt4 (j := 151) rfl rfl, mt4 (j := 152) rfl rfl, by decide +kernel, by decide, by decide +kernel⟩
theorem cv10_297 : CV RX10 297 m1_set 2 1 := ⟨mok1_set, mt4 (j := 158) rfl rfl, mt4 (j := 159) rfl rfl, mt4 (j := 160) rfl rfl, by decide +kernel, by decide, by decide +kernel⟩
theorem cv10_316 : CV RX10 316 m9_pass 3 9 := ⟨mok9_pass, mt4 (j := 177) rfl rfl, mt3 (j := 43) rfl rfl, mt3 (j := 44) rfl rfl, by decide +kernel, by decide, by decide +kernel⟩
theorem cv10_319 : CV RX10 319 m1_above 0 1 := ⟨mok1_above, mt4 (j := 182) rfl rfl, mt4 (j := 183) rfl rfl, mt4 (j := 184) rfl rfl, by decide +kernel, by decide, by decide +kernel⟩
theorem cv10_323 : CV RX10 323 m1_below 0 1 := ⟨mok1_below, mt4 (j := 186) rfl rfl, mt4 (j := 187) rfl rfl, mt4 (j := 188) rfl rfl, by decide +kernel, by decide, by decide +kernel⟩
theorem cv10_326 : CV RX10 326 m10_imageAt 1 10 := ⟨mok10_imageAt, mt4 (j := 194) rfl rfl, mt4 (j := 196) rfl rfl, at_of (i := 29) (by decide +kernel) rfl, by decide +kernel, by decide, by decide +kernel⟩
theorem cv10_346 : CV RX10 346 m10_countOf 1 10 := ⟨mok10_countOf, mt4 (j := 210) rfl rfl, mt4 (j := 212) rfl rfl, at_of (i := 30) (by decide +kernel) rfl, by decide +kernel, by decide, by decide +kernel⟩
theorem cv10_353 : CV RX10 353 m9_digestOn 1 9 := ⟨mok9_digestOn, mt4 (j := 220) rfl rfl, mt4 (j := 221) rfl rfl, mt4 (j := 222) rfl rfl, by decide +kernel, by decide, by decide +kernel⟩
theorem cv10_357 : CV RX10 357 m7_empty 0 7 := ⟨mok7_empty, mt4 (j := 68) rfl rfl, mt1 (j := 90) rfl rfl, mt1 (j := 91) rfl rfl, by decide +kernel, by decide, by decide +kernel⟩
theorem cv10_358 : CV RX10 358 m6_at 1 6 := ⟨mok6_at, mt3 (j := 220) rfl rfl, mt2 (j := 171) rfl rfl, mt2 (j := 172) rfl rfl, by decide +kernel, by decide, by decide +kernel⟩
theorem cv10_80 : CV RX10 80 m7_size 0 7 := ⟨mok7_size, mt2 (j := 67) rfl rfl, mt2 (j := 68) rfl rfl, mt2 (j := 69) rfl rfl, by decide +kernel, by decide, by decide +kernel⟩
theorem cv10_86 : CV RX10 86 m9_begin 0 9 := ⟨mok9_begin, mt2 (j := 71) rfl rfl, mt1 (j := 86) rfl rfl, mt1 (j := 87) rfl rfl, by decide +kernel, by decide, by decide +kernel⟩
theorem cvL_100 : CV RL 100 m11_order 2 11 := ⟨mok11_order, mt5 (j := 218) rfl rfl, mt5 (j := 219) rfl rfl, mt5 (j := 220) rfl rfl, by decide +kernel, by decide, by decide +kernel⟩
theorem cvL_101 : CV RL 101 m10_seen 2 10 := ⟨mok10_seen, mt4 (j := 40) rfl rfl, mt4 (j := 41) rfl rfl, mt4 (j := 42) rfl rfl, by decide +kernel, by decide, by decide +kernel⟩
theorem cvL_104 : CV RL 104 m11_seen 2 11 := ⟨mok11_seen, mt5 (j := 235) rfl rfl, mt5 (j := 236) rfl rfl, mt5 (j := 237) rfl rfl, by decide +kernel, by decide, by decide +kernel⟩
theorem cvL_105 : CV RL 105 m10_tall 2 10 := ⟨mok10_tall, mt4 (j := 45) rfl rfl, mt4 (j := 46) rfl rfl, mt4 (j := 47) rfl rfl, by decide +kernel, by decide, by decide +kernel⟩
theorem cvL_108 : CV RL 108 m11_tall 2 11 := ⟨mok11_tall, mt5 (j := 239) rfl rfl, mt6 (j := 0) rfl rfl, mt6 (j := 1) rfl rfl, by decide +kernel, by decide, by decide +kernel⟩
theorem cvL_109 : CV RL 109 m10_note 5 10 := ⟨mok10_note, mt4 (j := 53) rfl rfl, mt4 (j := 54) rfl rfl, mt4 (j := 55) rfl rfl, by decide +kernel, by decide, by decide +kernel⟩
theorem cvL_113 : CV RL 113 m11_note 5 11 := ⟨mok11_note, mt6 (j := 7) rfl rfl, mt6 (j := 8) rfl rfl, mt6 (j := 9) rfl rfl, by decide +kernel, by decide, by decide +kernel⟩
theorem cvL_114 : CV RL 114 m10_mark 4 10 := ⟨mok10_mark, mt4 (j := 57) rfl rfl, mt4 (j := 58) rfl rfl, mt4 (j := 59) rfl rfl, by decide +kernel, by decide, by decide +kernel⟩
theorem cvL_118 : CV RL 118 m11_mark 4 11 := ⟨mok11_mark, mt6 (j := 11) rfl rfl, mt6 (j := 12) rfl rfl, mt6 (j := 13) rfl rfl, by decide +kernel, by decide, by decide +kernel⟩
theorem cvL_119 : CV RL 119 m10_forget 1 10 := ⟨mok10_forget, mt4 (j := 61) rfl rfl, mt4 (j := 62) rfl rfl, mt4 (j := 63) rfl rfl, by decide +kernel, by decide, by decide +kernel⟩
theorem cvL_122 : CV RL 122 m11_forget 1 11 := ⟨mok11_forget, mt6 (j := 15) rfl rfl, mt6 (j := 16) rfl rfl, mt6 (j := 17) rfl rfl, by decide +kernel, by decide, by decide +kernel⟩
theorem cvL_123 : CV RL 123 m10_is 1 10 := ⟨mok10_is, mt4 (j := 69) rfl rfl, mt4 (j := 70) rfl rfl, mt4 (j := 71) rfl rfl, by decide +kernel, by decide, by decide +kernel⟩
theorem cvL_126 : CV RL 126 m11_is 1 11 := ⟨mok11_is, mt6 (j := 19) rfl rfl, mt6 (j := 20) rfl rfl, mt6 (j := 21) rfl rfl, by decide +kernel, by decide, by decide +kernel⟩
theorem cvL_127 : CV RL 127 m10_look 1 10 := ⟨mok10_look, mt4 (j := 90) rfl rfl, mt4 (j := 91) rfl rfl, mt4 (j := 92) rfl rfl, by decide +kernel, by decide, by decide +kernel⟩
theorem cvL_13 : CV RL 13 m10_village 0 10 := ⟨mok10_village, mt2 (j := 63) rfl rfl, mt2 (j := 64) rfl rfl, mt2 (j := 65) rfl rfl, by decide +kernel, by decide, by decide +kernel⟩
theorem cvL_130 : CV RL 130 m11_look 1 11 := ⟨mok11_look, mt6 (j := 27) rfl rfl, mt6 (j := 28) rfl rfl, mt6 (j := 29) rfl rfl, by decide +kernel, by decide, by decide +kernel⟩
theorem cvL_131 : CV RL 131 m10_kinds 1 10 := ⟨mok10_kinds, mt4 (j := 104) rfl rfl, mt4 (j := 105) rfl rfl, mt4 (j := 106) rfl rfl, by decide +kernel, by decide, by decide +kernel⟩
theorem cvL_134 : CV RL 134 m11_kinds 1 11 := ⟨mok11_kinds, mt6 (j := 36) rfl rfl, mt6 (j := 37) rfl rfl, mt6 (j := 38) rfl rfl, by decide +kernel, by decide, by decide +kernel⟩
theorem cvL_135 : CV RL 135 m10_ask 1 10 := ⟨mok10_ask, mt4 (j := 117) rfl rfl, mt4 (j := 118) rfl rfl, mt4 (j := 119) rfl rfl, by decide +kernel, by decide, by decide +kernel⟩
theorem cvL_138 : CV RL 138 m11_ask 1 11 := ⟨mok11_ask, mt6 (j := 44) rfl rfl, mt6 (j := 45) rfl rfl, mt6 (j := 46) rfl rfl, by decide +kernel, by decide, by decide +kernel⟩
theorem cvL_139 : CV RL 139 m10_sweep 2 10 := ⟨mok10_sweep, mt4 (j := 125) rfl rfl, mt4 (j := 126) rfl rfl, mt4 (j := 127) rfl rfl, by decide +kernel, by decide, by decide +kernel⟩
theorem cvL_142 : CV RL 142 m11_sweep 2 11 := ⟨mok11_sweep, mt6 (j := 48) rfl rfl, mt6 (j := 49) rfl rfl, mt6 (j := 50) rfl rfl, by decide +kernel, by decide, by decide +kernel⟩
theorem cvL_143 : CV RL 143 m10_falls 2 10 := ⟨mok10_falls, mt4 (j := 154) rfl rfl, mt4 (j := 155) rfl rfl, mt4 (j := 156) rfl rfl, by decide +kernel, by decide, by decide +kernel⟩
theorem cvL_146 : CV RL 146 m11_falls 2 11 := ⟨mok11_falls, mt6 (j := 61) rfl rfl, mt6 (j := 62) rfl rfl, mt6 (j := 63) rfl rfl, by decide +kernel, by decide, by decide +kernel⟩
theorem cvL_147 : CV RL 147 m10_septembers 2 10 := ⟨mok10_septembers, mt4 (j := 166) rfl rfl, mt4 (j := 167) rfl rfl, mt4 (j := 168) rfl rfl, by decide +kernel, by decide, by decide +kernel⟩
theorem cvL_150 : CV RL 150 m11_septembers 2 11 := ⟨mok11_septembers, mt6 (j := 70) rfl rfl, mt6 (j := 71) rfl rfl, mt6 (j := 72) rfl rfl, by decide +kernel, by decide, by decide +kernel⟩
theorem cvL_151 : CV RL 151 m10_part 1 10 := ⟨mok10_part, mt4 (j := 178) rfl rfl, mt4 (j := 179) rfl rfl, mt4 (j := 180) rfl rfl, by decide +kernel, by decide, by decide +kernel⟩
theorem cvL_155 : CV RL 155 m11_part 1 11 := ⟨mok11_part, mt6 (j := 148) rfl rfl, mt6 (j := 149) rfl rfl, mt6 (j := 150) rfl rfl, by decide +kernel, by decide, by decide +kernel⟩
theorem cvL_156 : CV RL 156 m10_image 1 10 := ⟨mok10_image, mt4 (j := 190) rfl rfl, mt4 (j := 191) rfl rfl, mt4 (j := 192) rfl rfl, by decide +kernel, by decide, by decide +kernel⟩
theorem cvL_159 : CV RL 159 m11_image 1 11 := ⟨mok11_image, mt6 (j := 152) rfl rfl, mt6 (j := 153) rfl rfl, mt6 (j := 154) rfl rfl, by decide +kernel, by decide, by decide +kernel⟩
theorem cvL_160 : CV RL 160 m10_from 1 10 := ⟨mok10_from, mt4 (j := 198) rfl rfl, mt4 (j := 199) rfl rfl, mt4 (j := 200) rfl rfl, by decide +kernel, by decide, by decide +kernel⟩
theorem cvL_163 : CV RL 163 m11_from 1 11 := ⟨mok11_from, mt6 (j := 156) rfl rfl, mt6 (j := 157) rfl rfl, mt6 (j := 158) rfl rfl, by decide +kernel, by decide, by decide +kernel⟩
theorem cvL_164 : CV RL 164 m10_status 1 10 := ⟨mok10_status, mt4 (j := 202) rfl rfl, mt4 (j := 203) rfl rfl, mt4 (j := 204) rfl rfl, by decide +kernel, by decide, by decide +kernel⟩
theorem cvL_167 : CV RL 167 m11_status 1 11 := ⟨mok11_status, mt6 (j := 160) rfl rfl, mt6 (j := 161) rfl rfl, mt6 (j := 162) rfl rfl, by decide +kernel, by decide, by decide +kernel⟩
theorem cvL_168 : CV RL 168 m10_count 1 10 := ⟨mok10_count, mt4 (j := 206) rfl rfl, mt4 (j := 207) rfl rfl, mt4 (j := 208) rfl rfl, by decide +kernel, by decide, by decide +kernel⟩
theorem cvL_17 : CV RL 17 m11_village 0 11 := ⟨mok11_village, mt5 (j := 58) rfl rfl, mt5 (j := 59) rfl rfl, mt5 (j := 60) rfl rfl, by decide +kernel, by decide, by decide +kernel⟩
theorem cvL_171 : CV RL 171 m11_count 1 11 := ⟨mok11_count, mt6 (j := 164) rfl rfl, mt6 (j := 165) rfl rfl, mt6 (j := 166) rfl rfl, by decide +kernel, by decide, by decide +kernel⟩
theorem cvL_172 : CV RL 172 m10_digest 0 10 := ⟨mok10_digest, mt4 (j := 214) rfl rfl, mt4 (j := 215) rfl rfl, mt4 (j := 216) rfl rfl, by decide +kernel, by decide, by decide +kernel⟩
theorem cvL_176 : CV RL 176 m11_digest 0 11 := ⟨mok11_digest, mt6 (j := 172) rfl rfl, mt6 (j := 173) rfl rfl, mt6 (j := 174) rfl rfl, by decide +kernel, by decide, by decide +kernel⟩
theorem cvL_18 : CV RL 18 m10_storm 3 10 := ⟨mok10_storm, mt2 (j := 72) rfl rfl, mt2 (j := 73) rfl rfl, mt2 (j := 74) rfl rfl, by decide +kernel, by decide, by decide +kernel⟩
theorem cvL_22 : CV RL 22 m11_storm 3 11 := ⟨mok11_storm, mt5 (j := 66) rfl rfl, mt5 (j := 67) rfl rfl, mt5 (j := 68) rfl rfl, by decide +kernel, by decide, by decide +kernel⟩
theorem cvL_23 : CV RL 23 m10_thing 3 10 := ⟨mok10_thing, mt2 (j := 98) rfl rfl, mt2 (j := 99) rfl rfl, mt2 (j := 100) rfl rfl, by decide +kernel, by decide, by decide +kernel⟩
theorem cvL_26 : CV RL 26 m11_thing 3 11 := ⟨mok11_thing, mt5 (j := 83) rfl rfl, mt5 (j := 84) rfl rfl, mt5 (j := 85) rfl rfl, by decide +kernel, by decide, by decide +kernel⟩
theorem cvL_27 : CV RL 27 m10_body 1 10 := ⟨mok10_body, mt2 (j := 118) rfl rfl, mt2 (j := 119) rfl rfl, mt2 (j := 120) rfl rfl, by decide +kernel, by decide, by decide +kernel⟩
theorem cvL_31 : CV RL 31 m11_body 1 11 := ⟨mok11_body, mt5 (j := 98) rfl rfl, mt5 (j := 99) rfl rfl, mt5 (j := 100) rfl rfl, by decide +kernel, by decide, by decide +kernel⟩
theorem cvL_32 : CV RL 32 m10_type 1 10 := ⟨mok10_type, mt2 (j := 126) rfl rfl, mt2 (j := 127) rfl rfl, mt2 (j := 128) rfl rfl, by decide +kernel, by decide, by decide +kernel⟩
theorem cvL_35 : CV RL 35 m11_type 1 11 := ⟨mok11_type, mt6 (j := 81) rfl rfl, mt6 (j := 82) rfl rfl, mt6 (j := 83) rfl rfl, by decide +kernel, by decide, by decide +kernel⟩
theorem cvL_36 : CV RL 36 m10_clear 0 10 := ⟨mok10_clear, mt2 (j := 146) rfl rfl, mt2 (j := 147) rfl rfl, mt2 (j := 148) rfl rfl, by decide +kernel, by decide, by decide +kernel⟩
theorem cvL_39 : CV RL 39 m11_clear 0 11 := ⟨mok11_clear, mt6 (j := 86) rfl rfl, mt6 (j := 87) rfl rfl, mt6 (j := 88) rfl rfl, by decide +kernel, by decide, by decide +kernel⟩
theorem cvL_40 : CV RL 40 m10_read 0 10 := ⟨mok10_read, mt2 (j := 154) rfl rfl, mt2 (j := 155) rfl rfl, mt2 (j := 156) rfl rfl, by decide +kernel, by decide, by decide +kernel⟩
theorem cvL_43 : CV RL 43 m11_read 0 11 := ⟨mok11_read, mt6 (j := 90) rfl rfl, mt6 (j := 91) rfl rfl, mt6 (j := 92) rfl rfl, by decide +kernel, by decide, by decide +kernel⟩
theorem cvL_44 : CV RL 44 m10_summers 1 10 := ⟨mok10_summers, mt3 (j := 100) rfl rfl, mt3 (j := 101) rfl rfl, mt3 (j := 102) rfl rfl, by decide +kernel, by decide, by decide +kernel⟩
theorem cvL_47 : CV RL 47 m11_summers 1 11 := ⟨mok11_summers, mt5 (j := 102) rfl rfl, mt5 (j := 103) rfl rfl, mt5 (j := 104) rfl rfl, by decide +kernel, by decide, by decide +kernel⟩
theorem cvL_48 : CV RL 48 m10_takes 1 10 := ⟨mok10_takes, mt3 (j := 119) rfl rfl, mt3 (j := 120) rfl rfl, mt3 (j := 121) rfl rfl, by decide +kernel, by decide, by decide +kernel⟩
theorem cvL_51 : CV RL 51 m11_takes 1 11 := ⟨mok11_takes, mt5 (j := 144) rfl rfl, mt5 (j := 145) rfl rfl, mt5 (j := 146) rfl rfl, by decide +kernel, by decide, by decide +kernel⟩
theorem cvL_52 : CV RL 52 m10_undo 0 10 := ⟨mok10_undo, mt3 (j := 129) rfl rfl, mt3 (j := 130) rfl rfl, mt3 (j := 131) rfl rfl, by decide +kernel, by decide, by decide +kernel⟩
theorem cvL_55 : CV RL 55 m11_undo 0 11 := ⟨mok11_undo, mt5 (j := 152) rfl rfl, mt5 (j := 153) rfl rfl, mt5 (j := 154) rfl rfl, by decide +kernel, by decide, by decide +kernel⟩
theorem cvL_56 : CV RL 56 m10_of 2 10 := ⟨mok10_of, mt3 (j := 142) rfl rfl, mt3 (j := 143) rfl rfl, mt3 (j := 144) rfl rfl, by decide +kernel, by decide, by decide +kernel⟩
theorem cvL_60 : CV RL 60 m11_of 2 11 := ⟨mok11_of, mt5 (j := 160) rfl rfl, mt5 (j := 161) rfl rfl, mt5 (j := 162) rfl rfl, by decide +kernel, by decide, by decide +kernel⟩
theorem cvL_61 : CV RL 61 m10_about 2 10 := ⟨mok10_about, mt3 (j := 146) rfl rfl, mt3 (j := 147) rfl rfl, mt3 (j := 148) rfl rfl, by decide +kernel, by decide, by decide +kernel⟩
theorem cvL_64 : CV RL 64 m11_about 2 11 := ⟨mok11_about, mt5 (j := 165) rfl rfl, mt5 (j := 166) rfl rfl, mt5 (j := 167) rfl rfl, by decide +kernel, by decide, by decide +kernel⟩
theorem cvL_65 : CV RL 65 m10_weather 2 10 := ⟨mok10_weather, mt3 (j := 159) rfl rfl, mt3 (j := 160) rfl rfl, mt3 (j := 161) rfl rfl, by decide +kernel, by decide, by decide +kernel⟩
theorem cvL_68 : CV RL 68 m11_weather 2 11 := ⟨mok11_weather, mt5 (j := 174) rfl rfl, mt5 (j := 175) rfl rfl, mt5 (j := 176) rfl rfl, by decide +kernel, by decide, by decide +kernel⟩
theorem cvL_69 : CV RL 69 m10_draws 2 10 := ⟨mok10_draws, mt3 (j := 163) rfl rfl, mt3 (j := 164) rfl rfl, mt3 (j := 165) rfl rfl, by decide +kernel, by decide, by decide +kernel⟩
theorem cvL_72 : CV RL 72 m11_draws 2 11 := ⟨mok11_draws, mt5 (j := 178) rfl rfl, mt5 (j := 179) rfl rfl, mt5 (j := 180) rfl rfl, by decide +kernel, by decide, by decide +kernel⟩
theorem cvL_73 : CV RL 73 m10_struck 1 10 := ⟨mok10_struck, mt3 (j := 171) rfl rfl, mt3 (j := 172) rfl rfl, mt3 (j := 173) rfl rfl, by decide +kernel, by decide, by decide +kernel⟩
theorem cvL_76 : CV RL 76 m11_struck 1 11 := ⟨mok11_struck, mt5 (j := 182) rfl rfl, mt5 (j := 183) rfl rfl, mt5 (j := 184) rfl rfl, by decide +kernel, by decide, by decide +kernel⟩
theorem cvL_77 : CV RL 77 m10_then 1 10 := ⟨mok10_then, mt3 (j := 179) rfl rfl, mt3 (j := 180) rfl rfl, mt3 (j := 181) rfl rfl, by decide +kernel, by decide, by decide +kernel⟩
theorem cvL_80 : CV RL 80 m11_then 1 11 := ⟨mok11_then, mt5 (j := 186) rfl rfl, mt5 (j := 187) rfl rfl, mt5 (j := 188) rfl rfl, by decide +kernel, by decide, by decide +kernel⟩
theorem cvL_81 : CV RL 81 m10_when 1 10 := ⟨mok10_when, mt3 (j := 185) rfl rfl, mt3 (j := 186) rfl rfl, mt3 (j := 187) rfl rfl, by decide +kernel, by decide, by decide +kernel⟩
theorem cvL_84 : CV RL 84 m11_when 1 11 := ⟨mok11_when, mt5 (j := 194) rfl rfl, mt5 (j := 195) rfl rfl, mt5 (j := 196) rfl rfl, by decide +kernel, by decide, by decide +kernel⟩
theorem cvL_85 : CV RL 85 m10_whence 0 10 := ⟨mok10_whence, mt3 (j := 193) rfl rfl, mt3 (j := 194) rfl rfl, mt3 (j := 195) rfl rfl, by decide +kernel, by decide, by decide +kernel⟩
theorem cvL_88 : CV RL 88 m11_whence 0 11 := ⟨mok11_whence, mt5 (j := 202) rfl rfl, mt5 (j := 203) rfl rfl, mt5 (j := 204) rfl rfl, by decide +kernel, by decide, by decide +kernel⟩
theorem cvL_89 : CV RL 89 m10_lead 1 10 := ⟨mok10_lead, mt3 (j := 197) rfl rfl, mt3 (j := 198) rfl rfl, mt3 (j := 199) rfl rfl, by decide +kernel, by decide, by decide +kernel⟩
theorem cvL_92 : CV RL 92 m11_lead 1 11 := ⟨mok11_lead, mt5 (j := 210) rfl rfl, mt5 (j := 211) rfl rfl, mt5 (j := 212) rfl rfl, by decide +kernel, by decide, by decide +kernel⟩
theorem cvL_93 : CV RL 93 m10_spare 0 10 := ⟨mok10_spare, mt3 (j := 210) rfl rfl, mt3 (j := 211) rfl rfl, mt3 (j := 212) rfl rfl, by decide +kernel, by decide, by decide +kernel⟩
theorem cvL_96 : CV RL 96 m11_spare 0 11 := ⟨mok11_spare, mt5 (j := 214) rfl rfl, mt5 (j := 215) rfl rfl, mt5 (j := 216) rfl rfl, by decide +kernel, by decide, by decide +kernel⟩
theorem cvL_97 : CV RL 97 m10_order 2 10 := ⟨mok10_order, mt3 (j := 221) rfl rfl, mt3 (j := 222) rfl rfl, mt3 (j := 223) rfl rfl, by decide +kernel, by decide, by decide +kernel⟩
theorem cv11_127 : CV RX11 127 m11_save 0 11 := ⟨mok11_save, mt5 (j := 107) rfl rfl, mt5 (j := 109) rfl rfl, at_of (i := 34) (by decide +kernel) rfl, by decide +kernel, by decide, by decide +kernel⟩
theorem cv11_134 : CV RX11 134 m11_isThing 1 11 := ⟨mok11_isThing, mt5 (j := 148) rfl rfl, mt5 (j := 150) rfl rfl, at_of (i := 35) (by decide +kernel) rfl, by decide +kernel, by decide, by decide +kernel⟩
theorem cv11_137 : CV RX11 137 m11_no 0 11 := ⟨mok11_no, mt5 (j := 156) rfl rfl, mt5 (j := 158) rfl rfl, at_of (i := 36) (by decide +kernel) rfl, by decide +kernel, by decide, by decide +kernel⟩
theorem cv11_142 : CV RX11 142 m11_isPart 1 11 := ⟨mok11_isPart, mt5 (j := 169) rfl rfl, mt5 (j := 171) rfl rfl, at_of (i := 37) (by decide +kernel) rfl, by decide +kernel, by decide, by decide +kernel⟩
theorem cv11_147 : CV RX11 147 m11_layHand 0 11 := ⟨mok11_layHand, mt5 (j := 190) rfl rfl, mt5 (j := 192) rfl rfl, at_of (i := 38) (by decide +kernel) rfl, by decide +kernel, by decide, by decide +kernel⟩
theorem cv11_150 : CV RX11 150 m11_whenOf 1 11 := ⟨mok11_whenOf, mt5 (j := 198) rfl rfl, mt5 (j := 200) rfl rfl, at_of (i := 39) (by decide +kernel) rfl, by decide +kernel, by decide, by decide +kernel⟩
theorem cv11_153 : CV RX11 153 m11_cellsBy 1 11 := ⟨mok11_cellsBy, mt5 (j := 206) rfl rfl, mt5 (j := 208) rfl rfl, at_of (i := 40) (by decide +kernel) rfl, by decide +kernel, by decide, by decide +kernel⟩
theorem cv11_158 : CV RX11 158 m11_layMissing 0 11 := ⟨mok11_layMissing, mt5 (j := 223) rfl rfl, mt5 (j := 225) rfl rfl, at_of (i := 41) (by decide +kernel) rfl, by decide +kernel, by decide, by decide +kernel⟩
theorem cv11_161 : CV RX11 161 m11_layOrder 2 11 := ⟨mok11_layOrder, mt5 (j := 227) rfl rfl, mt5 (j := 229) rfl rfl, at_of (i := 42) (by decide +kernel) rfl, by decide +kernel, by decide, by decide +kernel⟩
theorem cv11_165 : CV RX11 165 m11_comeBy 2 11 := ⟨mok11_comeBy, mt5 (j := 231) rfl rfl, mt5 (j := 233) rfl rfl, at_of (i := 43) (by decide +kernel) rfl, by decide +kernel, by decide, by decide +kernel⟩
theorem cv11_169 : CV RX11 169 m11_isSeenBy 2 11 := ⟨mok11_isSeenBy, mt6 (j := 3) rfl rfl, mt6 (j := 5) rfl rfl, at_of (i := 44) (by decide +kernel) rfl, by decide +kernel, by decide, by decide +kernel⟩
theorem cv11_172 : CV RX11 172 m11_kindsOfThing 1 11 := ⟨mok11_kindsOfThing, mt6 (j := 23) rfl rfl, mt6 (j := 25) rfl rfl, at_of (i := 45) (by decide +kernel) rfl, by decide +kernel, by decide, by decide +kernel⟩
theorem cv11_176 : CV RX11 176 m11_mostAlike 1 11 := ⟨mok11_mostAlike, mt6 (j := 32) rfl rfl, mt6 (j := 34) rfl rfl, at_of (i := 46) (by decide +kernel) rfl, by decide +kernel, by decide, by decide +kernel⟩
theorem cv11_179 : CV RX11 179 m11_kindsOfPart 1 11 := ⟨mok11_kindsOfPart, mt6 (j := 40) rfl rfl, mt6 (j := 42) rfl rfl, at_of (i := 47) (by decide +kernel) rfl, by decide +kernel, by decide, by decide +kernel⟩
theorem cv11_197 : CV RX11 197 m11_fraction 2 11 := ⟨mok11_fraction, mt6 (j := 66) rfl rfl, mt6 (j := 68) rfl rfl, at_of (i := 48) (by decide +kernel) rfl, by decide +kernel, by decide, by decide +kernel⟩
theorem cv11_247 : CV RX11 247 m11_lookAt 1 11 := ⟨mok11_lookAt, mt6 (j := 94) rfl rfl, mt6 (j := 96) rfl rfl, at_of (i := 49) (by decide +kernel) rfl, by decide +kernel, by decide, by decide +kernel⟩
theorem cv11_251 : CV RX11 251 m11_goBehind 0 11 := ⟨mok11_goBehind, mt6 (j := 112) rfl rfl, mt6 (j := 114) rfl rfl, at_of (i := 51) (by decide +kernel) rfl, by decide +kernel, by decide, by decide +kernel⟩
theorem cv11_254 : CV RX11 254 m11_gives 3 11 := ⟨mok11_gives, mt6 (j := 128) rfl rfl, mt6 (j := 130) rfl rfl, at_of (i := 55) (by decide +kernel) rfl, by decide +kernel, by decide, by decide +kernel⟩
theorem cv11_257 : CV RX11 257 m11_spells 7 11 := ⟨mok11_spells, mt6 (j := 120) rfl rfl, mt6 (j := 122) rfl rfl, at_of (i := 53) (by decide +kernel) rfl, by decide +kernel, by decide, by decide +kernel⟩
theorem cv11_261 : CV RX11 261 m11_givesStorm 0 11 := ⟨mok11_givesStorm, mt6 (j := 124) rfl rfl, mt6 (j := 126) rfl rfl, at_of (i := 54) (by decide +kernel) rfl, by decide +kernel, by decide, by decide +kernel⟩
theorem cv11_265 : CV RX11 265 m11_givesThing 0 11 := ⟨mok11_givesThing, mt6 (j := 132) rfl rfl, mt6 (j := 134) rfl rfl, at_of (i := 56) (by decide +kernel) rfl, by decide +kernel, by decide, by decide +kernel⟩
theorem cv11_268 : CV RX11 268 m11_givesPart 0 11 := ⟨mok11_givesPart, mt6 (j := 136) rfl rfl, mt6 (j := 138) rfl rfl, at_of (i := 57) (by decide +kernel) rfl, by decide +kernel, by decide, by decide +kernel⟩
theorem cv11_271 : CV RX11 271 m11_givesTake 0 11 := ⟨mok11_givesTake, mt6 (j := 140) rfl rfl, mt6 (j := 142) rfl rfl, at_of (i := 58) (by decide +kernel) rfl, by decide +kernel, by decide, by decide +kernel⟩
theorem cv11_274 : CV RX11 274 m11_spellsSeven 7 11 := ⟨mok11_spellsSeven, mt6 (j := 108) rfl rfl, mt6 (j := 110) rfl rfl, at_of (i := 50) (by decide +kernel) rfl, by decide +kernel, by decide, by decide +kernel⟩
theorem cv11_277 : CV RX11 277 m11_givesSummers 0 11 := ⟨mok11_givesSummers, mt6 (j := 144) rfl rfl, mt6 (j := 146) rfl rfl, at_of (i := 59) (by decide +kernel) rfl, by decide +kernel, by decide, by decide +kernel⟩
theorem cv11_280 : CV RX11 280 m11_givesItem 0 11 := ⟨mok11_givesItem, mt6 (j := 116) rfl rfl, mt6 (j := 118) rfl rfl, at_of (i := 52) (by decide +kernel) rfl, by decide +kernel, by decide, by decide +kernel⟩
theorem cv11_283 : CV RX11 283 m11_counted 1 11 := ⟨mok11_counted, mt6 (j := 168) rfl rfl, mt6 (j := 170) rfl rfl, at_of (i := 60) (by decide +kernel) rfl, by decide +kernel, by decide, by decide +kernel⟩
theorem cv11_290 : CV RX11 290 m11_sums 3 11 := ⟨mok11_sums, mt6 (j := 178) rfl rfl, mt6 (j := 180) rfl rfl, at_of (i := 61) (by decide +kernel) rfl, by decide +kernel, by decide, by decide +kernel⟩
theorem cv11_55 : CV RX11 55 m11_many 0 11 := ⟨mok11_many, mt5 (j := 62) rfl rfl, mt5 (j := 64) rfl rfl, at_of (i := 31) (by decide +kernel) rfl, by decide +kernel, by decide, by decide +kernel⟩
theorem cv11_73 : CV RX11 73 m11_bad 1 11 := ⟨mok11_bad, mt5 (j := 79) rfl rfl, mt5 (j := 81) rfl rfl, at_of (i := 32) (by decide +kernel) rfl, by decide +kernel, by decide, by decide +kernel⟩
theorem cv11_82 : CV RX11 82 m11_full 0 11 := ⟨mok11_full, mt5 (j := 91) rfl rfl, mt5 (j := 93) rfl rfl, at_of (i := 33) (by decide +kernel) rfl, by decide +kernel, by decide, by decide +kernel⟩
theorem cvJ0_335 : CT RJ0 335 mJ0_coder 0 := ⟨mokJ0_coder, mt2 (j := 196) rfl rfl, mt2 (j := 197) rfl rfl, mt2 (j := 198) rfl rfl, by decide +kernel, rfl⟩
theorem cvJ0_492 : CT RJ0 492 mJ0_isLatin1 0 := ⟨mokJ0_isLatin1, mt2 (j := 206) rfl rfl, mt2 (j := 207) rfl rfl, mt2 (j := 208) rfl rfl, by decide +kernel, rfl⟩
theorem cm0_28 : CM RX0 28 Lib.Math.max.name Lib.Math.max.code 2 := ⟨mt4 (j := 139) rfl rfl, mt1 (j := 40) rfl rfl, mt1 (j := 4) rfl rfl, mt1 (j := 41) rfl rfl⟩
theorem cm0_45 : CM RX0 45 Lib.Math.abs.name Lib.Math.abs.code 1 := ⟨mt4 (j := 138) rfl rfl, mt3 (j := 51) rfl rfl, mt1 (j := 4) rfl rfl, mt3 (j := 52) rfl rfl⟩
theorem cm2_65 : CM RX2 65 Lib.Math.max.name Lib.Math.max.code 2 := ⟨mt4 (j := 103) rfl rfl, mt1 (j := 40) rfl rfl, mt1 (j := 4) rfl rfl, mt1 (j := 41) rfl rfl⟩
theorem cm5_87 : CM RX5 87 Lib.Math.max.name Lib.Math.max.code 2 := ⟨mt4 (j := 13) rfl rfl, mt1 (j := 40) rfl rfl, mt1 (j := 4) rfl rfl, mt1 (j := 41) rfl rfl⟩
theorem cm5_94 : CM RX5 94 Lib.Math.min.name Lib.Math.min.code 2 := ⟨mt4 (j := 19) rfl rfl, mt3 (j := 61) rfl rfl, mt1 (j := 4) rfl rfl, mt3 (j := 62) rfl rfl⟩
theorem cm7_16 : CM RX7 16 Lib.Math.max.name Lib.Math.max.code 2 := ⟨mt1 (j := 39) rfl rfl, mt1 (j := 40) rfl rfl, mt1 (j := 4) rfl rfl, mt1 (j := 41) rfl rfl⟩
theorem cm7_43 : CM RX7 43 Lib.Math.min.name Lib.Math.min.code 2 := ⟨mt3 (j := 92) rfl rfl, mt3 (j := 61) rfl rfl, mt1 (j := 4) rfl rfl, mt3 (j := 62) rfl rfl⟩
theorem cm9_109 : CM RX9 109 Lib.Math.min.name Lib.Math.min.code 2 := ⟨mt3 (j := 60) rfl rfl, mt3 (j := 61) rfl rfl, mt1 (j := 4) rfl rfl, mt3 (j := 62) rfl rfl⟩
theorem cm9_123 : CM RX9 123 Lib.Math.abs.name Lib.Math.abs.code 1 := ⟨mt3 (j := 50) rfl rfl, mt3 (j := 51) rfl rfl, mt1 (j := 4) rfl rfl, mt3 (j := 52) rfl rfl⟩
theorem cm10_283 : CM RX10 283 Lib.Math.min.name Lib.Math.min.code 2 := ⟨mt4 (j := 129) rfl rfl, mt3 (j := 61) rfl rfl, mt1 (j := 4) rfl rfl, mt3 (j := 62) rfl rfl⟩
theorem aJ0_length_0 : At cJ0_length_8abf5 0 (.aload_n 0) 1 1 := ⟨by decide +kernel, rfl⟩
theorem aJ0_length_1 : At cJ0_length_8abf5 1 (.getfield 9) 3 4 := ⟨by decide +kernel, rfl⟩
theorem aJ0_length_4 : At cJ0_length_8abf5 4 (.arraylength) 1 5 := ⟨by decide +kernel, rfl⟩
theorem aJ0_length_5 : At cJ0_length_8abf5 5 (.aload_n 0) 1 6 := ⟨by decide +kernel, rfl⟩
theorem aJ0_length_6 : At cJ0_length_8abf5 6 (.invokevirtual 335) 3 9 := ⟨by decide +kernel, rfl⟩
theorem aJ0_length_9 : At cJ0_length_8abf5 9 (.ishr) 1 10 := ⟨by decide +kernel, rfl⟩
theorem aJ0_length_10 : At cJ0_length_8abf5 10 (.ireturn) 1 11 := ⟨by decide +kernel, rfl⟩
theorem aJ0_coder_0 : At cJ0_coder_7d493 0 (.getstatic 38) 3 3 := ⟨by decide +kernel, rfl⟩
theorem aJ0_coder_3 : At cJ0_coder_7d493 3 (.ifCond .eq 10) 3 6 := ⟨by decide +kernel, rfl⟩
theorem aJ0_coder_6 : At cJ0_coder_7d493 6 (.aload_n 0) 1 7 := ⟨by decide +kernel, rfl⟩
theorem aJ0_coder_7 : At cJ0_coder_7d493 7 (.getfield 15) 3 10 := ⟨by decide +kernel, rfl⟩
theorem aJ0_coder_10 : At cJ0_coder_7d493 10 (.goto 4) 3 13 := ⟨by decide +kernel, rfl⟩
theorem aJ0_coder_13 : At cJ0_coder_7d493 13 (.iconst 1) 1 14 := ⟨by decide +kernel, rfl⟩
theorem aJ0_coder_14 : At cJ0_coder_7d493 14 (.ireturn) 1 15 := ⟨by decide +kernel, rfl⟩
theorem aJ0_charAt_0 : At cJ0_charAt_5068e 0 (.aload_n 0) 1 1 := ⟨by decide +kernel, rfl⟩
theorem aJ0_charAt_1 : At cJ0_charAt_5068e 1 (.invokevirtual 492) 3 4 := ⟨by decide +kernel, rfl⟩
theorem aJ0_charAt_4 : At cJ0_charAt_5068e 4 (.ifCond .eq 12) 3 7 := ⟨by decide +kernel, rfl⟩
theorem aJ0_charAt_7 : At cJ0_charAt_5068e 7 (.aload_n 0) 1 8 := ⟨by decide +kernel, rfl⟩
theorem aJ0_charAt_8 : At cJ0_charAt_5068e 8 (.getfield 9) 3 11 := ⟨by decide +kernel, rfl⟩
theorem aJ0_charAt_11 : At cJ0_charAt_5068e 11 (.iload_n 1) 1 12 := ⟨by decide +kernel, rfl⟩
theorem aJ0_charAt_12 : At cJ0_charAt_5068e 12 (.invokestatic 495) 3 15 := ⟨by decide +kernel, rfl⟩
theorem aJ0_charAt_15 : At cJ0_charAt_5068e 15 (.ireturn) 1 16 := ⟨by decide +kernel, rfl⟩
theorem aJ0_charAt_16 : At cJ0_charAt_5068e 16 (.aload_n 0) 1 17 := ⟨by decide +kernel, rfl⟩
theorem aJ0_charAt_17 : At cJ0_charAt_5068e 17 (.getfield 9) 3 20 := ⟨by decide +kernel, rfl⟩
theorem aJ0_charAt_20 : At cJ0_charAt_5068e 20 (.iload_n 1) 1 21 := ⟨by decide +kernel, rfl⟩
theorem aJ0_charAt_21 : At cJ0_charAt_5068e 21 (.invokestatic 498) 3 24 := ⟨by decide +kernel, rfl⟩
theorem aJ0_charAt_24 : At cJ0_charAt_5068e 24 (.ireturn) 1 25 := ⟨by decide +kernel, rfl⟩
theorem aJ0_isLatin1_0 : At cJ0_isLatin1_aae02 0 (.getstatic 38) 3 3 := ⟨by decide +kernel, rfl⟩
theorem aJ0_isLatin1_3 : At cJ0_isLatin1_aae02 3 (.ifCond .eq 14) 3 6 := ⟨by decide +kernel, rfl⟩
theorem aJ0_isLatin1_6 : At cJ0_isLatin1_aae02 6 (.aload_n 0) 1 7 := ⟨by decide +kernel, rfl⟩
theorem aJ0_isLatin1_7 : At cJ0_isLatin1_aae02 7 (.getfield 15) 3 10 := ⟨by decide +kernel, rfl⟩
theorem aJ0_isLatin1_10 : At cJ0_isLatin1_aae02 10 (.ifCond .ne 7) 3 13 := ⟨by decide +kernel, rfl⟩
theorem aJ0_isLatin1_13 : At cJ0_isLatin1_aae02 13 (.iconst 1) 1 14 := ⟨by decide +kernel, rfl⟩
theorem aJ0_isLatin1_14 : At cJ0_isLatin1_aae02 14 (.goto 4) 3 17 := ⟨by decide +kernel, rfl⟩
theorem aJ0_isLatin1_17 : At cJ0_isLatin1_aae02 17 (.iconst 0) 1 18 := ⟨by decide +kernel, rfl⟩
theorem aJ0_isLatin1_18 : At cJ0_isLatin1_aae02 18 (.ireturn) 1 19 := ⟨by decide +kernel, rfl⟩
theorem aJ1_charAt_0 : At cJ1_charAt_3b067 0 (.iload_n 1) 1 1 := ⟨by decide +kernel, rfl⟩
theorem aJ1_charAt_1 : At cJ1_charAt_3b067 1 (.aload_n 0) 1 2 := ⟨by decide +kernel, rfl⟩
theorem aJ1_charAt_2 : At cJ1_charAt_3b067 2 (.arraylength) 1 3 := ⟨by decide +kernel, rfl⟩
theorem aJ1_charAt_3 : At cJ1_charAt_3b067 3 (.invokestatic 9) 3 6 := ⟨by decide +kernel, rfl⟩
theorem aJ1_charAt_6 : At cJ1_charAt_3b067 6 (.aload_n 0) 1 7 := ⟨by decide +kernel, rfl⟩
theorem aJ1_charAt_7 : At cJ1_charAt_3b067 7 (.iload_n 1) 1 8 := ⟨by decide +kernel, rfl⟩
theorem aJ1_charAt_8 : At cJ1_charAt_3b067 8 (.baload) 1 9 := ⟨by decide +kernel, rfl⟩
theorem aJ1_charAt_9 : At cJ1_charAt_3b067 9 (.sipush 255) 3 12 := ⟨by decide +kernel, rfl⟩
theorem aJ1_charAt_12 : At cJ1_charAt_3b067 12 (.iand) 1 13 := ⟨by decide +kernel, rfl⟩
theorem aJ1_charAt_13 : At cJ1_charAt_3b067 13 (.i2c) 1 14 := ⟨by decide +kernel, rfl⟩
theorem aJ1_charAt_14 : At cJ1_charAt_3b067 14 (.ireturn) 1 15 := ⟨by decide +kernel, rfl⟩
theorem aJ0_checkIndex_0 : At cJ0_checkIndex_df160 0 (.iload_n 0) 1 1 := ⟨by decide +kernel, rfl⟩
theorem aJ0_checkIndex_1 : At cJ0_checkIndex_df160 1 (.iload_n 1) 1 2 := ⟨by decide +kernel, rfl⟩
theorem aJ0_checkIndex_2 : At cJ0_checkIndex_df160 2 (.getstatic 1053) 3 5 := ⟨by decide +kernel, rfl⟩
theorem aJ0_checkIndex_5 : At cJ0_checkIndex_df160 5 (.invokestatic 1059) 3 8 := ⟨by decide +kernel, rfl⟩
theorem aJ0_checkIndex_8 : At cJ0_checkIndex_df160 8 (.pop) 1 9 := ⟨by decide +kernel, rfl⟩
theorem aJ0_checkIndex_9 : At cJ0_checkIndex_df160 9 (.return_) 1 10 := ⟨by decide +kernel, rfl⟩
theorem aJ3_checkIndex_0 : At cJ3_checkIndex_8e157 0 (.iload_n 0) 1 1 := ⟨by decide +kernel, rfl⟩
theorem aJ3_checkIndex_1 : At cJ3_checkIndex_8e157 1 (.ifCond .lt 8) 3 4 := ⟨by decide +kernel, rfl⟩
theorem aJ3_checkIndex_4 : At cJ3_checkIndex_8e157 4 (.iload_n 0) 1 5 := ⟨by decide +kernel, rfl⟩
theorem aJ3_checkIndex_5 : At cJ3_checkIndex_8e157 5 (.iload_n 1) 1 6 := ⟨by decide +kernel, rfl⟩
theorem aJ3_checkIndex_6 : At cJ3_checkIndex_8e157 6 (.if_icmp .lt 10) 3 9 := ⟨by decide +kernel, rfl⟩
theorem aJ3_checkIndex_16 : At cJ3_checkIndex_8e157 16 (.iload_n 0) 1 17 := ⟨by decide +kernel, rfl⟩
theorem aJ3_checkIndex_17 : At cJ3_checkIndex_8e157 17 (.ireturn) 1 18 := ⟨by decide +kernel, rfl⟩
end
section
/-! texts: length and charAt of the constants -/
def sLen (k : Nat) : Int32 := nI (lenJS.getD k 0)
def sAt (k : Nat) (i : Int32) : Option Int32 := ck (inb i (lenJS.getD k 0)) (some ((bytJS.getD k []).getD i.toNatClampNeg 0))
section STR
variable {y : MI} {pc n idx : Nat} {L : List (Option AV)} {st : List AV} {σ S : Mem} {V : Option AV}
theorem g_k6 {i k : Nat} (hl : L[i]? = some (some (.inr (.inr (12, k))))) (kk : k < 6 → Go y pc L st σ V S) : Go y pc L st σ V S := by
  intro X p l e R s m args below meth c A cells slots Q F hr oL oS
  have z := oL.at hl
  simp only [okA, show ¬ (12 ∈ kds) from by decide, if_false] at z
  exact kk z X p l e R s m args below meth c A cells slots Q F hr oL oS
theorem g_k6' {i k : Nat} (hl : L[i]? = some (some (.inr (.inr (23, k))))) (kk : k < 6 → Go y pc L st σ V S) : Go y pc L st σ V S := by
  intro X p l e R s m args below meth c A cells slots Q F hr oL oS
  have z := oL.at hl
  simp only [okA, show ¬ (23 ∈ kds) from by decide, if_false] at z
  exact kk z X p l e R s m args below meth c A cells slots Q F hr oL oS
theorem ok23 {X : Kx} {k : Nat} (h : k < 6) : okA X (.inr (.inr (23, k))) := by
  simp only [okA, show ¬ (23 ∈ kds) from by decide, if_false]
  exact h
theorem g_val {k : Nat} (hy : y.1.cls = RJ0) (hd : At y.2.1 pc (.getfield 9) 3 n) (hk : k < 6) (kk : Go y n L (.inr (.inr (23, k)) :: st) σ V S) : Go y pc L (.inr (.inr (12, k)) :: st) σ V S := by
  obtain ⟨hd, rfl⟩ := hd
  intro X p l e R s m args below meth c A cells slots Q F hr oL oS H locs ls hl hW hS
  have hw := F.2.2.2.2.1 _ flJ0_9
  have hown := F.2.2.2.1
  rw [hy] at hown
  exact vk_getf F.1 F.2.1 (F.2.2.2.2.2.2.2.2.1.1.1 k hk).2.2.1 hS hown hw (fun _ h => h) hd (kk X p l e R s m args below meth c A cells slots Q F hr oL (oS.tl.cons (ok23 hk)) H locs ls hl hW hS)
theorem g_coder {k : Nat} (hy : y.1.cls = RJ0) (hd : At y.2.1 pc (.getfield 15) 3 n) (hk : k < 6) (kk : Go y n L (.inl 0 :: st) σ V S) : Go y pc L (.inr (.inr (12, k)) :: st) σ V S := by
  obtain ⟨hd, rfl⟩ := hd
  intro X p l e R s m args below meth c A cells slots Q F hr oL oS H locs ls hl hW hS
  have hw := F.2.2.2.2.1 _ flJ0_15
  have hown := F.2.2.2.1
  rw [hy] at hown
  exact vk_getf F.1 F.2.1 (F.2.2.2.2.2.2.2.2.1.1.1 k hk).2.1 hS hown hw (fun _ h => h) hd (kk X p l e R s m args below meth c A cells slots Q F hr oL oS.tl.i H locs ls hl hW hS)
theorem g_compact (hy : y.1.cls = RJ0) (hd : At y.2.1 pc (.getstatic 38) 3 n) (kk : Go y n L (.inl 1 :: st) σ V S) : Go y pc L st σ V S := by
  obtain ⟨hd, rfl⟩ := hd
  intro X p l e R s m args below meth c A cells slots Q F hr oL oS H locs ls hl hW hS
  have hw := F.2.2.2.2.1 _ flJ0_38
  have hown := F.2.2.2.1
  rw [hy] at hown
  exact va_gets F.1 F.2.1 F.2.2.2.2.2.2.2.2.1.2.1.1 hS hown hw (fun _ h => h) hd (kk X p l e R s m args below meth c A cells slots Q F hr oL oS.i H locs ls hl hW hS)
theorem g_blen {k : Nat} (hd : At y.2.1 pc .arraylength 1 n) (hk : k < 6) (kk : Go y n L (.inl (nI (lenJS.getD k 0)) :: st) σ V S) : Go y pc L (.inr (.inr (23, k)) :: st) σ V S := by
  obtain ⟨hd, rfl⟩ := hd
  intro X p l e R s m args below meth c A cells slots Q F hr oL oS H locs ls hl hW hS
  exact va_tlen F.1 F.2.1 (F.2.2.2.2.2.2.2.2.1.1.1 k hk).2.2.2 hS rfl hd (kk X p l e R s m args below meth c A cells slots Q F hr oL oS.tl.i H locs ls hl hW hS)
theorem g_bbld {k : Nat} {i : Int32} (hd : At y.2.1 pc .baload 1 n) (hk : k < 6) (hin : vp_in i (lenJS.getD k 0)) (kk : Go y n L (.inl ((bytJS.getD k []).getD i.toNatClampNeg 0) :: st) σ V S) : Go y pc L (.inl i :: .inr (.inr (23, k)) :: st) σ V S := by
  obtain ⟨hd, rfl⟩ := hd
  intro X p l e R s m args below meth c A cells slots Q F hr oL oS H locs ls hl hW hS
  exact va_tb F.1 F.2.1 (F.2.2.2.2.2.2.2.2.1.1.1 k hk).2.2.2 hS hin rfl hd (kk X p l e R s m args below meth c A cells slots Q F hr oL oS.tl.tl.i H locs ls hl hW hS)
theorem g_i2c {x v : Int32} (hd : At y.2.1 pc .i2c 1 n) (hv : (x.toUInt32 % 65536).toInt32 = v) (kk : Go y n L (.inl v :: st) σ V S) : Go y pc L (.inl x :: st) σ V S := by
  obtain ⟨hd, rfl⟩ := hd
  intro X p l e R s m args below meth c A cells slots Q F hr oL oS H locs ls hl hW hS
  exact lv_i2c F.1 F.2.1 hd hv (kk X p l e R s m args below meth c A cells slots Q F hr oL oS.tl.i H locs ls hl hW hS)
end STR
theorem EJ0_coder (k : Nat) (σ : Mem) : Ev mJ0_coder [.inr (.inr (12, k))] σ (some (.inl 0)) σ := by
  show Go mJ0_coder 0 [some (.inr (.inr (12, k)))] [] σ (some (.inl 0)) σ
  refine g_k6 (i := 0) rfl (fun hk => ?_)
  refine g_compact rfl aJ0_coder_0 ?_
  refine g_if_eq (tgt := 13) aJ0_coder_3 rfl (fun h => absurd h (by decide)) (fun _ => ?_)
  refine g_aload_n aJ0_coder_6 rfl ?_
  refine g_coder rfl aJ0_coder_7 hk ?_
  refine g_goto (tgt := 14) aJ0_coder_10 rfl ?_
  exact g_retE aJ0_coder_14 (show narrow .byte (.int 0) = .int 0 from rfl) rfl rfl
theorem EJ0_isLatin1 (k : Nat) (σ : Mem) : Ev mJ0_isLatin1 [.inr (.inr (12, k))] σ (some (.inl 1)) σ := by
  show Go mJ0_isLatin1 0 [some (.inr (.inr (12, k)))] [] σ (some (.inl 1)) σ
  refine g_k6 (i := 0) rfl (fun hk => ?_)
  refine g_compact rfl aJ0_isLatin1_0 ?_
  refine g_if_eq (tgt := 17) aJ0_isLatin1_3 rfl (fun h => absurd h (by decide)) (fun _ => ?_)
  refine g_aload_n aJ0_isLatin1_6 rfl ?_
  refine g_coder rfl aJ0_isLatin1_7 hk ?_
  refine g_if_ne (tgt := 17) aJ0_isLatin1_10 rfl (fun h => absurd rfl h) (fun _ => ?_)
  refine g_iconst (v := 1) aJ0_isLatin1_13 rfl ?_
  refine g_goto (tgt := 18) aJ0_isLatin1_14 rfl ?_
  exact g_retE aJ0_isLatin1_18 (Or.inr rfl) rfl rfl
theorem EJ0_length (k : Nat) (σ : Mem) : Ev mJ0_length [.inr (.inr (12, k))] σ (some (.inl (sLen k)) : Option AV) σ := by
  show Go mJ0_length 0 [some (.inr (.inr (12, k)))] [] σ (some (.inl (sLen k))) σ
  refine g_k6 (i := 0) rfl (fun hk => ?_)
  refine g_aload_n aJ0_length_0 rfl ?_
  refine g_val rfl aJ0_length_1 hk ?_
  refine g_blen aJ0_length_4 hk ?_
  refine g_aload_n aJ0_length_5 rfl ?_
  refine g_T0s (v1 := .inl 0) (σ1 := σ) aJ0_length_6 cvJ0_335 (EJ0_coder _ _) rfl (fun _ => ?_)
  refine g_ishr aJ0_length_9 ?_
  have e : nI (lenJS.getD k 0) >>> ((0 : Int32) &&& 31) = sLen k := by
    rcases (show k = 0 ∨ k = 1 ∨ k = 2 ∨ k = 3 ∨ k = 4 ∨ k = 5 by omega) with rfl | rfl | rfl | rfl | rfl | rfl <;> decide +kernel
  rw [e]
  exact g_retE aJ0_length_10 trivial rfl rfl
/-! the index looked at -/
theorem met_J3 (l : Launch) (i n : Int32) (v : Value) (h0 : ¬ i < 0) (h1 : i < n) (hv : v.category = 1) : Met l mJ3_checkIndex.1 (wsM mJ3_checkIndex) (rmM mJ3_checkIndex) (fun a _ => a = #[.int i, .int n, v]) (fun _ st o t => o = .returned (some (.int i)) ∧ t.heap = st.heap) 0 0 (fun _ => False) := by
  refine Met.ofW (cc := cJ3_checkIndex_8e157) (maxL := 3) (ret := some .int) mokJ3_checkIndex.2.1 rfl ?_
  intro p e s m args below meth c s₁ B hml hv0
  subst hv0
  have hl := lv_entry ([.int i, .int n, v]) (n := 3) (by
    have e : (lg_sl [Value.int i, .int n, v]).length = 3 := by cases v <;> first | rfl | cases hv
    omega)
  rw [lg_entry_eq (vs := [.int i, .int n, v])]
  have g0 := hl.2.2 (0, .int i) (by simp [lv_args])
  have g1 := hl.2.2 (1, .int n) (by simp [lv_args, Value.category])
  refine lv_iload_n B.exec B.bytes aJ3_checkIndex_0.1 rfl g0 ?_
  refine lv_if_lt (tgt := 9) B.exec B.bytes aJ3_checkIndex_1.1 rfl (fun h => absurd h h0) (fun _ => ?_)
  refine lv_iload_n B.exec B.bytes aJ3_checkIndex_4.1 rfl g0 ?_
  refine lv_iload_n B.exec B.bytes aJ3_checkIndex_5.1 rfl g1 ?_
  refine lv_icmp_lt (tgt := 16) B.exec B.bytes aJ3_checkIndex_6.1 rfl (fun _ => ?_) (fun h => absurd h1 h)
  refine lv_iload_n B.exec B.bytes aJ3_checkIndex_16.1 rfl g0 ?_
  exact W.iret B.exec B.bytes B.returns (fun t ht _ => ⟨rfl, ht⟩) (fun _ h => by cases h) aJ3_checkIndex_17.1 B.notSynchronized
theorem EJ0_checkIndex (i n : Int32) (σ : Mem) (h0 : ¬ i < 0) (h1 : i < n) : Ev mJ0_checkIndex [.inl i, .inl n] σ none σ := by
  show Go mJ0_checkIndex 0 [some (.inl i), some (.inl n)] [] σ none σ
  refine g_iload_n aJ0_checkIndex_0 rfl ?_
  refine g_iload_n aJ0_checkIndex_1 rfl ?_
  intro X p l e R s m args below meth c A cells slots Q F hr oL oS H locs ls hl hW hS
  have hts := F.2.2.2.2.1
  have hw := hts _ flJ0_1053
  have go : ∀ (v : Value), v.category = 1 → W p l e R s m args below meth c H locs cells slots Q (F0 m 5 ls (v :: List.map (cv (Kad X)) [.inl n, .inl i])) := by
    intro v hv
    obtain ⟨hM, hlk, hst, hna⟩ := csJ0_1059
    have cw := callB_of (R := R) (y := mJ3_checkIndex.1) (bytes := mJ3_checkIndex.2.1) (maxL := 3) (ret := some .int) (rm := rmM mJ3_checkIndex) (mc := 0) (ms := 0) (own := RJ0) (index := 1059) 3 hts (gt_GoodIn hM) (show wsM mJ3_checkIndex = _ :: gt from rfl) rfl rfl (hts _ hM.2.2.1) (hts _ hlk) ⟨hM.2.2.2.1.1, hM.2.2.2.1.2, hna⟩ ⟨Nat.le_trans (Nat.le_of_ble_eq_true rfl) F.2.2.2.2.2.2.2.2.2.2.1, Nat.le_trans (Nat.le_of_ble_eq_true rfl) F.2.2.2.2.2.2.2.2.2.2.2.1⟩
    have hrun := va_runS (H := H) (locs := locs) (cells := cells) (slots := slots) (below := below) (meth := meth) (e := e) (As := [.int i, .int n, v]) (rest := []) (g := F0 m 5 ls (v :: List.map (cv (Kad X)) [.inl n, .inl i])) (Ts := gt) ⟨F.1, F.2.1, F.2.2.1, F.2.2.2.1, hts⟩ (met_J3 l i n v h0 h1 hv) ⟨cw, hts _ hst⟩ ⟨fun _ _ _ _ h => h, fun _ _ _ => rfl⟩ rfl rfl hl.1 rfl (lv_room (Nat.le_of_ble_eq_true rfl)) aJ0_checkIndex_5.1 ⟨F.2.2.2.2.2.2.2.2.2.2.2.2.1, F.2.2.2.2.2.2.2.2.2.2.2.2.2⟩
    intro T hT X'
    obtain ⟨v', st₀, t, T', L, g0, X'', hL, e1, e2, ⟨hv', hh⟩, hst'⟩ := hrun T hT X'
    cases hv'
    have eL : L = [] := by
      cases L with
      | nil => rfl
      | cons q L => exact (hL q List.mem_cons_self).elim
    subst eL
    have kk : W p l e R s m args below meth c H locs cells slots Q (F0 m 8 ls [.int i]) := by
      refine lv_pop F.1 F.2.1 aJ0_checkIndex_8.1 rfl ?_
      exact hr 9 H locs ls aJ0_checkIndex_9.1 trivial (fun _ h => by cases h) hW hS
    obtain ⟨t2, a1, b1⟩ := kk T' (by rw [e1, hh, g0]) (by simpa using X'')
    exact ⟨t2, hst' t2 a1, b1⟩
  rcases F.2.2.2.2.2.2.2.2.1.2.1.2 with hz | ⟨t, hz⟩
  · exact va_gets F.1 F.2.1 hz hS F.2.2.2.1 hw (fun _ h => h) aJ0_checkIndex_2.1 (go .null rfl)
  · exact va_gets F.1 F.2.1 hz hS F.2.2.2.1 hw (fun _ h => h) aJ0_checkIndex_2.1 (go (.ref t) rfl)
theorem sc_all : ∀ k, k < 6 → ∀ b ∈ bytJS.getD k [], ((b &&& 255).toUInt32 % 65536).toInt32 = b ∧ narrow .char (.int b) = .int b := by decide +kernel
theorem sc_len : ∀ k, k < 6 → lenJS.getD k 0 = (bytJS.getD k []).length ∧ lenJS.getD k 0 < 8 := by decide +kernel
theorem sc_in {k : Nat} {i : Int32} (hk : k < 6) (h : inb i (lenJS.getD k 0) = true) : (¬ i < 0 ∧ i < nI (lenJS.getD k 0)) ∧ (((bytJS.getD k []).getD i.toNatClampNeg 0 &&& 255).toUInt32 % 65536).toInt32 = (bytJS.getD k []).getD i.toNatClampNeg 0 ∧ narrow .char (.int ((bytJS.getD k []).getD i.toNatClampNeg 0)) = .int ((bytJS.getD k []).getD i.toNatClampNeg 0) := by
  obtain ⟨h1, h2⟩ := sc_len k hk
  have hin := inb_ok h
  obtain ⟨j, hj, rfl⟩ := vp_in_of hin (by omega)
  refine ⟨⟨nI_pos (by omega), nI_lt hj (by omega)⟩, ?_⟩
  have e : (bytJS.getD k []).getD (nI j).toNatClampNeg 0 ∈ bytJS.getD k [] := by
    have hlt : j < (bytJS.getD k []).length := by omega
    rw [nI_clamp (by omega)]
    generalize bytJS.getD k [] = q at hlt ⊢
    rw [List.getD_eq_getElem?_getD, List.getElem?_eq_getElem hlt]
    exact List.getElem_mem _
  exact sc_all k hk _ e
theorem EJ1_charAt {k : Nat} {i : Int32} {σ : Mem} {w : Int32} (h : sAt k i = some w) : Ev mJ1_charAt [.inr (.inr (23, k)), .inl i] σ (some (.inl w) : Option AV) σ := by
  obtain ⟨hb, h⟩ := ck_inv h
  have h := Option.some.inj h
  subst h
  show Go mJ1_charAt 0 [some (.inr (.inr (23, k))), some (.inl i)] [] σ _ σ
  refine g_k6' (i := 0) rfl (fun hk => ?_)
  obtain ⟨⟨h0, h1⟩, e, hn⟩ := sc_in hk hb
  refine g_iload_n aJ1_charAt_0 rfl ?_
  refine g_aload_n aJ1_charAt_1 rfl ?_
  refine g_blen aJ1_charAt_2 hk ?_
  refine g_S2n (σ1 := σ) aJ1_charAt_3 csJ1_9 (EJ0_checkIndex _ _ _ h0 h1) rfl (fun _ => ?_)
  refine g_aload_n aJ1_charAt_6 rfl ?_
  refine g_iload_n aJ1_charAt_7 rfl ?_
  refine g_bbld aJ1_charAt_8 hk (inb_ok hb) ?_
  refine g_sipush (v := 255) aJ1_charAt_9 rfl ?_
  refine g_iand aJ1_charAt_12 ?_
  refine g_i2c aJ1_charAt_13 e ?_
  exact g_retE aJ1_charAt_14 hn rfl rfl
theorem EJ0_charAt {k : Nat} {i : Int32} {σ : Mem} {w : Int32} (h : sAt k i = some w) : Ev mJ0_charAt [.inr (.inr (12, k)), .inl i] σ (some (.inl w) : Option AV) σ := by
  show Go mJ0_charAt 0 [some (.inr (.inr (12, k))), some (.inl i)] [] σ _ σ
  refine g_k6 (i := 0) rfl (fun hk => ?_)
  refine g_aload_n aJ0_charAt_0 rfl ?_
  refine g_T0s (v1 := .inl 1) (σ1 := σ) aJ0_charAt_1 cvJ0_492 (EJ0_isLatin1 _ _) rfl (fun _ => ?_)
  refine g_if_eq (tgt := 16) aJ0_charAt_4 rfl (fun h => absurd h (by decide)) (fun _ => ?_)
  refine g_aload_n aJ0_charAt_7 rfl ?_
  refine g_val rfl aJ0_charAt_8 hk ?_
  refine g_iload_n aJ0_charAt_11 rfl ?_
  refine g_S2s (v1 := .inl w) (σ1 := σ) aJ0_charAt_12 csJ0_495 (EJ1_charAt h) rfl (fun hv => ?_)
  exact g_retE aJ0_charAt_15 hv rfl rfl
end
