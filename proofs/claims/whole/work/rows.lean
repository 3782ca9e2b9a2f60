section
-- ===== PART A: goes FIRST, ahead of the names: the tables' words, and 'selects' of the private methods out of them =====
/-- a private method of a class that the tables say can be made, by its rows of tables_1 -/
def lw_okq (q : MethodName × Nat) : Prop := (q.1.cls ≠ "java/lang/invoke/MethodHandle" ∧ q.1.cls ≠ "java/lang/invoke/VarHandle") ∧ Cond.instantiable q.1.cls q.2 ∈ tables_1 ∧ Cond.privateMethod q.1 ∈ tables_1 ∧ Cond.instanceMethod q.1 ∈ tables_1
theorem lw_p0 : lw_okq (⟨"SteepleStruck", "refuseBad", "()I"⟩, 16) := ⟨⟨by decide +kernel, by decide +kernel⟩, List.mem_of_getElem? (i := 20) (by decide +kernel), List.mem_of_getElem? (i := 326) (by decide +kernel), List.mem_of_getElem? (i := 327) (by decide +kernel)⟩
theorem lw_p1 : lw_okq (⟨"SteepleStruck", "refuseFull", "()I"⟩, 16) := ⟨⟨by decide +kernel, by decide +kernel⟩, List.mem_of_getElem? (i := 20) (by decide +kernel), List.mem_of_getElem? (i := 350) (by decide +kernel), List.mem_of_getElem? (i := 351) (by decide +kernel)⟩
theorem lw_p2 : lw_okq (⟨"SteepleStruck$Text", "nextToken", "()V"⟩, 7) := ⟨⟨by decide +kernel, by decide +kernel⟩, List.mem_of_getElem? (i := 161) (by decide +kernel), List.mem_of_getElem? (i := 403) (by decide +kernel), List.mem_of_getElem? (i := 404) (by decide +kernel)⟩
theorem lw_p3 : lw_okq (⟨"SteepleStruck$Text", "runEnd", "(III)I"⟩, 7) := ⟨⟨by decide +kernel, by decide +kernel⟩, List.mem_of_getElem? (i := 161) (by decide +kernel), List.mem_of_getElem? (i := 407) (by decide +kernel), List.mem_of_getElem? (i := 408) (by decide +kernel)⟩
theorem lw_p4 : lw_okq (⟨"SteepleStruck$Text", "wordToken", "()I"⟩, 7) := ⟨⟨by decide +kernel, by decide +kernel⟩, List.mem_of_getElem? (i := 161) (by decide +kernel), List.mem_of_getElem? (i := 416) (by decide +kernel), List.mem_of_getElem? (i := 417) (by decide +kernel)⟩
theorem lw_p5 : lw_okq (⟨"SteepleStruck$Text", "spells", "(Ljava/lang/String;)Z"⟩, 7) := ⟨⟨by decide +kernel, by decide +kernel⟩, List.mem_of_getElem? (i := 161) (by decide +kernel), List.mem_of_getElem? (i := 429) (by decide +kernel), List.mem_of_getElem? (i := 430) (by decide +kernel)⟩
theorem lw_p6 : lw_okq (⟨"SteepleStruck$Text", "numberToken", "()I"⟩, 7) := ⟨⟨by decide +kernel, by decide +kernel⟩, List.mem_of_getElem? (i := 161) (by decide +kernel), List.mem_of_getElem? (i := 481) (by decide +kernel), List.mem_of_getElem? (i := 482) (by decide +kernel)⟩
theorem lw_p7 : lw_okq (⟨"SteepleStruck$Text", "readNumbers", "(ILSteepleStruck$Village;)Z"⟩, 7) := ⟨⟨by decide +kernel, by decide +kernel⟩, List.mem_of_getElem? (i := 161) (by decide +kernel), List.mem_of_getElem? (i := 489) (by decide +kernel), List.mem_of_getElem? (i := 490) (by decide +kernel)⟩
theorem lw_p8 : lw_okq (⟨"SteepleStruck$Text", "readStop", "()Z"⟩, 7) := ⟨⟨by decide +kernel, by decide +kernel⟩, List.mem_of_getElem? (i := 161) (by decide +kernel), List.mem_of_getElem? (i := 503) (by decide +kernel), List.mem_of_getElem? (i := 504) (by decide +kernel)⟩
theorem lw_p9 : lw_okq (⟨"SteepleStruck$Text", "tell", "(ILSteepleStruck$Village;)V"⟩, 7) := ⟨⟨by decide +kernel, by decide +kernel⟩, List.mem_of_getElem? (i := 161) (by decide +kernel), List.mem_of_getElem? (i := 507) (by decide +kernel), List.mem_of_getElem? (i := 508) (by decide +kernel)⟩
theorem lw_p10 : lw_okq (⟨"SteepleStruck$Village", "struckIf", "(ILSteepleStruck$Moment;II)I"⟩, 8) := ⟨⟨by decide +kernel, by decide +kernel⟩, List.mem_of_getElem? (i := 28) (by decide +kernel), List.mem_of_getElem? (i := 527) (by decide +kernel), List.mem_of_getElem? (i := 528) (by decide +kernel)⟩
theorem lw_p11 : lw_okq (⟨"SteepleStruck$Village", "bringParts", "(LSteepleStruck$Moment;)V"⟩, 8) := ⟨⟨by decide +kernel, by decide +kernel⟩, List.mem_of_getElem? (i := 28) (by decide +kernel), List.mem_of_getElem? (i := 544) (by decide +kernel), List.mem_of_getElem? (i := 545) (by decide +kernel)⟩
theorem lw_p12 : lw_okq (⟨"SteepleStruck", "isThing", "(I)Z"⟩, 16) := ⟨⟨by decide +kernel, by decide +kernel⟩, List.mem_of_getElem? (i := 20) (by decide +kernel), List.mem_of_getElem? (i := 604) (by decide +kernel), List.mem_of_getElem? (i := 605) (by decide +kernel)⟩
theorem lw_p13 : lw_okq (⟨"SteepleStruck", "refuseNo", "()I"⟩, 16) := ⟨⟨by decide +kernel, by decide +kernel⟩, List.mem_of_getElem? (i := 20) (by decide +kernel), List.mem_of_getElem? (i := 614) (by decide +kernel), List.mem_of_getElem? (i := 615) (by decide +kernel)⟩
theorem lw_p14 : lw_okq (⟨"SteepleStruck", "isPart", "(I)Z"⟩, 16) := ⟨⟨by decide +kernel, by decide +kernel⟩, List.mem_of_getElem? (i := 20) (by decide +kernel), List.mem_of_getElem? (i := 631) (by decide +kernel), List.mem_of_getElem? (i := 632) (by decide +kernel)⟩
theorem lw_p15 : lw_okq (⟨"SteepleStruck", "summersUntil", "(I)I"⟩, 16) := ⟨⟨by decide +kernel, by decide +kernel⟩, List.mem_of_getElem? (i := 20) (by decide +kernel), List.mem_of_getElem? (i := 670) (by decide +kernel), List.mem_of_getElem? (i := 671) (by decide +kernel)⟩
def lw_privs_1 : List (MethodName × Nat) := [(⟨"SteepleStruck", "refuseBad", "()I"⟩, 16), (⟨"SteepleStruck", "refuseFull", "()I"⟩, 16), (⟨"SteepleStruck$Text", "nextToken", "()V"⟩, 7), (⟨"SteepleStruck$Text", "runEnd", "(III)I"⟩, 7), (⟨"SteepleStruck$Text", "wordToken", "()I"⟩, 7), (⟨"SteepleStruck$Text", "spells", "(Ljava/lang/String;)Z"⟩, 7), (⟨"SteepleStruck$Text", "numberToken", "()I"⟩, 7), (⟨"SteepleStruck$Text", "readNumbers", "(ILSteepleStruck$Village;)Z"⟩, 7), (⟨"SteepleStruck$Text", "readStop", "()Z"⟩, 7), (⟨"SteepleStruck$Text", "tell", "(ILSteepleStruck$Village;)V"⟩, 7), (⟨"SteepleStruck$Village", "struckIf", "(ILSteepleStruck$Moment;II)I"⟩, 8), (⟨"SteepleStruck$Village", "bringParts", "(LSteepleStruck$Moment;)V"⟩, 8), (⟨"SteepleStruck", "isThing", "(I)Z"⟩, 16), (⟨"SteepleStruck", "refuseNo", "()I"⟩, 16), (⟨"SteepleStruck", "isPart", "(I)Z"⟩, 16), (⟨"SteepleStruck", "summersUntil", "(I)I"⟩, 16)]
theorem lw_r1 : ∀ q ∈ lw_privs_1, lw_okq q := List.forall_mem_cons.mpr ⟨lw_p0, List.forall_mem_cons.mpr ⟨lw_p1, List.forall_mem_cons.mpr ⟨lw_p2, List.forall_mem_cons.mpr ⟨lw_p3, List.forall_mem_cons.mpr ⟨lw_p4, List.forall_mem_cons.mpr ⟨lw_p5, List.forall_mem_cons.mpr ⟨lw_p6, List.forall_mem_cons.mpr ⟨lw_p7, List.forall_mem_cons.mpr ⟨lw_p8, List.forall_mem_cons.mpr ⟨lw_p9, List.forall_mem_cons.mpr ⟨lw_p10, List.forall_mem_cons.mpr ⟨lw_p11, List.forall_mem_cons.mpr ⟨lw_p12, List.forall_mem_cons.mpr ⟨lw_p13, List.forall_mem_cons.mpr ⟨lw_p14, List.forall_mem_cons.mpr ⟨lw_p15, fun _ h => absurd h List.not_mem_nil⟩⟩⟩⟩⟩⟩⟩⟩⟩⟩⟩⟩⟩⟩⟩⟩
theorem lw_p16 : lw_okq (⟨"SteepleStruck", "isSparedBy", "(I)Z"⟩, 16) := ⟨⟨by decide +kernel, by decide +kernel⟩, List.mem_of_getElem? (i := 20) (by decide +kernel), List.mem_of_getElem? (i := 697) (by decide +kernel), List.mem_of_getElem? (i := 698) (by decide +kernel)⟩
theorem lw_p17 : lw_okq (⟨"SteepleStruck", "refuseBadTen", "()I"⟩, 16) := ⟨⟨by decide +kernel, by decide +kernel⟩, List.mem_of_getElem? (i := 20) (by decide +kernel), List.mem_of_getElem? (i := 706) (by decide +kernel), List.mem_of_getElem? (i := 707) (by decide +kernel)⟩
theorem lw_p18 : lw_okq (⟨"SteepleStruck$Orders", "spend", "(LSteepleStruck$Village;I)V"⟩, 5) := ⟨⟨by decide +kernel, by decide +kernel⟩, List.mem_of_getElem? (i := 204) (by decide +kernel), List.mem_of_getElem? (i := 716) (by decide +kernel), List.mem_of_getElem? (i := 717) (by decide +kernel)⟩
theorem lw_p19 : lw_okq (⟨"SteepleStruck$Orders", "mostReached", "(I)I"⟩, 5) := ⟨⟨by decide +kernel, by decide +kernel⟩, List.mem_of_getElem? (i := 204) (by decide +kernel), List.mem_of_getElem? (i := 730) (by decide +kernel), List.mem_of_getElem? (i := 731) (by decide +kernel)⟩
theorem lw_p20 : lw_okq (⟨"SteepleStruck$Orders", "reach", "(LSteepleStruck$Village;I)V"⟩, 5) := ⟨⟨by decide +kernel, by decide +kernel⟩, List.mem_of_getElem? (i := 204) (by decide +kernel), List.mem_of_getElem? (i := 735) (by decide +kernel), List.mem_of_getElem? (i := 736) (by decide +kernel)⟩
theorem lw_p21 : lw_okq (⟨"SteepleStruck$Orders", "choose", "(LSteepleStruck$Village;I)V"⟩, 5) := ⟨⟨by decide +kernel, by decide +kernel⟩, List.mem_of_getElem? (i := 204) (by decide +kernel), List.mem_of_getElem? (i := 741) (by decide +kernel), List.mem_of_getElem? (i := 742) (by decide +kernel)⟩
theorem lw_p22 : lw_okq (⟨"SteepleStruck$Orders", "firstFitting", "(LSteepleStruck$Village;IIZ)I"⟩, 5) := ⟨⟨by decide +kernel, by decide +kernel⟩, List.mem_of_getElem? (i := 204) (by decide +kernel), List.mem_of_getElem? (i := 745) (by decide +kernel), List.mem_of_getElem? (i := 746) (by decide +kernel)⟩
theorem lw_p23 : lw_okq (⟨"SteepleStruck$Guesses", "drawAll", "(III)V"⟩, 1) := ⟨⟨by decide +kernel, by decide +kernel⟩, List.mem_of_getElem? (i := 228) (by decide +kernel), List.mem_of_getElem? (i := 800) (by decide +kernel), List.mem_of_getElem? (i := 801) (by decide +kernel)⟩
theorem lw_p24 : lw_okq (⟨"SteepleStruck$Guesses", "answering", "(I)I"⟩, 1) := ⟨⟨by decide +kernel, by decide +kernel⟩, List.mem_of_getElem? (i := 228) (by decide +kernel), List.mem_of_getElem? (i := 806) (by decide +kernel), List.mem_of_getElem? (i := 807) (by decide +kernel)⟩
theorem lw_p25 : lw_okq (⟨"SteepleStruck$Guesses", "mostAlike", "(I)I"⟩, 1) := ⟨⟨by decide +kernel, by decide +kernel⟩, List.mem_of_getElem? (i := 228) (by decide +kernel), List.mem_of_getElem? (i := 819) (by decide +kernel), List.mem_of_getElem? (i := 820) (by decide +kernel)⟩
theorem lw_p26 : lw_okq (⟨"SteepleStruck$Guesses", "needAll", "(II)V"⟩, 1) := ⟨⟨by decide +kernel, by decide +kernel⟩, List.mem_of_getElem? (i := 228) (by decide +kernel), List.mem_of_getElem? (i := 833) (by decide +kernel), List.mem_of_getElem? (i := 834) (by decide +kernel)⟩
theorem lw_p27 : lw_okq (⟨"SteepleStruck$Bets", "gain", "(II)I"⟩, 2) := ⟨⟨by decide +kernel, by decide +kernel⟩, List.mem_of_getElem? (i := 240) (by decide +kernel), List.mem_of_getElem? (i := 855) (by decide +kernel), List.mem_of_getElem? (i := 856) (by decide +kernel)⟩
theorem lw_p28 : lw_okq (⟨"SteepleStruck$Bets", "rests", "(I)Z"⟩, 2) := ⟨⟨by decide +kernel, by decide +kernel⟩, List.mem_of_getElem? (i := 240) (by decide +kernel), List.mem_of_getElem? (i := 866) (by decide +kernel), List.mem_of_getElem? (i := 867) (by decide +kernel)⟩
theorem lw_p29 : lw_okq (⟨"SteepleStruck", "imageAt", "(I)LSteepleStruck$Village;"⟩, 16) := ⟨⟨by decide +kernel, by decide +kernel⟩, List.mem_of_getElem? (i := 20) (by decide +kernel), List.mem_of_getElem? (i := 915) (by decide +kernel), List.mem_of_getElem? (i := 916) (by decide +kernel)⟩
theorem lw_p30 : lw_okq (⟨"SteepleStruck", "countOf", "(I)I"⟩, 16) := ⟨⟨by decide +kernel, by decide +kernel⟩, List.mem_of_getElem? (i := 20) (by decide +kernel), List.mem_of_getElem? (i := 931) (by decide +kernel), List.mem_of_getElem? (i := 932) (by decide +kernel)⟩
theorem lw_p31 : lw_okq (⟨"SteepleStruckModel", "many", "()I"⟩, 19) := ⟨⟨by decide +kernel, by decide +kernel⟩, List.mem_of_getElem? (i := 951) (by decide +kernel), List.mem_of_getElem? (i := 1023) (by decide +kernel), List.mem_of_getElem? (i := 1024) (by decide +kernel)⟩
def lw_privs_2 : List (MethodName × Nat) := [(⟨"SteepleStruck", "isSparedBy", "(I)Z"⟩, 16), (⟨"SteepleStruck", "refuseBadTen", "()I"⟩, 16), (⟨"SteepleStruck$Orders", "spend", "(LSteepleStruck$Village;I)V"⟩, 5), (⟨"SteepleStruck$Orders", "mostReached", "(I)I"⟩, 5), (⟨"SteepleStruck$Orders", "reach", "(LSteepleStruck$Village;I)V"⟩, 5), (⟨"SteepleStruck$Orders", "choose", "(LSteepleStruck$Village;I)V"⟩, 5), (⟨"SteepleStruck$Orders", "firstFitting", "(LSteepleStruck$Village;IIZ)I"⟩, 5), (⟨"SteepleStruck$Guesses", "drawAll", "(III)V"⟩, 1), (⟨"SteepleStruck$Guesses", "answering", "(I)I"⟩, 1), (⟨"SteepleStruck$Guesses", "mostAlike", "(I)I"⟩, 1), (⟨"SteepleStruck$Guesses", "needAll", "(II)V"⟩, 1), (⟨"SteepleStruck$Bets", "gain", "(II)I"⟩, 2), (⟨"SteepleStruck$Bets", "rests", "(I)Z"⟩, 2), (⟨"SteepleStruck", "imageAt", "(I)LSteepleStruck$Village;"⟩, 16), (⟨"SteepleStruck", "countOf", "(I)I"⟩, 16), (⟨"SteepleStruckModel", "many", "()I"⟩, 19)]
theorem lw_r2 : ∀ q ∈ lw_privs_2, lw_okq q := List.forall_mem_cons.mpr ⟨lw_p16, List.forall_mem_cons.mpr ⟨lw_p17, List.forall_mem_cons.mpr ⟨lw_p18, List.forall_mem_cons.mpr ⟨lw_p19, List.forall_mem_cons.mpr ⟨lw_p20, List.forall_mem_cons.mpr ⟨lw_p21, List.forall_mem_cons.mpr ⟨lw_p22, List.forall_mem_cons.mpr ⟨lw_p23, List.forall_mem_cons.mpr ⟨lw_p24, List.forall_mem_cons.mpr ⟨lw_p25, List.forall_mem_cons.mpr ⟨lw_p26, List.forall_mem_cons.mpr ⟨lw_p27, List.forall_mem_cons.mpr ⟨lw_p28, List.forall_mem_cons.mpr ⟨lw_p29, List.forall_mem_cons.mpr ⟨lw_p30, List.forall_mem_cons.mpr ⟨lw_p31, fun _ h => absurd h List.not_mem_nil⟩⟩⟩⟩⟩⟩⟩⟩⟩⟩⟩⟩⟩⟩⟩⟩
theorem lw_p32 : lw_okq (⟨"SteepleStruckModel", "bad", "(I)I"⟩, 19) := ⟨⟨by decide +kernel, by decide +kernel⟩, List.mem_of_getElem? (i := 951) (by decide +kernel), List.mem_of_getElem? (i := 1040) (by decide +kernel), List.mem_of_getElem? (i := 1041) (by decide +kernel)⟩
theorem lw_p33 : lw_okq (⟨"SteepleStruckModel", "full", "()I"⟩, 19) := ⟨⟨by decide +kernel, by decide +kernel⟩, List.mem_of_getElem? (i := 951) (by decide +kernel), List.mem_of_getElem? (i := 1052) (by decide +kernel), List.mem_of_getElem? (i := 1053) (by decide +kernel)⟩
theorem lw_p34 : lw_okq (⟨"SteepleStruckModel", "save", "()V"⟩, 19) := ⟨⟨by decide +kernel, by decide +kernel⟩, List.mem_of_getElem? (i := 951) (by decide +kernel), List.mem_of_getElem? (i := 1068) (by decide +kernel), List.mem_of_getElem? (i := 1069) (by decide +kernel)⟩
theorem lw_p35 : lw_okq (⟨"SteepleStruckModel", "isThing", "(I)Z"⟩, 19) := ⟨⟨by decide +kernel, by decide +kernel⟩, List.mem_of_getElem? (i := 951) (by decide +kernel), List.mem_of_getElem? (i := 1109) (by decide +kernel), List.mem_of_getElem? (i := 1110) (by decide +kernel)⟩
theorem lw_p36 : lw_okq (⟨"SteepleStruckModel", "no", "()I"⟩, 19) := ⟨⟨by decide +kernel, by decide +kernel⟩, List.mem_of_getElem? (i := 951) (by decide +kernel), List.mem_of_getElem? (i := 1117) (by decide +kernel), List.mem_of_getElem? (i := 1118) (by decide +kernel)⟩
theorem lw_p37 : lw_okq (⟨"SteepleStruckModel", "isPart", "(I)Z"⟩, 19) := ⟨⟨by decide +kernel, by decide +kernel⟩, List.mem_of_getElem? (i := 951) (by decide +kernel), List.mem_of_getElem? (i := 1130) (by decide +kernel), List.mem_of_getElem? (i := 1131) (by decide +kernel)⟩
theorem lw_p38 : lw_okq (⟨"SteepleStruckModel", "layHand", "()V"⟩, 19) := ⟨⟨by decide +kernel, by decide +kernel⟩, List.mem_of_getElem? (i := 951) (by decide +kernel), List.mem_of_getElem? (i := 1151) (by decide +kernel), List.mem_of_getElem? (i := 1152) (by decide +kernel)⟩
theorem lw_p39 : lw_okq (⟨"SteepleStruckModel", "whenOf", "(I)I"⟩, 19) := ⟨⟨by decide +kernel, by decide +kernel⟩, List.mem_of_getElem? (i := 951) (by decide +kernel), List.mem_of_getElem? (i := 1159) (by decide +kernel), List.mem_of_getElem? (i := 1160) (by decide +kernel)⟩
theorem lw_p40 : lw_okq (⟨"SteepleStruckModel", "cellsBy", "(I)I"⟩, 19) := ⟨⟨by decide +kernel, by decide +kernel⟩, List.mem_of_getElem? (i := 951) (by decide +kernel), List.mem_of_getElem? (i := 1167) (by decide +kernel), List.mem_of_getElem? (i := 1168) (by decide +kernel)⟩
theorem lw_p41 : lw_okq (⟨"SteepleStruckModel", "layMissing", "()I"⟩, 19) := ⟨⟨by decide +kernel, by decide +kernel⟩, List.mem_of_getElem? (i := 951) (by decide +kernel), List.mem_of_getElem? (i := 1184) (by decide +kernel), List.mem_of_getElem? (i := 1185) (by decide +kernel)⟩
theorem lw_p42 : lw_okq (⟨"SteepleStruckModel", "layOrder", "(II)V"⟩, 19) := ⟨⟨by decide +kernel, by decide +kernel⟩, List.mem_of_getElem? (i := 951) (by decide +kernel), List.mem_of_getElem? (i := 1188) (by decide +kernel), List.mem_of_getElem? (i := 1189) (by decide +kernel)⟩
theorem lw_p43 : lw_okq (⟨"SteepleStruckModel", "comeBy", "(II)I"⟩, 19) := ⟨⟨by decide +kernel, by decide +kernel⟩, List.mem_of_getElem? (i := 951) (by decide +kernel), List.mem_of_getElem? (i := 1192) (by decide +kernel), List.mem_of_getElem? (i := 1193) (by decide +kernel)⟩
theorem lw_p44 : lw_okq (⟨"SteepleStruckModel", "isSeenBy", "(II)Z"⟩, 19) := ⟨⟨by decide +kernel, by decide +kernel⟩, List.mem_of_getElem? (i := 951) (by decide +kernel), List.mem_of_getElem? (i := 1204) (by decide +kernel), List.mem_of_getElem? (i := 1205) (by decide +kernel)⟩
theorem lw_p45 : lw_okq (⟨"SteepleStruckModel", "kindsOfThing", "(I)I"⟩, 19) := ⟨⟨by decide +kernel, by decide +kernel⟩, List.mem_of_getElem? (i := 951) (by decide +kernel), List.mem_of_getElem? (i := 1224) (by decide +kernel), List.mem_of_getElem? (i := 1225) (by decide +kernel)⟩
theorem lw_p46 : lw_okq (⟨"SteepleStruckModel", "mostAlike", "(I)I"⟩, 19) := ⟨⟨by decide +kernel, by decide +kernel⟩, List.mem_of_getElem? (i := 951) (by decide +kernel), List.mem_of_getElem? (i := 1233) (by decide +kernel), List.mem_of_getElem? (i := 1234) (by decide +kernel)⟩
theorem lw_p47 : lw_okq (⟨"SteepleStruckModel", "kindsOfPart", "(I)I"⟩, 19) := ⟨⟨by decide +kernel, by decide +kernel⟩, List.mem_of_getElem? (i := 951) (by decide +kernel), List.mem_of_getElem? (i := 1241) (by decide +kernel), List.mem_of_getElem? (i := 1242) (by decide +kernel)⟩
def lw_privs_3 : List (MethodName × Nat) := [(⟨"SteepleStruckModel", "bad", "(I)I"⟩, 19), (⟨"SteepleStruckModel", "full", "()I"⟩, 19), (⟨"SteepleStruckModel", "save", "()V"⟩, 19), (⟨"SteepleStruckModel", "isThing", "(I)Z"⟩, 19), (⟨"SteepleStruckModel", "no", "()I"⟩, 19), (⟨"SteepleStruckModel", "isPart", "(I)Z"⟩, 19), (⟨"SteepleStruckModel", "layHand", "()V"⟩, 19), (⟨"SteepleStruckModel", "whenOf", "(I)I"⟩, 19), (⟨"SteepleStruckModel", "cellsBy", "(I)I"⟩, 19), (⟨"SteepleStruckModel", "layMissing", "()I"⟩, 19), (⟨"SteepleStruckModel", "layOrder", "(II)V"⟩, 19), (⟨"SteepleStruckModel", "comeBy", "(II)I"⟩, 19), (⟨"SteepleStruckModel", "isSeenBy", "(II)Z"⟩, 19), (⟨"SteepleStruckModel", "kindsOfThing", "(I)I"⟩, 19), (⟨"SteepleStruckModel", "mostAlike", "(I)I"⟩, 19), (⟨"SteepleStruckModel", "kindsOfPart", "(I)I"⟩, 19)]
theorem lw_r3 : ∀ q ∈ lw_privs_3, lw_okq q := List.forall_mem_cons.mpr ⟨lw_p32, List.forall_mem_cons.mpr ⟨lw_p33, List.forall_mem_cons.mpr ⟨lw_p34, List.forall_mem_cons.mpr ⟨lw_p35, List.forall_mem_cons.mpr ⟨lw_p36, List.forall_mem_cons.mpr ⟨lw_p37, List.forall_mem_cons.mpr ⟨lw_p38, List.forall_mem_cons.mpr ⟨lw_p39, List.forall_mem_cons.mpr ⟨lw_p40, List.forall_mem_cons.mpr ⟨lw_p41, List.forall_mem_cons.mpr ⟨lw_p42, List.forall_mem_cons.mpr ⟨lw_p43, List.forall_mem_cons.mpr ⟨lw_p44, List.forall_mem_cons.mpr ⟨lw_p45, List.forall_mem_cons.mpr ⟨lw_p46, List.forall_mem_cons.mpr ⟨lw_p47, fun _ h => absurd h List.not_mem_nil⟩⟩⟩⟩⟩⟩⟩⟩⟩⟩⟩⟩⟩⟩⟩⟩
theorem lw_p48 : lw_okq (⟨"SteepleStruckModel", "fraction", "(JJ)V"⟩, 19) := ⟨⟨by decide +kernel, by decide +kernel⟩, List.mem_of_getElem? (i := 951) (by decide +kernel), List.mem_of_getElem? (i := 1267) (by decide +kernel), List.mem_of_getElem? (i := 1268) (by decide +kernel)⟩
theorem lw_p49 : lw_okq (⟨"SteepleStruckModel", "lookAt", "(I)V"⟩, 19) := ⟨⟨by decide +kernel, by decide +kernel⟩, List.mem_of_getElem? (i := 951) (by decide +kernel), List.mem_of_getElem? (i := 1295) (by decide +kernel), List.mem_of_getElem? (i := 1296) (by decide +kernel)⟩
theorem lw_p50 : lw_okq (⟨"SteepleStruckModel", "spellsSeven", "(IIIIIII)Z"⟩, 19) := ⟨⟨by decide +kernel, by decide +kernel⟩, List.mem_of_getElem? (i := 951) (by decide +kernel), List.mem_of_getElem? (i := 1309) (by decide +kernel), List.mem_of_getElem? (i := 1310) (by decide +kernel)⟩
theorem lw_p51 : lw_okq (⟨"SteepleStruckModel", "goBehind", "()V"⟩, 19) := ⟨⟨by decide +kernel, by decide +kernel⟩, List.mem_of_getElem? (i := 951) (by decide +kernel), List.mem_of_getElem? (i := 1313) (by decide +kernel), List.mem_of_getElem? (i := 1314) (by decide +kernel)⟩
theorem lw_p52 : lw_okq (⟨"SteepleStruckModel", "givesItem", "()Z"⟩, 19) := ⟨⟨by decide +kernel, by decide +kernel⟩, List.mem_of_getElem? (i := 951) (by decide +kernel), List.mem_of_getElem? (i := 1317) (by decide +kernel), List.mem_of_getElem? (i := 1318) (by decide +kernel)⟩
theorem lw_p53 : lw_okq (⟨"SteepleStruckModel", "spells", "(IIIIIII)Z"⟩, 19) := ⟨⟨by decide +kernel, by decide +kernel⟩, List.mem_of_getElem? (i := 951) (by decide +kernel), List.mem_of_getElem? (i := 1321) (by decide +kernel), List.mem_of_getElem? (i := 1322) (by decide +kernel)⟩
theorem lw_p54 : lw_okq (⟨"SteepleStruckModel", "givesStorm", "()Z"⟩, 19) := ⟨⟨by decide +kernel, by decide +kernel⟩, List.mem_of_getElem? (i := 951) (by decide +kernel), List.mem_of_getElem? (i := 1325) (by decide +kernel), List.mem_of_getElem? (i := 1326) (by decide +kernel)⟩
theorem lw_p55 : lw_okq (⟨"SteepleStruckModel", "gives", "(III)Z"⟩, 19) := ⟨⟨by decide +kernel, by decide +kernel⟩, List.mem_of_getElem? (i := 951) (by decide +kernel), List.mem_of_getElem? (i := 1329) (by decide +kernel), List.mem_of_getElem? (i := 1330) (by decide +kernel)⟩
theorem lw_p56 : lw_okq (⟨"SteepleStruckModel", "givesThing", "()Z"⟩, 19) := ⟨⟨by decide +kernel, by decide +kernel⟩, List.mem_of_getElem? (i := 951) (by decide +kernel), List.mem_of_getElem? (i := 1333) (by decide +kernel), List.mem_of_getElem? (i := 1334) (by decide +kernel)⟩
theorem lw_p57 : lw_okq (⟨"SteepleStruckModel", "givesPart", "()Z"⟩, 19) := ⟨⟨by decide +kernel, by decide +kernel⟩, List.mem_of_getElem? (i := 951) (by decide +kernel), List.mem_of_getElem? (i := 1337) (by decide +kernel), List.mem_of_getElem? (i := 1338) (by decide +kernel)⟩
theorem lw_p58 : lw_okq (⟨"SteepleStruckModel", "givesTake", "()Z"⟩, 19) := ⟨⟨by decide +kernel, by decide +kernel⟩, List.mem_of_getElem? (i := 951) (by decide +kernel), List.mem_of_getElem? (i := 1341) (by decide +kernel), List.mem_of_getElem? (i := 1342) (by decide +kernel)⟩
theorem lw_p59 : lw_okq (⟨"SteepleStruckModel", "givesSummers", "()Z"⟩, 19) := ⟨⟨by decide +kernel, by decide +kernel⟩, List.mem_of_getElem? (i := 951) (by decide +kernel), List.mem_of_getElem? (i := 1345) (by decide +kernel), List.mem_of_getElem? (i := 1346) (by decide +kernel)⟩
theorem lw_p60 : lw_okq (⟨"SteepleStruckModel", "counted", "(I)I"⟩, 19) := ⟨⟨by decide +kernel, by decide +kernel⟩, List.mem_of_getElem? (i := 951) (by decide +kernel), List.mem_of_getElem? (i := 1369) (by decide +kernel), List.mem_of_getElem? (i := 1370) (by decide +kernel)⟩
theorem lw_p61 : lw_okq (⟨"SteepleStruckModel", "sums", "(JII)J"⟩, 19) := ⟨⟨by decide +kernel, by decide +kernel⟩, List.mem_of_getElem? (i := 951) (by decide +kernel), List.mem_of_getElem? (i := 1379) (by decide +kernel), List.mem_of_getElem? (i := 1380) (by decide +kernel)⟩
def lw_privs_4 : List (MethodName × Nat) := [(⟨"SteepleStruckModel", "fraction", "(JJ)V"⟩, 19), (⟨"SteepleStruckModel", "lookAt", "(I)V"⟩, 19), (⟨"SteepleStruckModel", "spellsSeven", "(IIIIIII)Z"⟩, 19), (⟨"SteepleStruckModel", "goBehind", "()V"⟩, 19), (⟨"SteepleStruckModel", "givesItem", "()Z"⟩, 19), (⟨"SteepleStruckModel", "spells", "(IIIIIII)Z"⟩, 19), (⟨"SteepleStruckModel", "givesStorm", "()Z"⟩, 19), (⟨"SteepleStruckModel", "gives", "(III)Z"⟩, 19), (⟨"SteepleStruckModel", "givesThing", "()Z"⟩, 19), (⟨"SteepleStruckModel", "givesPart", "()Z"⟩, 19), (⟨"SteepleStruckModel", "givesTake", "()Z"⟩, 19), (⟨"SteepleStruckModel", "givesSummers", "()Z"⟩, 19), (⟨"SteepleStruckModel", "counted", "(I)I"⟩, 19), (⟨"SteepleStruckModel", "sums", "(JII)J"⟩, 19)]
theorem lw_r4 : ∀ q ∈ lw_privs_4, lw_okq q := List.forall_mem_cons.mpr ⟨lw_p48, List.forall_mem_cons.mpr ⟨lw_p49, List.forall_mem_cons.mpr ⟨lw_p50, List.forall_mem_cons.mpr ⟨lw_p51, List.forall_mem_cons.mpr ⟨lw_p52, List.forall_mem_cons.mpr ⟨lw_p53, List.forall_mem_cons.mpr ⟨lw_p54, List.forall_mem_cons.mpr ⟨lw_p55, List.forall_mem_cons.mpr ⟨lw_p56, List.forall_mem_cons.mpr ⟨lw_p57, List.forall_mem_cons.mpr ⟨lw_p58, List.forall_mem_cons.mpr ⟨lw_p59, List.forall_mem_cons.mpr ⟨lw_p60, List.forall_mem_cons.mpr ⟨lw_p61, fun _ h => absurd h List.not_mem_nil⟩⟩⟩⟩⟩⟩⟩⟩⟩⟩⟩⟩⟩⟩
def lw_privs : List (MethodName × Nat) := lw_privs_1 ++ (lw_privs_2 ++ (lw_privs_3 ++ (lw_privs_4)))
def lw_tbl : List Cond := k2_sels lw_privs ++ tables_1
theorem lw_privs_ok : ∀ q ∈ lw_privs, lw_okq q := by
  show ∀ q ∈ lw_privs_1 ++ (lw_privs_2 ++ (lw_privs_3 ++ (lw_privs_4))), lw_okq q
  exact List.forall_mem_append.mpr ⟨lw_r1, List.forall_mem_append.mpr ⟨lw_r2, List.forall_mem_append.mpr ⟨lw_r3, lw_r4⟩⟩⟩
end
section
def RX0 : String := "SteepleStruck$Bets"
def TX0 : u_T := fun k => match k with
  | 0 => ("SteepleStruck$Bets", "best", "LSteepleStruck$Row;", true)
  | _ => ("SteepleStruck$Bets", "when", "I", false)
def tyX0 : Nat → FieldType := fun k => match k with
  | 0 => .object "SteepleStruck$Row"
  | _ => .int
abbrev wsX00 : List Cond := u_ws RX0 TX0 2
theorem nmX0 : ∀ a, a < 2 → ∀ b, b < 2 → a ≠ b → (TX0 a).2.1 ≠ (TX0 b).2.1 := by decide +kernel
theorem tyX0_ok : ∀ k, k < 2 → parseFieldDescriptor (TX0 k).2.2.1 = some (tyX0 k) := by decide +kernel
abbrev cX0_init : ByteArray := prog_2_method_1_code
def yX0_init : MethodName := ⟨RX0, "<init>", "()V"⟩
abbrev cX0_settle : ByteArray := prog_2_method_2_code
def yX0_settle : MethodName := ⟨RX0, "settle", "(I)V"⟩
abbrev cX0_resting : ByteArray := prog_2_method_3_code
def yX0_resting : MethodName := ⟨RX0, "resting", "()I"⟩
abbrev cX0_restingAt : ByteArray := prog_2_method_4_code
def yX0_restingAt : MethodName := ⟨RX0, "restingAt", "(I)I"⟩
abbrev cX0_rests : ByteArray := prog_2_method_5_code
def yX0_rests : MethodName := ⟨RX0, "rests", "(I)Z"⟩
abbrev cX0_gain : ByteArray := prog_2_method_6_code
def yX0_gain : MethodName := ⟨RX0, "gain", "(II)I"⟩
def RX1 : String := "SteepleStruck$Fraction"
def TX1 : u_T := fun k => match k with
  | 0 => ("SteepleStruck$Fraction", "above", "J", false)
  | _ => ("SteepleStruck$Fraction", "below", "J", false)
def tyX1 : Nat → FieldType := fun k => match k with
  | 0 => .long
  | _ => .long
abbrev wsX10 : List Cond := u_ws RX1 TX1 2
theorem nmX1 : ∀ a, a < 2 → ∀ b, b < 2 → a ≠ b → (TX1 a).2.1 ≠ (TX1 b).2.1 := by decide +kernel
theorem tyX1_ok : ∀ k, k < 2 → parseFieldDescriptor (TX1 k).2.2.1 = some (tyX1 k) := by decide +kernel
abbrev cX1_init : ByteArray := prog_3_method_1_code
def yX1_init : MethodName := ⟨RX1, "<init>", "()V"⟩
abbrev cX1_above : ByteArray := prog_3_method_2_code
def yX1_above : MethodName := ⟨RX1, "above", "()J"⟩
abbrev cX1_below : ByteArray := prog_3_method_3_code
def yX1_below : MethodName := ⟨RX1, "below", "()J"⟩
abbrev cX1_set : ByteArray := prog_3_method_4_code
def yX1_set : MethodName := ⟨RX1, "set", "(JJ)V"⟩
abbrev cX1_commonOf : ByteArray := prog_3_method_5_code
def yX1_commonOf : MethodName := ⟨RX1, "commonOf", "(JJ)J"⟩
def RX2 : String := "SteepleStruck$Guesses"
def TX2 : u_T := fun k => match k with
  | _ => ("SteepleStruck$Guesses", "answers", "LSteepleStruck$Row;", true)
def tyX2 : Nat → FieldType := fun k => match k with
  | _ => .object "SteepleStruck$Row"
abbrev wsX20 : List Cond := u_ws RX2 TX2 1
theorem nmX2 : ∀ a, a < 1 → ∀ b, b < 1 → a ≠ b → (TX2 a).2.1 ≠ (TX2 b).2.1 := by decide +kernel
theorem tyX2_ok : ∀ k, k < 1 → parseFieldDescriptor (TX2 k).2.2.1 = some (tyX2 k) := by decide +kernel
abbrev cX2_init : ByteArray := prog_4_method_1_code
def yX2_init : MethodName := ⟨RX2, "<init>", "()V"⟩
abbrev cX2_thingKinds : ByteArray := prog_4_method_2_code
def yX2_thingKinds : MethodName := ⟨RX2, "thingKinds", "(LSteepleStruck$Table;I)I"⟩
abbrev cX2_partKinds : ByteArray := prog_4_method_3_code
def yX2_partKinds : MethodName := ⟨RX2, "partKinds", "(LSteepleStruck$Table;I)I"⟩
abbrev cX2_bestLook : ByteArray := prog_4_method_4_code
def yX2_bestLook : MethodName := ⟨RX2, "bestLook", "(II)I"⟩
abbrev cX2_bestAsk : ByteArray := prog_4_method_5_code
def yX2_bestAsk : MethodName := ⟨RX2, "bestAsk", "(I)I"⟩
abbrev cX2_drawAll : ByteArray := prog_4_method_6_code
def yX2_drawAll : MethodName := ⟨RX2, "drawAll", "(III)V"⟩
abbrev cX2_needAll : ByteArray := prog_4_method_7_code
def yX2_needAll : MethodName := ⟨RX2, "needAll", "(II)V"⟩
abbrev cX2_answering : ByteArray := prog_4_method_8_code
def yX2_answering : MethodName := ⟨RX2, "answering", "(I)I"⟩
abbrev cX2_mostAlike : ByteArray := prog_4_method_9_code
def yX2_mostAlike : MethodName := ⟨RX2, "mostAlike", "(I)I"⟩
def RX3 : String := "SteepleStruck$Kinds"
def TX3 : u_T := fun k => match k with
  | _ => ("", "", "", false)
def tyX3 : Nat → FieldType := fun k => match k with
  | _ => .int
abbrev wsX30 : List Cond := u_ws RX3 TX3 0
theorem nmX3 : ∀ a, a < 0 → ∀ b, b < 0 → a ≠ b → (TX3 a).2.1 ≠ (TX3 b).2.1 := by decide +kernel
theorem tyX3_ok : ∀ k, k < 0 → parseFieldDescriptor (TX3 k).2.2.1 = some (tyX3 k) := by decide +kernel
abbrev cX3_draw : ByteArray := prog_5_method_2_code
def yX3_draw : MethodName := ⟨RX3, "draw", "(IIII)I"⟩
abbrev cX3_need : ByteArray := prog_5_method_3_code
def yX3_need : MethodName := ⟨RX3, "need", "(III)I"⟩
def RX4 : String := "SteepleStruck$Moment"
def TX4 : u_T := fun k => match k with
  | 0 => ("SteepleStruck$Moment", "up", "I", false)
  | 1 => ("SteepleStruck$Moment", "there", "I", false)
  | 2 => ("SteepleStruck$Moment", "charge", "I", false)
  | _ => ("SteepleStruck$Moment", "summer", "I", false)
def tyX4 : Nat → FieldType := fun k => match k with
  | 0 => .int
  | 1 => .int
  | 2 => .int
  | _ => .int
abbrev wsX40 : List Cond := u_ws RX4 TX4 4
theorem nmX4 : ∀ a, a < 4 → ∀ b, b < 4 → a ≠ b → (TX4 a).2.1 ≠ (TX4 b).2.1 := by decide +kernel
theorem tyX4_ok : ∀ k, k < 4 → parseFieldDescriptor (TX4 k).2.2.1 = some (tyX4 k) := by decide +kernel
abbrev cX4_init : ByteArray := prog_6_method_1_code
def yX4_init : MethodName := ⟨RX4, "<init>", "()V"⟩
abbrev cX4_set : ByteArray := prog_6_method_2_code
def yX4_set : MethodName := ⟨RX4, "set", "(IIII)V"⟩
abbrev cX4_takeFrom : ByteArray := prog_6_method_3_code
def yX4_takeFrom : MethodName := ⟨RX4, "takeFrom", "(LSteepleStruck$Moment;)V"⟩
abbrev cX4_isUp : ByteArray := prog_6_method_4_code
def yX4_isUp : MethodName := ⟨RX4, "isUp", "(I)Z"⟩
abbrev cX4_isThere : ByteArray := prog_6_method_5_code
def yX4_isThere : MethodName := ⟨RX4, "isThere", "(I)Z"⟩
abbrev cX4_partsThere : ByteArray := prog_6_method_6_code
def yX4_partsThere : MethodName := ⟨RX4, "partsThere", "()I"⟩
def RX5 : String := "SteepleStruck$Orders"
def TX5 : u_T := fun k => match k with
  | 0 => ("SteepleStruck$Orders", "left", "LSteepleStruck$Row;", true)
  | 1 => ("SteepleStruck$Orders", "least", "LSteepleStruck$Row;", true)
  | 2 => ("SteepleStruck$Orders", "order", "LSteepleStruck$Row;", true)
  | 3 => ("SteepleStruck$Orders", "length", "I", false)
  | _ => ("SteepleStruck$Orders", "most", "I", false)
def tyX5 : Nat → FieldType := fun k => match k with
  | 0 => .object "SteepleStruck$Row"
  | 1 => .object "SteepleStruck$Row"
  | 2 => .object "SteepleStruck$Row"
  | 3 => .int
  | _ => .int
abbrev wsX50 : List Cond := u_ws RX5 TX5 5
theorem nmX5 : ∀ a, a < 5 → ∀ b, b < 5 → a ≠ b → (TX5 a).2.1 ≠ (TX5 b).2.1 := by decide +kernel
theorem tyX5_ok : ∀ k, k < 5 → parseFieldDescriptor (TX5 k).2.2.1 = some (tyX5 k) := by decide +kernel
abbrev cX5_init : ByteArray := prog_7_method_1_code
def yX5_init : MethodName := ⟨RX5, "<init>", "()V"⟩
abbrev cX5_length : ByteArray := prog_7_method_2_code
def yX5_length : MethodName := ⟨RX5, "length", "()I"⟩
abbrev cX5_most : ByteArray := prog_7_method_3_code
def yX5_most : MethodName := ⟨RX5, "most", "()I"⟩
abbrev cX5_at : ByteArray := prog_7_method_4_code
def yX5_at : MethodName := ⟨RX5, "at", "(I)I"⟩
abbrev cX5_search : ByteArray := prog_7_method_5_code
def yX5_search : MethodName := ⟨RX5, "search", "(LSteepleStruck$Village;I)V"⟩
abbrev cX5_spend : ByteArray := prog_7_method_6_code
def yX5_spend : MethodName := ⟨RX5, "spend", "(LSteepleStruck$Village;I)V"⟩
abbrev cX5_mostReached : ByteArray := prog_7_method_7_code
def yX5_mostReached : MethodName := ⟨RX5, "mostReached", "(I)I"⟩
abbrev cX5_reach : ByteArray := prog_7_method_8_code
def yX5_reach : MethodName := ⟨RX5, "reach", "(LSteepleStruck$Village;I)V"⟩
abbrev cX5_choose : ByteArray := prog_7_method_9_code
def yX5_choose : MethodName := ⟨RX5, "choose", "(LSteepleStruck$Village;I)V"⟩
abbrev cX5_firstFitting : ByteArray := prog_7_method_10_code
def yX5_firstFitting : MethodName := ⟨RX5, "firstFitting", "(LSteepleStruck$Village;IIZ)I"⟩
abbrev cX5_needBehind : ByteArray := prog_7_method_11_code
def yX5_needBehind : MethodName := ⟨RX5, "needBehind", "(LSteepleStruck$Village;II)I"⟩
def RX6 : String := "SteepleStruck$Row"
def TX6 : u_T := fun k => match k with
  | _ => ("SteepleStruck$Row", "cells", "[I", true)
def tyX6 : Nat → FieldType := fun k => match k with
  | _ => .array .int
abbrev wsX60 : List Cond := u_ws RX6 TX6 1
theorem nmX6 : ∀ a, a < 1 → ∀ b, b < 1 → a ≠ b → (TX6 a).2.1 ≠ (TX6 b).2.1 := by decide +kernel
theorem tyX6_ok : ∀ k, k < 1 → parseFieldDescriptor (TX6 k).2.2.1 = some (tyX6 k) := by decide +kernel
abbrev cX6_init : ByteArray := prog_8_method_1_code
def yX6_init : MethodName := ⟨RX6, "<init>", "(I)V"⟩
abbrev cX6_at : ByteArray := prog_8_method_2_code
def yX6_at : MethodName := ⟨RX6, "at", "(I)I"⟩
abbrev cX6_put : ByteArray := prog_8_method_3_code
def yX6_put : MethodName := ⟨RX6, "put", "(II)V"⟩
abbrev cX6_fill : ByteArray := prog_8_method_4_code
def yX6_fill : MethodName := ⟨RX6, "fill", "(I)V"⟩
def RX7 : String := "SteepleStruck$Table"
def TX7 : u_T := fun k => match k with
  | 0 => ("SteepleStruck$Table", "most", "I", true)
  | 1 => ("SteepleStruck$Table", "width", "I", true)
  | 2 => ("SteepleStruck$Table", "cells", "[I", true)
  | _ => ("SteepleStruck$Table", "size", "I", false)
def tyX7 : Nat → FieldType := fun k => match k with
  | 0 => .int
  | 1 => .int
  | 2 => .array .int
  | _ => .int
abbrev wsX70 : List Cond := u_ws RX7 TX7 4
theorem nmX7 : ∀ a, a < 4 → ∀ b, b < 4 → a ≠ b → (TX7 a).2.1 ≠ (TX7 b).2.1 := by decide +kernel
theorem tyX7_ok : ∀ k, k < 4 → parseFieldDescriptor (TX7 k).2.2.1 = some (tyX7 k) := by decide +kernel
abbrev cX7_init : ByteArray := prog_9_method_1_code
def yX7_init : MethodName := ⟨RX7, "<init>", "(II)V"⟩
abbrev cX7_size : ByteArray := prog_9_method_2_code
def yX7_size : MethodName := ⟨RX7, "size", "()I"⟩
abbrev cX7_isFull : ByteArray := prog_9_method_3_code
def yX7_isFull : MethodName := ⟨RX7, "isFull", "()Z"⟩
abbrev cX7_empty : ByteArray := prog_9_method_4_code
def yX7_empty : MethodName := ⟨RX7, "empty", "()V"⟩
abbrev cX7_at : ByteArray := prog_9_method_5_code
def yX7_at : MethodName := ⟨RX7, "at", "(II)I"⟩
abbrev cX7_put : ByteArray := prog_9_method_6_code
def yX7_put : MethodName := ⟨RX7, "put", "(III)V"⟩
abbrev cX7_add : ByteArray := prog_9_method_7_code
def yX7_add : MethodName := ⟨RX7, "add", "(IIIII)V"⟩
abbrev cX7_dropFirst : ByteArray := prog_9_method_8_code
def yX7_dropFirst : MethodName := ⟨RX7, "dropFirst", "()V"⟩
abbrev cX7_dropLast : ByteArray := prog_9_method_9_code
def yX7_dropLast : MethodName := ⟨RX7, "dropLast", "()V"⟩
abbrev cX7_takeFrom : ByteArray := prog_9_method_10_code
def yX7_takeFrom : MethodName := ⟨RX7, "takeFrom", "(LSteepleStruck$Table;)V"⟩
abbrev cX7_digestOn : ByteArray := prog_9_method_11_code
def yX7_digestOn : MethodName := ⟨RX7, "digestOn", "(J)J"⟩
def RX8 : String := "SteepleStruck$Text"
def TX8 : u_T := fun k => match k with
  | 0 => ("SteepleStruck$Text", "bytes", "LSteepleStruck$Row;", true)
  | 1 => ("SteepleStruck$Text", "told", "LSteepleStruck$Row;", true)
  | 2 => ("SteepleStruck$Text", "length", "I", false)
  | 3 => ("SteepleStruck$Text", "token", "I", false)
  | 4 => ("SteepleStruck$Text", "start", "I", false)
  | 5 => ("SteepleStruck$Text", "next", "I", false)
  | _ => ("SteepleStruck$Text", "number", "I", false)
def tyX8 : Nat → FieldType := fun k => match k with
  | 0 => .object "SteepleStruck$Row"
  | 1 => .object "SteepleStruck$Row"
  | 2 => .int
  | 3 => .int
  | 4 => .int
  | 5 => .int
  | _ => .int
abbrev wsX80 : List Cond := u_ws RX8 TX8 7
theorem nmX8 : ∀ a, a < 7 → ∀ b, b < 7 → a ≠ b → (TX8 a).2.1 ≠ (TX8 b).2.1 := by decide +kernel
theorem tyX8_ok : ∀ k, k < 7 → parseFieldDescriptor (TX8 k).2.2.1 = some (tyX8 k) := by decide +kernel
abbrev cX8_init : ByteArray := prog_10_method_1_code
def yX8_init : MethodName := ⟨RX8, "<init>", "()V"⟩
abbrev cX8_length : ByteArray := prog_10_method_2_code
def yX8_length : MethodName := ⟨RX8, "length", "()I"⟩
abbrev cX8_isFull : ByteArray := prog_10_method_3_code
def yX8_isFull : MethodName := ⟨RX8, "isFull", "()Z"⟩
abbrev cX8_add : ByteArray := prog_10_method_4_code
def yX8_add : MethodName := ⟨RX8, "add", "(I)V"⟩
abbrev cX8_empty : ByteArray := prog_10_method_5_code
def yX8_empty : MethodName := ⟨RX8, "empty", "()V"⟩
abbrev cX8_tellTo : ByteArray := prog_10_method_6_code
def yX8_tellTo : MethodName := ⟨RX8, "tellTo", "(LSteepleStruck$Village;)I"⟩
abbrev cX8_mayStand : ByteArray := prog_10_method_7_code
def yX8_mayStand : MethodName := ⟨RX8, "mayStand", "(ILSteepleStruck$Village;Z)Z"⟩
abbrev cX8_readNumbers : ByteArray := prog_10_method_8_code
def yX8_readNumbers : MethodName := ⟨RX8, "readNumbers", "(ILSteepleStruck$Village;)Z"⟩
abbrev cX8_readStop : ByteArray := prog_10_method_9_code
def yX8_readStop : MethodName := ⟨RX8, "readStop", "()Z"⟩
abbrev cX8_numbersOf : ByteArray := prog_10_method_10_code
def yX8_numbersOf : MethodName := ⟨RX8, "numbersOf", "(I)I"⟩
abbrev cX8_leastOf : ByteArray := prog_10_method_11_code
def yX8_leastOf : MethodName := ⟨RX8, "leastOf", "(II)I"⟩
abbrev cX8_mostOf : ByteArray := prog_10_method_12_code
def yX8_mostOf : MethodName := ⟨RX8, "mostOf", "(IILSteepleStruck$Village;)I"⟩
abbrev cX8_tell : ByteArray := prog_10_method_13_code
def yX8_tell : MethodName := ⟨RX8, "tell", "(ILSteepleStruck$Village;)V"⟩
abbrev cX8_nextToken : ByteArray := prog_10_method_14_code
def yX8_nextToken : MethodName := ⟨RX8, "nextToken", "()V"⟩
abbrev cX8_runEnd : ByteArray := prog_10_method_15_code
def yX8_runEnd : MethodName := ⟨RX8, "runEnd", "(III)I"⟩
abbrev cX8_numberToken : ByteArray := prog_10_method_16_code
def yX8_numberToken : MethodName := ⟨RX8, "numberToken", "()I"⟩
abbrev cX8_wordToken : ByteArray := prog_10_method_17_code
def yX8_wordToken : MethodName := ⟨RX8, "wordToken", "()I"⟩
abbrev cX8_wordOf : ByteArray := prog_10_method_18_code
def yX8_wordOf : MethodName := ⟨RX8, "wordOf", "(I)Ljava/lang/String;"⟩
abbrev cX8_spells : ByteArray := prog_10_method_19_code
def yX8_spells : MethodName := ⟨RX8, "spells", "(Ljava/lang/String;)Z"⟩
def RX9 : String := "SteepleStruck$Village"
def TX9 : u_T := fun k => match k with
  | 0 => ("SteepleStruck$Village", "storms", "LSteepleStruck$Table;", true)
  | 1 => ("SteepleStruck$Village", "things", "LSteepleStruck$Table;", true)
  | 2 => ("SteepleStruck$Village", "parts", "LSteepleStruck$Table;", true)
  | 3 => ("SteepleStruck$Village", "seen", "LSteepleStruck$Table;", true)
  | 4 => ("SteepleStruck$Village", "notes", "LSteepleStruck$Table;", true)
  | 5 => ("SteepleStruck$Village", "marks", "LSteepleStruck$Table;", true)
  | 6 => ("SteepleStruck$Village", "earlier", "LSteepleStruck$Table;", true)
  | _ => ("SteepleStruck$Village", "now", "LSteepleStruck$Moment;", true)
def tyX9 : Nat → FieldType := fun k => match k with
  | 0 => .object "SteepleStruck$Table"
  | 1 => .object "SteepleStruck$Table"
  | 2 => .object "SteepleStruck$Table"
  | 3 => .object "SteepleStruck$Table"
  | 4 => .object "SteepleStruck$Table"
  | 5 => .object "SteepleStruck$Table"
  | 6 => .object "SteepleStruck$Table"
  | _ => .object "SteepleStruck$Moment"
abbrev wsX90 : List Cond := u_ws RX9 TX9 8
theorem nmX9 : ∀ a, a < 8 → ∀ b, b < 8 → a ≠ b → (TX9 a).2.1 ≠ (TX9 b).2.1 := by decide +kernel
theorem tyX9_ok : ∀ k, k < 8 → parseFieldDescriptor (TX9 k).2.2.1 = some (tyX9 k) := by decide +kernel
abbrev cX9_init : ByteArray := prog_11_method_1_code
def yX9_init : MethodName := ⟨RX9, "<init>", "()V"⟩
abbrev cX9_begin : ByteArray := prog_11_method_2_code
def yX9_begin : MethodName := ⟨RX9, "begin", "()V"⟩
abbrev cX9_takeFrom : ByteArray := prog_11_method_3_code
def yX9_takeFrom : MethodName := ⟨RX9, "takeFrom", "(LSteepleStruck$Village;)V"⟩
abbrev cX9_tellStorm : ByteArray := prog_11_method_4_code
def yX9_tellStorm : MethodName := ⟨RX9, "tellStorm", "(III)V"⟩
abbrev cX9_addThing : ByteArray := prog_11_method_5_code
def yX9_addThing : MethodName := ⟨RX9, "addThing", "(III)I"⟩
abbrev cX9_addPart : ByteArray := prog_11_method_6_code
def yX9_addPart : MethodName := ⟨RX9, "addPart", "(I)I"⟩
abbrev cX9_turn : ByteArray := prog_11_method_7_code
def yX9_turn : MethodName := ⟨RX9, "turn", "(I)V"⟩
abbrev cX9_remember : ByteArray := prog_11_method_8_code
def yX9_remember : MethodName := ⟨RX9, "remember", "()V"⟩
abbrev cX9_goBack : ByteArray := prog_11_method_9_code
def yX9_goBack : MethodName := ⟨RX9, "goBack", "()V"⟩
abbrev cX9_passTold : ByteArray := prog_11_method_10_code
def yX9_passTold : MethodName := ⟨RX9, "passTold", "(LSteepleStruck$Moment;II)V"⟩
abbrev cX9_pass : ByteArray := prog_11_method_11_code
def yX9_pass : MethodName := ⟨RX9, "pass", "(LSteepleStruck$Moment;II)V"⟩
abbrev cX9_needOf : ByteArray := prog_11_method_12_code
def yX9_needOf : MethodName := ⟨RX9, "needOf", "(III)I"⟩
abbrev cX9_drawOf : ByteArray := prog_11_method_13_code
def yX9_drawOf : MethodName := ⟨RX9, "drawOf", "(II)I"⟩
abbrev cX9_mayBeHim : ByteArray := prog_11_method_14_code
def yX9_mayBeHim : MethodName := ⟨RX9, "mayBeHim", "(I)Z"⟩
abbrev cX9_struckNow : ByteArray := prog_11_method_15_code
def yX9_struckNow : MethodName := ⟨RX9, "struckNow", "(I)I"⟩
abbrev cX9_stronger : ByteArray := prog_11_method_16_code
def yX9_stronger : MethodName := ⟨RX9, "stronger", "(I)I"⟩
abbrev cX9_fitsSeen : ByteArray := prog_11_method_17_code
def yX9_fitsSeen : MethodName := ⟨RX9, "fitsSeen", "(II)Z"⟩
abbrev cX9_digestOn : ByteArray := prog_11_method_18_code
def yX9_digestOn : MethodName := ⟨RX9, "digestOn", "(J)J"⟩
abbrev cX9_bringParts : ByteArray := prog_11_method_19_code
def yX9_bringParts : MethodName := ⟨RX9, "bringParts", "(LSteepleStruck$Moment;)V"⟩
abbrev cX9_struckIf : ByteArray := prog_11_method_20_code
def yX9_struckIf : MethodName := ⟨RX9, "struckIf", "(ILSteepleStruck$Moment;II)I"⟩
def RX10 : String := "SteepleStruck"
def TX10 : u_T := fun k => match k with
  | 0 => ("SteepleStruck", "here", "LSteepleStruck$Village;", true)
  | 1 => ("SteepleStruck", "draft", "LSteepleStruck$Village;", true)
  | 2 => ("SteepleStruck", "firstImage", "LSteepleStruck$Village;", true)
  | 3 => ("SteepleStruck", "secondImage", "LSteepleStruck$Village;", true)
  | 4 => ("SteepleStruck", "trial", "LSteepleStruck$Moment;", true)
  | 5 => ("SteepleStruck", "ahead", "LSteepleStruck$Row;", true)
  | 6 => ("SteepleStruck", "text", "LSteepleStruck$Text;", true)
  | 7 => ("SteepleStruck", "fraction", "LSteepleStruck$Fraction;", true)
  | 8 => ("SteepleStruck", "orders", "LSteepleStruck$Orders;", true)
  | 9 => ("SteepleStruck", "guesses", "LSteepleStruck$Guesses;", true)
  | 10 => ("SteepleStruck", "bets", "LSteepleStruck$Bets;", true)
  | 11 => ("SteepleStruck", "firstKept", "Z", false)
  | 12 => ("SteepleStruck", "secondKept", "Z", false)
  | 13 => ("SteepleStruck", "badCalls", "I", false)
  | 14 => ("SteepleStruck", "noCalls", "I", false)
  | _ => ("SteepleStruck", "fullCalls", "I", false)
def tyX10 : Nat → FieldType := fun k => match k with
  | 0 => .object "SteepleStruck$Village"
  | 1 => .object "SteepleStruck$Village"
  | 2 => .object "SteepleStruck$Village"
  | 3 => .object "SteepleStruck$Village"
  | 4 => .object "SteepleStruck$Moment"
  | 5 => .object "SteepleStruck$Row"
  | 6 => .object "SteepleStruck$Text"
  | 7 => .object "SteepleStruck$Fraction"
  | 8 => .object "SteepleStruck$Orders"
  | 9 => .object "SteepleStruck$Guesses"
  | 10 => .object "SteepleStruck$Bets"
  | 11 => .boolean
  | 12 => .boolean
  | 13 => .int
  | 14 => .int
  | _ => .int
abbrev wsX100 : List Cond := u_ws RX10 TX10 16
theorem nmX10 : ∀ a, a < 16 → ∀ b, b < 16 → a ≠ b → (TX10 a).2.1 ≠ (TX10 b).2.1 := by decide +kernel
theorem tyX10_ok : ∀ k, k < 16 → parseFieldDescriptor (TX10 k).2.2.1 = some (tyX10 k) := by decide +kernel
abbrev cX10_init : ByteArray := prog_1_method_1_code
def yX10_init : MethodName := ⟨RX10, "<init>", "()V"⟩
abbrev cX10_village : ByteArray := prog_1_method_2_code
def yX10_village : MethodName := ⟨RX10, "village", "()I"⟩
abbrev cX10_storm : ByteArray := prog_1_method_3_code
def yX10_storm : MethodName := ⟨RX10, "storm", "(III)I"⟩
abbrev cX10_thing : ByteArray := prog_1_method_4_code
def yX10_thing : MethodName := ⟨RX10, "thing", "(III)I"⟩
abbrev cX10_body : ByteArray := prog_1_method_5_code
def yX10_body : MethodName := ⟨RX10, "body", "(I)I"⟩
abbrev cX10_type : ByteArray := prog_1_method_6_code
def yX10_type : MethodName := ⟨RX10, "type", "(I)I"⟩
abbrev cX10_clear : ByteArray := prog_1_method_7_code
def yX10_clear : MethodName := ⟨RX10, "clear", "()I"⟩
abbrev cX10_read : ByteArray := prog_1_method_8_code
def yX10_read : MethodName := ⟨RX10, "read", "()I"⟩
abbrev cX10_summers : ByteArray := prog_1_method_9_code
def yX10_summers : MethodName := ⟨RX10, "summers", "(I)I"⟩
abbrev cX10_takes : ByteArray := prog_1_method_10_code
def yX10_takes : MethodName := ⟨RX10, "takes", "(I)I"⟩
abbrev cX10_undo : ByteArray := prog_1_method_11_code
def yX10_undo : MethodName := ⟨RX10, "undo", "()I"⟩
abbrev cX10_of : ByteArray := prog_1_method_12_code
def yX10_of : MethodName := ⟨RX10, "of", "(II)I"⟩
abbrev cX10_about : ByteArray := prog_1_method_13_code
def yX10_about : MethodName := ⟨RX10, "about", "(II)I"⟩
abbrev cX10_weather : ByteArray := prog_1_method_14_code
def yX10_weather : MethodName := ⟨RX10, "weather", "(II)I"⟩
abbrev cX10_draws : ByteArray := prog_1_method_15_code
def yX10_draws : MethodName := ⟨RX10, "draws", "(II)I"⟩
abbrev cX10_struck : ByteArray := prog_1_method_16_code
def yX10_struck : MethodName := ⟨RX10, "struck", "(I)I"⟩
abbrev cX10_then : ByteArray := prog_1_method_17_code
def yX10_then : MethodName := ⟨RX10, "then", "(I)I"⟩
abbrev cX10_when : ByteArray := prog_1_method_18_code
def yX10_when : MethodName := ⟨RX10, "when", "(I)I"⟩
abbrev cX10_whence : ByteArray := prog_1_method_19_code
def yX10_whence : MethodName := ⟨RX10, "whence", "()I"⟩
abbrev cX10_lead : ByteArray := prog_1_method_20_code
def yX10_lead : MethodName := ⟨RX10, "lead", "(I)I"⟩
abbrev cX10_spare : ByteArray := prog_1_method_21_code
def yX10_spare : MethodName := ⟨RX10, "spare", "()I"⟩
abbrev cX10_order : ByteArray := prog_1_method_22_code
def yX10_order : MethodName := ⟨RX10, "order", "(II)I"⟩
abbrev cX10_seen : ByteArray := prog_1_method_23_code
def yX10_seen : MethodName := ⟨RX10, "seen", "(II)I"⟩
abbrev cX10_tall : ByteArray := prog_1_method_24_code
def yX10_tall : MethodName := ⟨RX10, "tall", "(II)I"⟩
abbrev cX10_note : ByteArray := prog_1_method_25_code
def yX10_note : MethodName := ⟨RX10, "note", "(IIIII)I"⟩
abbrev cX10_mark : ByteArray := prog_1_method_26_code
def yX10_mark : MethodName := ⟨RX10, "mark", "(IIII)I"⟩
abbrev cX10_forget : ByteArray := prog_1_method_27_code
def yX10_forget : MethodName := ⟨RX10, "forget", "(I)I"⟩
abbrev cX10_is : ByteArray := prog_1_method_28_code
def yX10_is : MethodName := ⟨RX10, "is", "(I)I"⟩
abbrev cX10_look : ByteArray := prog_1_method_29_code
def yX10_look : MethodName := ⟨RX10, "look", "(I)I"⟩
abbrev cX10_kinds : ByteArray := prog_1_method_30_code
def yX10_kinds : MethodName := ⟨RX10, "kinds", "(I)I"⟩
abbrev cX10_ask : ByteArray := prog_1_method_31_code
def yX10_ask : MethodName := ⟨RX10, "ask", "(I)I"⟩
abbrev cX10_sweep : ByteArray := prog_1_method_32_code
def yX10_sweep : MethodName := ⟨RX10, "sweep", "(II)I"⟩
abbrev cX10_falls : ByteArray := prog_1_method_33_code
def yX10_falls : MethodName := ⟨RX10, "falls", "(II)I"⟩
abbrev cX10_septembers : ByteArray := prog_1_method_34_code
def yX10_septembers : MethodName := ⟨RX10, "septembers", "(II)I"⟩
abbrev cX10_part : ByteArray := prog_1_method_35_code
def yX10_part : MethodName := ⟨RX10, "part", "(I)J"⟩
abbrev cX10_image : ByteArray := prog_1_method_36_code
def yX10_image : MethodName := ⟨RX10, "image", "(I)I"⟩
abbrev cX10_from : ByteArray := prog_1_method_37_code
def yX10_from : MethodName := ⟨RX10, "from", "(I)I"⟩
abbrev cX10_status : ByteArray := prog_1_method_38_code
def yX10_status : MethodName := ⟨RX10, "status", "(I)I"⟩
abbrev cX10_count : ByteArray := prog_1_method_39_code
def yX10_count : MethodName := ⟨RX10, "count", "(I)I"⟩
abbrev cX10_digest : ByteArray := prog_1_method_40_code
def yX10_digest : MethodName := ⟨RX10, "digest", "()J"⟩
abbrev cX10_refuseBad : ByteArray := prog_1_method_41_code
def yX10_refuseBad : MethodName := ⟨RX10, "refuseBad", "()I"⟩
abbrev cX10_refuseBadTen : ByteArray := prog_1_method_42_code
def yX10_refuseBadTen : MethodName := ⟨RX10, "refuseBadTen", "()I"⟩
abbrev cX10_refuseNo : ByteArray := prog_1_method_43_code
def yX10_refuseNo : MethodName := ⟨RX10, "refuseNo", "()I"⟩
abbrev cX10_refuseFull : ByteArray := prog_1_method_44_code
def yX10_refuseFull : MethodName := ⟨RX10, "refuseFull", "()I"⟩
abbrev cX10_within : ByteArray := prog_1_method_45_code
def yX10_within : MethodName := ⟨RX10, "within", "(III)Z"⟩
abbrev cX10_isCell : ByteArray := prog_1_method_46_code
def yX10_isCell : MethodName := ⟨RX10, "isCell", "(I)Z"⟩
abbrev cX10_isStorm : ByteArray := prog_1_method_47_code
def yX10_isStorm : MethodName := ⟨RX10, "isStorm", "(I)Z"⟩
abbrev cX10_isKind : ByteArray := prog_1_method_48_code
def yX10_isKind : MethodName := ⟨RX10, "isKind", "(I)Z"⟩
abbrev cX10_isHeight : ByteArray := prog_1_method_49_code
def yX10_isHeight : MethodName := ⟨RX10, "isHeight", "(I)Z"⟩
abbrev cX10_isThing : ByteArray := prog_1_method_50_code
def yX10_isThing : MethodName := ⟨RX10, "isThing", "(I)Z"⟩
abbrev cX10_isPart : ByteArray := prog_1_method_51_code
def yX10_isPart : MethodName := ⟨RX10, "isPart", "(I)Z"⟩
abbrev cX10_imageAt : ByteArray := prog_1_method_52_code
def yX10_imageAt : MethodName := ⟨RX10, "imageAt", "(I)LSteepleStruck$Village;"⟩
abbrev cX10_forgetAll : ByteArray := prog_1_method_53_code
def yX10_forgetAll : MethodName := ⟨RX10, "forgetAll", "(LSteepleStruck$Table;)I"⟩
abbrev cX10_isSparedBy : ByteArray := prog_1_method_54_code
def yX10_isSparedBy : MethodName := ⟨RX10, "isSparedBy", "(I)Z"⟩
abbrev cX10_summersUntil : ByteArray := prog_1_method_55_code
def yX10_summersUntil : MethodName := ⟨RX10, "summersUntil", "(I)I"⟩
abbrev cX10_countOf : ByteArray := prog_1_method_56_code
def yX10_countOf : MethodName := ⟨RX10, "countOf", "(I)I"⟩
def RX11 : String := "SteepleStruckModel"
def TX11 : u_T := fun k => match k with
  | 0 => ("SteepleStruckModel", "all", "[I", true)
  | 1 => ("SteepleStruckModel", "kept", "[I", true)
  | 2 => ("SteepleStruckModel", "isKept", "[Z", true)
  | 3 => ("SteepleStruckModel", "refused", "[I", true)
  | 4 => ("SteepleStruckModel", "above", "J", false)
  | 5 => ("SteepleStruckModel", "below", "J", false)
  | 6 => ("SteepleStruckModel", "hand", "[I", true)
  | 7 => ("SteepleStruckModel", "missing", "[I", true)
  | 8 => ("SteepleStruckModel", "order0", "[I", true)
  | 9 => ("SteepleStruckModel", "bestOrder", "[I", true)
  | 10 => ("SteepleStruckModel", "tells", "[I", true)
  | 11 => ("SteepleStruckModel", "bytes", "[I", true)
  | 12 => ("SteepleStruckModel", "bytesLong", "I", false)
  | 13 => ("SteepleStruckModel", "tokenAt", "I", false)
  | 14 => ("SteepleStruckModel", "tokenLong", "I", false)
  | 15 => ("SteepleStruckModel", "token", "I", false)
  | 16 => ("SteepleStruckModel", "value", "I", false)
  | 17 => ("SteepleStruckModel", "anew", "[I", true)
  | _ => ("SteepleStruckModel", "values", "[I", true)
def tyX11 : Nat → FieldType := fun k => match k with
  | 0 => .array .int
  | 1 => .array .int
  | 2 => .array .boolean
  | 3 => .array .int
  | 4 => .long
  | 5 => .long
  | 6 => .array .int
  | 7 => .array .int
  | 8 => .array .int
  | 9 => .array .int
  | 10 => .array .int
  | 11 => .array .int
  | 12 => .int
  | 13 => .int
  | 14 => .int
  | 15 => .int
  | 16 => .int
  | 17 => .array .int
  | _ => .array .int
abbrev wsX110 : List Cond := u_ws RX11 TX11 19
theorem nmX11 : ∀ a, a < 19 → ∀ b, b < 19 → a ≠ b → (TX11 a).2.1 ≠ (TX11 b).2.1 := by decide +kernel
theorem tyX11_ok : ∀ k, k < 19 → parseFieldDescriptor (TX11 k).2.2.1 = some (tyX11 k) := by decide +kernel
abbrev cX11_init : ByteArray := prog_13_method_1_code
def yX11_init : MethodName := ⟨RX11, "<init>", "()V"⟩
abbrev cX11_in : ByteArray := prog_13_method_3_code
def yX11_in : MethodName := ⟨RX11, "in", "(JJJ)Z"⟩
abbrev cX11_bad : ByteArray := prog_13_method_4_code
def yX11_bad : MethodName := ⟨RX11, "bad", "(I)I"⟩
abbrev cX11_no : ByteArray := prog_13_method_5_code
def yX11_no : MethodName := ⟨RX11, "no", "()I"⟩
abbrev cX11_full : ByteArray := prog_13_method_6_code
def yX11_full : MethodName := ⟨RX11, "full", "()I"⟩
abbrev cX11_has : ByteArray := prog_13_method_7_code
def yX11_has : MethodName := ⟨RX11, "has", "(II)Z"⟩
abbrev cX11_bits : ByteArray := prog_13_method_8_code
def yX11_bits : MethodName := ⟨RX11, "bits", "(I)I"⟩
abbrev cX11_begin : ByteArray := prog_13_method_9_code
def yX11_begin : MethodName := ⟨RX11, "begin", "([I)V"⟩
abbrev cX11_many : ByteArray := prog_13_method_10_code
def yX11_many : MethodName := ⟨RX11, "many", "()I"⟩
abbrev cX11_isThing : ByteArray := prog_13_method_11_code
def yX11_isThing : MethodName := ⟨RX11, "isThing", "(I)Z"⟩
abbrev cX11_isPart : ByteArray := prog_13_method_12_code
def yX11_isPart : MethodName := ⟨RX11, "isPart", "(I)Z"⟩
abbrev cX11_isCell : ByteArray := prog_13_method_13_code
def yX11_isCell : MethodName := ⟨RX11, "isCell", "(I)Z"⟩
abbrev cX11_isKind : ByteArray := prog_13_method_14_code
def yX11_isKind : MethodName := ⟨RX11, "isKind", "(I)Z"⟩
abbrev cX11_village : ByteArray := prog_13_method_15_code
def yX11_village : MethodName := ⟨RX11, "village", "()I"⟩
abbrev cX11_storm : ByteArray := prog_13_method_16_code
def yX11_storm : MethodName := ⟨RX11, "storm", "(III)I"⟩
abbrev cX11_layThing : ByteArray := prog_13_method_17_code
def yX11_layThing : MethodName := ⟨RX11, "layThing", "([IIII)V"⟩
abbrev cX11_thing : ByteArray := prog_13_method_18_code
def yX11_thing : MethodName := ⟨RX11, "thing", "(III)I"⟩
abbrev cX11_body : ByteArray := prog_13_method_19_code
def yX11_body : MethodName := ⟨RX11, "body", "(I)I"⟩
abbrev cX11_drawsAs : ByteArray := prog_13_method_20_code
def yX11_drawsAs : MethodName := ⟨RX11, "drawsAs", "(IIII)I"⟩
abbrev cX11_needsAs : ByteArray := prog_13_method_21_code
def yX11_needsAs : MethodName := ⟨RX11, "needsAs", "(III)I"⟩
abbrev cX11_drawsFrom : ByteArray := prog_13_method_22_code
def yX11_drawsFrom : MethodName := ⟨RX11, "drawsFrom", "([III)I"⟩
abbrev cX11_struckOf : ByteArray := prog_13_method_23_code
def yX11_struckOf : MethodName := ⟨RX11, "struckOf", "([III)I"⟩
abbrev cX11_firstOf : ByteArray := prog_13_method_24_code
def yX11_firstOf : MethodName := ⟨RX11, "firstOf", "([I)I"⟩
abbrev cX11_goParts : ByteArray := prog_13_method_25_code
def yX11_goParts : MethodName := ⟨RX11, "goParts", "([I)V"⟩
abbrev cX11_goSummer : ByteArray := prog_13_method_26_code
def yX11_goSummer : MethodName := ⟨RX11, "goSummer", "([III)V"⟩
abbrev cX11_goTold : ByteArray := prog_13_method_27_code
def yX11_goTold : MethodName := ⟨RX11, "goTold", "([I)V"⟩
abbrev cX11_goSummers : ByteArray := prog_13_method_28_code
def yX11_goSummers : MethodName := ⟨RX11, "goSummers", "([II)V"⟩
abbrev cX11_save : ByteArray := prog_13_method_29_code
def yX11_save : MethodName := ⟨RX11, "save", "()V"⟩
abbrev cX11_summers : ByteArray := prog_13_method_30_code
def yX11_summers : MethodName := ⟨RX11, "summers", "(I)I"⟩
abbrev cX11_takes : ByteArray := prog_13_method_31_code
def yX11_takes : MethodName := ⟨RX11, "takes", "(I)I"⟩
abbrev cX11_undo : ByteArray := prog_13_method_32_code
def yX11_undo : MethodName := ⟨RX11, "undo", "()I"⟩
abbrev cX11_of : ByteArray := prog_13_method_33_code
def yX11_of : MethodName := ⟨RX11, "of", "(II)I"⟩
abbrev cX11_about : ByteArray := prog_13_method_34_code
def yX11_about : MethodName := ⟨RX11, "about", "(II)I"⟩
abbrev cX11_weather : ByteArray := prog_13_method_35_code
def yX11_weather : MethodName := ⟨RX11, "weather", "(II)I"⟩
abbrev cX11_draws : ByteArray := prog_13_method_36_code
def yX11_draws : MethodName := ⟨RX11, "draws", "(II)I"⟩
abbrev cX11_struck : ByteArray := prog_13_method_37_code
def yX11_struck : MethodName := ⟨RX11, "struck", "(I)I"⟩
abbrev cX11_layHand : ByteArray := prog_13_method_38_code
def yX11_layHand : MethodName := ⟨RX11, "layHand", "()V"⟩
abbrev cX11_then : ByteArray := prog_13_method_39_code
def yX11_then : MethodName := ⟨RX11, "then", "(I)I"⟩
abbrev cX11_whenOf : ByteArray := prog_13_method_40_code
def yX11_whenOf : MethodName := ⟨RX11, "whenOf", "(I)I"⟩
abbrev cX11_when : ByteArray := prog_13_method_41_code
def yX11_when : MethodName := ⟨RX11, "when", "(I)I"⟩
abbrev cX11_cellsBy : ByteArray := prog_13_method_42_code
def yX11_cellsBy : MethodName := ⟨RX11, "cellsBy", "(I)I"⟩
abbrev cX11_whence : ByteArray := prog_13_method_43_code
def yX11_whence : MethodName := ⟨RX11, "whence", "()I"⟩
abbrev cX11_lead : ByteArray := prog_13_method_44_code
def yX11_lead : MethodName := ⟨RX11, "lead", "(I)I"⟩
abbrev cX11_spare : ByteArray := prog_13_method_45_code
def yX11_spare : MethodName := ⟨RX11, "spare", "()I"⟩
abbrev cX11_layMissing : ByteArray := prog_13_method_46_code
def yX11_layMissing : MethodName := ⟨RX11, "layMissing", "()I"⟩
abbrev cX11_layOrder : ByteArray := prog_13_method_47_code
def yX11_layOrder : MethodName := ⟨RX11, "layOrder", "(II)V"⟩
abbrev cX11_comeBy : ByteArray := prog_13_method_48_code
def yX11_comeBy : MethodName := ⟨RX11, "comeBy", "(II)I"⟩
abbrev cX11_order : ByteArray := prog_13_method_49_code
def yX11_order : MethodName := ⟨RX11, "order", "(II)I"⟩
abbrev cX11_seen : ByteArray := prog_13_method_50_code
def yX11_seen : MethodName := ⟨RX11, "seen", "(II)I"⟩
abbrev cX11_isSeenBy : ByteArray := prog_13_method_51_code
def yX11_isSeenBy : MethodName := ⟨RX11, "isSeenBy", "(II)Z"⟩
abbrev cX11_tall : ByteArray := prog_13_method_52_code
def yX11_tall : MethodName := ⟨RX11, "tall", "(II)I"⟩
abbrev cX11_note : ByteArray := prog_13_method_53_code
def yX11_note : MethodName := ⟨RX11, "note", "(IIIII)I"⟩
abbrev cX11_mark : ByteArray := prog_13_method_54_code
def yX11_mark : MethodName := ⟨RX11, "mark", "(IIII)I"⟩
abbrev cX11_forget : ByteArray := prog_13_method_55_code
def yX11_forget : MethodName := ⟨RX11, "forget", "(I)I"⟩
abbrev cX11_kindsOfThing : ByteArray := prog_13_method_56_code
def yX11_kindsOfThing : MethodName := ⟨RX11, "kindsOfThing", "(I)I"⟩
abbrev cX11_kindsOfPart : ByteArray := prog_13_method_57_code
def yX11_kindsOfPart : MethodName := ⟨RX11, "kindsOfPart", "(I)I"⟩
abbrev cX11_mostAlike : ByteArray := prog_13_method_58_code
def yX11_mostAlike : MethodName := ⟨RX11, "mostAlike", "(I)I"⟩
abbrev cX11_is : ByteArray := prog_13_method_59_code
def yX11_is : MethodName := ⟨RX11, "is", "(I)I"⟩
abbrev cX11_look : ByteArray := prog_13_method_60_code
def yX11_look : MethodName := ⟨RX11, "look", "(I)I"⟩
abbrev cX11_kinds : ByteArray := prog_13_method_61_code
def yX11_kinds : MethodName := ⟨RX11, "kinds", "(I)I"⟩
abbrev cX11_ask : ByteArray := prog_13_method_62_code
def yX11_ask : MethodName := ⟨RX11, "ask", "(I)I"⟩
abbrev cX11_off : ByteArray := prog_13_method_63_code
def yX11_off : MethodName := ⟨RX11, "off", "(II)I"⟩
abbrev cX11_getsBy : ByteArray := prog_13_method_64_code
def yX11_getsBy : MethodName := ⟨RX11, "getsBy", "(III)I"⟩
abbrev cX11_isBest : ByteArray := prog_13_method_65_code
def yX11_isBest : MethodName := ⟨RX11, "isBest", "(III)Z"⟩
abbrev cX11_sweep : ByteArray := prog_13_method_66_code
def yX11_sweep : MethodName := ⟨RX11, "sweep", "(II)I"⟩
abbrev cX11_fraction : ByteArray := prog_13_method_67_code
def yX11_fraction : MethodName := ⟨RX11, "fraction", "(JJ)V"⟩
abbrev cX11_falls : ByteArray := prog_13_method_68_code
def yX11_falls : MethodName := ⟨RX11, "falls", "(II)I"⟩
abbrev cX11_septembers : ByteArray := prog_13_method_69_code
def yX11_septembers : MethodName := ⟨RX11, "septembers", "(II)I"⟩
abbrev cX11_type : ByteArray := prog_13_method_70_code
def yX11_type : MethodName := ⟨RX11, "type", "(I)I"⟩
abbrev cX11_clear : ByteArray := prog_13_method_71_code
def yX11_clear : MethodName := ⟨RX11, "clear", "()I"⟩
abbrev cX11_isSmall : ByteArray := prog_13_method_72_code
def yX11_isSmall : MethodName := ⟨RX11, "isSmall", "(I)Z"⟩
abbrev cX11_isFigure : ByteArray := prog_13_method_73_code
def yX11_isFigure : MethodName := ⟨RX11, "isFigure", "(I)Z"⟩
abbrev cX11_lookAt : ByteArray := prog_13_method_74_code
def yX11_lookAt : MethodName := ⟨RX11, "lookAt", "(I)V"⟩
abbrev cX11_goBehind : ByteArray := prog_13_method_75_code
def yX11_goBehind : MethodName := ⟨RX11, "goBehind", "()V"⟩
abbrev cX11_spells : ByteArray := prog_13_method_76_code
def yX11_spells : MethodName := ⟨RX11, "spells", "(IIIIIII)Z"⟩
abbrev cX11_gives : ByteArray := prog_13_method_77_code
def yX11_gives : MethodName := ⟨RX11, "gives", "(III)Z"⟩
abbrev cX11_givesStorm : ByteArray := prog_13_method_78_code
def yX11_givesStorm : MethodName := ⟨RX11, "givesStorm", "()Z"⟩
abbrev cX11_givesThing : ByteArray := prog_13_method_79_code
def yX11_givesThing : MethodName := ⟨RX11, "givesThing", "()Z"⟩
abbrev cX11_givesPart : ByteArray := prog_13_method_80_code
def yX11_givesPart : MethodName := ⟨RX11, "givesPart", "()Z"⟩
abbrev cX11_givesTake : ByteArray := prog_13_method_81_code
def yX11_givesTake : MethodName := ⟨RX11, "givesTake", "()Z"⟩
abbrev cX11_givesSummers : ByteArray := prog_13_method_82_code
def yX11_givesSummers : MethodName := ⟨RX11, "givesSummers", "()Z"⟩
abbrev cX11_spellsSeven : ByteArray := prog_13_method_83_code
def yX11_spellsSeven : MethodName := ⟨RX11, "spellsSeven", "(IIIIIII)Z"⟩
abbrev cX11_givesItem : ByteArray := prog_13_method_84_code
def yX11_givesItem : MethodName := ⟨RX11, "givesItem", "()Z"⟩
abbrev cX11_read : ByteArray := prog_13_method_85_code
def yX11_read : MethodName := ⟨RX11, "read", "()I"⟩
abbrev cX11_part : ByteArray := prog_13_method_86_code
def yX11_part : MethodName := ⟨RX11, "part", "(I)J"⟩
abbrev cX11_image : ByteArray := prog_13_method_87_code
def yX11_image : MethodName := ⟨RX11, "image", "(I)I"⟩
abbrev cX11_from : ByteArray := prog_13_method_88_code
def yX11_from : MethodName := ⟨RX11, "from", "(I)I"⟩
abbrev cX11_status : ByteArray := prog_13_method_89_code
def yX11_status : MethodName := ⟨RX11, "status", "(I)I"⟩
abbrev cX11_counted : ByteArray := prog_13_method_90_code
def yX11_counted : MethodName := ⟨RX11, "counted", "(I)I"⟩
abbrev cX11_count : ByteArray := prog_13_method_91_code
def yX11_count : MethodName := ⟨RX11, "count", "(I)I"⟩
abbrev cX11_sums : ByteArray := prog_13_method_92_code
def yX11_sums : MethodName := ⟨RX11, "sums", "(JII)J"⟩
abbrev cX11_digest : ByteArray := prog_13_method_93_code
def yX11_digest : MethodName := ⟨RX11, "digest", "()J"⟩
def RJ6 : String := "java/lang/Integer"
def TJ6 : u_T := fun k => match k with
  | _ => ("", "", "", false)
def tyJ6 : Nat → FieldType := fun k => match k with
  | _ => .int
abbrev wsJ60 : List Cond := u_ws RJ6 TJ6 0
theorem nmJ6 : ∀ a, a < 0 → ∀ b, b < 0 → a ≠ b → (TJ6 a).2.1 ≠ (TJ6 b).2.1 := by decide +kernel
theorem tyJ6_ok : ∀ k, k < 0 → parseFieldDescriptor (TJ6 k).2.2.1 = some (tyJ6 k) := by decide +kernel
abbrev cJ6_bitCount_0f7a4 : ByteArray := prog_14_method_49_code
def yJ6_bitCount_0f7a4 : MethodName := ⟨RJ6, "bitCount", "(I)I"⟩
def RJ9 : String := "java/lang/Math"
def TJ9 : u_T := fun k => match k with
  | _ => ("", "", "", false)
def tyJ9 : Nat → FieldType := fun k => match k with
  | _ => .int
abbrev wsJ90 : List Cond := u_ws RJ9 TJ9 0
theorem nmJ9 : ∀ a, a < 0 → ∀ b, b < 0 → a ≠ b → (TJ9 a).2.1 ≠ (TJ9 b).2.1 := by decide +kernel
theorem tyJ9_ok : ∀ k, k < 0 → parseFieldDescriptor (TJ9 k).2.2.1 = some (tyJ9 k) := by decide +kernel
abbrev cJ9_abs_0f7a4 : ByteArray := prog_15_method_59_code
def yJ9_abs_0f7a4 : MethodName := ⟨RJ9, "abs", "(I)I"⟩
abbrev cJ9_max_7cf53 : ByteArray := prog_15_method_65_code
def yJ9_max_7cf53 : MethodName := ⟨RJ9, "max", "(II)I"⟩
abbrev cJ9_min_7cf53 : ByteArray := prog_15_method_69_code
def yJ9_min_7cf53 : MethodName := ⟨RJ9, "min", "(II)I"⟩
def RJ0 : String := "java/lang/String"
def TJ0 : u_T := fun k => match k with
  | _ => ("", "", "", false)
def tyJ0 : Nat → FieldType := fun k => match k with
  | _ => .int
abbrev wsJ00 : List Cond := u_ws RJ0 TJ0 0
theorem nmJ0 : ∀ a, a < 0 → ∀ b, b < 0 → a ≠ b → (TJ0 a).2.1 ≠ (TJ0 b).2.1 := by decide +kernel
theorem tyJ0_ok : ∀ k, k < 0 → parseFieldDescriptor (TJ0 k).2.2.1 = some (tyJ0 k) := by decide +kernel
abbrev cJ0_length_8abf5 : ByteArray := prog_16_method_54_code
def yJ0_length_8abf5 : MethodName := ⟨RJ0, "length", "()I"⟩
abbrev cJ0_charAt_5068e : ByteArray := prog_16_method_56_code
def yJ0_charAt_5068e : MethodName := ⟨RJ0, "charAt", "(I)C"⟩
abbrev cJ0_coder_7d493 : ByteArray := prog_16_method_152_code
def yJ0_coder_7d493 : MethodName := ⟨RJ0, "coder", "()B"⟩
abbrev cJ0_isLatin1_aae02 : ByteArray := prog_16_method_154_code
def yJ0_isLatin1_aae02 : MethodName := ⟨RJ0, "isLatin1", "()Z"⟩
abbrev cJ0_checkIndex_df160 : ByteArray := prog_16_method_155_code
def yJ0_checkIndex_df160 : MethodName := ⟨RJ0, "checkIndex", "(II)V"⟩
def RJ1 : String := "java/lang/StringLatin1"
def TJ1 : u_T := fun k => match k with
  | _ => ("", "", "", false)
def tyJ1 : Nat → FieldType := fun k => match k with
  | _ => .int
abbrev wsJ10 : List Cond := u_ws RJ1 TJ1 0
theorem nmJ1 : ∀ a, a < 0 → ∀ b, b < 0 → a ≠ b → (TJ1 a).2.1 ≠ (TJ1 b).2.1 := by decide +kernel
theorem tyJ1_ok : ∀ k, k < 0 → parseFieldDescriptor (TJ1 k).2.2.1 = some (tyJ1 k) := by decide +kernel
abbrev cJ1_charAt_3b067 : ByteArray := prog_17_method_2_code
def yJ1_charAt_3b067 : MethodName := ⟨RJ1, "charAt", "([BI)C"⟩
def RJ2 : String := "java/lang/StringUTF16"
def TJ2 : u_T := fun k => match k with
  | _ => ("", "", "", false)
def tyJ2 : Nat → FieldType := fun k => match k with
  | _ => .int
abbrev wsJ20 : List Cond := u_ws RJ2 TJ2 0
theorem nmJ2 : ∀ a, a < 0 → ∀ b, b < 0 → a ≠ b → (TJ2 a).2.1 ≠ (TJ2 b).2.1 := by decide +kernel
theorem tyJ2_ok : ∀ k, k < 0 → parseFieldDescriptor (TJ2 k).2.2.1 = some (tyJ2 k) := by decide +kernel
abbrev cJ2_getChar_3b067 : ByteArray := prog_18_method_5_code
def yJ2_getChar_3b067 : MethodName := ⟨RJ2, "getChar", "([BI)C"⟩
abbrev cJ2_length_9d52b : ByteArray := prog_18_method_6_code
def yJ2_length_9d52b : MethodName := ⟨RJ2, "length", "([B)I"⟩
abbrev cJ2_charAt_3b067 : ByteArray := prog_18_method_83_code
def yJ2_charAt_3b067 : MethodName := ⟨RJ2, "charAt", "([BI)C"⟩
abbrev cJ2_checkIndex_2214a : ByteArray := prog_18_method_91_code
def yJ2_checkIndex_2214a : MethodName := ⟨RJ2, "checkIndex", "(I[B)V"⟩
def RJ3 : String := "jdk/internal/util/Preconditions"
def TJ3 : u_T := fun k => match k with
  | _ => ("", "", "", false)
def tyJ3 : Nat → FieldType := fun k => match k with
  | _ => .int
abbrev wsJ30 : List Cond := u_ws RJ3 TJ3 0
theorem nmJ3 : ∀ a, a < 0 → ∀ b, b < 0 → a ≠ b → (TJ3 a).2.1 ≠ (TJ3 b).2.1 := by decide +kernel
theorem tyJ3_ok : ∀ k, k < 0 → parseFieldDescriptor (TJ3 k).2.2.1 = some (tyJ3 k) := by decide +kernel
abbrev cJ3_checkIndex_8e157 : ByteArray := prog_19_method_11_code
def yJ3_checkIndex_8e157 : MethodName := ⟨RJ3, "checkIndex", "(IILjava/util/function/BiFunction;)I"⟩
def RL : String := "SteepleStruckLaw"
abbrev cL_law : ByteArray := code
def yL_law : MethodName := ⟨RL, "law", "([I)Z"⟩
end
section
/-! THE MACHINE LIFTED: the cells of class and reference as one memory of numbers, methods as runs over it -/
abbrev AV : Type := Int32 ⊕ (Int64 ⊕ (Nat × Nat))
abbrev ai (x : Int32) : AV := .inl x
abbrev al (x : Int64) : AV := .inr (.inl x)
abbrev ar (c k : Nat) : AV := .inr (.inr (c, k))
abbrev Mem : Type := (Nat → Nat → Nat → Int32) × (Nat → Nat → Nat → Int64)
abbrev AdT : Type := Nat → Nat → Nat
def cv (ad : AdT) : AV → Value
  | .inl x => .int x
  | .inr (.inl x) => .long x
  | .inr (.inr q) => .ref (ad q.1 q.2)
abbrev MI : Type := MethodName × ByteArray × Nat × Option FieldType × Nat × Nat
/-- how many cells of a kind: objects by class, 20 rows of tables, 21 of Row, 22 of the reference; 12 texts, 23 their bytes, 24 the script -/
def cnt : Nat → Nat
  | 0 => 1 | 1 => 1 | 2 => 1 | 3 => 0 | 4 => 5 | 5 => 1 | 6 => 8 | 7 => 28 | 8 => 1 | 9 => 4 | 10 => 1 | 11 => 1
  | 12 => 6 | 20 => 28 | 21 => 8 | 22 => 12 | 23 => 6 | 24 => 1
  | _ => 0
def kds : List Nat := [0, 1, 2, 3, 4, 5, 6, 7, 8, 9, 10, 11, 20, 21, 22]
def ix : List (Nat × Nat) := kds.flatMap fun c => (List.range (cnt c)).map fun k => (c, k)
def alen : Nat → Nat → Nat
  | 20, k => [12, 18, 6, 10, 30, 24, 32].getD (k % 7) 0
  | 21, k => [12, 150, 3, 64, 64, 6, 6, 10].getD k 0
  | _, k => [142, 284, 2, 3, 46, 6, 6, 6, 6, 150, 110, 3].getD k 0
def nf : Nat → Nat
  | 0 => 2 | 1 => 2 | 2 => 1 | 3 => 0 | 4 => 4 | 5 => 5 | 6 => 1 | 7 => 4 | 8 => 7 | 9 => 8 | 10 => 16 | 11 => 19
  | _ => 0
def favW (x : Int32) (l : Int64) (c k j : Nat) : AV := match c with
  | 0 => match j with
    | 0 => ar 6 7
    | _ => ai x
  | 1 => al l
  | 2 => ar 6 6
  | 5 => match j with
    | 0 => ar 6 3
    | 1 => ar 6 4
    | 2 => ar 6 5
    | _ => ai x
  | 6 => ar 21 k
  | 7 => match j with
    | 2 => ar 20 k
    | _ => ai x
  | 8 => match j with
    | 0 => ar 6 1
    | 1 => ar 6 2
    | _ => ai x
  | 9 => match j with
    | 0 => ar 7 (7 * k)
    | 1 => ar 7 (7 * k + 1)
    | 2 => ar 7 (7 * k + 2)
    | 3 => ar 7 (7 * k + 3)
    | 4 => ar 7 (7 * k + 4)
    | 5 => ar 7 (7 * k + 5)
    | 6 => ar 7 (7 * k + 6)
    | _ => ar 4 k
  | 10 => match j with
    | 0 => ar 9 0
    | 1 => ar 9 1
    | 2 => ar 9 2
    | 3 => ar 9 3
    | 4 => ar 4 4
    | 5 => ar 6 0
    | 6 => ar 8 0
    | 7 => ar 1 0
    | 8 => ar 5 0
    | 9 => ar 2 0
    | 10 => ar 0 0
    | _ => ai x
  | 11 => match j with
    | 0 => ar 22 0
    | 1 => ar 22 1
    | 2 => ar 22 2
    | 3 => ar 22 3
    | 4 => al l
    | 5 => al l
    | 6 => ar 22 4
    | 7 => ar 22 5
    | 8 => ar 22 6
    | 9 => ar 22 7
    | 10 => ar 22 8
    | 11 => ar 22 9
    | 17 => ar 22 10
    | 18 => ar 22 11
    | _ => ai x
  | _ => ai x
def fav (σ : Mem) (c k j : Nat) : AV := favW (σ.1 c k j) (σ.2 c k j) c k j
abbrev classes : List vw_C := [(RX0, TX0, 2), (RX1, TX1, 2), (RX2, TX2, 1), (RX3, TX3, 0), (RX4, TX4, 4), (RX5, TX5, 5), (RX6, TX6, 1), (RX7, TX7, 4), (RX8, TX8, 7), (RX9, TX9, 8), (RX10, TX10, 16), (RX11, TX11, 19)]
/-- the classes' and the arrays' numbers, the addresses, the script -/
abbrev Kx : Type := va_G × (ClassId × ClassId) × AdT × (Nat → Int32) × Nat
abbrev Kad (X : Kx) : AdT := X.2.2.1
def acell (X : Kx) (σ : Mem) (c k : Nat) : va_E :=
  if c < 12 then .inr (c, (List.range (nf c)).map fun j => cv (Kad X) (fav σ c k j))
  else .inl (if c = 22 ∧ k = 2 then X.2.1.2 else X.2.1.1, alen c k, .inl (σ.1 c k))
def wl (X : Kx) (σ : Mem) : va_W := ix.map fun q => (Kad X q.1 q.2, acell X σ q.1 q.2)
def Wd (X : Kx) (σ : Mem) (H : Heap) : Prop := va_P X.1 classes (wl X σ) H ∧ σ.1 24 0 = X.2.2.2.1 ∧ σ.1 24 1 0 = nI X.2.2.2.2
def Wa (X : Kx) : Nat → Prop := fun a => ∃ q ∈ ix, a = Kad X q.1 q.2
def Ap (X : Kx) : Prop := ∀ q ∈ ix, ∀ r ∈ ix, Kad X q.1 q.2 = Kad X r.1 r.2 → q = r
abbrev atys (X : Kx) : List (ClassId × FieldType) := [(X.2.1.1, .int), (X.2.1.2, .boolean)]
def lenJS : List Nat := [7, 5, 5, 4, 4, 7]
def bytJS : List (List Int32) := [[118, 105, 108, 108, 97, 103, 101], [115, 116, 111, 114, 109], [116, 104, 105, 110, 103], [112, 97, 114, 116], [116, 97, 107, 101], [115, 117, 109, 109, 101, 114, 115]]
def txtJS : List String := ["village", "storm", "thing", "part", "take", "summers"]
/-- the words of the tables that every method may hand on -/
def gt : List Cond := lw_tbl.filter goodWord
theorem gt_in {w : Cond} (h : w ∈ lw_tbl) (hg : goodWord w = true) : w ∈ gt := List.mem_filter.mpr ⟨h, hg⟩
def SX (X : Kx) (A : Nat → Prop) (s : State) (H : Heap) : Prop := vk_S 6 lenJS bytJS (Kad X 12) (Kad X 23) A s H ∧ (va_Z "java/lang/String" "COMPACT_STRINGS" "Z" (.int 1) A s H ∧ va_Zq "jdk/internal/util/Preconditions" "SIOOBE_FORMATTER" "Ljava/util/function/BiFunction;" A s H) ∧ (∀ i, i < 6 → vk_R RX8 (138 + 2 * i) (txtJS.getD i "") (Kad X 12 i) s) ∧ va_Nw (.methodLinkNest RX8 88 yX10_within "SteepleStruck") s
def okA : AV → Prop
  | .inr (.inr q) => q.2 < cnt q.1
  | _ => True
def okS (st : List AV) : Prop := ∀ a ∈ st, okA a
def okL (L : List (Option AV)) : Prop := ∀ a, some a ∈ L → okA a
theorem okS.tl {a : AV} {st : List AV} (h : okS (a :: st)) : okS st := fun b hb => h b (List.mem_cons_of_mem _ hb)
theorem okS.hd {a : AV} {st : List AV} (h : okS (a :: st)) : okA a := h a List.mem_cons_self
theorem okS.cons {a : AV} {st : List AV} (ha : okA a) (h : okS st) : okS (a :: st) := fun b hb => (List.mem_cons.mp hb).elim (fun e => e ▸ ha) (h b)
theorem okS.i {x : Int32} {st : List AV} (h : okS st) : okS (.inl x :: st) := okS.cons trivial h
theorem okS.l {x : Int64} {st : List AV} (h : okS st) : okS (.inr (.inl x) :: st) := okS.cons trivial h
theorem okL.at {L : List (Option AV)} {i : Nat} {a : AV} (h : okL L) (hl : L[i]? = some (some a)) : okA a := h a (List.mem_of_getElem? hl)
theorem okL.set {L : List (Option AV)} {i : Nat} {a : AV} (h : okL L) (ha : okA a) : okL (L.set i (some a)) := by
  intro b hb
  rcases List.mem_or_eq_of_mem_set hb with h1 | h1
  · exact h b h1
  · cases h1; exact ha
theorem okL.unset {L : List (Option AV)} {i : Nat} (h : okL L) : okL (L.set i none) := by
  intro b hb
  rcases List.mem_or_eq_of_mem_set hb with h1 | h1
  · exact h b h1
  · cases h1
/-! the locals -/
def lvR (ad : AdT) (ls : Array Slot) (n : Nat) (L : List (Option AV)) : Prop := ls.size = n ∧ lv_wf ls ∧ ∀ (i : Nat) (a : AV), L[i]? = some (some a) → ls[i]? = some (.val (cv ad a))
def asc (ad : AdT) (L : List (Option AV)) : List (Nat × Value) := (List.range L.length).filterMap fun i => ((L[i]?).getD none).map fun a => (i, cv ad a)
theorem asc_mem {ad : AdT} {L : List (Option AV)} {q : Nat × Value} : q ∈ asc ad L ↔ ∃ a, L[q.1]? = some (some a) ∧ q.2 = cv ad a := by
  constructor
  · intro h
    obtain ⟨i, hi, h2⟩ := List.mem_filterMap.mp h
    cases hl : L[i]? with
    | none => rw [hl] at h2; cases h2
    | some o =>
      rw [hl] at h2
      cases o with
      | none => cases h2
      | some a =>
        cases h2
        exact ⟨a, hl, rfl⟩
  · rintro ⟨a, h1, h2⟩
    refine List.mem_filterMap.mpr ⟨q.1, List.mem_range.mpr (List.getElem?_eq_some_iff.mp h1).1, ?_⟩
    rw [h1]
    show some (q.1, cv ad a) = some q
    rw [← h2]
theorem lvR.has {ad : AdT} {ls : Array Slot} {n : Nat} {L : List (Option AV)} (h : lvR ad ls n L) : lv_has ls n (asc ad L) := by
  refine ⟨h.1, h.2.1, fun q hq => ?_⟩
  obtain ⟨a, h1, h2⟩ := asc_mem.mp hq
  rw [h2]
  exact h.2.2 q.1 a h1
/-- no long stands in the local just ahead -/
def nol (L : List (Option AV)) : Nat → Bool
  | 0 => true
  | i + 1 => match L[i]? with
    | some (some (.inr (.inl _))) => false
    | _ => true
theorem cv_cat2 {ad : AdT} {a : AV} (h : (cv ad a).category = 2) : ∃ x, a = .inr (.inl x) := by
  rcases a with x | x | q
  · cases h
  · exact ⟨x, rfl⟩
  · cases h
theorem nol_use {ad : AdT} {L : List (Option AV)} {i j : Nat} {a : AV} (h : nol L i = true) (hj : L[j]? = some (some a)) (e : j + 1 = i) : ¬ (cv ad a).category = 2 := by
  intro hc
  obtain ⟨x, rfl⟩ := cv_cat2 hc
  subst e
  simp [nol, hj] at h
theorem lvR.of1 {ad : AdT} {ls' : Array Slot} {n : Nat} {L : List (Option AV)} {i : Nat} {a : AV} (hno : nol L i = true) (h : lv_has ls' n ((i, cv ad a) :: (asc ad L).filter (fun q => !(q.1 == i) && !(q.1 + 1 == i && q.2.category == 2)))) : lvR ad ls' n (L.set i (some a)) := by
  refine ⟨h.1, h.2.1, fun j b hj => ?_⟩
  by_cases e : i = j
  · subst e
    rw [List.getElem?_set] at hj
    split at hj
    · split at hj
      · cases hj
        exact h.2.2 _ List.mem_cons_self
      · cases hj
    · exact absurd rfl ‹¬ i = i›
  · rw [List.getElem?_set_ne e] at hj
    refine h.2.2 (j, cv ad b) (List.mem_cons_of_mem _ (List.mem_filter.mpr ⟨asc_mem.mpr ⟨b, hj, rfl⟩, ?_⟩))
    have e2 : ¬ j = i := fun z => e z.symm
    by_cases e3 : j + 1 = i
    · have := nol_use (ad := ad) hno hj e3
      simp [e2, e3, this]
    · simp [e2, e3]
theorem lvR.of2 {ad : AdT} {ls' : Array Slot} {n : Nat} {L : List (Option AV)} {i : Nat} {a : AV} (hno : nol L i = true) (h : lv_has ls' n ((i, cv ad a) :: (asc ad L).filter (fun q => !(q.1 == i) && (!(q.1 == i + 1) && !(q.1 + 1 == i && q.2.category == 2))))) : lvR ad ls' n ((L.set i (some a)).set (i + 1) none) := by
  refine ⟨h.1, h.2.1, fun j b hj => ?_⟩
  by_cases e0 : i + 1 = j
  · subst e0
    rw [List.getElem?_set] at hj
    split at hj
    · split at hj <;> cases hj
    · exact absurd rfl ‹¬ i + 1 = i + 1›
  · rw [List.getElem?_set_ne e0] at hj
    by_cases e : i = j
    · subst e
      rw [List.getElem?_set] at hj
      split at hj
      · split at hj
        · cases hj
          exact h.2.2 _ List.mem_cons_self
        · cases hj
      · exact absurd rfl ‹¬ i = i›
    · rw [List.getElem?_set_ne e] at hj
      refine h.2.2 (j, cv ad b) (List.mem_cons_of_mem _ (List.mem_filter.mpr ⟨asc_mem.mpr ⟨b, hj, rfl⟩, ?_⟩))
      have e2 : ¬ j = i := fun z => e z.symm
      have e4 : ¬ j = i + 1 := fun z => e0 z.symm
      by_cases e3 : j + 1 = i
      · have := nol_use (ad := ad) hno hj e3
        simp [e2, e3, e4, this]
      · simp [e2, e3, e4]
/-! the world -/
theorem ix_nd : ∀ (i j : Nat) (q : Nat × Nat), ix[i]? = some q → ix[j]? = some q → i = j := by
  have h : ix.Nodup := by decide +kernel
  intro i j q hi hj
  exact (List.getElem?_inj (List.getElem?_eq_some_iff.mp hi).1 h).mp (hi.trans hj.symm)
theorem ix_mem {c k : Nat} (hc : c ∈ kds) (hk : k < cnt c) : (c, k) ∈ ix := List.mem_flatMap.mpr ⟨c, hc, List.mem_map.mpr ⟨k, List.mem_range.mpr hk, rfl⟩⟩
theorem ix_kds {q : Nat × Nat} (h : q ∈ ix) : q.1 ∈ kds ∧ q.2 < cnt q.1 := by
  obtain ⟨c, hc, h2⟩ := List.mem_flatMap.mp h
  obtain ⟨k, hk, rfl⟩ := List.mem_map.mp h2
  exact ⟨hc, List.mem_range.mp hk⟩
theorem wl_at {X : Kx} {σ : Mem} {i : Nat} {q : Nat × Nat} (h : ix[i]? = some q) : (wl X σ)[i]? = some (Kad X q.1 q.2, acell X σ q.1 q.2) := by
  rw [wl, List.getElem?_map, h]; rfl
theorem wl_in {X : Kx} {σ : Mem} {i : Nat} {r : Nat × va_E} (h : (wl X σ)[i]? = some r) : ∃ q, ix[i]? = some q ∧ r = (Kad X q.1 q.2, acell X σ q.1 q.2) := by
  rw [wl, List.getElem?_map] at h
  cases hi : ix[i]? with
  | none => rw [hi] at h; cases h
  | some q => rw [hi] at h; exact ⟨q, rfl, (Option.some.inj h).symm⟩
theorem wl_set {X : Kx} {σ σ' : Mem} {i : Nat} {c k : Nat} (h : ix[i]? = some (c, k)) (ho : ∀ q ∈ ix, q ≠ (c, k) → acell X σ' q.1 q.2 = acell X σ q.1 q.2) : (wl X σ).set i (Kad X c k, acell X σ' c k) = wl X σ' := by
  apply List.ext_getElem?
  intro j
  by_cases e : i = j
  · subst e
    rw [List.getElem?_set, wl_at (σ := σ') h]
    have := (List.getElem?_eq_some_iff.mp (wl_at (X := X) (σ := σ) h)).1
    simp [this]
  · rw [List.getElem?_set_ne e]
    cases hj : ix[j]? with
    | none => rw [wl, wl, List.getElem?_map, List.getElem?_map, hj]; rfl
    | some q =>
      rw [wl_at hj, wl_at hj, ho q (List.mem_of_getElem? hj)]
      intro z
      subst z
      exact e (ix_nd i j _ h hj)
theorem wl_D {X : Kx} {σ : Mem} {A : Nat → Prop} (hA : Ap X) (hin : ∀ q ∈ ix, A (Kad X q.1 q.2)) : va_D A (wl X σ) := by
  refine ⟨fun i j p q hi hj e => ?_, fun k q hk => ?_⟩
  · obtain ⟨r, h1, rfl⟩ := wl_in hi
    obtain ⟨t, h2, rfl⟩ := wl_in hj
    have := hA r (List.mem_of_getElem? h1) t (List.mem_of_getElem? h2) e
    subst this
    exact ix_nd i j _ h1 h2
  · obtain ⟨r, h1, rfl⟩ := wl_in hk
    exact hin r (List.mem_of_getElem? h1)
/-- the frame's context -/
def Fr (y : MI) (X : Kx) (p : Program) (R : Room) (s : State) (m : MethodId) (args : Array Value) (meth : Method) (c : Code) (A : Nat → Prop) (cells slots : Nat) : Prop :=
  p.tables.exec = Jvm.exec ∧ c.code = y.2.1 ∧ c.maxLocals = y.2.2.1 ∧ s.vm.findClass y.1.cls = some m.cls ∧ (∀ w ∈ gt, w.before args s = true) ∧
  va_K X.1 classes (atys X) s ∧ Ap X ∧ (∀ q ∈ ix, A (Kad X q.1 q.2)) ∧ SX X A s s.heap ∧
  (y.1.cls = RL → va_X (Kad X 24 0) X.2.2.2.2 X.2.2.2.1 s s.heap ∧ Kad X 24 0 < s.heap.size ∧ ¬ A (Kad X 24 0) ∧ X.2.2.2.2 ≤ 384) ∧
  y.2.2.2.2.1 ≤ R.frames ∧ y.2.2.2.2.2 ≤ R.locals ∧ cells ≤ R.cells ∧ slots ≤ R.slots
def retIns : Option FieldType → Instr
  | none => .return_
  | some .long => .lreturn
  | some (.object _) => .areturn
  | some _ => .ireturn
/-- the answer is of the method's kind -/
def vok : Option FieldType → Option AV → Prop
  | none, none => True
  | some .int, some (.inl _) => True
  | some .boolean, some (.inl v) => v = 0 ∨ v = 1
  | some .long, some (.inr (.inl _)) => True
  | some (.object _), some (.inr (.inr _)) => True
  | _, _ => False
/-- what the method's end needs -/
def Rt (y : MI) (X : Kx) (p : Program) (l : Launch) (e : Env) (R : Room) (s : State) (m : MethodId) (args : Array Value) (below : List Frame) (meth : Method) (c : Code) (A : Nat → Prop) (cells slots : Nat) (Q : State → Prop) (V : Option AV) (S : Mem) : Prop :=
  ∀ (pc : Nat) (H : Heap) (locs : List Loc) (ls : Array Slot), decode y.2.1 pc = .ok (retIns y.2.2.2.1, 1) → vok y.2.2.2.1 V → okS V.toList → Wd X S H → va_S A s.heap H locs →
    W p l e R s m args below meth c H locs cells slots Q (F0 m pc ls (V.toList.map (cv (Kad X))))
/-- from here on the method comes to its end with V, the memory being S -/
def Go (y : MI) (pc : Nat) (L : List (Option AV)) (st : List AV) (σ : Mem) (V : Option AV) (S : Mem) : Prop :=
  ∀ (X : Kx) (p : Program) (l : Launch) (e : Env) (R : Room) (s : State) (m : MethodId) (args : Array Value) (below : List Frame) (meth : Method) (c : Code) (A : Nat → Prop) (cells slots : Nat) (Q : State → Prop),
    Fr y X p R s m args meth c A cells slots → Rt y X p l e R s m args below meth c A cells slots Q V S → okL L → okS st →
    ∀ (H : Heap) (locs : List Loc) (ls : Array Slot), lvR (Kad X) ls y.2.2.1 L → Wd X σ H → va_S A s.heap H locs →
      W p l e R s m args below meth c H locs cells slots Q (F0 m pc ls (st.map (cv (Kad X))))
def At (b : ByteArray) (pc : Nat) (i : Instr) (len n : Nat) : Prop := decode b pc = .ok (i, len) ∧ pc + len = n
/-- fewer locals told -/
def sbl : List (Option AV) → List (Option AV) → Prop
  | [], _ => True
  | none :: l', _ :: l => sbl l' l
  | none :: l', [] => sbl l' []
  | some a :: l', b :: l => b = some a ∧ sbl l' l
  | some _ :: _, [] => False
theorem sbl_use : ∀ {L' L : List (Option AV)}, sbl L' L → ∀ (i : Nat) (a : AV), L'[i]? = some (some a) → L[i]? = some (some a)
  | [], _, _, i, a, h => by simp at h
  | none :: l', _ :: l, hs, i, a, h => by
    cases i with
    | zero => simp at h
    | succ i => rw [List.getElem?_cons_succ] at h ⊢; exact sbl_use (L' := l') (L := l) hs i a h
  | none :: l', [], hs, i, a, h => by
    cases i with
    | zero => simp at h
    | succ i =>
      rw [List.getElem?_cons_succ] at h
      have := sbl_use (L' := l') (L := []) hs i a h
      simp at this
  | some b :: l', x :: l, hs, i, a, h => by
    cases i with
    | zero => rw [List.getElem?_cons_zero] at h ⊢; rw [← h]; exact congrArg some hs.1
    | succ i => rw [List.getElem?_cons_succ] at h ⊢; exact sbl_use (L' := l') (L := l) hs.2 i a h
theorem g_weak {y : MI} {pc : Nat} {L L' : List (Option AV)} {st : List AV} {σ S : Mem} {V : Option AV} (h : sbl L' L) (k : Go y pc L' st σ V S) : Go y pc L st σ V S := by
  intro X p l e R s m args below meth c A cells slots Q F hr oL oS H locs ls hl hW hS
  refine k X p l e R s m args below meth c A cells slots Q F hr (fun a ha => ?_) oS H locs ls ⟨hl.1, hl.2.1, fun i a hi => hl.2.2 i a (sbl_use h i a hi)⟩ hW hS
  obtain ⟨i, hi⟩ := List.getElem?_of_mem ha
  exact oL a (List.mem_of_getElem? (sbl_use h i a hi))
section RULES
variable {y : MI} {pc n : Nat} {L : List (Option AV)} {st : List AV} {σ S : Mem} {V : Option AV}
theorem g_ret (hd : At y.2.1 pc (retIns y.2.2.2.1) 1 n) (hk : vok y.2.2.2.1 V) : Go y pc L V.toList σ V σ := by
  intro X p l e R s m args below meth c A cells slots Q F hr oL oS H locs ls hl hW hS
  exact hr pc H locs ls hd.1 hk oS hW hS
theorem g_retE {st : List AV} {V : Option AV} {σ S : Mem} (hd : At y.2.1 pc (retIns y.2.2.2.1) 1 n) (hk : vok y.2.2.2.1 V) (hv : V.toList = st) (hs : S = σ) : Go y pc L st σ V S := by
  subst hv; subst hs
  exact g_ret hd hk
theorem g_iconst {i : Int} {v : Int32} (hd : At y.2.1 pc (.iconst i) 1 n) (hv : Int32.ofInt i = v) (k : Go y n L (.inl v :: st) σ V S) : Go y pc L st σ V S := by
  obtain ⟨hd, rfl⟩ := hd
  intro X p l e R s m args below meth c A cells slots Q F hr oL oS H locs ls hl hW hS
  exact lv_iconst F.1 F.2.1 hd hv (k X p l e R s m args below meth c A cells slots Q F hr oL oS.i H locs ls hl hW hS)
theorem g_bipush {i : Int} {v : Int32} (hd : At y.2.1 pc (.bipush i) 2 n) (hv : (Int8.ofInt i).toInt32 = v) (k : Go y n L (.inl v :: st) σ V S) : Go y pc L st σ V S := by
  obtain ⟨hd, rfl⟩ := hd
  intro X p l e R s m args below meth c A cells slots Q F hr oL oS H locs ls hl hW hS
  exact lv_bipush F.1 F.2.1 hd hv (k X p l e R s m args below meth c A cells slots Q F hr oL oS.i H locs ls hl hW hS)
theorem g_sipush {i : Int} {v : Int32} (hd : At y.2.1 pc (.sipush i) 3 n) (hv : (Int16.ofInt i).toInt32 = v) (k : Go y n L (.inl v :: st) σ V S) : Go y pc L st σ V S := by
  obtain ⟨hd, rfl⟩ := hd
  intro X p l e R s m args below meth c A cells slots Q F hr oL oS H locs ls hl hW hS
  exact lv_sipush F.1 F.2.1 hd hv (k X p l e R s m args below meth c A cells slots Q F hr oL oS.i H locs ls hl hW hS)
theorem g_lconst {i : Fin 2} {v : Int64} (hd : At y.2.1 pc (.lconst i) 1 n) (hv : Int64.ofNat (i : Nat) = v) (k : Go y n L (.inr (.inl v) :: st) σ V S) : Go y pc L st σ V S := by
  obtain ⟨hd, rfl⟩ := hd
  intro X p l e R s m args below meth c A cells slots Q F hr oL oS H locs ls hl hW hS
  exact lv_lconst F.1 F.2.1 hd hv (k X p l e R s m args below meth c A cells slots Q F hr oL oS.l H locs ls hl hW hS)
theorem g_ldc {i : Nat} {v : Int32} (hd : At y.2.1 pc (.ldc i) 2 n) (hw : Cond.constant y.1.cls i v ∈ gt) (k : Go y n L (.inl v :: st) σ V S) : Go y pc L st σ V S := by
  obtain ⟨hd, rfl⟩ := hd
  intro X p l e R s m args below meth c A cells slots Q F hr oL oS H locs ls hl hW hS
  exact lv_ldc F.1 F.2.1 F.2.2.2.1 (F.2.2.2.2.1 _ hw) hd (k X p l e R s m args below meth c A cells slots Q F hr oL oS.i H locs ls hl hW hS)
theorem g_ldcw {i : Nat} {v : Int32} (hd : At y.2.1 pc (.ldc_w i) 3 n) (hw : Cond.constant y.1.cls i v ∈ gt) (k : Go y n L (.inl v :: st) σ V S) : Go y pc L st σ V S := by
  obtain ⟨hd, rfl⟩ := hd
  intro X p l e R s m args below meth c A cells slots Q F hr oL oS H locs ls hl hW hS
  exact lv_ldcw F.1 F.2.1 F.2.2.2.1 (F.2.2.2.2.1 _ hw) hd (k X p l e R s m args below meth c A cells slots Q F hr oL oS.i H locs ls hl hW hS)
theorem g_ldc2 {i : Nat} {v : Int64} (hd : At y.2.1 pc (.ldc2_w i) 3 n) (hw : Cond.constantLong y.1.cls i v ∈ gt) (k : Go y n L (.inr (.inl v) :: st) σ V S) : Go y pc L st σ V S := by
  obtain ⟨hd, rfl⟩ := hd
  intro X p l e R s m args below meth c A cells slots Q F hr oL oS H locs ls hl hW hS
  exact lv_ldc2 F.1 F.2.1 F.2.2.2.1 (F.2.2.2.2.1 _ hw) hd (k X p l e R s m args below meth c A cells slots Q F hr oL oS.l H locs ls hl hW hS)
end RULES
end
section
/-! the rules, one an instruction, over the memory -/
section RULES2
variable {y : MI} {pc n : Nat} {L : List (Option AV)} {st : List AV} {σ S : Mem} {V : Option AV}
theorem g_iload {i : Nat} {x : Int32} (hd : At y.2.1 pc (.iload i) 2 n) (hv : L[i]? = some (some (.inl x))) (k : Go y n L (.inl x :: st) σ V S) : Go y pc L (st) σ V S := by
  obtain ⟨hd, rfl⟩ := hd
  intro X p l e R s m args below meth c A cells slots Q F hr oL oS H locs ls hl hW hS
  exact lv_iload F.1 F.2.1 hd (hl.2.2 _ _ hv) (k X p l e R s m args below meth c A cells slots Q F hr oL (oS.cons (oL.at hv)) H locs ls hl hW hS)
theorem g_iload_n {i : Fin 4} {x : Int32} (hd : At y.2.1 pc (.iload_n i) 1 n) (hv : L[(i : Nat)]? = some (some (.inl x))) (k : Go y n L (.inl x :: st) σ V S) : Go y pc L (st) σ V S := by
  obtain ⟨hd, rfl⟩ := hd
  intro X p l e R s m args below meth c A cells slots Q F hr oL oS H locs ls hl hW hS
  exact lv_iload_n F.1 F.2.1 hd rfl (hl.2.2 _ _ hv) (k X p l e R s m args below meth c A cells slots Q F hr oL (oS.cons (oL.at hv)) H locs ls hl hW hS)
theorem g_lload {i : Nat} {x : Int64} (hd : At y.2.1 pc (.lload i) 2 n) (hv : L[i]? = some (some (.inr (.inl x)))) (k : Go y n L (.inr (.inl x) :: st) σ V S) : Go y pc L (st) σ V S := by
  obtain ⟨hd, rfl⟩ := hd
  intro X p l e R s m args below meth c A cells slots Q F hr oL oS H locs ls hl hW hS
  exact lv_lload F.1 F.2.1 hd (hl.2.2 _ _ hv) (k X p l e R s m args below meth c A cells slots Q F hr oL (oS.cons (oL.at hv)) H locs ls hl hW hS)
theorem g_lload_n {i : Fin 4} {x : Int64} (hd : At y.2.1 pc (.lload_n i) 1 n) (hv : L[(i : Nat)]? = some (some (.inr (.inl x)))) (k : Go y n L (.inr (.inl x) :: st) σ V S) : Go y pc L (st) σ V S := by
  obtain ⟨hd, rfl⟩ := hd
  intro X p l e R s m args below meth c A cells slots Q F hr oL oS H locs ls hl hW hS
  exact lv_lload_n F.1 F.2.1 hd rfl (hl.2.2 _ _ hv) (k X p l e R s m args below meth c A cells slots Q F hr oL (oS.cons (oL.at hv)) H locs ls hl hW hS)
theorem g_aload {i : Nat} {x : Nat × Nat} (hd : At y.2.1 pc (.aload i) 2 n) (hv : L[i]? = some (some (.inr (.inr x)))) (k : Go y n L (.inr (.inr x) :: st) σ V S) : Go y pc L (st) σ V S := by
  obtain ⟨hd, rfl⟩ := hd
  intro X p l e R s m args below meth c A cells slots Q F hr oL oS H locs ls hl hW hS
  exact lv_aload F.1 F.2.1 hd (hl.2.2 _ _ hv) (k X p l e R s m args below meth c A cells slots Q F hr oL (oS.cons (oL.at hv)) H locs ls hl hW hS)
theorem g_aload_n {i : Fin 4} {x : Nat × Nat} (hd : At y.2.1 pc (.aload_n i) 1 n) (hv : L[(i : Nat)]? = some (some (.inr (.inr x)))) (k : Go y n L (.inr (.inr x) :: st) σ V S) : Go y pc L (st) σ V S := by
  obtain ⟨hd, rfl⟩ := hd
  intro X p l e R s m args below meth c A cells slots Q F hr oL oS H locs ls hl hW hS
  exact lv_aload_n F.1 F.2.1 hd rfl (hl.2.2 _ _ hv) (k X p l e R s m args below meth c A cells slots Q F hr oL (oS.cons (oL.at hv)) H locs ls hl hW hS)
theorem g_istore {i : Nat} {x : Int32} {L' : List (Option AV)} (hd : At y.2.1 pc (.istore i) 2 n) (hlt : i < y.2.2.1) (hno : nol L i = true) (hL : L.set i (some (.inl x)) = L') (k : Go y n L' (st) σ V S) : Go y pc L (.inl x :: st) σ V S := by
  obtain ⟨hd, rfl⟩ := hd
  intro X p l e R s m args below meth c A cells slots Q F hr oL oS H locs ls hl hW hS
  subst hL
  exact lv_istore F.1 F.2.1 hd hl.has hlt rfl (fun ls' hl' => k X p l e R s m args below meth c A cells slots Q F hr (oL.set oS.hd) oS.tl H locs ls' (lvR.of1 hno hl') hW hS)
theorem g_istore_n {i : Fin 4} {x : Int32} {L' : List (Option AV)} (hd : At y.2.1 pc (.istore_n i) 1 n) (hlt : (i : Nat) < y.2.2.1) (hno : nol L (i : Nat) = true) (hL : L.set (i : Nat) (some (.inl x)) = L') (k : Go y n L' (st) σ V S) : Go y pc L (.inl x :: st) σ V S := by
  obtain ⟨hd, rfl⟩ := hd
  intro X p l e R s m args below meth c A cells slots Q F hr oL oS H locs ls hl hW hS
  subst hL
  exact lv_istore_n F.1 F.2.1 hd rfl hl.has hlt rfl (fun ls' hl' => k X p l e R s m args below meth c A cells slots Q F hr (oL.set oS.hd) oS.tl H locs ls' (lvR.of1 hno hl') hW hS)
theorem g_astore {i : Nat} {x : Nat × Nat} {L' : List (Option AV)} (hd : At y.2.1 pc (.astore i) 2 n) (hlt : i < y.2.2.1) (hno : nol L i = true) (hL : L.set i (some (.inr (.inr x))) = L') (k : Go y n L' (st) σ V S) : Go y pc L (.inr (.inr x) :: st) σ V S := by
  obtain ⟨hd, rfl⟩ := hd
  intro X p l e R s m args below meth c A cells slots Q F hr oL oS H locs ls hl hW hS
  subst hL
  exact lv_astore F.1 F.2.1 hd hl.has hlt rfl (fun ls' hl' => k X p l e R s m args below meth c A cells slots Q F hr (oL.set oS.hd) oS.tl H locs ls' (lvR.of1 hno hl') hW hS)
theorem g_astore_n {i : Fin 4} {x : Nat × Nat} {L' : List (Option AV)} (hd : At y.2.1 pc (.astore_n i) 1 n) (hlt : (i : Nat) < y.2.2.1) (hno : nol L (i : Nat) = true) (hL : L.set (i : Nat) (some (.inr (.inr x))) = L') (k : Go y n L' (st) σ V S) : Go y pc L (.inr (.inr x) :: st) σ V S := by
  obtain ⟨hd, rfl⟩ := hd
  intro X p l e R s m args below meth c A cells slots Q F hr oL oS H locs ls hl hW hS
  subst hL
  exact lv_astore_n F.1 F.2.1 hd rfl hl.has hlt rfl (fun ls' hl' => k X p l e R s m args below meth c A cells slots Q F hr (oL.set oS.hd) oS.tl H locs ls' (lvR.of1 hno hl') hW hS)
theorem g_lstore {i : Nat} {x : Int64} {L' : List (Option AV)} (hd : At y.2.1 pc (.lstore i) 2 n) (hlt : i + 1 < y.2.2.1) (hno : nol L i = true) (hL : (L.set i (some (.inr (.inl x)))).set (i + 1) none = L') (k : Go y n L' (st) σ V S) : Go y pc L (.inr (.inl x) :: st) σ V S := by
  obtain ⟨hd, rfl⟩ := hd
  intro X p l e R s m args below meth c A cells slots Q F hr oL oS H locs ls hl hW hS
  subst hL
  exact lv_lstore F.1 F.2.1 hd hl.has hlt rfl (fun ls' hl' => k X p l e R s m args below meth c A cells slots Q F hr (oL.set oS.hd).unset oS.tl H locs ls' (lvR.of2 hno hl') hW hS)
theorem g_lstore_n {i : Fin 4} {x : Int64} {L' : List (Option AV)} (hd : At y.2.1 pc (.lstore_n i) 1 n) (hlt : (i : Nat) + 1 < y.2.2.1) (hno : nol L (i : Nat) = true) (hL : (L.set (i : Nat) (some (.inr (.inl x)))).set ((i : Nat) + 1) none = L') (k : Go y n L' (st) σ V S) : Go y pc L (.inr (.inl x) :: st) σ V S := by
  obtain ⟨hd, rfl⟩ := hd
  intro X p l e R s m args below meth c A cells slots Q F hr oL oS H locs ls hl hW hS
  subst hL
  exact lv_lstore_n F.1 F.2.1 hd rfl hl.has hlt rfl (fun ls' hl' => k X p l e R s m args below meth c A cells slots Q F hr (oL.set oS.hd).unset oS.tl H locs ls' (lvR.of2 hno hl') hW hS)
theorem g_iinc {i : Nat} {d : Int} {x v : Int32} {L' : List (Option AV)} (hd : At y.2.1 pc (.iinc i d) 3 n) (hx : L[i]? = some (some (.inl x))) (hv : x + Int32.ofInt d = v) (hlt : i < y.2.2.1) (hno : nol L i = true) (hL : L.set i (some (.inl v)) = L') (k : Go y n L' (st) σ V S) : Go y pc L (st) σ V S := by
  obtain ⟨hd, rfl⟩ := hd
  intro X p l e R s m args below meth c A cells slots Q F hr oL oS H locs ls hl hW hS
  subst hL
  obtain ⟨q, hq⟩ := List.getElem?_of_mem (asc_mem (ad := Kad X) (q := (i, cv (Kad X) (.inl x))).mpr ⟨_, hx, rfl⟩)
  exact lv_iinc F.1 F.2.1 hd hl.has hq hv hlt rfl (fun ls' hl' => k X p l e R s m args below meth c A cells slots Q F hr (oL.set trivial) oS H locs ls' (lvR.of1 hno hl') hW hS)
theorem g_iadd {x z : Int32} (hd : At y.2.1 pc .iadd 1 n) (k : Go y n L (.inl (x + z) :: st) σ V S) : Go y pc L (.inl z :: .inl x :: st) σ V S := by
  obtain ⟨hd, rfl⟩ := hd
  intro X p l e R s m args below meth c A cells slots Q F hr oL oS H locs ls hl hW hS
  exact lv_iadd F.1 F.2.1 hd (k X p l e R s m args below meth c A cells slots Q F hr oL oS.tl.tl.i H locs ls hl hW hS)
theorem g_isub {x z : Int32} (hd : At y.2.1 pc .isub 1 n) (k : Go y n L (.inl (x - z) :: st) σ V S) : Go y pc L (.inl z :: .inl x :: st) σ V S := by
  obtain ⟨hd, rfl⟩ := hd
  intro X p l e R s m args below meth c A cells slots Q F hr oL oS H locs ls hl hW hS
  exact lv_isub F.1 F.2.1 hd (k X p l e R s m args below meth c A cells slots Q F hr oL oS.tl.tl.i H locs ls hl hW hS)
theorem g_imul {x z : Int32} (hd : At y.2.1 pc .imul 1 n) (k : Go y n L (.inl (x * z) :: st) σ V S) : Go y pc L (.inl z :: .inl x :: st) σ V S := by
  obtain ⟨hd, rfl⟩ := hd
  intro X p l e R s m args below meth c A cells slots Q F hr oL oS H locs ls hl hW hS
  exact lv_imul F.1 F.2.1 hd (k X p l e R s m args below meth c A cells slots Q F hr oL oS.tl.tl.i H locs ls hl hW hS)
theorem g_iand {x z : Int32} (hd : At y.2.1 pc .iand 1 n) (k : Go y n L (.inl (x &&& z) :: st) σ V S) : Go y pc L (.inl z :: .inl x :: st) σ V S := by
  obtain ⟨hd, rfl⟩ := hd
  intro X p l e R s m args below meth c A cells slots Q F hr oL oS H locs ls hl hW hS
  exact lv_iand F.1 F.2.1 hd (k X p l e R s m args below meth c A cells slots Q F hr oL oS.tl.tl.i H locs ls hl hW hS)
theorem g_ior {x z : Int32} (hd : At y.2.1 pc .ior 1 n) (k : Go y n L (.inl (x ||| z) :: st) σ V S) : Go y pc L (.inl z :: .inl x :: st) σ V S := by
  obtain ⟨hd, rfl⟩ := hd
  intro X p l e R s m args below meth c A cells slots Q F hr oL oS H locs ls hl hW hS
  exact lv_ior F.1 F.2.1 hd (k X p l e R s m args below meth c A cells slots Q F hr oL oS.tl.tl.i H locs ls hl hW hS)
theorem g_ixor {x z : Int32} (hd : At y.2.1 pc .ixor 1 n) (k : Go y n L (.inl (x ^^^ z) :: st) σ V S) : Go y pc L (.inl z :: .inl x :: st) σ V S := by
  obtain ⟨hd, rfl⟩ := hd
  intro X p l e R s m args below meth c A cells slots Q F hr oL oS H locs ls hl hW hS
  exact lv_ixor F.1 F.2.1 hd (k X p l e R s m args below meth c A cells slots Q F hr oL oS.tl.tl.i H locs ls hl hW hS)
theorem g_ladd {x z : Int64} (hd : At y.2.1 pc .ladd 1 n) (k : Go y n L (.inr (.inl (x + z)) :: st) σ V S) : Go y pc L (.inr (.inl z) :: .inr (.inl x) :: st) σ V S := by
  obtain ⟨hd, rfl⟩ := hd
  intro X p l e R s m args below meth c A cells slots Q F hr oL oS H locs ls hl hW hS
  exact lv_ladd F.1 F.2.1 hd (k X p l e R s m args below meth c A cells slots Q F hr oL oS.tl.tl.l H locs ls hl hW hS)
theorem g_lmul {x z : Int64} (hd : At y.2.1 pc .lmul 1 n) (k : Go y n L (.inr (.inl (x * z)) :: st) σ V S) : Go y pc L (.inr (.inl z) :: .inr (.inl x) :: st) σ V S := by
  obtain ⟨hd, rfl⟩ := hd
  intro X p l e R s m args below meth c A cells slots Q F hr oL oS H locs ls hl hW hS
  exact lv_lmul F.1 F.2.1 hd (k X p l e R s m args below meth c A cells slots Q F hr oL oS.tl.tl.l H locs ls hl hW hS)
theorem g_idiv {x z : Int32} (hd : At y.2.1 pc .idiv 1 n) (h0 : ¬ z = 0) (k : Go y n L (.inl (x / z) :: st) σ V S) : Go y pc L (.inl z :: .inl x :: st) σ V S := by
  obtain ⟨hd, rfl⟩ := hd
  intro X p l e R s m args below meth c A cells slots Q F hr oL oS H locs ls hl hW hS
  exact lv_idiv F.1 F.2.1 hd h0 (k X p l e R s m args below meth c A cells slots Q F hr oL oS.tl.tl.i H locs ls hl hW hS)
theorem g_irem {x z : Int32} (hd : At y.2.1 pc .irem 1 n) (h0 : ¬ z = 0) (k : Go y n L (.inl (x - x / z * z) :: st) σ V S) : Go y pc L (.inl z :: .inl x :: st) σ V S := by
  obtain ⟨hd, rfl⟩ := hd
  intro X p l e R s m args below meth c A cells slots Q F hr oL oS H locs ls hl hW hS
  exact lv_irem F.1 F.2.1 hd h0 (k X p l e R s m args below meth c A cells slots Q F hr oL oS.tl.tl.i H locs ls hl hW hS)
theorem g_ldiv {x z : Int64} (hd : At y.2.1 pc .ldiv 1 n) (h0 : ¬ z = 0) (k : Go y n L (.inr (.inl (x / z)) :: st) σ V S) : Go y pc L (.inr (.inl z) :: .inr (.inl x) :: st) σ V S := by
  obtain ⟨hd, rfl⟩ := hd
  intro X p l e R s m args below meth c A cells slots Q F hr oL oS H locs ls hl hW hS
  exact lv_ldiv F.1 F.2.1 hd h0 (k X p l e R s m args below meth c A cells slots Q F hr oL oS.tl.tl.l H locs ls hl hW hS)
theorem g_lrem {x z : Int64} (hd : At y.2.1 pc .lrem 1 n) (h0 : ¬ z = 0) (k : Go y n L (.inr (.inl (x - x / z * z)) :: st) σ V S) : Go y pc L (.inr (.inl z) :: .inr (.inl x) :: st) σ V S := by
  obtain ⟨hd, rfl⟩ := hd
  intro X p l e R s m args below meth c A cells slots Q F hr oL oS H locs ls hl hW hS
  exact lv_lrem F.1 F.2.1 hd h0 (k X p l e R s m args below meth c A cells slots Q F hr oL oS.tl.tl.l H locs ls hl hW hS)
theorem g_ineg {x : Int32} (hd : At y.2.1 pc .ineg 1 n) (k : Go y n L (.inl (-x) :: st) σ V S) : Go y pc L (.inl x :: st) σ V S := by
  obtain ⟨hd, rfl⟩ := hd
  intro X p l e R s m args below meth c A cells slots Q F hr oL oS H locs ls hl hW hS
  exact lv_ineg F.1 F.2.1 hd (k X p l e R s m args below meth c A cells slots Q F hr oL oS.tl.i H locs ls hl hW hS)
theorem g_ishl {x z : Int32} (hd : At y.2.1 pc .ishl 1 n) (k : Go y n L (.inl (x <<< (z &&& 31)) :: st) σ V S) : Go y pc L (.inl z :: .inl x :: st) σ V S := by
  obtain ⟨hd, rfl⟩ := hd
  intro X p l e R s m args below meth c A cells slots Q F hr oL oS H locs ls hl hW hS
  exact lv_ishl F.1 F.2.1 hd (k X p l e R s m args below meth c A cells slots Q F hr oL oS.tl.tl.i H locs ls hl hW hS)
theorem g_ishr {x z : Int32} (hd : At y.2.1 pc .ishr 1 n) (k : Go y n L (.inl (x >>> (z &&& 31)) :: st) σ V S) : Go y pc L (.inl z :: .inl x :: st) σ V S := by
  obtain ⟨hd, rfl⟩ := hd
  intro X p l e R s m args below meth c A cells slots Q F hr oL oS H locs ls hl hW hS
  exact lv_ishr F.1 F.2.1 hd (k X p l e R s m args below meth c A cells slots Q F hr oL oS.tl.tl.i H locs ls hl hW hS)
theorem g_iushr {x z : Int32} (hd : At y.2.1 pc .iushr 1 n) (k : Go y n L (.inl ((x.toUInt32 >>> (z.toUInt32 &&& Int32.toUInt32 31)).toInt32) :: st) σ V S) : Go y pc L (.inl z :: .inl x :: st) σ V S := by
  obtain ⟨hd, rfl⟩ := hd
  intro X p l e R s m args below meth c A cells slots Q F hr oL oS H locs ls hl hW hS
  exact lv_iushr F.1 F.2.1 hd rfl (k X p l e R s m args below meth c A cells slots Q F hr oL oS.tl.tl.i H locs ls hl hW hS)
theorem g_i2l {x : Int32} (hd : At y.2.1 pc .i2l 1 n) (k : Go y n L (.inr (.inl x.toInt64) :: st) σ V S) : Go y pc L (.inl x :: st) σ V S := by
  obtain ⟨hd, rfl⟩ := hd
  intro X p l e R s m args below meth c A cells slots Q F hr oL oS H locs ls hl hW hS
  exact lv_i2l F.1 F.2.1 hd rfl (k X p l e R s m args below meth c A cells slots Q F hr oL oS.tl.l H locs ls hl hW hS)
theorem g_l2i {x : Int64} (hd : At y.2.1 pc .l2i 1 n) (k : Go y n L (.inl x.toInt32 :: st) σ V S) : Go y pc L (.inr (.inl x) :: st) σ V S := by
  obtain ⟨hd, rfl⟩ := hd
  intro X p l e R s m args below meth c A cells slots Q F hr oL oS H locs ls hl hW hS
  exact lv_l2i F.1 F.2.1 hd rfl (k X p l e R s m args below meth c A cells slots Q F hr oL oS.tl.i H locs ls hl hW hS)
theorem g_lcmp {x z : Int64} (hd : At y.2.1 pc .lcmp 1 n) (k : Go y n L (.inl (lg_cmp x z) :: st) σ V S) : Go y pc L (.inr (.inl z) :: .inr (.inl x) :: st) σ V S := by
  obtain ⟨hd, rfl⟩ := hd
  intro X p l e R s m args below meth c A cells slots Q F hr oL oS H locs ls hl hW hS
  exact W.lcmp F.1 F.2.1 hd (k X p l e R s m args below meth c A cells slots Q F hr oL oS.tl.tl.i H locs ls hl hW hS)
theorem g_dup {x : AV} (hd : At y.2.1 pc .dup 1 n) (hx : ∀ ad, (cv ad x).category = 1) (k : Go y n L (x :: x :: st) σ V S) : Go y pc L (x :: st) σ V S := by
  obtain ⟨hd, rfl⟩ := hd
  intro X p l e R s m args below meth c A cells slots Q F hr oL oS H locs ls hl hW hS
  exact lv_dup F.1 F.2.1 hd (hx _) (k X p l e R s m args below meth c A cells slots Q F hr oL (oS.cons oS.hd) H locs ls hl hW hS)
theorem g_pop {x : AV} (hd : At y.2.1 pc .pop 1 n) (hx : ∀ ad, (cv ad x).category = 1) (k : Go y n L (st) σ V S) : Go y pc L (x :: st) σ V S := by
  obtain ⟨hd, rfl⟩ := hd
  intro X p l e R s m args below meth c A cells slots Q F hr oL oS H locs ls hl hW hS
  exact lv_pop F.1 F.2.1 hd (hx _) (k X p l e R s m args below meth c A cells slots Q F hr oL oS.tl H locs ls hl hW hS)
theorem g_dup2 {x z : AV} (hd : At y.2.1 pc .dup2 1 n) (hx : ∀ ad, (cv ad x).category = 1) (hz : ∀ ad, (cv ad z).category = 1) (k : Go y n L (x :: z :: x :: z :: st) σ V S) : Go y pc L (x :: z :: st) σ V S := by
  obtain ⟨hd, rfl⟩ := hd
  intro X p l e R s m args below meth c A cells slots Q F hr oL oS H locs ls hl hW hS
  exact lv_dup2_11 F.1 F.2.1 hd (hx _) (hz _) (k X p l e R s m args below meth c A cells slots Q F hr oL ((oS.cons oS.tl.hd).cons oS.hd) H locs ls hl hW hS)
theorem g_if_eq {x : Int32} {off : Int} {tgt : Nat} (hd : At y.2.1 pc (.ifCond .eq off) 3 n) (ht : (pc : Int) + off = (tgt : Int)) (kt : x = 0 → Go y tgt L st σ V S) (kf : ¬ x = 0 → Go y n L st σ V S) : Go y pc L (.inl x :: st) σ V S := by
  obtain ⟨hd, rfl⟩ := hd
  intro X p l e R s m args below meth c A cells slots Q F hr oL oS H locs ls hl hW hS
  exact lv_if_eq F.1 F.2.1 hd ht (fun h => kt h X p l e R s m args below meth c A cells slots Q F hr oL oS.tl H locs ls hl hW hS) (fun h => kf h X p l e R s m args below meth c A cells slots Q F hr oL oS.tl H locs ls hl hW hS)
theorem g_icmp_eq {x z : Int32} {off : Int} {tgt : Nat} (hd : At y.2.1 pc (.if_icmp .eq off) 3 n) (ht : (pc : Int) + off = (tgt : Int)) (kt : x = z → Go y tgt L st σ V S) (kf : ¬ x = z → Go y n L st σ V S) : Go y pc L (.inl z :: .inl x :: st) σ V S := by
  obtain ⟨hd, rfl⟩ := hd
  intro X p l e R s m args below meth c A cells slots Q F hr oL oS H locs ls hl hW hS
  exact lv_icmp_eq F.1 F.2.1 hd ht (fun h => kt h X p l e R s m args below meth c A cells slots Q F hr oL oS.tl.tl H locs ls hl hW hS) (fun h => kf h X p l e R s m args below meth c A cells slots Q F hr oL oS.tl.tl H locs ls hl hW hS)
theorem g_if_ne {x : Int32} {off : Int} {tgt : Nat} (hd : At y.2.1 pc (.ifCond .ne off) 3 n) (ht : (pc : Int) + off = (tgt : Int)) (kt : ¬ x = 0 → Go y tgt L st σ V S) (kf : x = 0 → Go y n L st σ V S) : Go y pc L (.inl x :: st) σ V S := by
  obtain ⟨hd, rfl⟩ := hd
  intro X p l e R s m args below meth c A cells slots Q F hr oL oS H locs ls hl hW hS
  exact lv_if_ne F.1 F.2.1 hd ht (fun h => kt h X p l e R s m args below meth c A cells slots Q F hr oL oS.tl H locs ls hl hW hS) (fun h => kf h X p l e R s m args below meth c A cells slots Q F hr oL oS.tl H locs ls hl hW hS)
theorem g_icmp_ne {x z : Int32} {off : Int} {tgt : Nat} (hd : At y.2.1 pc (.if_icmp .ne off) 3 n) (ht : (pc : Int) + off = (tgt : Int)) (kt : ¬ x = z → Go y tgt L st σ V S) (kf : x = z → Go y n L st σ V S) : Go y pc L (.inl z :: .inl x :: st) σ V S := by
  obtain ⟨hd, rfl⟩ := hd
  intro X p l e R s m args below meth c A cells slots Q F hr oL oS H locs ls hl hW hS
  exact lv_icmp_ne F.1 F.2.1 hd ht (fun h => kt h X p l e R s m args below meth c A cells slots Q F hr oL oS.tl.tl H locs ls hl hW hS) (fun h => kf h X p l e R s m args below meth c A cells slots Q F hr oL oS.tl.tl H locs ls hl hW hS)
theorem g_if_lt {x : Int32} {off : Int} {tgt : Nat} (hd : At y.2.1 pc (.ifCond .lt off) 3 n) (ht : (pc : Int) + off = (tgt : Int)) (kt : x < 0 → Go y tgt L st σ V S) (kf : ¬ x < 0 → Go y n L st σ V S) : Go y pc L (.inl x :: st) σ V S := by
  obtain ⟨hd, rfl⟩ := hd
  intro X p l e R s m args below meth c A cells slots Q F hr oL oS H locs ls hl hW hS
  exact lv_if_lt F.1 F.2.1 hd ht (fun h => kt h X p l e R s m args below meth c A cells slots Q F hr oL oS.tl H locs ls hl hW hS) (fun h => kf h X p l e R s m args below meth c A cells slots Q F hr oL oS.tl H locs ls hl hW hS)
theorem g_icmp_lt {x z : Int32} {off : Int} {tgt : Nat} (hd : At y.2.1 pc (.if_icmp .lt off) 3 n) (ht : (pc : Int) + off = (tgt : Int)) (kt : x < z → Go y tgt L st σ V S) (kf : ¬ x < z → Go y n L st σ V S) : Go y pc L (.inl z :: .inl x :: st) σ V S := by
  obtain ⟨hd, rfl⟩ := hd
  intro X p l e R s m args below meth c A cells slots Q F hr oL oS H locs ls hl hW hS
  exact lv_icmp_lt F.1 F.2.1 hd ht (fun h => kt h X p l e R s m args below meth c A cells slots Q F hr oL oS.tl.tl H locs ls hl hW hS) (fun h => kf h X p l e R s m args below meth c A cells slots Q F hr oL oS.tl.tl H locs ls hl hW hS)
theorem g_if_ge {x : Int32} {off : Int} {tgt : Nat} (hd : At y.2.1 pc (.ifCond .ge off) 3 n) (ht : (pc : Int) + off = (tgt : Int)) (kt : 0 ≤ x → Go y tgt L st σ V S) (kf : ¬ 0 ≤ x → Go y n L st σ V S) : Go y pc L (.inl x :: st) σ V S := by
  obtain ⟨hd, rfl⟩ := hd
  intro X p l e R s m args below meth c A cells slots Q F hr oL oS H locs ls hl hW hS
  exact lv_if_ge F.1 F.2.1 hd ht (fun h => kt h X p l e R s m args below meth c A cells slots Q F hr oL oS.tl H locs ls hl hW hS) (fun h => kf h X p l e R s m args below meth c A cells slots Q F hr oL oS.tl H locs ls hl hW hS)
theorem g_icmp_ge {x z : Int32} {off : Int} {tgt : Nat} (hd : At y.2.1 pc (.if_icmp .ge off) 3 n) (ht : (pc : Int) + off = (tgt : Int)) (kt : z ≤ x → Go y tgt L st σ V S) (kf : ¬ z ≤ x → Go y n L st σ V S) : Go y pc L (.inl z :: .inl x :: st) σ V S := by
  obtain ⟨hd, rfl⟩ := hd
  intro X p l e R s m args below meth c A cells slots Q F hr oL oS H locs ls hl hW hS
  exact lv_icmp_ge F.1 F.2.1 hd ht (fun h => kt h X p l e R s m args below meth c A cells slots Q F hr oL oS.tl.tl H locs ls hl hW hS) (fun h => kf h X p l e R s m args below meth c A cells slots Q F hr oL oS.tl.tl H locs ls hl hW hS)
theorem g_if_gt {x : Int32} {off : Int} {tgt : Nat} (hd : At y.2.1 pc (.ifCond .gt off) 3 n) (ht : (pc : Int) + off = (tgt : Int)) (kt : 0 < x → Go y tgt L st σ V S) (kf : ¬ 0 < x → Go y n L st σ V S) : Go y pc L (.inl x :: st) σ V S := by
  obtain ⟨hd, rfl⟩ := hd
  intro X p l e R s m args below meth c A cells slots Q F hr oL oS H locs ls hl hW hS
  exact lv_if_gt F.1 F.2.1 hd ht (fun h => kt h X p l e R s m args below meth c A cells slots Q F hr oL oS.tl H locs ls hl hW hS) (fun h => kf h X p l e R s m args below meth c A cells slots Q F hr oL oS.tl H locs ls hl hW hS)
theorem g_icmp_gt {x z : Int32} {off : Int} {tgt : Nat} (hd : At y.2.1 pc (.if_icmp .gt off) 3 n) (ht : (pc : Int) + off = (tgt : Int)) (kt : z < x → Go y tgt L st σ V S) (kf : ¬ z < x → Go y n L st σ V S) : Go y pc L (.inl z :: .inl x :: st) σ V S := by
  obtain ⟨hd, rfl⟩ := hd
  intro X p l e R s m args below meth c A cells slots Q F hr oL oS H locs ls hl hW hS
  exact lv_icmp_gt F.1 F.2.1 hd ht (fun h => kt h X p l e R s m args below meth c A cells slots Q F hr oL oS.tl.tl H locs ls hl hW hS) (fun h => kf h X p l e R s m args below meth c A cells slots Q F hr oL oS.tl.tl H locs ls hl hW hS)
theorem g_if_le {x : Int32} {off : Int} {tgt : Nat} (hd : At y.2.1 pc (.ifCond .le off) 3 n) (ht : (pc : Int) + off = (tgt : Int)) (kt : x ≤ 0 → Go y tgt L st σ V S) (kf : ¬ x ≤ 0 → Go y n L st σ V S) : Go y pc L (.inl x :: st) σ V S := by
  obtain ⟨hd, rfl⟩ := hd
  intro X p l e R s m args below meth c A cells slots Q F hr oL oS H locs ls hl hW hS
  exact lv_if_le F.1 F.2.1 hd ht (fun h => kt h X p l e R s m args below meth c A cells slots Q F hr oL oS.tl H locs ls hl hW hS) (fun h => kf h X p l e R s m args below meth c A cells slots Q F hr oL oS.tl H locs ls hl hW hS)
theorem g_icmp_le {x z : Int32} {off : Int} {tgt : Nat} (hd : At y.2.1 pc (.if_icmp .le off) 3 n) (ht : (pc : Int) + off = (tgt : Int)) (kt : x ≤ z → Go y tgt L st σ V S) (kf : ¬ x ≤ z → Go y n L st σ V S) : Go y pc L (.inl z :: .inl x :: st) σ V S := by
  obtain ⟨hd, rfl⟩ := hd
  intro X p l e R s m args below meth c A cells slots Q F hr oL oS H locs ls hl hW hS
  exact lv_icmp_le F.1 F.2.1 hd ht (fun h => kt h X p l e R s m args below meth c A cells slots Q F hr oL oS.tl.tl H locs ls hl hW hS) (fun h => kf h X p l e R s m args below meth c A cells slots Q F hr oL oS.tl.tl H locs ls hl hW hS)
theorem g_goto {off : Int} {tgt : Nat} (hd : At y.2.1 pc (.goto off) 3 n) (ht : (pc : Int) + off = (tgt : Int)) (k : Go y tgt L st σ V S) : Go y pc L st σ V S := by
  obtain ⟨hd, rfl⟩ := hd
  intro X p l e R s m args below meth c A cells slots Q F hr oL oS H locs ls hl hW hS
  exact lv_goto F.1 F.2.1 hd ht (k X p l e R s m args below meth c A cells slots Q F hr oL oS H locs ls hl hW hS)
theorem g_tsOut {dflt lo hi : Int} {offs : Array Int} {len : Nat} {x : Int32} {tgt : Nat} (hd : At y.2.1 pc (.tableswitch dflt lo hi offs) len n) (h : x.toInt < lo ∨ hi < x.toInt) (ht : (pc : Int) + dflt = (tgt : Int)) (k : Go y tgt L st σ V S) : Go y pc L (.inl x :: st) σ V S := by
  obtain ⟨hd, rfl⟩ := hd
  intro X p l e R s m args below meth c A cells slots Q F hr oL oS H locs ls hl hW hS
  exact lv_tableOut F.1 F.2.1 hd h ht (k X p l e R s m args below meth c A cells slots Q F hr oL oS.tl H locs ls hl hW hS)
theorem g_tsIn {dflt lo hi : Int} {offs : Array Int} {len : Nat} {x : Int32} {off : Int} {tgt : Nat} (hd : At y.2.1 pc (.tableswitch dflt lo hi offs) len n) (h1 : ¬ x.toInt < lo) (h2 : ¬ hi < x.toInt) (ho : offs[(x.toInt - lo).toNat]? = some off) (ht : (pc : Int) + off = (tgt : Int)) (k : Go y tgt L st σ V S) : Go y pc L (.inl x :: st) σ V S := by
  obtain ⟨hd, rfl⟩ := hd
  intro X p l e R s m args below meth c A cells slots Q F hr oL oS H locs ls hl hW hS
  exact lv_tableIn F.1 F.2.1 hd h1 h2 ho ht (k X p l e R s m args below meth c A cells slots Q F hr oL oS.tl H locs ls hl hW hS)
theorem g_lsw {dflt : Int} {ps : Array (Int × Int)} {len : Nat} {x : Int32} {off : Int} {tgt : Nat} (hd : At y.2.1 pc (.lookupswitch dflt ps) len n) (hp : (ps.toList.zip (ps.toList.drop 1)).all (fun (a, next) => a.1 < next.1) = true) (ho : Op.lookupswitch.offset ps.toList dflt x.toInt = off) (ht : (pc : Int) + off = (tgt : Int)) (k : Go y tgt L st σ V S) : Go y pc L (.inl x :: st) σ V S := by
  obtain ⟨hd, rfl⟩ := hd
  intro X p l e R s m args below meth c A cells slots Q F hr oL oS H locs ls hl hW hS
  exact lv_lookup F.1 F.2.1 hd hp ho ht (k X p l e R s m args below meth c A cells slots Q F hr oL oS.tl H locs ls hl hW hS)
end RULES2
/-! the heap -/
/-- a field of a class of ours, linked from a class: its words -/
def FS (own : String) (idx c j : Nat) : Prop := ∃ (C : String) (T : u_T), classes[c]? = some (C, T, nf c) ∧ j < nf c ∧ c < 12 ∧ (∀ w ∈ u_ws C T (nf c), w ∈ gt) ∧ Cond.fieldLink own idx C (T j).2.1 (T j).2.2.1 ∈ gt ∧ (T j).1 = C
/-- it may be put: a number of a kind -/
def PS (c j : Nat) (ty : FieldType) : Prop := ∃ (C : String) (T : u_T) (t0 : Nat → FieldType), classes[c]? = some (C, T, nf c) ∧ (T j).2.2.2 = false ∧ parseFieldDescriptor (T j).2.2.1 = some ty ∧ (∀ k, k < nf c → parseFieldDescriptor (T k).2.2.1 = some (t0 k)) ∧ (∀ a, a < nf c → ∀ b, b < nf c → a ≠ b → (T a).2.1 ≠ (T b).2.1)
/-- a row of the memory anew -/
def sA (σ : Mem) (c k : Nat) (f : Nat → Int32) : Mem := (fun c' k' => if c' = c ∧ k' = k then f else σ.1 c' k', σ.2)
def sI (σ : Mem) (c k j : Nat) (x : Int32) : Mem := sA σ c k (upd (σ.1 c k) j x)
def sL (σ : Mem) (c k j : Nat) (x : Int64) : Mem := (σ.1, fun c' k' => if c' = c ∧ k' = k then vp_updL (σ.2 c k) j x else σ.2 c' k')
theorem sA_at (σ : Mem) (c k : Nat) (f : Nat → Int32) : (sA σ c k f).1 c k = f := by simp [sA]
theorem sA_off {σ : Mem} {c k c' k' : Nat} {f : Nat → Int32} (h : ¬ (c' = c ∧ k' = k)) : (sA σ c k f).1 c' k' = σ.1 c' k' := by simp only [sA, if_neg h]
theorem sA_2 (σ : Mem) (c k : Nat) (f : Nat → Int32) : (sA σ c k f).2 = σ.2 := rfl
theorem fav_off {σ σ' : Mem} {c k j : Nat} (h1 : σ'.1 c k = σ.1 c k) (h2 : σ'.2 c k = σ.2 c k) : fav σ' c k j = fav σ c k j := by
  unfold fav
  rw [h1, h2]
theorem acell_off {X : Kx} {σ σ' : Mem} {c k : Nat} (h1 : σ'.1 c k = σ.1 c k) (h2 : σ'.2 c k = σ.2 c k) : acell X σ' c k = acell X σ c k := by
  unfold acell
  rw [h1]
  congr 3
  exact List.map_congr_left (fun j _ => by rw [fav_off h1 h2])
theorem fav_ok (σ : Mem) {c k : Nat} (j : Nat) (hk : k < cnt c) : okA (fav σ c k j) := by
  unfold fav favW
  split <;> (try split) <;> first | trivial | (simp only [okA, cnt] at hk ⊢; omega)
section HEAP
variable {y : MI} {pc n : Nat} {L : List (Option AV)} {st : List AV} {σ S : Mem} {V : Option AV}
theorem ix_c {c k : Nat} (hc : c ∈ kds) (hk : k < cnt c) : ∃ i : Nat, ix[i]? = some (c, k) := List.getElem?_of_mem (ix_mem hc hk)
theorem kds_lt {c : Nat} (h : c < 12) : c ∈ kds := by
  unfold kds
  simp only [List.mem_cons]
  omega
theorem g_getf {cc k idx j : Nat} {v : AV} (hd : At y.2.1 pc (.getfield idx) 3 n) (hf : FS y.1.cls idx cc j) (hv : fav σ cc k j = v) (kk : Go y n L (v :: st) σ V S) : Go y pc L (.inr (.inr (cc, k)) :: st) σ V S := by
  obtain ⟨hd, rfl⟩ := hd
  intro X p l e R s m args below meth c A cells slots Q F hr oL oS H locs ls hl hW hS
  obtain ⟨C, T, hc, hj, h12, hin, hw, hT⟩ := hf
  have hk : k < cnt cc := oS.hd
  obtain ⟨i, hi⟩ := ix_c (kds_lt h12) hk
  have hcell : (wl X σ)[i]? = some (Kad X cc k, .inr (cc, (List.range (nf cc)).map fun j => cv (Kad X) (fav σ cc k j))) := by
    rw [wl_at hi]
    simp [acell, h12]
  refine va_get (D := X.1) (ci := cc) (v := cv (Kad X) v) (C := C) (T := T) (N := nf cc) F.1 F.2.1 F.2.2.2.2.1 hin F.2.2.2.1 F.2.2.2.2.2.1 hW.1 i hcell hc j hj (F.2.2.2.2.1 _ hw) (fun _ h9 => by rw [← hT]; exact h9) ?_ hd (kk X p l e R s m args below meth c A cells slots Q F hr oL (oS.tl.cons (by rw [← hv]; exact fav_ok σ j hk)) H locs ls hl hW hS)
  rw [List.getElem?_map, List.getElem?_range hj, ← hv]
  rfl
theorem Wd_of {X : Kx} {σ σ' : Mem} {H H1 : Heap} (hW : Wd X σ H) (h : va_P X.1 classes (wl X σ') H1) (h1 : σ'.1 24 = σ.1 24) : Wd X σ' H1 := ⟨h, by rw [h1]; exact hW.2.1, by rw [h1]; exact hW.2.2⟩
theorem put_go {X : Kx} {p : Program} {l : Launch} {e : Env} {R : Room} {s : State} {m : MethodId} {args : Array Value} {below : List Frame} {meth : Method} {c : Code} {A : Nat → Prop} {cells slots : Nat} {Q : State → Prop} {H : Heap} {locs : List Loc} {ls : Array Slot} {rest : List Value}
    (F : Fr y X p R s m args meth c A cells slots) {cc k idx j : Nat} {ty : FieldType} {v : Value} {σ' : Mem} (hd : decode y.2.1 pc = .ok (.putfield idx, 3)) (hf : FS y.1.cls idx cc j) (hp : PS cc j ty) (hk : k < cnt cc) (hn : narrow ty v = v) (hfit : fits ty v = true)
    (ho : ∀ q, q ≠ (cc, k) → σ'.1 q.1 q.2 = σ.1 q.1 q.2 ∧ σ'.2 q.1 q.2 = σ.2 q.1 q.2) (hv : ∀ i, cv (Kad X) (fav σ' cc k i) = if i = j then v else cv (Kad X) (fav σ cc k i))
    (hW : Wd X σ H) (hS : va_S A s.heap H locs) (kk : ∀ (H1 : Heap) (locs1 : List Loc), Wd X σ' H1 → va_S A s.heap H1 locs1 → W p l e R s m args below meth c H1 locs1 cells slots Q (F0 m (pc + 3) ls rest)) : W p l e R s m args below meth c H locs cells slots Q (F0 m pc ls (v :: .ref (Kad X cc k) :: rest)) := by
  obtain ⟨C, T, hc, hj, h12, hin, hw, hT⟩ := hf
  obtain ⟨C', T', t0, hc', hfin, hty, hall, hnm⟩ := hp
  cases hc.symm.trans hc'
  obtain ⟨i, hi⟩ := ix_c (kds_lt h12) hk
  have hcell : (wl X σ)[i]? = some (Kad X cc k, .inr (cc, (List.range (nf cc)).map fun j => cv (Kad X) (fav σ cc k j))) := by
    rw [wl_at hi]
    simp [acell, h12]
  refine va_put (D := X.1) (ci := cc) (v := v) (ty := ty) (C := C) (T := T) (N := nf cc) F.1 F.2.1 F.2.2.2.2.1 hin t0 hall hnm F.2.2.2.1 F.2.2.2.2.2.1 hW.1 (wl_D F.2.2.2.2.2.2.1 F.2.2.2.2.2.2.2.1) hS i hcell hc j hj (F.2.2.2.2.1 _ hw) (fun _ h9 => by rw [← hT]; exact h9) hfin hty hn hfit (by rw [List.length_map, List.length_range]; exact hj) hd (fun H1 locs1 hP1 _ hS1 => kk H1 locs1 (Wd_of hW ?_ ?_) hS1)
  · have e : acell X σ' cc k = .inr (cc, ((List.range (nf cc)).map fun j => cv (Kad X) (fav σ cc k j)).set j v) := by
      simp only [acell, h12, if_true]
      congr 2
      apply List.ext_getElem?
      intro q
      rw [List.getElem?_set, List.getElem?_map, List.getElem?_map, List.length_map, List.length_range]
      by_cases hq : q < nf cc
      · rw [List.getElem?_range hq]
        show some (cv (Kad X) (fav σ' cc k q)) = _
        rw [hv q]
        by_cases z : q = j
        · subst z
          simp [hq]
        · have z2 : ¬ j = q := fun t => z t.symm
          simp [z, z2]
      · have hq2 : (List.range (nf cc))[q]? = none := by simp; omega
        rw [hq2]
        have z2 : ¬ j = q := fun t => hq (t ▸ hj)
        simp [z2]
    rw [← wl_set hi (fun q _ hq => acell_off (ho q hq).1 (ho q hq).2), e]
    exact hP1
  · funext q
    exact (ho (24, q) (fun z => by cases z; exact absurd h12 (by decide))).1
end HEAP
end
section
/-! fields put, rows read and written, calls -/
section HEAP2
variable {y : MI} {pc n : Nat} {L : List (Option AV)} {st : List AV} {σ S : Mem} {V : Option AV}
theorem sI_off {σ : Mem} {c k j : Nat} {x : Int32} : ∀ q : Nat × Nat, q ≠ (c, k) → (sI σ c k j x).1 q.1 q.2 = σ.1 q.1 q.2 ∧ (sI σ c k j x).2 q.1 q.2 = σ.2 q.1 q.2 := by
  intro q hq
  exact ⟨sA_off (fun z => hq (Prod.ext z.1 z.2)), rfl⟩
theorem sA_offq {σ : Mem} {c k : Nat} {f : Nat → Int32} : ∀ q : Nat × Nat, q ≠ (c, k) → (sA σ c k f).1 q.1 q.2 = σ.1 q.1 q.2 ∧ (sA σ c k f).2 q.1 q.2 = σ.2 q.1 q.2 := by
  intro q hq
  exact ⟨sA_off (fun z => hq (Prod.ext z.1 z.2)), rfl⟩
theorem sL_off {σ : Mem} {c k j : Nat} {x : Int64} : ∀ q : Nat × Nat, q ≠ (c, k) → (sL σ c k j x).1 q.1 q.2 = σ.1 q.1 q.2 ∧ (sL σ c k j x).2 q.1 q.2 = σ.2 q.1 q.2 := by
  intro q hq
  refine ⟨rfl, ?_⟩
  have z : ¬ (q.1 = c ∧ q.2 = k) := fun z => hq (Prod.ext z.1 z.2)
  simp only [sL, if_neg z]
/-- an int field: what is read of it is the number put -/
def iF (c j : Nat) : Prop := ∀ (x : Int32) (l : Int64) (k : Nat), favW x l c k j = .inl x
def lF (c j : Nat) : Prop := ∀ (x : Int32) (l : Int64) (k : Nat), favW x l c k j = .inr (.inl l)
/-- the other fields don't look at that slot's number -/
theorem fav_sI {ad : AdT} {σ : Mem} {c k j : Nat} {x : Int32} (h : iF c j) : ∀ i, cv ad (fav (sI σ c k j x) c k i) = if i = j then .int x else cv ad (fav σ c k i) := by
  intro i
  by_cases e : i = j
  · subst e
    rw [if_pos rfl]
    unfold fav
    rw [h]
    show Value.int ((sI σ c k i x).1 c k i) = _
    rw [sI, sA_at]
    simp [upd]
  · rw [if_neg e]
    unfold fav
    rw [sI, sA_at]
    simp only [upd, if_neg e]
    rfl
theorem fav_sL {ad : AdT} {σ : Mem} {c k j : Nat} {x : Int64} (h : lF c j) : ∀ i, cv ad (fav (sL σ c k j x) c k i) = if i = j then .long x else cv ad (fav σ c k i) := by
  intro i
  by_cases e : i = j
  · subst e
    rw [if_pos rfl]
    unfold fav
    rw [h]
    show Value.long ((sL σ c k i x).2 c k i) = _
    simp [sL, vp_updL]
  · rw [if_neg e]
    unfold fav
    simp [sL, vp_updL, e]
theorem g_puti {cc k idx j : Nat} {x : Int32} (hd : At y.2.1 pc (.putfield idx) 3 n) (hf : FS y.1.cls idx cc j) (hp : PS cc j .int) (hi : iF cc j) (kk : Go y n L st (sI σ cc k j x) V S) : Go y pc L (.inl x :: .inr (.inr (cc, k)) :: st) σ V S := by
  obtain ⟨hd, rfl⟩ := hd
  intro X p l e R s m args below meth c A cells slots Q F hr oL oS H locs ls hl hW hS
  exact put_go F (v := .int x) hd hf hp oS.tl.hd rfl rfl sI_off (fav_sI hi) hW hS (fun H1 locs1 h1 h2 => kk X p l e R s m args below meth c A cells slots Q F hr oL oS.tl.tl H1 locs1 ls hl h1 h2)
theorem g_putz {cc k idx j : Nat} {x : Int32} (hd : At y.2.1 pc (.putfield idx) 3 n) (hf : FS y.1.cls idx cc j) (hp : PS cc j .boolean) (hi : iF cc j) (hx : x = 0 ∨ x = 1) (kk : Go y n L st (sI σ cc k j x) V S) : Go y pc L (.inl x :: .inr (.inr (cc, k)) :: st) σ V S := by
  obtain ⟨hd, rfl⟩ := hd
  intro X p l e R s m args below meth c A cells slots Q F hr oL oS H locs ls hl hW hS
  exact put_go F (v := .int x) hd hf hp oS.tl.hd (by rcases hx with rfl | rfl <;> rfl) (by rcases hx with rfl | rfl <;> rfl) sI_off (fav_sI hi) hW hS (fun H1 locs1 h1 h2 => kk X p l e R s m args below meth c A cells slots Q F hr oL oS.tl.tl H1 locs1 ls hl h1 h2)
theorem g_putl {cc k idx j : Nat} {x : Int64} (hd : At y.2.1 pc (.putfield idx) 3 n) (hf : FS y.1.cls idx cc j) (hp : PS cc j .long) (hi : lF cc j) (kk : Go y n L st (sL σ cc k j x) V S) : Go y pc L (.inr (.inl x) :: .inr (.inr (cc, k)) :: st) σ V S := by
  obtain ⟨hd, rfl⟩ := hd
  intro X p l e R s m args below meth c A cells slots Q F hr oL oS H locs ls hl hW hS
  exact put_go F (v := .long x) hd hf hp oS.tl.hd rfl rfl sL_off (fav_sL hi) hW hS (fun H1 locs1 h1 h2 => kk X p l e R s m args below meth c A cells slots Q F hr oL oS.tl.tl H1 locs1 ls hl h1 h2)
/-- a row of ints of ours -/
def rI (c k : Nat) : Prop := c ∈ kds ∧ ¬ c < 12 ∧ ¬ (c = 22 ∧ k = 2)
theorem rw_at {X : Kx} {σ : Mem} {i c k : Nat} (h : ix[i]? = some (c, k)) (hr : rI c k) : (wl X σ)[i]? = some (Kad X c k, .inl (X.2.1.1, alen c k, .inl (σ.1 c k))) := by
  rw [wl_at h]
  simp only [acell, if_neg hr.2.1, if_neg hr.2.2]
theorem g_iald {cc k : Nat} {i x : Int32} (hd : At y.2.1 pc .iaload 1 n) (hr0 : rI cc k) (hin : vp_in i (alen cc k)) (hx : σ.1 cc k i.toNatClampNeg = x) (kk : Go y n L (.inl x :: st) σ V S) : Go y pc L (.inl i :: .inr (.inr (cc, k)) :: st) σ V S := by
  obtain ⟨hd, rfl⟩ := hd
  subst hx
  intro X p l e R s m args below meth c A cells slots Q F hr oL oS H locs ls hl hW hS
  obtain ⟨q, hq⟩ := ix_c hr0.1 oS.tl.hd
  exact va_iald (tys := atys X) F.1 F.2.1 F.2.2.2.2.2.1 hW.1 q 0 (rw_at hq hr0) rfl hin hd (kk X p l e R s m args below meth c A cells slots Q F hr oL oS.tl.tl.i H locs ls hl hW hS)
theorem g_iast {cc k : Nat} {i x : Int32} (hd : At y.2.1 pc .iastore 1 n) (hr0 : rI cc k) (hin : vp_in i (alen cc k)) (kk : Go y n L st (sI σ cc k i.toNatClampNeg x) V S) : Go y pc L (.inl x :: .inl i :: .inr (.inr (cc, k)) :: st) σ V S := by
  obtain ⟨hd, rfl⟩ := hd
  intro X p l e R s m args below meth c A cells slots Q F hr oL oS H locs ls hl hW hS
  obtain ⟨q, hq⟩ := ix_c hr0.1 oS.tl.tl.hd
  refine va_iast (tys := atys X) F.1 F.2.1 F.2.2.2.2.2.1 hW.1 (wl_D F.2.2.2.2.2.2.1 F.2.2.2.2.2.2.2.1) hS q 0 (rw_at hq hr0) rfl hin hd (fun H1 locs1 hP1 _ hS1 => kk X p l e R s m args below meth c A cells slots Q F hr oL oS.tl.tl.tl H1 locs1 ls hl (Wd_of hW ?_ ?_) hS1)
  · rw [← wl_set hq (fun q _ hq => acell_off (sI_off q hq).1 (sI_off q hq).2)]
    rw [show acell X (sI σ cc k i.toNatClampNeg x) cc k = .inl (X.2.1.1, alen cc k, .inl (upd (σ.1 cc k) i.toNatClampNeg x)) from by simp only [acell, if_neg hr0.2.1, if_neg hr0.2.2, sI, sA_at]]
    exact hP1
  · funext q
    exact (sI_off (24, q) (fun z => by cases z; exact absurd hr0.1 (by decide))).1
theorem g_zald {i x : Int32} (hd : At y.2.1 pc .baload 1 n) (hin : vp_in i 2) (hx : σ.1 22 2 i.toNatClampNeg = x) (kk : Go y n L (.inl x :: st) σ V S) : Go y pc L (.inl i :: .inr (.inr (22, 2)) :: st) σ V S := by
  obtain ⟨hd, rfl⟩ := hd
  subst hx
  intro X p l e R s m args below meth c A cells slots Q F hr oL oS H locs ls hl hW hS
  obtain ⟨q, hq⟩ := ix_c (c := 22) (k := 2) (by decide) (by decide)
  exact va_zald (tys := atys X) F.1 F.2.1 F.2.2.2.2.2.1 hW.1 q 1 (wl_at hq) rfl hin hd (kk X p l e R s m args below meth c A cells slots Q F hr oL oS.tl.tl.i H locs ls hl hW hS)
theorem g_zast {i x : Int32} (hd : At y.2.1 pc .bastore 1 n) (hin : vp_in i 2) (h01 : x = 0 ∨ x = 1) (kk : Go y n L st (sI σ 22 2 i.toNatClampNeg x) V S) : Go y pc L (.inl x :: .inl i :: .inr (.inr (22, 2)) :: st) σ V S := by
  obtain ⟨hd, rfl⟩ := hd
  have hn : vp_nar .boolean x = x := by rcases h01 with rfl | rfl <;> rfl
  intro X p l e R s m args below meth c A cells slots Q F hr oL oS H locs ls hl hW hS
  obtain ⟨q, hq⟩ := ix_c (c := 22) (k := 2) (by decide) (by decide)
  refine va_zast (tys := atys X) F.1 F.2.1 F.2.2.2.2.2.1 hW.1 (wl_D F.2.2.2.2.2.2.1 F.2.2.2.2.2.2.2.1) hS q 1 (wl_at hq) rfl hin hd (fun H1 locs1 hP1 _ hS1 => kk X p l e R s m args below meth c A cells slots Q F hr oL oS.tl.tl.tl H1 locs1 ls hl (Wd_of hW ?_ ?_) hS1)
  · rw [hn] at hP1
    rw [← wl_set hq (fun q _ hq => acell_off (sI_off q hq).1 (sI_off q hq).2)]
    rw [show acell X (sI σ 22 2 i.toNatClampNeg x) 22 2 = .inl (X.2.1.2, 2, .inl (upd (σ.1 22 2) i.toNatClampNeg x)) from by simp only [acell, sI, sA_at]; rfl]
    exact hP1
  · funext q
    exact (sI_off (24, q) (fun z => by cases z)).1
theorem g_alen {cc k : Nat} {x : Int32} (hd : At y.2.1 pc .arraylength 1 n) (hr0 : rI cc k) (hx : Int32.ofNat (alen cc k) = x) (kk : Go y n L (.inl x :: st) σ V S) : Go y pc L (.inr (.inr (cc, k)) :: st) σ V S := by
  obtain ⟨hd, rfl⟩ := hd
  intro X p l e R s m args below meth c A cells slots Q F hr oL oS H locs ls hl hW hS
  obtain ⟨q, hq⟩ := ix_c hr0.1 oS.hd
  exact va_alen (tys := atys X) F.1 F.2.1 F.2.2.2.2.2.1 hW.1 q 0 (rw_at hq hr0) rfl hx hd (kk X p l e R s m args below meth c A cells slots Q F hr oL oS.tl.i H locs ls hl hW hS)
theorem g_slen {x : Int32} (hy : y.1.cls = RL) (hd : At y.2.1 pc .arraylength 1 n) (hx : σ.1 24 1 0 = x) (kk : Go y n L (.inl x :: st) σ V S) : Go y pc L (.inr (.inr (24, 0)) :: st) σ V S := by
  obtain ⟨hd, rfl⟩ := hd
  intro X p l e R s m args below meth c A cells slots Q F hr oL oS H locs ls hl hW hS
  obtain ⟨h1, h2, h3, h4⟩ := F.2.2.2.2.2.2.2.2.2.1 hy
  have e : x = Int32.ofNat X.2.2.2.2 := by rw [← hx]; exact hW.2.2
  subst e
  exact va_slen F.1 F.2.1 h1 h2 h3 hS hd (kk X p l e R s m args below meth c A cells slots Q F hr oL oS.tl.i H locs ls hl hW hS)
theorem g_sld {i x : Int32} (hy : y.1.cls = RL) (hd : At y.2.1 pc .iaload 1 n) (hin : ∀ N : Nat, N ≤ 384 → σ.1 24 1 0 = nI N → vp_in i N) (hx : σ.1 24 0 i.toNatClampNeg = x) (kk : Go y n L (.inl x :: st) σ V S) : Go y pc L (.inl i :: .inr (.inr (24, 0)) :: st) σ V S := by
  obtain ⟨hd, rfl⟩ := hd
  intro X p l e R s m args below meth c A cells slots Q F hr oL oS H locs ls hl hW hS
  obtain ⟨h1, h2, h3, h4⟩ := F.2.2.2.2.2.2.2.2.2.1 hy
  have e : x = X.2.2.2.1 i.toNatClampNeg := by rw [← hx]; exact congrFun hW.2.1 _
  subst e
  exact va_sld F.1 F.2.1 h1 h2 h3 hS (hin _ h4 hW.2.2) hd (kk X p l e R s m args below meth c A cells slots Q F hr oL oS.tl.tl.i H locs ls hl hW hS)
end HEAP2
/-! calls -/
/-- what the tables say of a method -/
def MOK (y : MI) : Prop := Cond.code y.1 y.2.1 y.2.2.1 y.2.2.2.1 ∈ gt ∧ plainName y.1.cls = true ∧ Cond.initialized y.1.cls ∈ gt ∧ (y.1.cls ≠ "java/lang/invoke/MethodHandle" ∧ y.1.cls ≠ "java/lang/invoke/VarHandle") ∧ y.1.cls ≠ RL
theorem lw_good : ∀ w ∈ gt, goodWord w = true := fun _ h => (List.mem_filter.mp h).2
/-- the locals at a method's begin -/
def lay : List AV → List (Option AV)
  | [] => []
  | .inr (.inl x) :: l => some (.inr (.inl x)) :: none :: lay l
  | a :: l => some a :: lay l
def ini (y : MI) (As : List AV) : List (Option AV) := lay As ++ List.replicate (y.2.2.1 - (lay As).length) none
def Ev (y : MI) (As : List AV) (σ : Mem) (V : Option AV) (S : Mem) : Prop := Go y 0 (ini y As) [] σ V S
def Qm (X : Kx) (rt : Option FieldType) (V : Option AV) (S : Mem) : Array Value → State → Outcome → State → Prop := fun _ st o t =>
  o = .returned (V.map (cv (Kad X))) ∧ vok rt V ∧ okS V.toList ∧ Wd X S t.heap ∧ va_F (Wa X) st t
def Pm (X : Kx) (As : List AV) (σ : Mem) : Array Value → State → Prop := va_Pc (As.map (cv (Kad X))) (fun U => Wd X σ U.heap ∧ va_K X.1 classes (atys X) U ∧ SX X (Wa X) U U.heap)
def wsM (y : MI) : List Cond := Cond.code y.1 y.2.1 y.2.2.1 y.2.2.2.1 :: gt
def rmM (y : MI) : Room := { frames := y.2.2.2.2.1, cells := 0, slots := 0, locals := y.2.2.2.2.2 }
theorem lay_lv {ad : AdT} : ∀ (As : List AV) (i0 i : Nat) (a : AV), (lay As)[i]? = some (some a) → (i0 + i, cv ad a) ∈ lv_args i0 (As.map (cv ad))
  | [], _, _, _, h => by simp [lay] at h
  | .inl x :: l, i0, i, a, h => by
    cases i with
    | zero =>
      simp only [lay, List.getElem?_cons_zero, Option.some.injEq] at h
      subst h
      exact List.mem_cons_self
    | succ i =>
      simp only [lay, List.getElem?_cons_succ] at h
      have := lay_lv (ad := ad) l (i0 + 1) i a h
      rw [show i0 + (i + 1) = i0 + 1 + i by omega]
      exact List.mem_cons_of_mem _ this
  | .inr (.inl x) :: l, i0, i, a, h => by
    match i, h with
    | 0, h =>
      simp only [lay, List.getElem?_cons_zero, Option.some.injEq] at h
      subst h
      exact List.mem_cons_self
    | 1, h => simp [lay] at h
    | i + 2, h =>
      simp only [lay, List.getElem?_cons_succ] at h
      have := lay_lv (ad := ad) l (i0 + 2) i a h
      rw [show i0 + (i + 2) = i0 + 2 + i by omega]
      exact List.mem_cons_of_mem _ this
  | .inr (.inr q) :: l, i0, i, a, h => by
    cases i with
    | zero =>
      simp only [lay, List.getElem?_cons_zero, Option.some.injEq] at h
      subst h
      exact List.mem_cons_self
    | succ i =>
      simp only [lay, List.getElem?_cons_succ] at h
      have := lay_lv (ad := ad) l (i0 + 1) i a h
      rw [show i0 + (i + 1) = i0 + 1 + i by omega]
      exact List.mem_cons_of_mem _ this
theorem lay_len {ad : AdT} : ∀ As : List AV, (lay As).length = (lg_sl (As.map (cv ad))).length
  | [] => rfl
  | .inl x :: l => by simp only [lay, List.map_cons, List.length_cons]; rw [lay_len (ad := ad) l]; rfl
  | .inr (.inl x) :: l => by simp only [lay, List.map_cons, List.length_cons]; rw [lay_len (ad := ad) l]; rfl
  | .inr (.inr q) :: l => by simp only [lay, List.map_cons, List.length_cons]; rw [lay_len (ad := ad) l]; rfl
end
section
/-! a run is a contract, and a contract serves at a call -/
theorem SX.same {X : Kx} {A : Nat → Prop} {u U : State} {H : Heap} (hv : u.vm = U.vm) (h : SX X A u H) : SX X A U H :=
  have al : u.vm.Alike U.vm := by rw [← hv]; exact Vm.Alike.refl _
  ⟨h.1.moved al, ⟨h.2.1.1.moved al, h.2.1.2.moved al⟩, fun i hi => vk_R.same hv.symm (h.2.2.1 i hi), va_Nw.same rfl hv h.2.2.2⟩
theorem SX.warm {X : Kx} {A : Nat → Prop} {s U : State} {H : Heap} (hW : s.WarmedH U.vm) (h : SX X A s H) : SX X A U H :=
  ⟨h.1.moved hW.alike, ⟨h.2.1.1.moved hW.alike, h.2.1.2.moved hW.alike⟩, fun i hi => vk_R.warm hW (h.2.2.1 i hi), va_Nw.warmM hW h.2.2.2⟩
theorem SX.down {X : Kx} {A B : Nat → Prop} {s : State} {H : Heap} {locs : List Loc} (h : SX X A s s.heap) (hS : va_S A s.heap H locs) (hAB : ∀ q, B q → A q) : SX X B s H :=
  ⟨(h.1.kept hS.2.1).narrow hAB, ⟨(h.2.1.1.kept hS.2.1).narrow hAB, (h.2.1.2.kept hS.2.1).narrow hAB⟩, h.2.2⟩
theorem Pm_blind {X : Kx} {As : List AV} {σ : Mem} : FrameBlind (Pm X As σ) := by
  intro a U g mk h
  obtain ⟨h1, h2, h3, h4⟩ := h
  exact ⟨h1, h2, va_K.moved (u := U) (U := U.calling g mk a) (Vm.Alike.refl U.vm) h3, SX.same (u := U) (U := U.calling g mk a) rfl h4⟩
theorem Wa_in {X : Kx} {A : Nat → Prop} (h : ∀ q ∈ ix, A (Kad X q.1 q.2)) : ∀ a, Wa X a → A a := by
  rintro a ⟨q, hq, rfl⟩
  exact h q hq
theorem ret_go {y : MI} {X : Kx} {p : Program} {l : Launch} {e : Env} {R : Room} {s : State} {m : MethodId} {args : Array Value} {below : List Frame} {meth : Method} {c : Code} {V : Option AV} {S : Mem} (hx : p.tables.exec = Jvm.exec) (hb : c.code = y.2.1) (hr : meth.sig.returnType = y.2.2.2.1) (hlk : meth.locks = false) : Rt y X p l e R s m args below meth c (Wa X) 0 0 (MQ below (Qm X y.2.2.2.1 V S) args s 0 0 (Wa X)) V S := by
  intro pc H locs ls hd hv oS hW hS
  have hq : ∀ t : State, t.heap = H → s.WarmedH t.vm → Qm X y.2.2.2.1 V S args s (.returned (V.map (cv (Kad X)))) t := fun t ht _ => ⟨rfl, hv, oS, by rw [ht]; exact hW, hS.F ht⟩
  obtain ⟨y1, y2, y3, y4, y5⟩ := y
  dsimp only at hv hd hr hb hq ⊢
  cases y4 with
  | none =>
    cases V with
    | none => exact W.vret hx hb hr hq hS.2.2 hd hlk
    | some v => exact hv.elim
  | some ty =>
    cases V with
    | none => cases ty <;> exact hv.elim
    | some v =>
      cases ty <;> rcases v with v | v | v <;> first
        | exact hv.elim
        | exact W.iret hx hb hr hq hS.2.2 hd hlk
        | exact W.lret hx hb hr hq hS.2.2 hd hlk
        | exact W.zret (ty := .boolean) hx hb hr (by rcases hv with rfl | rfl <;> rfl) hq hS.2.2 hd hlk
        | exact W.aret hx hb hr (Or.inl ⟨_, rfl⟩) (Or.inr ⟨_, rfl⟩) hq hS.2.2 hd hlk
theorem met_of {y : MI} {As : List AV} {σ S : Mem} {V : Option AV} (hE : Ev y As σ V S) (hM : MOK y) (hL : (lay As).length ≤ y.2.2.1) (hA : okS As) (l : Launch) (X : Kx) (hAp : Ap X) : Met l y.1 (wsM y) (rmM y) (Pm X As σ) (Qm X y.2.2.2.1 V S) 0 0 (Wa X) := by
  refine Met.ofW (cc := y.2.1) (maxL := y.2.2.1) (ret := y.2.2.2.1) hM.2.1 rfl ?_
  intro p e s m args below meth c s₁ B hml hv0
  obtain ⟨rfl, hW, hK, hX⟩ := hv0
  have hts := atoms_spec (ws := wsM y) B.pre
  have hlen : (lg_sl (As.map (cv (Kad X)))).length ≤ y.2.2.1 := by rw [← lay_len]; exact hL
  have hl := lv_entry (As.map (cv (Kad X))) (n := y.2.2.1) hlen
  rw [lg_entry_eq]
  refine hE X p l e _ s m _ below meth c (Wa X) 0 0 _ ⟨B.exec, B.bytes, hml, findClass_of_methodNamed B.named, fun w hw => hts w (List.mem_cons_of_mem _ hw), hK, hAp, fun q hq => ⟨q, hq, rfl⟩, hX, fun h => absurd h hM.2.2.2.2, Nat.le_refl _, Nat.le_refl _, Nat.zero_le _, Nat.zero_le _⟩ (ret_go B.exec B.bytes B.returns B.notSynchronized) ?_ (fun _ h => by cases h) s.heap [] _ ⟨hl.1, hl.2.1, fun i a hi => ?_⟩ hW va_S.rf
  · intro a ha
    rcases List.mem_append.mp ha with h | h
    · have key : ∀ (l : List AV), some a ∈ lay l → a ∈ l := by
        intro l
        induction l with
        | nil => intro h; simp [lay] at h
        | cons b l ih =>
          intro h
          rcases b with x | x | q
          · simp only [lay, List.mem_cons, Option.some.injEq] at h
            rcases h with rfl | h
            · exact List.mem_cons_self
            · exact List.mem_cons_of_mem _ (ih h)
          · simp only [lay, List.mem_cons, Option.some.injEq] at h
            rcases h with rfl | h | h
            · exact List.mem_cons_self
            · cases h
            · exact List.mem_cons_of_mem _ (ih h)
          · simp only [lay, List.mem_cons, Option.some.injEq] at h
            rcases h with rfl | h
            · exact List.mem_cons_self
            · exact List.mem_cons_of_mem _ (ih h)
      exact hA a (key As h)
    · have := List.eq_of_mem_replicate h
      cases this
  · rw [ini, List.getElem?_append] at hi
    split at hi
    · have := lay_lv (ad := Kad X) As 0 i a hi
      rw [Nat.zero_add] at this
      exact hl.2.2 _ this
    · rw [List.getElem?_replicate] at hi
      split at hi <;> cases hi
section CALL
variable {p : Program} {l : Launch} {e : Env} {R : Room} {s : State} {m : MethodId} {args : Array Value} {below : List Frame} {meth : Method} {c : Code} {H : Heap} {locs : List Loc} {cells slots : Nat} {Q : State → Prop}
variable {pc : Nat} {ls : Array Slot} {rest st0 : List Value} {a : Array Value} {A0 : Nat → Prop} {H0 : Heap} {X : Kx} {V : Option AV} {S : Mem} {rt : Option FieldType}
theorem run_go (hr : va_Run p l e R s m args below meth c H locs cells slots 0 0 (F0 m pc ls st0) rest (Qm X rt V S a) (Wa X)) (hS : va_S A0 H0 H locs) (hA : ∀ q, Wa X q → A0 q)
    (kk : ∀ (H1 : Heap) (locs1 : List Loc), vok rt V → okS V.toList → Wd X S H1 → va_S A0 H0 H1 locs1 → W p l e R s m args below meth c H1 locs1 cells slots Q (F0 m (pc + 3) ls ((V.map (cv (Kad X))).toList ++ rest))) : W p l e R s m args below meth c H locs cells slots Q (F0 m pc ls st0) := by
  intro T hT X'
  obtain ⟨v, st₀, t, T', L, h0, X', hL, e1, e2, ⟨hv, hvk, ho, hW, hz, hk⟩, st⟩ := hr T hT X'
  cases hv
  rw [h0] at hz hk
  obtain ⟨t2, a1, b1⟩ := kk T'.heap (locs ++ L) hvk ho (by rw [e1]; exact hW)
    ⟨Nat.le_trans hS.1 (by rw [e1]; exact hz), fun q h1 h2 => by rw [e1, hk q (Nat.lt_of_lt_of_le h1 hS.1) (fun z => h2 (hA q z))]; exact hS.2.1 q h1 h2, fun q hq => by
      rcases List.mem_append.mp hq with h | h
      · exact hS.2.2 q h
      · exact hA _ (hL q h)⟩ T' rfl X'
  exact ⟨t2, st t2 a1, b1⟩
end CALL
theorem gt_GoodIn {y : MI} (hM : MOK y) : GoodIn gt (wsM y) := by
  intro w hw
  have h : w ∈ gt := (List.mem_cons.mp hw).elim (fun e => e ▸ hM.1) id
  exact ⟨h, good_of_word (lw_good w h)⟩
/-- a call's words -/
def CS (own : String) (idx : Nat) (z : MI) (na : Nat) : Prop := MOK z ∧ Cond.methodLink own idx z.1 ∈ gt ∧ Cond.static z.1 ∈ gt ∧ (parseMethodDescriptor z.1.desc).map (fun d => d.parameters.length) = some na
def CV (own : String) (idx : Nat) (z : MI) (na cc : Nat) : Prop := MOK z ∧ Cond.methodLink own idx z.1 ∈ gt ∧ Cond.instanceMethod z.1 ∈ gt ∧ Cond.selects z.1.cls z.1 z.1 ∈ gt ∧ (parseMethodDescriptor z.1.desc).map (fun d => d.parameters.length) = some na ∧ cc < 12 ∧ (classes[cc]?).map (fun q => q.1) = some z.1.cls
def cat1 (st : List AV) : Nat := (st.map fun a => match a with | .inr (.inl _) => 2 | _ => 1).sum
theorem cat_sum {ad : AdT} (st : List AV) : ((st.map (cv ad)).map fun v => v.category).sum = cat1 st := by
  induction st with
  | nil => rfl
  | cons a st ih =>
    simp only [cat1, List.map_cons, List.sum_cons] at ih ⊢
    rw [ih]
    rcases a with x | x | q <;> rfl
/-- the sizes of a call, by one count -/
def szOK (y z : MI) (As st : List AV) (d : Nat) : Bool := Nat.ble ((lay As).length + d) z.2.2.1 && (Nat.ble (z.2.2.2.2.1 + 1) y.2.2.2.2.1 && (Nat.ble (8 + (z.2.2.1 + 11) + z.2.2.2.2.2) y.2.2.2.2.2 && Nat.ble (cat1 st) 8))
theorem szOK_use {y z : MI} {As st : List AV} {d : Nat} (h : szOK y z As st d = true) : (lay As).length + d ≤ z.2.2.1 ∧ (z.2.2.2.2.1 + 1 ≤ y.2.2.2.2.1 ∧ 8 + (z.2.2.1 + 11) + z.2.2.2.2.2 ≤ y.2.2.2.2.2) ∧ cat1 st ≤ 8 := by
  simp only [szOK, Bool.and_eq_true] at h
  exact ⟨Nat.le_of_ble_eq_true h.1, ⟨Nat.le_of_ble_eq_true h.2.1, Nat.le_of_ble_eq_true h.2.2.1⟩, Nat.le_of_ble_eq_true h.2.2.2⟩
section CALL2
variable {y z : MI} {pc n idx na cc k : Nat} {L : List (Option AV)} {As st : List AV} {σ σ1 S : Mem} {V V1 : Option AV}
/-- the room that the callee asks for is there -/
def rmOK (y z : MI) : Prop := z.2.2.2.2.1 + 1 ≤ y.2.2.2.2.1 ∧ 8 + (z.2.2.1 + 11) + z.2.2.2.2.2 ≤ y.2.2.2.2.2
theorem okS_rev {As st : List AV} (h : okS (As.reverse ++ st)) : okS As ∧ okS st := ⟨fun a ha => h a (List.mem_append_left _ (List.mem_reverse.mpr ha)), fun a ha => h a (List.mem_append_right _ ha)⟩
theorem map_stack {ad : AdT} {As st : List AV} : (As.reverse ++ st).map (cv ad) = (As.map (cv ad)).reverse ++ st.map (cv ad) := by simp
theorem val_stack {ad : AdT} {V1 : Option AV} {st : List AV} : (V1.map (cv ad)).toList ++ st.map (cv ad) = (V1.toList ++ st).map (cv ad) := by cases V1 <;> rfl
theorem g_callS (hd : At y.2.1 pc (.invokestatic idx) 3 n) (hc : CS y.1.cls idx z na) (hE : Ev z As σ V1 σ1) (hlen : As.length = na) (hlay : (lay As).length ≤ z.2.2.1) (hrm : rmOK y z) (hcat : cat1 st ≤ 8)
    (kk : vok z.2.2.2.1 V1 → Go y n L (V1.toList ++ st) σ1 V S) : Go y pc L (As.reverse ++ st) σ V S := by
  obtain ⟨hd, rfl⟩ := hd
  intro X p l e R s m args below meth c A cells slots Q F hr oL oS H locs ls hl hW hS
  obtain ⟨o1, o2⟩ := okS_rev oS
  obtain ⟨hM, hlk, hst, hna⟩ := hc
  have hmet := met_of hE hM hlay o1 l X F.2.2.2.2.2.2.1
  have hts := F.2.2.2.2.1
  have hR : (rmM z).frames + 1 ≤ R.frames ∧ 8 + (z.2.2.1 + 11) + (rmM z).locals ≤ R.locals := ⟨Nat.le_trans hrm.1 F.2.2.2.2.2.2.2.2.2.2.1, Nat.le_trans hrm.2 F.2.2.2.2.2.2.2.2.2.2.2.1⟩
  have cw := callB_of (y := z.1) (bytes := z.2.1) (maxL := z.2.2.1) (ret := z.2.2.2.1) (mc := 0) (ms := 0) (own := y.1.cls) (index := idx) na hts (gt_GoodIn hM) (show wsM z = _ :: gt from rfl) rfl rfl (hts _ hM.2.2.1) (hts _ hlk) ⟨hM.2.2.2.1.1, hM.2.2.2.1.2, hna⟩ hR
  have hWA := Wa_in F.2.2.2.2.2.2.2.1
  refine run_go (va_runS (As := As.map (cv (Kad X))) (rest := st.map (cv (Kad X))) (Ts := gt) ⟨F.1, F.2.1, F.2.2.1, F.2.2.2.1, hts⟩ hmet ⟨cw, hts _ hst⟩ ⟨Pm_blind, fun U hU hWm => ⟨rfl, by rw [hU]; exact hW, va_K.moved hWm.alike F.2.2.2.2.2.1, ?_⟩⟩ rfl (by rw [List.length_map]; exact hlen) hl.1 map_stack (lv_room (by rw [cat_sum]; exact hcat)) hd ⟨F.2.2.2.2.2.2.2.2.2.2.2.2.1, F.2.2.2.2.2.2.2.2.2.2.2.2.2⟩) hS hWA (fun H1 locs1 h0 h1 h2 h3 => ?_)
  · rw [hU]
    exact SX.warm hWm (F.2.2.2.2.2.2.2.2.1.down hS hWA)
  · rw [val_stack]
    refine kk h0 X p l e R s m args below meth c A cells slots Q F hr oL ?_ H1 locs1 ls hl h2 h3
    intro b hb
    rcases List.mem_append.mp hb with hb | hb
    · exact h1 b hb
    · exact o2 b hb
theorem g_callV (hd : At y.2.1 pc (.invokevirtual idx) 3 n) (hc : CV y.1.cls idx z na cc) (hE : Ev z (.inr (.inr (cc, k)) :: As) σ V1 σ1) (hlen : As.length = na) (hlay : (lay As).length + 1 ≤ z.2.2.1) (hrm : rmOK y z) (hcat : cat1 st ≤ 8)
    (kk : vok z.2.2.2.1 V1 → Go y n L (V1.toList ++ st) σ1 V S) : Go y pc L (As.reverse ++ .inr (.inr (cc, k)) :: st) σ V S := by
  obtain ⟨hd, rfl⟩ := hd
  intro X p l e R s m args below meth c A cells slots Q F hr oL oS H locs ls hl hW hS
  obtain ⟨o1, o2⟩ := okS_rev oS
  obtain ⟨hM, hlk, hin, hse, hna, h12, hcl⟩ := hc
  have hmet := met_of hE hM hlay (o1.cons o2.hd) l X F.2.2.2.2.2.2.1
  have hts := F.2.2.2.2.1
  have hR : (rmM z).frames + 1 ≤ R.frames ∧ 8 + (z.2.2.1 + 11) + (rmM z).locals ≤ R.locals := ⟨Nat.le_trans hrm.1 F.2.2.2.2.2.2.2.2.2.2.1, Nat.le_trans hrm.2 F.2.2.2.2.2.2.2.2.2.2.2.1⟩
  have cw := callB_of (y := z.1) (bytes := z.2.1) (maxL := z.2.2.1) (ret := z.2.2.2.1) (mc := 0) (ms := 0) (own := y.1.cls) (index := idx) na hts (gt_GoodIn hM) (show wsM z = _ :: gt from rfl) rfl rfl (hts _ hM.2.2.1) (hts _ hlk) ⟨hM.2.2.2.1.1, hM.2.2.2.1.2, hna⟩ hR
  have hWA := Wa_in F.2.2.2.2.2.2.2.1
  obtain ⟨i, hi⟩ := ix_c (kds_lt h12) (show k < cnt cc from o2.hd)
  have hcell : (wl X σ)[i]? = some (Kad X cc k, .inr (cc, (List.range (nf cc)).map fun j => cv (Kad X) (fav σ cc k j))) := by
    rw [wl_at hi]
    simp [acell, h12]
  obtain ⟨qc, hqc⟩ : ∃ qc, classes[cc]? = some qc := by
    cases hz : classes[cc]? with
    | none => rw [hz] at hcl; cases hcl
    | some qc => exact ⟨qc, rfl⟩
  have hq1 : qc.1 = z.1.cls := by
    rw [hqc] at hcl
    exact Option.some.inj hcl
  have hrec := va_recv F.2.2.2.2.2.1 hW.1 hqc hcell
  rw [hq1] at hrec
  refine run_go (va_runV (As := As.map (cv (Kad X))) (rest := st.map (cv (Kad X))) (b := Kad X cc k) (C := z.1.cls) (Ts := gt) ⟨F.1, F.2.1, F.2.2.1, F.2.2.2.1, hts⟩ hmet ⟨cw, hts _ hin, hts _ hse⟩ ⟨Pm_blind, hrec, fun U hU hWm => ⟨rfl, by rw [hU]; exact hW, va_K.moved hWm.alike F.2.2.2.2.2.1, ?_⟩⟩ rfl (by rw [List.length_map]; exact hlen) hl.1 map_stack (lv_room (by rw [cat_sum]; exact hcat)) hd ⟨F.2.2.2.2.2.2.2.2.2.2.2.2.1, F.2.2.2.2.2.2.2.2.2.2.2.2.2⟩) hS hWA (fun H1 locs1 h0 h1 h2 h3 => ?_)
  · rw [hU]
    exact SX.warm hWm (F.2.2.2.2.2.2.2.2.1.down hS hWA)
  · rw [val_stack]
    refine kk h0 X p l e R s m args below meth c A cells slots Q F hr oL ?_ H1 locs1 ls hl h2 h3
    intro b hb
    rcases List.mem_append.mp hb with hb | hb
    · exact h1 b hb
    · exact o2.tl b hb
/-- a private static method of a nest mate: here one alone -/
theorem g_callW (hy : y.1.cls = RX8) (hd : At y.2.1 pc (.invokestatic 88) 3 n) (hz : z.1 = yX10_within) (hM : MOK z) (hst : Cond.static z.1 ∈ gt) (hE : Ev z As σ V1 σ1) (hlen : As.length = 3) (hlay : (lay As).length ≤ z.2.2.1) (hrm : rmOK y z) (hcat : cat1 st ≤ 8)
    (kk : vok z.2.2.2.1 V1 → Go y n L (V1.toList ++ st) σ1 V S) : Go y pc L (As.reverse ++ st) σ V S := by
  obtain ⟨hd, rfl⟩ := hd
  intro X p l e R s m args below meth c A cells slots Q F hr oL oS H locs ls hl hW hS
  obtain ⟨o1, o2⟩ := okS_rev oS
  have hmet := met_of hE hM hlay o1 l X F.2.2.2.2.2.2.1
  have hts := F.2.2.2.2.1
  have hR : (rmM z).frames + 1 ≤ R.frames ∧ 8 + (z.2.2.1 + 11) + (rmM z).locals ≤ R.locals := ⟨Nat.le_trans hrm.1 F.2.2.2.2.2.2.2.2.2.2.1, Nat.le_trans hrm.2 F.2.2.2.2.2.2.2.2.2.2.2.1⟩
  have hna : (parseMethodDescriptor z.1.desc).map (fun d => d.parameters.length) = some 3 := by rw [hz]; decide +kernel
  have h8 := F.2.2.2.2.2.2.2.2.1
  have cw := va_cnB (y := z.1) (bytes := z.2.1) (maxL := z.2.2.1) (ret := z.2.2.2.1) (mc := 0) (ms := 0) (own := y.1.cls) (host := "SteepleStruck") (index := 88) 3 hts (gt_GoodIn hM) (show wsM z = _ :: gt from rfl) rfl rfl (by rw [hy, hz]; exact h8.2.2.2) (hts _ hM.2.2.1) ⟨hM.2.2.2.1.1, hM.2.2.2.1.2, hna⟩ hR
  have hWA := Wa_in F.2.2.2.2.2.2.2.1
  refine run_go (va_runSN (As := As.map (cv (Kad X))) (rest := st.map (cv (Kad X))) (Ts := gt) ⟨F.1, F.2.1, F.2.2.1, F.2.2.2.1, hts⟩ hmet ⟨cw, hts _ hst, trivial⟩ ⟨Pm_blind, fun U hU hWm => ⟨rfl, by rw [hU]; exact hW, va_K.moved hWm.alike F.2.2.2.2.2.1, ?_⟩⟩ rfl (by rw [List.length_map]; exact hlen) hl.1 map_stack (lv_room (by rw [cat_sum]; exact hcat)) hd ⟨F.2.2.2.2.2.2.2.2.2.2.2.2.1, F.2.2.2.2.2.2.2.2.2.2.2.2.2⟩) hS hWA (fun H1 locs1 h0 h1 h2 h3 => ?_)
  · rw [hU]
    exact SX.warm hWm (h8.down hS hWA)
  · rw [val_stack]
    refine kk h0 X p l e R s m args below meth c A cells slots Q F hr oL ?_ H1 locs1 ls hl h2 h3
    intro b hb
    rcases List.mem_append.mp hb with hb | hb
    · exact h1 b hb
    · exact o2 b hb
end CALL2
end
section
/-! words for decompiled runs -/
def ck {α : Type} (b : Bool) (k : Option α) : Option α := match b with
  | true => k
  | false => none
def bnd {α β : Type} (o : Option α) (k : α → Option β) : Option β := match o with
  | some a => k a
  | none => none
def lt {α β : Type} (a : α) (k : α → β) : β := k a
def sm {α β γ : Type} (o : α ⊕ β) (f : α → γ) (g : β → γ) : γ := match o with
  | .inl a => f a
  | .inr b => g b
def inb (i : Int32) (n : Nat) : Bool := decide (¬ (i < 0 ∨ n ≤ i.toNatClampNeg))
theorem ck_inv {α : Type} {b : Bool} {k : Option α} {r : α} (h : ck b k = some r) : b = true ∧ k = some r := by
  cases b with
  | true => exact ⟨rfl, h⟩
  | false => cases h
theorem bnd_inv {α β : Type} {o : Option α} {k : α → Option β} {r : β} (h : bnd o k = some r) : ∃ w, o = some w ∧ k w = some r := by
  cases o with
  | some a => exact ⟨a, rfl, h⟩
  | none => cases h
theorem lt_inv {α β : Type} {a : α} {k : α → β} {r : β} (h : lt a k = r) : ∃ w, a = w ∧ k w = r := ⟨a, rfl, h⟩
theorem sm_l {α β γ : Type} {u : α} {f : α → γ} {g : β → γ} {r : γ} (h : sm (.inl u) f g = r) : f u = r := h
theorem sm_r {α β γ : Type} {u : β} {f : α → γ} {g : β → γ} {r : γ} (h : sm (.inr u) f g = r) : g u = r := h
theorem inb_ok {i : Int32} {n : Nat} (h : inb i n = true) : vp_in i n := by
  simp only [inb, decide_eq_true_eq] at h
  exact h
theorem rI20 (k : Nat) : rI 20 k := ⟨by decide, by decide, fun h => absurd h.1 (by decide)⟩
theorem rI21 (k : Nat) : rI 21 k := ⟨by decide, by decide, fun h => absurd h.1 (by decide)⟩
theorem rI22 {k : Nat} (h : ¬ k = 2) : rI 22 k := ⟨by decide, by decide, fun q => h q.2⟩
section WRAP
variable {y z : MI} {pc n idx cc k : Nat} {L : List (Option AV)} {st : List AV} {σ σ1 S : Mem} {V : Option AV}
theorem g_V0s {v1 : AV} (hd : At y.2.1 pc (.invokevirtual idx) 3 n) (hc : CV y.1.cls idx z 0 cc) (hE : Ev z (.inr (.inr (cc, k)) :: []) σ (some v1) σ1) (hq : szOK y z [] st 1 = true) (kk : vok z.2.2.2.1 (some v1) → Go y n L (v1 :: st) σ1 V S) : Go y pc L (.inr (.inr (cc, k)) :: st) σ V S :=
  g_callV (As := []) hd hc hE rfl (szOK_use hq).1 (szOK_use hq).2.1 (szOK_use hq).2.2 kk
theorem g_V0n (hd : At y.2.1 pc (.invokevirtual idx) 3 n) (hc : CV y.1.cls idx z 0 cc) (hE : Ev z (.inr (.inr (cc, k)) :: []) σ none σ1) (hq : szOK y z [] st 1 = true) (kk : vok z.2.2.2.1 none → Go y n L (st) σ1 V S) : Go y pc L (.inr (.inr (cc, k)) :: st) σ V S :=
  g_callV (As := []) hd hc hE rfl (szOK_use hq).1 (szOK_use hq).2.1 (szOK_use hq).2.2 kk
theorem g_V1s {a0 : AV} {v1 : AV} (hd : At y.2.1 pc (.invokevirtual idx) 3 n) (hc : CV y.1.cls idx z 1 cc) (hE : Ev z (.inr (.inr (cc, k)) :: [a0]) σ (some v1) σ1) (hq : szOK y z [a0] st 1 = true) (kk : vok z.2.2.2.1 (some v1) → Go y n L (v1 :: st) σ1 V S) : Go y pc L (a0 :: .inr (.inr (cc, k)) :: st) σ V S :=
  g_callV (As := [a0]) hd hc hE rfl (szOK_use hq).1 (szOK_use hq).2.1 (szOK_use hq).2.2 kk
theorem g_V1n {a0 : AV} (hd : At y.2.1 pc (.invokevirtual idx) 3 n) (hc : CV y.1.cls idx z 1 cc) (hE : Ev z (.inr (.inr (cc, k)) :: [a0]) σ none σ1) (hq : szOK y z [a0] st 1 = true) (kk : vok z.2.2.2.1 none → Go y n L (st) σ1 V S) : Go y pc L (a0 :: .inr (.inr (cc, k)) :: st) σ V S :=
  g_callV (As := [a0]) hd hc hE rfl (szOK_use hq).1 (szOK_use hq).2.1 (szOK_use hq).2.2 kk
theorem g_V2s {a0 a1 : AV} {v1 : AV} (hd : At y.2.1 pc (.invokevirtual idx) 3 n) (hc : CV y.1.cls idx z 2 cc) (hE : Ev z (.inr (.inr (cc, k)) :: [a0, a1]) σ (some v1) σ1) (hq : szOK y z [a0, a1] st 1 = true) (kk : vok z.2.2.2.1 (some v1) → Go y n L (v1 :: st) σ1 V S) : Go y pc L (a1 :: a0 :: .inr (.inr (cc, k)) :: st) σ V S :=
  g_callV (As := [a0, a1]) hd hc hE rfl (szOK_use hq).1 (szOK_use hq).2.1 (szOK_use hq).2.2 kk
theorem g_V2n {a0 a1 : AV} (hd : At y.2.1 pc (.invokevirtual idx) 3 n) (hc : CV y.1.cls idx z 2 cc) (hE : Ev z (.inr (.inr (cc, k)) :: [a0, a1]) σ none σ1) (hq : szOK y z [a0, a1] st 1 = true) (kk : vok z.2.2.2.1 none → Go y n L (st) σ1 V S) : Go y pc L (a1 :: a0 :: .inr (.inr (cc, k)) :: st) σ V S :=
  g_callV (As := [a0, a1]) hd hc hE rfl (szOK_use hq).1 (szOK_use hq).2.1 (szOK_use hq).2.2 kk
theorem g_V3s {a0 a1 a2 : AV} {v1 : AV} (hd : At y.2.1 pc (.invokevirtual idx) 3 n) (hc : CV y.1.cls idx z 3 cc) (hE : Ev z (.inr (.inr (cc, k)) :: [a0, a1, a2]) σ (some v1) σ1) (hq : szOK y z [a0, a1, a2] st 1 = true) (kk : vok z.2.2.2.1 (some v1) → Go y n L (v1 :: st) σ1 V S) : Go y pc L (a2 :: a1 :: a0 :: .inr (.inr (cc, k)) :: st) σ V S :=
  g_callV (As := [a0, a1, a2]) hd hc hE rfl (szOK_use hq).1 (szOK_use hq).2.1 (szOK_use hq).2.2 kk
theorem g_V3n {a0 a1 a2 : AV} (hd : At y.2.1 pc (.invokevirtual idx) 3 n) (hc : CV y.1.cls idx z 3 cc) (hE : Ev z (.inr (.inr (cc, k)) :: [a0, a1, a2]) σ none σ1) (hq : szOK y z [a0, a1, a2] st 1 = true) (kk : vok z.2.2.2.1 none → Go y n L (st) σ1 V S) : Go y pc L (a2 :: a1 :: a0 :: .inr (.inr (cc, k)) :: st) σ V S :=
  g_callV (As := [a0, a1, a2]) hd hc hE rfl (szOK_use hq).1 (szOK_use hq).2.1 (szOK_use hq).2.2 kk
theorem g_V4s {a0 a1 a2 a3 : AV} {v1 : AV} (hd : At y.2.1 pc (.invokevirtual idx) 3 n) (hc : CV y.1.cls idx z 4 cc) (hE : Ev z (.inr (.inr (cc, k)) :: [a0, a1, a2, a3]) σ (some v1) σ1) (hq : szOK y z [a0, a1, a2, a3] st 1 = true) (kk : vok z.2.2.2.1 (some v1) → Go y n L (v1 :: st) σ1 V S) : Go y pc L (a3 :: a2 :: a1 :: a0 :: .inr (.inr (cc, k)) :: st) σ V S :=
  g_callV (As := [a0, a1, a2, a3]) hd hc hE rfl (szOK_use hq).1 (szOK_use hq).2.1 (szOK_use hq).2.2 kk
theorem g_V4n {a0 a1 a2 a3 : AV} (hd : At y.2.1 pc (.invokevirtual idx) 3 n) (hc : CV y.1.cls idx z 4 cc) (hE : Ev z (.inr (.inr (cc, k)) :: [a0, a1, a2, a3]) σ none σ1) (hq : szOK y z [a0, a1, a2, a3] st 1 = true) (kk : vok z.2.2.2.1 none → Go y n L (st) σ1 V S) : Go y pc L (a3 :: a2 :: a1 :: a0 :: .inr (.inr (cc, k)) :: st) σ V S :=
  g_callV (As := [a0, a1, a2, a3]) hd hc hE rfl (szOK_use hq).1 (szOK_use hq).2.1 (szOK_use hq).2.2 kk
theorem g_V5s {a0 a1 a2 a3 a4 : AV} {v1 : AV} (hd : At y.2.1 pc (.invokevirtual idx) 3 n) (hc : CV y.1.cls idx z 5 cc) (hE : Ev z (.inr (.inr (cc, k)) :: [a0, a1, a2, a3, a4]) σ (some v1) σ1) (hq : szOK y z [a0, a1, a2, a3, a4] st 1 = true) (kk : vok z.2.2.2.1 (some v1) → Go y n L (v1 :: st) σ1 V S) : Go y pc L (a4 :: a3 :: a2 :: a1 :: a0 :: .inr (.inr (cc, k)) :: st) σ V S :=
  g_callV (As := [a0, a1, a2, a3, a4]) hd hc hE rfl (szOK_use hq).1 (szOK_use hq).2.1 (szOK_use hq).2.2 kk
theorem g_V5n {a0 a1 a2 a3 a4 : AV} (hd : At y.2.1 pc (.invokevirtual idx) 3 n) (hc : CV y.1.cls idx z 5 cc) (hE : Ev z (.inr (.inr (cc, k)) :: [a0, a1, a2, a3, a4]) σ none σ1) (hq : szOK y z [a0, a1, a2, a3, a4] st 1 = true) (kk : vok z.2.2.2.1 none → Go y n L (st) σ1 V S) : Go y pc L (a4 :: a3 :: a2 :: a1 :: a0 :: .inr (.inr (cc, k)) :: st) σ V S :=
  g_callV (As := [a0, a1, a2, a3, a4]) hd hc hE rfl (szOK_use hq).1 (szOK_use hq).2.1 (szOK_use hq).2.2 kk
theorem g_V6s {a0 a1 a2 a3 a4 a5 : AV} {v1 : AV} (hd : At y.2.1 pc (.invokevirtual idx) 3 n) (hc : CV y.1.cls idx z 6 cc) (hE : Ev z (.inr (.inr (cc, k)) :: [a0, a1, a2, a3, a4, a5]) σ (some v1) σ1) (hq : szOK y z [a0, a1, a2, a3, a4, a5] st 1 = true) (kk : vok z.2.2.2.1 (some v1) → Go y n L (v1 :: st) σ1 V S) : Go y pc L (a5 :: a4 :: a3 :: a2 :: a1 :: a0 :: .inr (.inr (cc, k)) :: st) σ V S :=
  g_callV (As := [a0, a1, a2, a3, a4, a5]) hd hc hE rfl (szOK_use hq).1 (szOK_use hq).2.1 (szOK_use hq).2.2 kk
theorem g_V6n {a0 a1 a2 a3 a4 a5 : AV} (hd : At y.2.1 pc (.invokevirtual idx) 3 n) (hc : CV y.1.cls idx z 6 cc) (hE : Ev z (.inr (.inr (cc, k)) :: [a0, a1, a2, a3, a4, a5]) σ none σ1) (hq : szOK y z [a0, a1, a2, a3, a4, a5] st 1 = true) (kk : vok z.2.2.2.1 none → Go y n L (st) σ1 V S) : Go y pc L (a5 :: a4 :: a3 :: a2 :: a1 :: a0 :: .inr (.inr (cc, k)) :: st) σ V S :=
  g_callV (As := [a0, a1, a2, a3, a4, a5]) hd hc hE rfl (szOK_use hq).1 (szOK_use hq).2.1 (szOK_use hq).2.2 kk
theorem g_V7s {a0 a1 a2 a3 a4 a5 a6 : AV} {v1 : AV} (hd : At y.2.1 pc (.invokevirtual idx) 3 n) (hc : CV y.1.cls idx z 7 cc) (hE : Ev z (.inr (.inr (cc, k)) :: [a0, a1, a2, a3, a4, a5, a6]) σ (some v1) σ1) (hq : szOK y z [a0, a1, a2, a3, a4, a5, a6] st 1 = true) (kk : vok z.2.2.2.1 (some v1) → Go y n L (v1 :: st) σ1 V S) : Go y pc L (a6 :: a5 :: a4 :: a3 :: a2 :: a1 :: a0 :: .inr (.inr (cc, k)) :: st) σ V S :=
  g_callV (As := [a0, a1, a2, a3, a4, a5, a6]) hd hc hE rfl (szOK_use hq).1 (szOK_use hq).2.1 (szOK_use hq).2.2 kk
theorem g_V7n {a0 a1 a2 a3 a4 a5 a6 : AV} (hd : At y.2.1 pc (.invokevirtual idx) 3 n) (hc : CV y.1.cls idx z 7 cc) (hE : Ev z (.inr (.inr (cc, k)) :: [a0, a1, a2, a3, a4, a5, a6]) σ none σ1) (hq : szOK y z [a0, a1, a2, a3, a4, a5, a6] st 1 = true) (kk : vok z.2.2.2.1 none → Go y n L (st) σ1 V S) : Go y pc L (a6 :: a5 :: a4 :: a3 :: a2 :: a1 :: a0 :: .inr (.inr (cc, k)) :: st) σ V S :=
  g_callV (As := [a0, a1, a2, a3, a4, a5, a6]) hd hc hE rfl (szOK_use hq).1 (szOK_use hq).2.1 (szOK_use hq).2.2 kk
theorem g_S0s {v1 : AV} (hd : At y.2.1 pc (.invokestatic idx) 3 n) (hc : CS y.1.cls idx z 0) (hE : Ev z ([]) σ (some v1) σ1) (hq : szOK y z [] st 0 = true) (kk : vok z.2.2.2.1 (some v1) → Go y n L (v1 :: st) σ1 V S) : Go y pc L (st) σ V S :=
  g_callS (As := []) hd hc hE rfl (szOK_use hq).1 (szOK_use hq).2.1 (szOK_use hq).2.2 kk
theorem g_S0n (hd : At y.2.1 pc (.invokestatic idx) 3 n) (hc : CS y.1.cls idx z 0) (hE : Ev z ([]) σ none σ1) (hq : szOK y z [] st 0 = true) (kk : vok z.2.2.2.1 none → Go y n L (st) σ1 V S) : Go y pc L (st) σ V S :=
  g_callS (As := []) hd hc hE rfl (szOK_use hq).1 (szOK_use hq).2.1 (szOK_use hq).2.2 kk
theorem g_S1s {a0 : AV} {v1 : AV} (hd : At y.2.1 pc (.invokestatic idx) 3 n) (hc : CS y.1.cls idx z 1) (hE : Ev z ([a0]) σ (some v1) σ1) (hq : szOK y z [a0] st 0 = true) (kk : vok z.2.2.2.1 (some v1) → Go y n L (v1 :: st) σ1 V S) : Go y pc L (a0 :: st) σ V S :=
  g_callS (As := [a0]) hd hc hE rfl (szOK_use hq).1 (szOK_use hq).2.1 (szOK_use hq).2.2 kk
theorem g_S1n {a0 : AV} (hd : At y.2.1 pc (.invokestatic idx) 3 n) (hc : CS y.1.cls idx z 1) (hE : Ev z ([a0]) σ none σ1) (hq : szOK y z [a0] st 0 = true) (kk : vok z.2.2.2.1 none → Go y n L (st) σ1 V S) : Go y pc L (a0 :: st) σ V S :=
  g_callS (As := [a0]) hd hc hE rfl (szOK_use hq).1 (szOK_use hq).2.1 (szOK_use hq).2.2 kk
theorem g_S2s {a0 a1 : AV} {v1 : AV} (hd : At y.2.1 pc (.invokestatic idx) 3 n) (hc : CS y.1.cls idx z 2) (hE : Ev z ([a0, a1]) σ (some v1) σ1) (hq : szOK y z [a0, a1] st 0 = true) (kk : vok z.2.2.2.1 (some v1) → Go y n L (v1 :: st) σ1 V S) : Go y pc L (a1 :: a0 :: st) σ V S :=
  g_callS (As := [a0, a1]) hd hc hE rfl (szOK_use hq).1 (szOK_use hq).2.1 (szOK_use hq).2.2 kk
theorem g_S2n {a0 a1 : AV} (hd : At y.2.1 pc (.invokestatic idx) 3 n) (hc : CS y.1.cls idx z 2) (hE : Ev z ([a0, a1]) σ none σ1) (hq : szOK y z [a0, a1] st 0 = true) (kk : vok z.2.2.2.1 none → Go y n L (st) σ1 V S) : Go y pc L (a1 :: a0 :: st) σ V S :=
  g_callS (As := [a0, a1]) hd hc hE rfl (szOK_use hq).1 (szOK_use hq).2.1 (szOK_use hq).2.2 kk
theorem g_S3s {a0 a1 a2 : AV} {v1 : AV} (hd : At y.2.1 pc (.invokestatic idx) 3 n) (hc : CS y.1.cls idx z 3) (hE : Ev z ([a0, a1, a2]) σ (some v1) σ1) (hq : szOK y z [a0, a1, a2] st 0 = true) (kk : vok z.2.2.2.1 (some v1) → Go y n L (v1 :: st) σ1 V S) : Go y pc L (a2 :: a1 :: a0 :: st) σ V S :=
  g_callS (As := [a0, a1, a2]) hd hc hE rfl (szOK_use hq).1 (szOK_use hq).2.1 (szOK_use hq).2.2 kk
theorem g_S3n {a0 a1 a2 : AV} (hd : At y.2.1 pc (.invokestatic idx) 3 n) (hc : CS y.1.cls idx z 3) (hE : Ev z ([a0, a1, a2]) σ none σ1) (hq : szOK y z [a0, a1, a2] st 0 = true) (kk : vok z.2.2.2.1 none → Go y n L (st) σ1 V S) : Go y pc L (a2 :: a1 :: a0 :: st) σ V S :=
  g_callS (As := [a0, a1, a2]) hd hc hE rfl (szOK_use hq).1 (szOK_use hq).2.1 (szOK_use hq).2.2 kk
theorem g_S4s {a0 a1 a2 a3 : AV} {v1 : AV} (hd : At y.2.1 pc (.invokestatic idx) 3 n) (hc : CS y.1.cls idx z 4) (hE : Ev z ([a0, a1, a2, a3]) σ (some v1) σ1) (hq : szOK y z [a0, a1, a2, a3] st 0 = true) (kk : vok z.2.2.2.1 (some v1) → Go y n L (v1 :: st) σ1 V S) : Go y pc L (a3 :: a2 :: a1 :: a0 :: st) σ V S :=
  g_callS (As := [a0, a1, a2, a3]) hd hc hE rfl (szOK_use hq).1 (szOK_use hq).2.1 (szOK_use hq).2.2 kk
theorem g_S4n {a0 a1 a2 a3 : AV} (hd : At y.2.1 pc (.invokestatic idx) 3 n) (hc : CS y.1.cls idx z 4) (hE : Ev z ([a0, a1, a2, a3]) σ none σ1) (hq : szOK y z [a0, a1, a2, a3] st 0 = true) (kk : vok z.2.2.2.1 none → Go y n L (st) σ1 V S) : Go y pc L (a3 :: a2 :: a1 :: a0 :: st) σ V S :=
  g_callS (As := [a0, a1, a2, a3]) hd hc hE rfl (szOK_use hq).1 (szOK_use hq).2.1 (szOK_use hq).2.2 kk
theorem g_S5s {a0 a1 a2 a3 a4 : AV} {v1 : AV} (hd : At y.2.1 pc (.invokestatic idx) 3 n) (hc : CS y.1.cls idx z 5) (hE : Ev z ([a0, a1, a2, a3, a4]) σ (some v1) σ1) (hq : szOK y z [a0, a1, a2, a3, a4] st 0 = true) (kk : vok z.2.2.2.1 (some v1) → Go y n L (v1 :: st) σ1 V S) : Go y pc L (a4 :: a3 :: a2 :: a1 :: a0 :: st) σ V S :=
  g_callS (As := [a0, a1, a2, a3, a4]) hd hc hE rfl (szOK_use hq).1 (szOK_use hq).2.1 (szOK_use hq).2.2 kk
theorem g_S5n {a0 a1 a2 a3 a4 : AV} (hd : At y.2.1 pc (.invokestatic idx) 3 n) (hc : CS y.1.cls idx z 5) (hE : Ev z ([a0, a1, a2, a3, a4]) σ none σ1) (hq : szOK y z [a0, a1, a2, a3, a4] st 0 = true) (kk : vok z.2.2.2.1 none → Go y n L (st) σ1 V S) : Go y pc L (a4 :: a3 :: a2 :: a1 :: a0 :: st) σ V S :=
  g_callS (As := [a0, a1, a2, a3, a4]) hd hc hE rfl (szOK_use hq).1 (szOK_use hq).2.1 (szOK_use hq).2.2 kk
theorem g_S6s {a0 a1 a2 a3 a4 a5 : AV} {v1 : AV} (hd : At y.2.1 pc (.invokestatic idx) 3 n) (hc : CS y.1.cls idx z 6) (hE : Ev z ([a0, a1, a2, a3, a4, a5]) σ (some v1) σ1) (hq : szOK y z [a0, a1, a2, a3, a4, a5] st 0 = true) (kk : vok z.2.2.2.1 (some v1) → Go y n L (v1 :: st) σ1 V S) : Go y pc L (a5 :: a4 :: a3 :: a2 :: a1 :: a0 :: st) σ V S :=
  g_callS (As := [a0, a1, a2, a3, a4, a5]) hd hc hE rfl (szOK_use hq).1 (szOK_use hq).2.1 (szOK_use hq).2.2 kk
theorem g_S6n {a0 a1 a2 a3 a4 a5 : AV} (hd : At y.2.1 pc (.invokestatic idx) 3 n) (hc : CS y.1.cls idx z 6) (hE : Ev z ([a0, a1, a2, a3, a4, a5]) σ none σ1) (hq : szOK y z [a0, a1, a2, a3, a4, a5] st 0 = true) (kk : vok z.2.2.2.1 none → Go y n L (st) σ1 V S) : Go y pc L (a5 :: a4 :: a3 :: a2 :: a1 :: a0 :: st) σ V S :=
  g_callS (As := [a0, a1, a2, a3, a4, a5]) hd hc hE rfl (szOK_use hq).1 (szOK_use hq).2.1 (szOK_use hq).2.2 kk
theorem g_S7s {a0 a1 a2 a3 a4 a5 a6 : AV} {v1 : AV} (hd : At y.2.1 pc (.invokestatic idx) 3 n) (hc : CS y.1.cls idx z 7) (hE : Ev z ([a0, a1, a2, a3, a4, a5, a6]) σ (some v1) σ1) (hq : szOK y z [a0, a1, a2, a3, a4, a5, a6] st 0 = true) (kk : vok z.2.2.2.1 (some v1) → Go y n L (v1 :: st) σ1 V S) : Go y pc L (a6 :: a5 :: a4 :: a3 :: a2 :: a1 :: a0 :: st) σ V S :=
  g_callS (As := [a0, a1, a2, a3, a4, a5, a6]) hd hc hE rfl (szOK_use hq).1 (szOK_use hq).2.1 (szOK_use hq).2.2 kk
theorem g_S7n {a0 a1 a2 a3 a4 a5 a6 : AV} (hd : At y.2.1 pc (.invokestatic idx) 3 n) (hc : CS y.1.cls idx z 7) (hE : Ev z ([a0, a1, a2, a3, a4, a5, a6]) σ none σ1) (hq : szOK y z [a0, a1, a2, a3, a4, a5, a6] st 0 = true) (kk : vok z.2.2.2.1 none → Go y n L (st) σ1 V S) : Go y pc L (a6 :: a5 :: a4 :: a3 :: a2 :: a1 :: a0 :: st) σ V S :=
  g_callS (As := [a0, a1, a2, a3, a4, a5, a6]) hd hc hE rfl (szOK_use hq).1 (szOK_use hq).2.1 (szOK_use hq).2.2 kk
theorem g_ldcS {q : Nat} (hy : y.1.cls = RX8) (hd : At y.2.1 pc (.ldc (138 + 2 * q)) 2 n) (hq : q < 6) (k : Go y n L (.inr (.inr (12, q)) :: st) σ V S) : Go y pc L st σ V S := by
  obtain ⟨hd, rfl⟩ := hd
  intro X p l e R s m args below meth c A cells slots Q F hr oL oS H locs ls hl hW hS
  have hown := F.2.2.2.1
  rw [hy] at hown
  exact va_ldcS F.1 F.2.1 hown (F.2.2.2.2.2.2.2.2.1.2.2.1 q hq) hd (k X p l e R s m args below meth c A cells slots Q F hr oL (oS.cons hq) H locs ls hl hW hS)
theorem g_W3s {a0 a1 a2 v1 : AV} (hy : y.1.cls = RX8) (hd : At y.2.1 pc (.invokestatic 88) 3 n) (hz : z.1 = yX10_within) (hM : MOK z) (hst : Cond.static z.1 ∈ gt) (hE : Ev z [a0, a1, a2] σ (some v1) σ1) (hq : szOK y z [a0, a1, a2] st 0 = true) (kk : vok z.2.2.2.1 (some v1) → Go y n L (v1 :: st) σ1 V S) : Go y pc L (a2 :: a1 :: a0 :: st) σ V S :=
  g_callW (As := [a0, a1, a2]) hy hd hz hM hst hE rfl (szOK_use hq).1 (szOK_use hq).2.1 (szOK_use hq).2.2 kk
end WRAP
theorem in_of {ws : List Cond} (h : ws.all (fun w => decide (w ∈ lw_tbl) && goodWord w) = true) : ∀ w ∈ ws, w ∈ gt := by
  intro w hw
  have h1 := List.all_eq_true.mp h w hw
  simp only [Bool.and_eq_true, decide_eq_true_eq] at h1
  exact gt_in h1.1 h1.2
theorem at_of {i : Nat} {w : Cond} (h : lw_tbl[i]? = some w) (hg : goodWord w = true) : w ∈ gt := gt_in (List.mem_of_getElem? h) hg
theorem in0 : ∀ w ∈ u_ws RX0 TX0 2, w ∈ gt := in_of (by decide +kernel)
theorem in1 : ∀ w ∈ u_ws RX1 TX1 2, w ∈ gt := in_of (by decide +kernel)
theorem in2 : ∀ w ∈ u_ws RX2 TX2 1, w ∈ gt := in_of (by decide +kernel)
theorem in3 : ∀ w ∈ u_ws RX3 TX3 0, w ∈ gt := in_of (by decide +kernel)
theorem in4 : ∀ w ∈ u_ws RX4 TX4 4, w ∈ gt := in_of (by decide +kernel)
theorem in5 : ∀ w ∈ u_ws RX5 TX5 5, w ∈ gt := in_of (by decide +kernel)
theorem in6 : ∀ w ∈ u_ws RX6 TX6 1, w ∈ gt := in_of (by decide +kernel)
theorem in7 : ∀ w ∈ u_ws RX7 TX7 4, w ∈ gt := in_of (by decide +kernel)
theorem in8 : ∀ w ∈ u_ws RX8 TX8 7, w ∈ gt := in_of (by decide +kernel)
theorem in9 : ∀ w ∈ u_ws RX9 TX9 8, w ∈ gt := in_of (by decide +kernel)
theorem in10 : ∀ w ∈ u_ws RX10 TX10 16, w ∈ gt := in_of (by decide +kernel)
theorem in11 : ∀ w ∈ u_ws RX11 TX11 19, w ∈ gt := in_of (by decide +kernel)
end
