/-- a private method of a class that the tables say can be made, by its rows of tables_1 -/
def lw_okq (q : MethodName × Nat) : Prop := (q.1.cls ≠ "java/lang/invoke/MethodHandle" ∧ q.1.cls ≠ "java/lang/invoke/VarHandle") ∧ Cond.instantiable q.1.cls q.2 ∈ tables_1 ∧ Cond.privateMethod q.1 ∈ tables_1 ∧ Cond.instanceMethod q.1 ∈ tables_1
theorem lw_p0 : lw_okq (⟨"FareNumbers$Reader", "advance", "()V"⟩, 11) := ⟨⟨by decide +kernel, by decide +kernel⟩, List.mem_of_getElem? (i := 207) (by decide +kernel), List.mem_of_getElem? (i := 522) (by decide +kernel), List.mem_of_getElem? (i := 523) (by decide +kernel)⟩
theorem lw_p1 : lw_okq (⟨"FareNumbers$Reader", "word", "()I"⟩, 11) := ⟨⟨by decide +kernel, by decide +kernel⟩, List.mem_of_getElem? (i := 207) (by decide +kernel), List.mem_of_getElem? (i := 529) (by decide +kernel), List.mem_of_getElem? (i := 530) (by decide +kernel)⟩
theorem lw_p2 : lw_okq (⟨"FareNumbers$Reader", "digits", "()I"⟩, 11) := ⟨⟨by decide +kernel, by decide +kernel⟩, List.mem_of_getElem? (i := 207) (by decide +kernel), List.mem_of_getElem? (i := 577) (by decide +kernel), List.mem_of_getElem? (i := 578) (by decide +kernel)⟩
theorem lw_p3 : lw_okq (⟨"FareNumbers$Reader", "signToken", "(I)I"⟩, 11) := ⟨⟨by decide +kernel, by decide +kernel⟩, List.mem_of_getElem? (i := 207) (by decide +kernel), List.mem_of_getElem? (i := 584) (by decide +kernel), List.mem_of_getElem? (i := 585) (by decide +kernel)⟩
theorem lw_p4 : lw_okq (⟨"FareNumbers$Reader", "clause", "()Z"⟩, 11) := ⟨⟨by decide +kernel, by decide +kernel⟩, List.mem_of_getElem? (i := 207) (by decide +kernel), List.mem_of_getElem? (i := 588) (by decide +kernel), List.mem_of_getElem? (i := 589) (by decide +kernel)⟩
theorem lw_p5 : lw_okq (⟨"FareNumbers$Reader", "wrong", "(I)Z"⟩, 11) := ⟨⟨by decide +kernel, by decide +kernel⟩, List.mem_of_getElem? (i := 207) (by decide +kernel), List.mem_of_getElem? (i := 595) (by decide +kernel), List.mem_of_getElem? (i := 596) (by decide +kernel)⟩
theorem lw_p6 : lw_okq (⟨"FareNumbers$Reader", "doClause", "(I)Z"⟩, 11) := ⟨⟨by decide +kernel, by decide +kernel⟩, List.mem_of_getElem? (i := 207) (by decide +kernel), List.mem_of_getElem? (i := 603) (by decide +kernel), List.mem_of_getElem? (i := 604) (by decide +kernel)⟩
theorem lw_p7 : lw_okq (⟨"FareNumbers$Reader", "number", "(I)Z"⟩, 11) := ⟨⟨by decide +kernel, by decide +kernel⟩, List.mem_of_getElem? (i := 207) (by decide +kernel), List.mem_of_getElem? (i := 607) (by decide +kernel), List.mem_of_getElem? (i := 608) (by decide +kernel)⟩
theorem lw_p8 : lw_okq (⟨"FareNumbers$Reader", "expect", "(I)Z"⟩, 11) := ⟨⟨by decide +kernel, by decide +kernel⟩, List.mem_of_getElem? (i := 207) (by decide +kernel), List.mem_of_getElem? (i := 614) (by decide +kernel), List.mem_of_getElem? (i := 615) (by decide +kernel)⟩
theorem lw_p9 : lw_okq (⟨"FareNumbers$Reader", "sum", "(I)Z"⟩, 11) := ⟨⟨by decide +kernel, by decide +kernel⟩, List.mem_of_getElem? (i := 207) (by decide +kernel), List.mem_of_getElem? (i := 622) (by decide +kernel), List.mem_of_getElem? (i := 623) (by decide +kernel)⟩
theorem lw_p10 : lw_okq (⟨"FareNumbers$Reader", "product", "(I)Z"⟩, 11) := ⟨⟨by decide +kernel, by decide +kernel⟩, List.mem_of_getElem? (i := 207) (by decide +kernel), List.mem_of_getElem? (i := 626) (by decide +kernel), List.mem_of_getElem? (i := 627) (by decide +kernel)⟩
theorem lw_p11 : lw_okq (⟨"FareNumbers$Reader", "one", "(I)Z"⟩, 11) := ⟨⟨by decide +kernel, by decide +kernel⟩, List.mem_of_getElem? (i := 207) (by decide +kernel), List.mem_of_getElem? (i := 630) (by decide +kernel), List.mem_of_getElem? (i := 631) (by decide +kernel)⟩
theorem lw_p12 : lw_okq (⟨"FareNumbers$Reader", "isOfLaw", "(I)Z"⟩, 11) := ⟨⟨by decide +kernel, by decide +kernel⟩, List.mem_of_getElem? (i := 207) (by decide +kernel), List.mem_of_getElem? (i := 638) (by decide +kernel), List.mem_of_getElem? (i := 639) (by decide +kernel)⟩
theorem lw_p13 : lw_okq (⟨"FareNumbers$Reader", "nested", "(II)Z"⟩, 11) := ⟨⟨by decide +kernel, by decide +kernel⟩, List.mem_of_getElem? (i := 207) (by decide +kernel), List.mem_of_getElem? (i := 642) (by decide +kernel), List.mem_of_getElem? (i := 643) (by decide +kernel)⟩
theorem lw_p14 : lw_okq (⟨"FareNumbers$Reader", "choice", "(I)Z"⟩, 11) := ⟨⟨by decide +kernel, by decide +kernel⟩, List.mem_of_getElem? (i := 207) (by decide +kernel), List.mem_of_getElem? (i := 646) (by decide +kernel), List.mem_of_getElem? (i := 647) (by decide +kernel)⟩
theorem lw_p15 : lw_okq (⟨"FareNumbers$Reader", "either", "(I)Z"⟩, 11) := ⟨⟨by decide +kernel, by decide +kernel⟩, List.mem_of_getElem? (i := 207) (by decide +kernel), List.mem_of_getElem? (i := 650) (by decide +kernel), List.mem_of_getElem? (i := 651) (by decide +kernel)⟩
def lw_privs_1 : List (MethodName × Nat) := [(⟨"FareNumbers$Reader", "advance", "()V"⟩, 11), (⟨"FareNumbers$Reader", "word", "()I"⟩, 11), (⟨"FareNumbers$Reader", "digits", "()I"⟩, 11), (⟨"FareNumbers$Reader", "signToken", "(I)I"⟩, 11), (⟨"FareNumbers$Reader", "clause", "()Z"⟩, 11), (⟨"FareNumbers$Reader", "wrong", "(I)Z"⟩, 11), (⟨"FareNumbers$Reader", "doClause", "(I)Z"⟩, 11), (⟨"FareNumbers$Reader", "number", "(I)Z"⟩, 11), (⟨"FareNumbers$Reader", "expect", "(I)Z"⟩, 11), (⟨"FareNumbers$Reader", "sum", "(I)Z"⟩, 11), (⟨"FareNumbers$Reader", "product", "(I)Z"⟩, 11), (⟨"FareNumbers$Reader", "one", "(I)Z"⟩, 11), (⟨"FareNumbers$Reader", "isOfLaw", "(I)Z"⟩, 11), (⟨"FareNumbers$Reader", "nested", "(II)Z"⟩, 11), (⟨"FareNumbers$Reader", "choice", "(I)Z"⟩, 11), (⟨"FareNumbers$Reader", "either", "(I)Z"⟩, 11)]
theorem lw_r1 : ∀ q ∈ lw_privs_1, lw_okq q := List.forall_mem_cons.mpr ⟨lw_p0, List.forall_mem_cons.mpr ⟨lw_p1, List.forall_mem_cons.mpr ⟨lw_p2, List.forall_mem_cons.mpr ⟨lw_p3, List.forall_mem_cons.mpr ⟨lw_p4, List.forall_mem_cons.mpr ⟨lw_p5, List.forall_mem_cons.mpr ⟨lw_p6, List.forall_mem_cons.mpr ⟨lw_p7, List.forall_mem_cons.mpr ⟨lw_p8, List.forall_mem_cons.mpr ⟨lw_p9, List.forall_mem_cons.mpr ⟨lw_p10, List.forall_mem_cons.mpr ⟨lw_p11, List.forall_mem_cons.mpr ⟨lw_p12, List.forall_mem_cons.mpr ⟨lw_p13, List.forall_mem_cons.mpr ⟨lw_p14, List.forall_mem_cons.mpr ⟨lw_p15, fun _ h => absurd h List.not_mem_nil⟩⟩⟩⟩⟩⟩⟩⟩⟩⟩⟩⟩⟩⟩⟩⟩
theorem lw_p16 : lw_okq (⟨"FareNumbers$Reader", "both", "(I)Z"⟩, 11) := ⟨⟨by decide +kernel, by decide +kernel⟩, List.mem_of_getElem? (i := 207) (by decide +kernel), List.mem_of_getElem? (i := 654) (by decide +kernel), List.mem_of_getElem? (i := 655) (by decide +kernel)⟩
theorem lw_p17 : lw_okq (⟨"FareNumbers$Reader", "ask", "(I)Z"⟩, 11) := ⟨⟨by decide +kernel, by decide +kernel⟩, List.mem_of_getElem? (i := 207) (by decide +kernel), List.mem_of_getElem? (i := 658) (by decide +kernel), List.mem_of_getElem? (i := 659) (by decide +kernel)⟩
theorem lw_p18 : lw_okq (⟨"FareNumbers$Reader", "denied", "(I)Z"⟩, 11) := ⟨⟨by decide +kernel, by decide +kernel⟩, List.mem_of_getElem? (i := 207) (by decide +kernel), List.mem_of_getElem? (i := 662) (by decide +kernel), List.mem_of_getElem? (i := 663) (by decide +kernel)⟩
theorem lw_p19 : lw_okq (⟨"FareNumbers$World", "theText", "()LFareNumbers$Text;"⟩, 14) := ⟨⟨by decide +kernel, by decide +kernel⟩, List.mem_of_getElem? (i := 30) (by decide +kernel), List.mem_of_getElem? (i := 695) (by decide +kernel), List.mem_of_getElem? (i := 696) (by decide +kernel)⟩
theorem lw_p20 : lw_okq (⟨"FareNumbers$Teller", "pop", "()I"⟩, 4) := ⟨⟨by decide +kernel, by decide +kernel⟩, List.mem_of_getElem? (i := 80) (by decide +kernel), List.mem_of_getElem? (i := 705) (by decide +kernel), List.mem_of_getElem? (i := 706) (by decide +kernel)⟩
theorem lw_p21 : lw_okq (⟨"FareNumbers$Teller", "valueOf", "(LFareNumbers$World;II)I"⟩, 4) := ⟨⟨by decide +kernel, by decide +kernel⟩, List.mem_of_getElem? (i := 80) (by decide +kernel), List.mem_of_getElem? (i := 709) (by decide +kernel), List.mem_of_getElem? (i := 710) (by decide +kernel)⟩
theorem lw_p22 : lw_okq (⟨"FareNumbers$Teller", "nameOf", "(LFareNumbers$World;I)I"⟩, 4) := ⟨⟨by decide +kernel, by decide +kernel⟩, List.mem_of_getElem? (i := 80) (by decide +kernel), List.mem_of_getElem? (i := 713) (by decide +kernel), List.mem_of_getElem? (i := 714) (by decide +kernel)⟩
theorem lw_p23 : lw_okq (⟨"FareNumbers$Teller", "endSign", "(LFareNumbers$World;[I)I"⟩, 4) := ⟨⟨by decide +kernel, by decide +kernel⟩, List.mem_of_getElem? (i := 80) (by decide +kernel), List.mem_of_getElem? (i := 734) (by decide +kernel), List.mem_of_getElem? (i := 735) (by decide +kernel)⟩
theorem lw_p24 : lw_okq (⟨"FareNumbers$Teller", "push", "(I)V"⟩, 4) := ⟨⟨by decide +kernel, by decide +kernel⟩, List.mem_of_getElem? (i := 80) (by decide +kernel), List.mem_of_getElem? (i := 770) (by decide +kernel), List.mem_of_getElem? (i := 771) (by decide +kernel)⟩
theorem lw_p25 : lw_okq (⟨"FareNumbers", "openFares", "()I"⟩, 10) := ⟨⟨by decide +kernel, by decide +kernel⟩, List.mem_of_getElem? (i := 22) (by decide +kernel), List.mem_of_getElem? (i := 879) (by decide +kernel), List.mem_of_getElem? (i := 880) (by decide +kernel)⟩
theorem lw_p26 : lw_okq (⟨"FareNumbers", "likeAbove", "(II)I"⟩, 10) := ⟨⟨by decide +kernel, by decide +kernel⟩, List.mem_of_getElem? (i := 22) (by decide +kernel), List.mem_of_getElem? (i := 900) (by decide +kernel), List.mem_of_getElem? (i := 901) (by decide +kernel)⟩
theorem lw_p27 : lw_okq (⟨"FareNumbers$Numbering", "begin", "(ZZI)V"⟩, 15) := ⟨⟨by decide +kernel, by decide +kernel⟩, List.mem_of_getElem? (i := 306) (by decide +kernel), List.mem_of_getElem? (i := 932) (by decide +kernel), List.mem_of_getElem? (i := 933) (by decide +kernel)⟩
theorem lw_p28 : lw_okq (⟨"FareNumbers$Numbering", "clear", "()V"⟩, 15) := ⟨⟨by decide +kernel, by decide +kernel⟩, List.mem_of_getElem? (i := 306) (by decide +kernel), List.mem_of_getElem? (i := 936) (by decide +kernel), List.mem_of_getElem? (i := 937) (by decide +kernel)⟩
theorem lw_p29 : lw_okq (⟨"FareNumbers$Numbering", "goOn", "(LFareNumbers$Net;II)Z"⟩, 15) := ⟨⟨by decide +kernel, by decide +kernel⟩, List.mem_of_getElem? (i := 306) (by decide +kernel), List.mem_of_getElem? (i := 941) (by decide +kernel), List.mem_of_getElem? (i := 942) (by decide +kernel)⟩
theorem lw_p30 : lw_okq (⟨"FareNumbers$Numbering", "nextOf", "(LFareNumbers$Net;II)I"⟩, 15) := ⟨⟨by decide +kernel, by decide +kernel⟩, List.mem_of_getElem? (i := 306) (by decide +kernel), List.mem_of_getElem? (i := 945) (by decide +kernel), List.mem_of_getElem? (i := 946) (by decide +kernel)⟩
theorem lw_p31 : lw_okq (⟨"FareNumbers$Numbering", "fitting", "(LFareNumbers$Net;II)J"⟩, 15) := ⟨⟨by decide +kernel, by decide +kernel⟩, List.mem_of_getElem? (i := 306) (by decide +kernel), List.mem_of_getElem? (i := 950) (by decide +kernel), List.mem_of_getElem? (i := 951) (by decide +kernel)⟩
def lw_privs_2 : List (MethodName × Nat) := [(⟨"FareNumbers$Reader", "both", "(I)Z"⟩, 11), (⟨"FareNumbers$Reader", "ask", "(I)Z"⟩, 11), (⟨"FareNumbers$Reader", "denied", "(I)Z"⟩, 11), (⟨"FareNumbers$World", "theText", "()LFareNumbers$Text;"⟩, 14), (⟨"FareNumbers$Teller", "pop", "()I"⟩, 4), (⟨"FareNumbers$Teller", "valueOf", "(LFareNumbers$World;II)I"⟩, 4), (⟨"FareNumbers$Teller", "nameOf", "(LFareNumbers$World;I)I"⟩, 4), (⟨"FareNumbers$Teller", "endSign", "(LFareNumbers$World;[I)I"⟩, 4), (⟨"FareNumbers$Teller", "push", "(I)V"⟩, 4), (⟨"FareNumbers", "openFares", "()I"⟩, 10), (⟨"FareNumbers", "likeAbove", "(II)I"⟩, 10), (⟨"FareNumbers$Numbering", "begin", "(ZZI)V"⟩, 15), (⟨"FareNumbers$Numbering", "clear", "()V"⟩, 15), (⟨"FareNumbers$Numbering", "goOn", "(LFareNumbers$Net;II)Z"⟩, 15), (⟨"FareNumbers$Numbering", "nextOf", "(LFareNumbers$Net;II)I"⟩, 15), (⟨"FareNumbers$Numbering", "fitting", "(LFareNumbers$Net;II)J"⟩, 15)]
theorem lw_r2 : ∀ q ∈ lw_privs_2, lw_okq q := List.forall_mem_cons.mpr ⟨lw_p16, List.forall_mem_cons.mpr ⟨lw_p17, List.forall_mem_cons.mpr ⟨lw_p18, List.forall_mem_cons.mpr ⟨lw_p19, List.forall_mem_cons.mpr ⟨lw_p20, List.forall_mem_cons.mpr ⟨lw_p21, List.forall_mem_cons.mpr ⟨lw_p22, List.forall_mem_cons.mpr ⟨lw_p23, List.forall_mem_cons.mpr ⟨lw_p24, List.forall_mem_cons.mpr ⟨lw_p25, List.forall_mem_cons.mpr ⟨lw_p26, List.forall_mem_cons.mpr ⟨lw_p27, List.forall_mem_cons.mpr ⟨lw_p28, List.forall_mem_cons.mpr ⟨lw_p29, List.forall_mem_cons.mpr ⟨lw_p30, List.forall_mem_cons.mpr ⟨lw_p31, fun _ h => absurd h List.not_mem_nil⟩⟩⟩⟩⟩⟩⟩⟩⟩⟩⟩⟩⟩⟩⟩⟩
theorem lw_p32 : lw_okq (⟨"FareNumbers$Numbering", "spoilt", "(I)J"⟩, 15) := ⟨⟨by decide +kernel, by decide +kernel⟩, List.mem_of_getElem? (i := 306) (by decide +kernel), List.mem_of_getElem? (i := 954) (by decide +kernel), List.mem_of_getElem? (i := 955) (by decide +kernel)⟩
theorem lw_p33 : lw_okq (⟨"FareNumbers$Numbering", "goOnWith", "(LFareNumbers$Net;IIII)Z"⟩, 15) := ⟨⟨by decide +kernel, by decide +kernel⟩, List.mem_of_getElem? (i := 306) (by decide +kernel), List.mem_of_getElem? (i := 967) (by decide +kernel), List.mem_of_getElem? (i := 968) (by decide +kernel)⟩
theorem lw_p34 : lw_okq (⟨"FareNumbers$Numbering", "note", "(I)Z"⟩, 15) := ⟨⟨by decide +kernel, by decide +kernel⟩, List.mem_of_getElem? (i := 306) (by decide +kernel), List.mem_of_getElem? (i := 972) (by decide +kernel), List.mem_of_getElem? (i := 973) (by decide +kernel)⟩
theorem lw_p35 : lw_okq (⟨"FareNumbers$Places", "goOn", "(II)Z"⟩, 8) := ⟨⟨by decide +kernel, by decide +kernel⟩, List.mem_of_getElem? (i := 361) (by decide +kernel), List.mem_of_getElem? (i := 1011) (by decide +kernel), List.mem_of_getElem? (i := 1012) (by decide +kernel)⟩
theorem lw_p36 : lw_okq (⟨"FareNumbers$Places", "fitting", "(II)J"⟩, 8) := ⟨⟨by decide +kernel, by decide +kernel⟩, List.mem_of_getElem? (i := 361) (by decide +kernel), List.mem_of_getElem? (i := 1015) (by decide +kernel), List.mem_of_getElem? (i := 1016) (by decide +kernel)⟩
theorem lw_p37 : lw_okq (⟨"FareNumbers$Places", "goOnWith", "(IIII)Z"⟩, 8) := ⟨⟨by decide +kernel, by decide +kernel⟩, List.mem_of_getElem? (i := 361) (by decide +kernel), List.mem_of_getElem? (i := 1024) (by decide +kernel), List.mem_of_getElem? (i := 1025) (by decide +kernel)⟩
theorem lw_p38 : lw_okq (⟨"FareNumbers$Weights", "begin", "(LFareNumbers$Net;I)V"⟩, 11) := ⟨⟨by decide +kernel, by decide +kernel⟩, List.mem_of_getElem? (i := 397) (by decide +kernel), List.mem_of_getElem? (i := 1036) (by decide +kernel), List.mem_of_getElem? (i := 1037) (by decide +kernel)⟩
theorem lw_p39 : lw_okq (⟨"FareNumbers$Weights", "goAlike", "(LFareNumbers$Net;I)V"⟩, 11) := ⟨⟨by decide +kernel, by decide +kernel⟩, List.mem_of_getElem? (i := 397) (by decide +kernel), List.mem_of_getElem? (i := 1041) (by decide +kernel), List.mem_of_getElem? (i := 1042) (by decide +kernel)⟩
theorem lw_p40 : lw_okq (⟨"FareNumbers$Weights", "tightest", "(LFareNumbers$Net;I)I"⟩, 11) := ⟨⟨by decide +kernel, by decide +kernel⟩, List.mem_of_getElem? (i := 397) (by decide +kernel), List.mem_of_getElem? (i := 1045) (by decide +kernel), List.mem_of_getElem? (i := 1046) (by decide +kernel)⟩
theorem lw_p41 : lw_okq (⟨"FareNumbers$Weights", "keepLowest", "(LFareNumbers$Net;)V"⟩, 11) := ⟨⟨by decide +kernel, by decide +kernel⟩, List.mem_of_getElem? (i := 397) (by decide +kernel), List.mem_of_getElem? (i := 1050) (by decide +kernel), List.mem_of_getElem? (i := 1051) (by decide +kernel)⟩
theorem lw_p42 : lw_okq (⟨"FareNumbers$Weights", "isLower", "(LFareNumbers$Net;)Z"⟩, 11) := ⟨⟨by decide +kernel, by decide +kernel⟩, List.mem_of_getElem? (i := 397) (by decide +kernel), List.mem_of_getElem? (i := 1054) (by decide +kernel), List.mem_of_getElem? (i := 1055) (by decide +kernel)⟩
theorem lw_p43 : lw_okq (⟨"FareNumbers$Weights", "goAlikeWith", "(LFareNumbers$Net;III)V"⟩, 11) := ⟨⟨by decide +kernel, by decide +kernel⟩, List.mem_of_getElem? (i := 397) (by decide +kernel), List.mem_of_getElem? (i := 1061) (by decide +kernel), List.mem_of_getElem? (i := 1062) (by decide +kernel)⟩
theorem lw_p44 : lw_okq (⟨"FareNumbers$Weights", "put", "(IIIII)V"⟩, 11) := ⟨⟨by decide +kernel, by decide +kernel⟩, List.mem_of_getElem? (i := 397) (by decide +kernel), List.mem_of_getElem? (i := 1065) (by decide +kernel), List.mem_of_getElem? (i := 1066) (by decide +kernel)⟩
theorem lw_p45 : lw_okq (⟨"FareNumbers$Weights", "canBe", "(LFareNumbers$Net;I)Z"⟩, 11) := ⟨⟨by decide +kernel, by decide +kernel⟩, List.mem_of_getElem? (i := 397) (by decide +kernel), List.mem_of_getElem? (i := 1069) (by decide +kernel), List.mem_of_getElem? (i := 1070) (by decide +kernel)⟩
theorem lw_p46 : lw_okq (⟨"FareNumbers$Weights", "takeOff", "(IIII)V"⟩, 11) := ⟨⟨by decide +kernel, by decide +kernel⟩, List.mem_of_getElem? (i := 397) (by decide +kernel), List.mem_of_getElem? (i := 1073) (by decide +kernel), List.mem_of_getElem? (i := 1074) (by decide +kernel)⟩
theorem lw_p47 : lw_okq (⟨"FareNumbers$Weights", "hasLone", "(LFareNumbers$Net;)Z"⟩, 11) := ⟨⟨by decide +kernel, by decide +kernel⟩, List.mem_of_getElem? (i := 397) (by decide +kernel), List.mem_of_getElem? (i := 1090) (by decide +kernel), List.mem_of_getElem? (i := 1091) (by decide +kernel)⟩
def lw_privs_3 : List (MethodName × Nat) := [(⟨"FareNumbers$Numbering", "spoilt", "(I)J"⟩, 15), (⟨"FareNumbers$Numbering", "goOnWith", "(LFareNumbers$Net;IIII)Z"⟩, 15), (⟨"FareNumbers$Numbering", "note", "(I)Z"⟩, 15), (⟨"FareNumbers$Places", "goOn", "(II)Z"⟩, 8), (⟨"FareNumbers$Places", "fitting", "(II)J"⟩, 8), (⟨"FareNumbers$Places", "goOnWith", "(IIII)Z"⟩, 8), (⟨"FareNumbers$Weights", "begin", "(LFareNumbers$Net;I)V"⟩, 11), (⟨"FareNumbers$Weights", "goAlike", "(LFareNumbers$Net;I)V"⟩, 11), (⟨"FareNumbers$Weights", "tightest", "(LFareNumbers$Net;I)I"⟩, 11), (⟨"FareNumbers$Weights", "keepLowest", "(LFareNumbers$Net;)V"⟩, 11), (⟨"FareNumbers$Weights", "isLower", "(LFareNumbers$Net;)Z"⟩, 11), (⟨"FareNumbers$Weights", "goAlikeWith", "(LFareNumbers$Net;III)V"⟩, 11), (⟨"FareNumbers$Weights", "put", "(IIIII)V"⟩, 11), (⟨"FareNumbers$Weights", "canBe", "(LFareNumbers$Net;I)Z"⟩, 11), (⟨"FareNumbers$Weights", "takeOff", "(IIII)V"⟩, 11), (⟨"FareNumbers$Weights", "hasLone", "(LFareNumbers$Net;)Z"⟩, 11)]
theorem lw_r3 : ∀ q ∈ lw_privs_3, lw_okq q := List.forall_mem_cons.mpr ⟨lw_p32, List.forall_mem_cons.mpr ⟨lw_p33, List.forall_mem_cons.mpr ⟨lw_p34, List.forall_mem_cons.mpr ⟨lw_p35, List.forall_mem_cons.mpr ⟨lw_p36, List.forall_mem_cons.mpr ⟨lw_p37, List.forall_mem_cons.mpr ⟨lw_p38, List.forall_mem_cons.mpr ⟨lw_p39, List.forall_mem_cons.mpr ⟨lw_p40, List.forall_mem_cons.mpr ⟨lw_p41, List.forall_mem_cons.mpr ⟨lw_p42, List.forall_mem_cons.mpr ⟨lw_p43, List.forall_mem_cons.mpr ⟨lw_p44, List.forall_mem_cons.mpr ⟨lw_p45, List.forall_mem_cons.mpr ⟨lw_p46, List.forall_mem_cons.mpr ⟨lw_p47, fun _ h => absurd h List.not_mem_nil⟩⟩⟩⟩⟩⟩⟩⟩⟩⟩⟩⟩⟩⟩⟩⟩
theorem lw_p48 : lw_okq (⟨"FareNumbers$Weights", "goUnlike", "(LFareNumbers$Net;I)Z"⟩, 11) := ⟨⟨by decide +kernel, by decide +kernel⟩, List.mem_of_getElem? (i := 397) (by decide +kernel), List.mem_of_getElem? (i := 1094) (by decide +kernel), List.mem_of_getElem? (i := 1095) (by decide +kernel)⟩
theorem lw_p49 : lw_okq (⟨"FareNumbers$Weights", "goUnlikeWith", "(LFareNumbers$Net;II)Z"⟩, 11) := ⟨⟨by decide +kernel, by decide +kernel⟩, List.mem_of_getElem? (i := 397) (by decide +kernel), List.mem_of_getElem? (i := 1098) (by decide +kernel), List.mem_of_getElem? (i := 1099) (by decide +kernel)⟩
theorem lw_p50 : lw_okq (⟨"FareNumbers$Weights", "isMet", "(LFareNumbers$Net;I)Z"⟩, 11) := ⟨⟨by decide +kernel, by decide +kernel⟩, List.mem_of_getElem? (i := 397) (by decide +kernel), List.mem_of_getElem? (i := 1102) (by decide +kernel), List.mem_of_getElem? (i := 1103) (by decide +kernel)⟩
theorem lw_p51 : lw_okq (⟨"FareNumbers$Numbering", "mends", "(LFareNumbers$Net;[II)Z"⟩, 15) := ⟨⟨by decide +kernel, by decide +kernel⟩, List.mem_of_getElem? (i := 306) (by decide +kernel), List.mem_of_getElem? (i := 1134) (by decide +kernel), List.mem_of_getElem? (i := 1135) (by decide +kernel)⟩
theorem lw_p52 : lw_okq (⟨"FareNumbers$Walks", "swapsFrom", "(LFareNumbers$Net;II)I"⟩, 3) := ⟨⟨by decide +kernel, by decide +kernel⟩, List.mem_of_getElem? (i := 443) (by decide +kernel), List.mem_of_getElem? (i := 1147) (by decide +kernel), List.mem_of_getElem? (i := 1148) (by decide +kernel)⟩
theorem lw_p53 : lw_okq (⟨"FareNumbers$Walks", "keepsBeside", "(LFareNumbers$Net;II)Z"⟩, 3) := ⟨⟨by decide +kernel, by decide +kernel⟩, List.mem_of_getElem? (i := 443) (by decide +kernel), List.mem_of_getElem? (i := 1152) (by decide +kernel), List.mem_of_getElem? (i := 1153) (by decide +kernel)⟩
theorem lw_p54 : lw_okq (⟨"FareNumbers$Walks", "swapsWith", "(LFareNumbers$Net;III)I"⟩, 3) := ⟨⟨by decide +kernel, by decide +kernel⟩, List.mem_of_getElem? (i := 443) (by decide +kernel), List.mem_of_getElem? (i := 1156) (by decide +kernel), List.mem_of_getElem? (i := 1157) (by decide +kernel)⟩
theorem lw_p55 : lw_okq (⟨"FareNumbers$Net", "reached", "(II)I"⟩, 8) := ⟨⟨by decide +kernel, by decide +kernel⟩, List.mem_of_getElem? (i := 252) (by decide +kernel), List.mem_of_getElem? (i := 1168) (by decide +kernel), List.mem_of_getElem? (i := 1169) (by decide +kernel)⟩
theorem lw_p56 : lw_okq (⟨"FareNumbers$Walks", "reckon", "(LFareNumbers$Net;[II)V"⟩, 3) := ⟨⟨by decide +kernel, by decide +kernel⟩, List.mem_of_getElem? (i := 443) (by decide +kernel), List.mem_of_getElem? (i := 1200) (by decide +kernel), List.mem_of_getElem? (i := 1201) (by decide +kernel)⟩
theorem lw_p57 : lw_okq (⟨"FareNumbers$Walks", "nextHalt", "(LFareNumbers$Net;[II)I"⟩, 3) := ⟨⟨by decide +kernel, by decide +kernel⟩, List.mem_of_getElem? (i := 443) (by decide +kernel), List.mem_of_getElem? (i := 1217) (by decide +kernel), List.mem_of_getElem? (i := 1218) (by decide +kernel)⟩
theorem lw_p58 : lw_okq (⟨"FareNumbersModel", "isOn", "(II)Z"⟩, 38) := ⟨⟨by decide +kernel, by decide +kernel⟩, List.mem_of_getElem? (i := 1267) (by decide +kernel), List.mem_of_getElem? (i := 1403) (by decide +kernel), List.mem_of_getElem? (i := 1404) (by decide +kernel)⟩
theorem lw_p59 : lw_okq (⟨"FareNumbersModel", "one", "(I)I"⟩, 38) := ⟨⟨by decide +kernel, by decide +kernel⟩, List.mem_of_getElem? (i := 1267) (by decide +kernel), List.mem_of_getElem? (i := 1407) (by decide +kernel), List.mem_of_getElem? (i := 1408) (by decide +kernel)⟩
theorem lw_p60 : lw_okq (⟨"FareNumbersModel", "other", "(I)I"⟩, 38) := ⟨⟨by decide +kernel, by decide +kernel⟩, List.mem_of_getElem? (i := 1267) (by decide +kernel), List.mem_of_getElem? (i := 1411) (by decide +kernel), List.mem_of_getElem? (i := 1412) (by decide +kernel)⟩
theorem lw_p61 : lw_okq (⟨"FareNumbersModel", "four", "(I)V"⟩, 38) := ⟨⟨by decide +kernel, by decide +kernel⟩, List.mem_of_getElem? (i := 1267) (by decide +kernel), List.mem_of_getElem? (i := 1419) (by decide +kernel), List.mem_of_getElem? (i := 1420) (by decide +kernel)⟩
theorem lw_p62 : lw_okq (⟨"FareNumbersModel", "readText", "()I"⟩, 38) := ⟨⟨by decide +kernel, by decide +kernel⟩, List.mem_of_getElem? (i := 1267) (by decide +kernel), List.mem_of_getElem? (i := 1431) (by decide +kernel), List.mem_of_getElem? (i := 1432) (by decide +kernel)⟩
theorem lw_p63 : lw_okq (⟨"FareNumbersModel", "nextToken", "()V"⟩, 38) := ⟨⟨by decide +kernel, by decide +kernel⟩, List.mem_of_getElem? (i := 1267) (by decide +kernel), List.mem_of_getElem? (i := 1435) (by decide +kernel), List.mem_of_getElem? (i := 1436) (by decide +kernel)⟩
def lw_privs_4 : List (MethodName × Nat) := [(⟨"FareNumbers$Weights", "goUnlike", "(LFareNumbers$Net;I)Z"⟩, 11), (⟨"FareNumbers$Weights", "goUnlikeWith", "(LFareNumbers$Net;II)Z"⟩, 11), (⟨"FareNumbers$Weights", "isMet", "(LFareNumbers$Net;I)Z"⟩, 11), (⟨"FareNumbers$Numbering", "mends", "(LFareNumbers$Net;[II)Z"⟩, 15), (⟨"FareNumbers$Walks", "swapsFrom", "(LFareNumbers$Net;II)I"⟩, 3), (⟨"FareNumbers$Walks", "keepsBeside", "(LFareNumbers$Net;II)Z"⟩, 3), (⟨"FareNumbers$Walks", "swapsWith", "(LFareNumbers$Net;III)I"⟩, 3), (⟨"FareNumbers$Net", "reached", "(II)I"⟩, 8), (⟨"FareNumbers$Walks", "reckon", "(LFareNumbers$Net;[II)V"⟩, 3), (⟨"FareNumbers$Walks", "nextHalt", "(LFareNumbers$Net;[II)I"⟩, 3), (⟨"FareNumbersModel", "isOn", "(II)Z"⟩, 38), (⟨"FareNumbersModel", "one", "(I)I"⟩, 38), (⟨"FareNumbersModel", "other", "(I)I"⟩, 38), (⟨"FareNumbersModel", "four", "(I)V"⟩, 38), (⟨"FareNumbersModel", "readText", "()I"⟩, 38), (⟨"FareNumbersModel", "nextToken", "()V"⟩, 38)]
theorem lw_r4 : ∀ q ∈ lw_privs_4, lw_okq q := List.forall_mem_cons.mpr ⟨lw_p48, List.forall_mem_cons.mpr ⟨lw_p49, List.forall_mem_cons.mpr ⟨lw_p50, List.forall_mem_cons.mpr ⟨lw_p51, List.forall_mem_cons.mpr ⟨lw_p52, List.forall_mem_cons.mpr ⟨lw_p53, List.forall_mem_cons.mpr ⟨lw_p54, List.forall_mem_cons.mpr ⟨lw_p55, List.forall_mem_cons.mpr ⟨lw_p56, List.forall_mem_cons.mpr ⟨lw_p57, List.forall_mem_cons.mpr ⟨lw_p58, List.forall_mem_cons.mpr ⟨lw_p59, List.forall_mem_cons.mpr ⟨lw_p60, List.forall_mem_cons.mpr ⟨lw_p61, List.forall_mem_cons.mpr ⟨lw_p62, List.forall_mem_cons.mpr ⟨lw_p63, fun _ h => absurd h List.not_mem_nil⟩⟩⟩⟩⟩⟩⟩⟩⟩⟩⟩⟩⟩⟩⟩⟩
theorem lw_p64 : lw_okq (⟨"FareNumbersModel", "byteAt", "(I)I"⟩, 38) := ⟨⟨by decide +kernel, by decide +kernel⟩, List.mem_of_getElem? (i := 1267) (by decide +kernel), List.mem_of_getElem? (i := 1439) (by decide +kernel), List.mem_of_getElem? (i := 1440) (by decide +kernel)⟩
theorem lw_p65 : lw_okq (⟨"FareNumbersModel", "clause", "()I"⟩, 38) := ⟨⟨by decide +kernel, by decide +kernel⟩, List.mem_of_getElem? (i := 1267) (by decide +kernel), List.mem_of_getElem? (i := 1454) (by decide +kernel), List.mem_of_getElem? (i := 1455) (by decide +kernel)⟩
theorem lw_p66 : lw_okq (⟨"FareNumbersModel", "sortOf", "()I"⟩, 38) := ⟨⟨by decide +kernel, by decide +kernel⟩, List.mem_of_getElem? (i := 1267) (by decide +kernel), List.mem_of_getElem? (i := 1458) (by decide +kernel), List.mem_of_getElem? (i := 1459) (by decide +kernel)⟩
theorem lw_p67 : lw_okq (⟨"FareNumbersModel", "isWord", "(J)Z"⟩, 38) := ⟨⟨by decide +kernel, by decide +kernel⟩, List.mem_of_getElem? (i := 1267) (by decide +kernel), List.mem_of_getElem? (i := 1474) (by decide +kernel), List.mem_of_getElem? (i := 1475) (by decide +kernel)⟩
theorem lw_p68 : lw_okq (⟨"FareNumbersModel", "body", "(II)I"⟩, 38) := ⟨⟨by decide +kernel, by decide +kernel⟩, List.mem_of_getElem? (i := 1267) (by decide +kernel), List.mem_of_getElem? (i := 1481) (by decide +kernel), List.mem_of_getElem? (i := 1482) (by decide +kernel)⟩
theorem lw_p69 : lw_okq (⟨"FareNumbersModel", "pair", "(IIJ)I"⟩, 38) := ⟨⟨by decide +kernel, by decide +kernel⟩, List.mem_of_getElem? (i := 1267) (by decide +kernel), List.mem_of_getElem? (i := 1485) (by decide +kernel), List.mem_of_getElem? (i := 1486) (by decide +kernel)⟩
theorem lw_p70 : lw_okq (⟨"FareNumbersModel", "figure", "(III)I"⟩, 38) := ⟨⟨by decide +kernel, by decide +kernel⟩, List.mem_of_getElem? (i := 1267) (by decide +kernel), List.mem_of_getElem? (i := 1489) (by decide +kernel), List.mem_of_getElem? (i := 1490) (by decide +kernel)⟩
theorem lw_p71 : lw_okq (⟨"FareNumbersModel", "lawClause", "(I)I"⟩, 38) := ⟨⟨by decide +kernel, by decide +kernel⟩, List.mem_of_getElem? (i := 1267) (by decide +kernel), List.mem_of_getElem? (i := 1493) (by decide +kernel), List.mem_of_getElem? (i := 1494) (by decide +kernel)⟩
theorem lw_p72 : lw_okq (⟨"FareNumbersModel", "summed", "()I"⟩, 38) := ⟨⟨by decide +kernel, by decide +kernel⟩, List.mem_of_getElem? (i := 1267) (by decide +kernel), List.mem_of_getElem? (i := 1497) (by decide +kernel), List.mem_of_getElem? (i := 1498) (by decide +kernel)⟩
theorem lw_p73 : lw_okq (⟨"FareNumbersModel", "behindOne", "()Z"⟩, 38) := ⟨⟨by decide +kernel, by decide +kernel⟩, List.mem_of_getElem? (i := 1267) (by decide +kernel), List.mem_of_getElem? (i := 1501) (by decide +kernel), List.mem_of_getElem? (i := 1502) (by decide +kernel)⟩
theorem lw_p74 : lw_okq (⟨"FareNumbersModel", "betweenOf", "()I"⟩, 38) := ⟨⟨by decide +kernel, by decide +kernel⟩, List.mem_of_getElem? (i := 1267) (by decide +kernel), List.mem_of_getElem? (i := 1505) (by decide +kernel), List.mem_of_getElem? (i := 1506) (by decide +kernel)⟩
theorem lw_p75 : lw_okq (⟨"FareNumbersModel", "openNow", "()I"⟩, 38) := ⟨⟨by decide +kernel, by decide +kernel⟩, List.mem_of_getElem? (i := 1267) (by decide +kernel), List.mem_of_getElem? (i := 1509) (by decide +kernel), List.mem_of_getElem? (i := 1510) (by decide +kernel)⟩
theorem lw_p76 : lw_okq (⟨"FareNumbersModel", "openAt", "()I"⟩, 38) := ⟨⟨by decide +kernel, by decide +kernel⟩, List.mem_of_getElem? (i := 1267) (by decide +kernel), List.mem_of_getElem? (i := 1513) (by decide +kernel), List.mem_of_getElem? (i := 1514) (by decide +kernel)⟩
theorem lw_p77 : lw_okq (⟨"FareNumbersModel", "isCompared", "()Z"⟩, 38) := ⟨⟨by decide +kernel, by decide +kernel⟩, List.mem_of_getElem? (i := 1267) (by decide +kernel), List.mem_of_getElem? (i := 1517) (by decide +kernel), List.mem_of_getElem? (i := 1518) (by decide +kernel)⟩
theorem lw_p78 : lw_okq (⟨"FareNumbersModel", "compareOf", "()I"⟩, 38) := ⟨⟨by decide +kernel, by decide +kernel⟩, List.mem_of_getElem? (i := 1267) (by decide +kernel), List.mem_of_getElem? (i := 1524) (by decide +kernel), List.mem_of_getElem? (i := 1525) (by decide +kernel)⟩
theorem lw_p79 : lw_okq (⟨"FareNumbersModel", "settle", "(I)V"⟩, 38) := ⟨⟨by decide +kernel, by decide +kernel⟩, List.mem_of_getElem? (i := 1267) (by decide +kernel), List.mem_of_getElem? (i := 1528) (by decide +kernel), List.mem_of_getElem? (i := 1529) (by decide +kernel)⟩
def lw_privs_5 : List (MethodName × Nat) := [(⟨"FareNumbersModel", "byteAt", "(I)I"⟩, 38), (⟨"FareNumbersModel", "clause", "()I"⟩, 38), (⟨"FareNumbersModel", "sortOf", "()I"⟩, 38), (⟨"FareNumbersModel", "isWord", "(J)Z"⟩, 38), (⟨"FareNumbersModel", "body", "(II)I"⟩, 38), (⟨"FareNumbersModel", "pair", "(IIJ)I"⟩, 38), (⟨"FareNumbersModel", "figure", "(III)I"⟩, 38), (⟨"FareNumbersModel", "lawClause", "(I)I"⟩, 38), (⟨"FareNumbersModel", "summed", "()I"⟩, 38), (⟨"FareNumbersModel", "behindOne", "()Z"⟩, 38), (⟨"FareNumbersModel", "betweenOf", "()I"⟩, 38), (⟨"FareNumbersModel", "openNow", "()I"⟩, 38), (⟨"FareNumbersModel", "openAt", "()I"⟩, 38), (⟨"FareNumbersModel", "isCompared", "()Z"⟩, 38), (⟨"FareNumbersModel", "compareOf", "()I"⟩, 38), (⟨"FareNumbersModel", "settle", "(I)V"⟩, 38)]
theorem lw_r5 : ∀ q ∈ lw_privs_5, lw_okq q := List.forall_mem_cons.mpr ⟨lw_p64, List.forall_mem_cons.mpr ⟨lw_p65, List.forall_mem_cons.mpr ⟨lw_p66, List.forall_mem_cons.mpr ⟨lw_p67, List.forall_mem_cons.mpr ⟨lw_p68, List.forall_mem_cons.mpr ⟨lw_p69, List.forall_mem_cons.mpr ⟨lw_p70, List.forall_mem_cons.mpr ⟨lw_p71, List.forall_mem_cons.mpr ⟨lw_p72, List.forall_mem_cons.mpr ⟨lw_p73, List.forall_mem_cons.mpr ⟨lw_p74, List.forall_mem_cons.mpr ⟨lw_p75, List.forall_mem_cons.mpr ⟨lw_p76, List.forall_mem_cons.mpr ⟨lw_p77, List.forall_mem_cons.mpr ⟨lw_p78, List.forall_mem_cons.mpr ⟨lw_p79, fun _ h => absurd h List.not_mem_nil⟩⟩⟩⟩⟩⟩⟩⟩⟩⟩⟩⟩⟩⟩⟩⟩
theorem lw_p80 : lw_okq (⟨"FareNumbersModel", "emit", "(II)V"⟩, 38) := ⟨⟨by decide +kernel, by decide +kernel⟩, List.mem_of_getElem? (i := 1267) (by decide +kernel), List.mem_of_getElem? (i := 1532) (by decide +kernel), List.mem_of_getElem? (i := 1533) (by decide +kernel)⟩
theorem lw_p81 : lw_okq (⟨"FareNumbersModel", "partOf", "(I)I"⟩, 38) := ⟨⟨by decide +kernel, by decide +kernel⟩, List.mem_of_getElem? (i := 1267) (by decide +kernel), List.mem_of_getElem? (i := 1536) (by decide +kernel), List.mem_of_getElem? (i := 1537) (by decide +kernel)⟩
theorem lw_p82 : lw_okq (⟨"FareNumbersModel", "beginOne", "()I"⟩, 38) := ⟨⟨by decide +kernel, by decide +kernel⟩, List.mem_of_getElem? (i := 1267) (by decide +kernel), List.mem_of_getElem? (i := 1540) (by decide +kernel), List.mem_of_getElem? (i := 1541) (by decide +kernel)⟩
theorem lw_p83 : lw_okq (⟨"FareNumbersModel", "nameOf", "()I"⟩, 38) := ⟨⟨by decide +kernel, by decide +kernel⟩, List.mem_of_getElem? (i := 1267) (by decide +kernel), List.mem_of_getElem? (i := 1544) (by decide +kernel), List.mem_of_getElem? (i := 1545) (by decide +kernel)⟩
theorem lw_p84 : lw_okq (⟨"FareNumbersModel", "isOf", "(I)Z"⟩, 38) := ⟨⟨by decide +kernel, by decide +kernel⟩, List.mem_of_getElem? (i := 1267) (by decide +kernel), List.mem_of_getElem? (i := 1551) (by decide +kernel), List.mem_of_getElem? (i := 1552) (by decide +kernel)⟩
theorem lw_p85 : lw_okq (⟨"FareNumbersModel", "opened", "(I)I"⟩, 38) := ⟨⟨by decide +kernel, by decide +kernel⟩, List.mem_of_getElem? (i := 1267) (by decide +kernel), List.mem_of_getElem? (i := 1555) (by decide +kernel), List.mem_of_getElem? (i := 1556) (by decide +kernel)⟩
theorem lw_p86 : lw_okq (⟨"FareNumbersModel", "isAskAhead", "()Z"⟩, 38) := ⟨⟨by decide +kernel, by decide +kernel⟩, List.mem_of_getElem? (i := 1267) (by decide +kernel), List.mem_of_getElem? (i := 1559) (by decide +kernel), List.mem_of_getElem? (i := 1560) (by decide +kernel)⟩
theorem lw_p87 : lw_okq (⟨"FareNumbersModel", "canPlate", "(II)Z"⟩, 38) := ⟨⟨by decide +kernel, by decide +kernel⟩, List.mem_of_getElem? (i := 1267) (by decide +kernel), List.mem_of_getElem? (i := 1579) (by decide +kernel), List.mem_of_getElem? (i := 1580) (by decide +kernel)⟩
theorem lw_p88 : lw_okq (⟨"FareNumbersModel", "costsOf", "(II)I"⟩, 38) := ⟨⟨by decide +kernel, by decide +kernel⟩, List.mem_of_getElem? (i := 1267) (by decide +kernel), List.mem_of_getElem? (i := 1583) (by decide +kernel), List.mem_of_getElem? (i := 1584) (by decide +kernel)⟩
theorem lw_p89 : lw_okq (⟨"FareNumbersModel", "name", "(I)V"⟩, 38) := ⟨⟨by decide +kernel, by decide +kernel⟩, List.mem_of_getElem? (i := 1267) (by decide +kernel), List.mem_of_getElem? (i := 1587) (by decide +kernel), List.mem_of_getElem? (i := 1588) (by decide +kernel)⟩
theorem lw_p90 : lw_okq (⟨"FareNumbersModel", "openMany", "()I"⟩, 38) := ⟨⟨by decide +kernel, by decide +kernel⟩, List.mem_of_getElem? (i := 1267) (by decide +kernel), List.mem_of_getElem? (i := 1591) (by decide +kernel), List.mem_of_getElem? (i := 1592) (by decide +kernel)⟩
theorem lw_p91 : lw_okq (⟨"FareNumbersModel", "besideOf", "(I)I"⟩, 38) := ⟨⟨by decide +kernel, by decide +kernel⟩, List.mem_of_getElem? (i := 1267) (by decide +kernel), List.mem_of_getElem? (i := 1598) (by decide +kernel), List.mem_of_getElem? (i := 1599) (by decide +kernel)⟩
theorem lw_p92 : lw_okq (⟨"FareNumbersModel", "isOpen", "(I)Z"⟩, 38) := ⟨⟨by decide +kernel, by decide +kernel⟩, List.mem_of_getElem? (i := 1267) (by decide +kernel), List.mem_of_getElem? (i := 1602) (by decide +kernel), List.mem_of_getElem? (i := 1603) (by decide +kernel)⟩
theorem lw_p93 : lw_okq (⟨"FareNumbersModel", "says", "(IIII)I"⟩, 38) := ⟨⟨by decide +kernel, by decide +kernel⟩, List.mem_of_getElem? (i := 1267) (by decide +kernel), List.mem_of_getElem? (i := 1606) (by decide +kernel), List.mem_of_getElem? (i := 1607) (by decide +kernel)⟩
theorem lw_p94 : lw_okq (⟨"FareNumbersModel", "summedUp", "(II)J"⟩, 38) := ⟨⟨by decide +kernel, by decide +kernel⟩, List.mem_of_getElem? (i := 1267) (by decide +kernel), List.mem_of_getElem? (i := 1610) (by decide +kernel), List.mem_of_getElem? (i := 1611) (by decide +kernel)⟩
theorem lw_p95 : lw_okq (⟨"FareNumbersModel", "ofOne", "(IJ)J"⟩, 38) := ⟨⟨by decide +kernel, by decide +kernel⟩, List.mem_of_getElem? (i := 1267) (by decide +kernel), List.mem_of_getElem? (i := 1614) (by decide +kernel), List.mem_of_getElem? (i := 1615) (by decide +kernel)⟩
def lw_privs_6 : List (MethodName × Nat) := [(⟨"FareNumbersModel", "emit", "(II)V"⟩, 38), (⟨"FareNumbersModel", "partOf", "(I)I"⟩, 38), (⟨"FareNumbersModel", "beginOne", "()I"⟩, 38), (⟨"FareNumbersModel", "nameOf", "()I"⟩, 38), (⟨"FareNumbersModel", "isOf", "(I)Z"⟩, 38), (⟨"FareNumbersModel", "opened", "(I)I"⟩, 38), (⟨"FareNumbersModel", "isAskAhead", "()Z"⟩, 38), (⟨"FareNumbersModel", "canPlate", "(II)Z"⟩, 38), (⟨"FareNumbersModel", "costsOf", "(II)I"⟩, 38), (⟨"FareNumbersModel", "name", "(I)V"⟩, 38), (⟨"FareNumbersModel", "openMany", "()I"⟩, 38), (⟨"FareNumbersModel", "besideOf", "(I)I"⟩, 38), (⟨"FareNumbersModel", "isOpen", "(I)Z"⟩, 38), (⟨"FareNumbersModel", "says", "(IIII)I"⟩, 38), (⟨"FareNumbersModel", "summedUp", "(II)J"⟩, 38), (⟨"FareNumbersModel", "ofOne", "(IJ)J"⟩, 38)]
theorem lw_r6 : ∀ q ∈ lw_privs_6, lw_okq q := List.forall_mem_cons.mpr ⟨lw_p80, List.forall_mem_cons.mpr ⟨lw_p81, List.forall_mem_cons.mpr ⟨lw_p82, List.forall_mem_cons.mpr ⟨lw_p83, List.forall_mem_cons.mpr ⟨lw_p84, List.forall_mem_cons.mpr ⟨lw_p85, List.forall_mem_cons.mpr ⟨lw_p86, List.forall_mem_cons.mpr ⟨lw_p87, List.forall_mem_cons.mpr ⟨lw_p88, List.forall_mem_cons.mpr ⟨lw_p89, List.forall_mem_cons.mpr ⟨lw_p90, List.forall_mem_cons.mpr ⟨lw_p91, List.forall_mem_cons.mpr ⟨lw_p92, List.forall_mem_cons.mpr ⟨lw_p93, List.forall_mem_cons.mpr ⟨lw_p94, List.forall_mem_cons.mpr ⟨lw_p95, fun _ h => absurd h List.not_mem_nil⟩⟩⟩⟩⟩⟩⟩⟩⟩⟩⟩⟩⟩⟩⟩⟩
theorem lw_p96 : lw_okq (⟨"FareNumbersModel", "fareOf", "(I)I"⟩, 38) := ⟨⟨by decide +kernel, by decide +kernel⟩, List.mem_of_getElem? (i := 1267) (by decide +kernel), List.mem_of_getElem? (i := 1619) (by decide +kernel), List.mem_of_getElem? (i := 1620) (by decide +kernel)⟩
theorem lw_p97 : lw_okq (⟨"FareNumbersModel", "keep", "()V"⟩, 38) := ⟨⟨by decide +kernel, by decide +kernel⟩, List.mem_of_getElem? (i := 1267) (by decide +kernel), List.mem_of_getElem? (i := 1643) (by decide +kernel), List.mem_of_getElem? (i := 1644) (by decide +kernel)⟩
theorem lw_p98 : lw_okq (⟨"FareNumbersModel", "plateNow", "(II)I"⟩, 38) := ⟨⟨by decide +kernel, by decide +kernel⟩, List.mem_of_getElem? (i := 1267) (by decide +kernel), List.mem_of_getElem? (i := 1647) (by decide +kernel), List.mem_of_getElem? (i := 1648) (by decide +kernel)⟩
theorem lw_p99 : lw_okq (⟨"FareNumbersModel", "write", "(III)V"⟩, 38) := ⟨⟨by decide +kernel, by decide +kernel⟩, List.mem_of_getElem? (i := 1267) (by decide +kernel), List.mem_of_getElem? (i := 1651) (by decide +kernel), List.mem_of_getElem? (i := 1652) (by decide +kernel)⟩
theorem lw_p100 : lw_okq (⟨"FareNumbersModel", "isLine", "(I)Z"⟩, 38) := ⟨⟨by decide +kernel, by decide +kernel⟩, List.mem_of_getElem? (i := 1267) (by decide +kernel), List.mem_of_getElem? (i := 1659) (by decide +kernel), List.mem_of_getElem? (i := 1660) (by decide +kernel)⟩
theorem lw_p101 : lw_okq (⟨"FareNumbersModel", "turnNow", "(I)V"⟩, 38) := ⟨⟨by decide +kernel, by decide +kernel⟩, List.mem_of_getElem? (i := 1267) (by decide +kernel), List.mem_of_getElem? (i := 1663) (by decide +kernel), List.mem_of_getElem? (i := 1664) (by decide +kernel)⟩
theorem lw_p102 : lw_okq (⟨"FareNumbersModel", "canGrant", "(I)Z"⟩, 38) := ⟨⟨by decide +kernel, by decide +kernel⟩, List.mem_of_getElem? (i := 1267) (by decide +kernel), List.mem_of_getElem? (i := 1671) (by decide +kernel), List.mem_of_getElem? (i := 1672) (by decide +kernel)⟩
theorem lw_p103 : lw_okq (⟨"FareNumbersModel", "arePassed", "(I)Z"⟩, 38) := ⟨⟨by decide +kernel, by decide +kernel⟩, List.mem_of_getElem? (i := 1267) (by decide +kernel), List.mem_of_getElem? (i := 1679) (by decide +kernel), List.mem_of_getElem? (i := 1680) (by decide +kernel)⟩
theorem lw_p104 : lw_okq (⟨"FareNumbersModel", "pass", "()V"⟩, 38) := ⟨⟨by decide +kernel, by decide +kernel⟩, List.mem_of_getElem? (i := 1267) (by decide +kernel), List.mem_of_getElem? (i := 1683) (by decide +kernel), List.mem_of_getElem? (i := 1684) (by decide +kernel)⟩
theorem lw_p105 : lw_okq (⟨"FareNumbersModel", "drawnBy", "(I)I"⟩, 38) := ⟨⟨by decide +kernel, by decide +kernel⟩, List.mem_of_getElem? (i := 1267) (by decide +kernel), List.mem_of_getElem? (i := 1687) (by decide +kernel), List.mem_of_getElem? (i := 1688) (by decide +kernel)⟩
theorem lw_p106 : lw_okq (⟨"FareNumbersModel", "anew", "()V"⟩, 38) := ⟨⟨by decide +kernel, by decide +kernel⟩, List.mem_of_getElem? (i := 1267) (by decide +kernel), List.mem_of_getElem? (i := 1691) (by decide +kernel), List.mem_of_getElem? (i := 1692) (by decide +kernel)⟩
theorem lw_p107 : lw_okq (⟨"FareNumbersModel", "ridesOf", "(II)I"⟩, 38) := ⟨⟨by decide +kernel, by decide +kernel⟩, List.mem_of_getElem? (i := 1267) (by decide +kernel), List.mem_of_getElem? (i := 1698) (by decide +kernel), List.mem_of_getElem? (i := 1699) (by decide +kernel)⟩
theorem lw_p108 : lw_okq (⟨"FareNumbersModel", "isPlayed", "(I)Z"⟩, 38) := ⟨⟨by decide +kernel, by decide +kernel⟩, List.mem_of_getElem? (i := 1267) (by decide +kernel), List.mem_of_getElem? (i := 1706) (by decide +kernel), List.mem_of_getElem? (i := 1707) (by decide +kernel)⟩
theorem lw_p109 : lw_okq (⟨"FareNumbersModel", "happens", "(I)V"⟩, 38) := ⟨⟨by decide +kernel, by decide +kernel⟩, List.mem_of_getElem? (i := 1267) (by decide +kernel), List.mem_of_getElem? (i := 1718) (by decide +kernel), List.mem_of_getElem? (i := 1719) (by decide +kernel)⟩
theorem lw_p110 : lw_okq (⟨"FareNumbersModel", "lineOf", "(II)I"⟩, 38) := ⟨⟨by decide +kernel, by decide +kernel⟩, List.mem_of_getElem? (i := 1267) (by decide +kernel), List.mem_of_getElem? (i := 1742) (by decide +kernel), List.mem_of_getElem? (i := 1743) (by decide +kernel)⟩
theorem lw_p111 : lw_okq (⟨"FareNumbersModel", "isFair", "()Z"⟩, 38) := ⟨⟨by decide +kernel, by decide +kernel⟩, List.mem_of_getElem? (i := 1267) (by decide +kernel), List.mem_of_getElem? (i := 1766) (by decide +kernel), List.mem_of_getElem? (i := 1767) (by decide +kernel)⟩
def lw_privs_7 : List (MethodName × Nat) := [(⟨"FareNumbersModel", "fareOf", "(I)I"⟩, 38), (⟨"FareNumbersModel", "keep", "()V"⟩, 38), (⟨"FareNumbersModel", "plateNow", "(II)I"⟩, 38), (⟨"FareNumbersModel", "write", "(III)V"⟩, 38), (⟨"FareNumbersModel", "isLine", "(I)Z"⟩, 38), (⟨"FareNumbersModel", "turnNow", "(I)V"⟩, 38), (⟨"FareNumbersModel", "canGrant", "(I)Z"⟩, 38), (⟨"FareNumbersModel", "arePassed", "(I)Z"⟩, 38), (⟨"FareNumbersModel", "pass", "()V"⟩, 38), (⟨"FareNumbersModel", "drawnBy", "(I)I"⟩, 38), (⟨"FareNumbersModel", "anew", "()V"⟩, 38), (⟨"FareNumbersModel", "ridesOf", "(II)I"⟩, 38), (⟨"FareNumbersModel", "isPlayed", "(I)Z"⟩, 38), (⟨"FareNumbersModel", "happens", "(I)V"⟩, 38), (⟨"FareNumbersModel", "lineOf", "(II)I"⟩, 38), (⟨"FareNumbersModel", "isFair", "()Z"⟩, 38)]
theorem lw_r7 : ∀ q ∈ lw_privs_7, lw_okq q := List.forall_mem_cons.mpr ⟨lw_p96, List.forall_mem_cons.mpr ⟨lw_p97, List.forall_mem_cons.mpr ⟨lw_p98, List.forall_mem_cons.mpr ⟨lw_p99, List.forall_mem_cons.mpr ⟨lw_p100, List.forall_mem_cons.mpr ⟨lw_p101, List.forall_mem_cons.mpr ⟨lw_p102, List.forall_mem_cons.mpr ⟨lw_p103, List.forall_mem_cons.mpr ⟨lw_p104, List.forall_mem_cons.mpr ⟨lw_p105, List.forall_mem_cons.mpr ⟨lw_p106, List.forall_mem_cons.mpr ⟨lw_p107, List.forall_mem_cons.mpr ⟨lw_p108, List.forall_mem_cons.mpr ⟨lw_p109, List.forall_mem_cons.mpr ⟨lw_p110, List.forall_mem_cons.mpr ⟨lw_p111, fun _ h => absurd h List.not_mem_nil⟩⟩⟩⟩⟩⟩⟩⟩⟩⟩⟩⟩⟩⟩⟩⟩
theorem lw_p112 : lw_okq (⟨"FareNumbersModel", "twins", "()I"⟩, 38) := ⟨⟨by decide +kernel, by decide +kernel⟩, List.mem_of_getElem? (i := 1267) (by decide +kernel), List.mem_of_getElem? (i := 1770) (by decide +kernel), List.mem_of_getElem? (i := 1771) (by decide +kernel)⟩
theorem lw_p113 : lw_okq (⟨"FareNumbersModel", "labelled", "(IIZ)J"⟩, 38) := ⟨⟨by decide +kernel, by decide +kernel⟩, List.mem_of_getElem? (i := 1267) (by decide +kernel), List.mem_of_getElem? (i := 1786) (by decide +kernel), List.mem_of_getElem? (i := 1787) (by decide +kernel)⟩
theorem lw_p114 : lw_okq (⟨"FareNumbersModel", "layWho", "()V"⟩, 38) := ⟨⟨by decide +kernel, by decide +kernel⟩, List.mem_of_getElem? (i := 1267) (by decide +kernel), List.mem_of_getElem? (i := 1790) (by decide +kernel), List.mem_of_getElem? (i := 1791) (by decide +kernel)⟩
theorem lw_p115 : lw_okq (⟨"FareNumbersModel", "canLabel", "(II)Z"⟩, 38) := ⟨⟨by decide +kernel, by decide +kernel⟩, List.mem_of_getElem? (i := 1267) (by decide +kernel), List.mem_of_getElem? (i := 1794) (by decide +kernel), List.mem_of_getElem? (i := 1795) (by decide +kernel)⟩
theorem lw_p116 : lw_okq (⟨"FareNumbersModel", "doFit", "(III)Z"⟩, 38) := ⟨⟨by decide +kernel, by decide +kernel⟩, List.mem_of_getElem? (i := 1267) (by decide +kernel), List.mem_of_getElem? (i := 1798) (by decide +kernel), List.mem_of_getElem? (i := 1799) (by decide +kernel)⟩
theorem lw_p117 : lw_okq (⟨"FareNumbersModel", "areBeside", "(II)Z"⟩, 38) := ⟨⟨by decide +kernel, by decide +kernel⟩, List.mem_of_getElem? (i := 1267) (by decide +kernel), List.mem_of_getElem? (i := 1802) (by decide +kernel), List.mem_of_getElem? (i := 1803) (by decide +kernel)⟩
theorem lw_p118 : lw_okq (⟨"FareNumbersModel", "areOverTwo", "(II)Z"⟩, 38) := ⟨⟨by decide +kernel, by decide +kernel⟩, List.mem_of_getElem? (i := 1267) (by decide +kernel), List.mem_of_getElem? (i := 1806) (by decide +kernel), List.mem_of_getElem? (i := 1807) (by decide +kernel)⟩
theorem lw_p119 : lw_okq (⟨"FareNumbersModel", "areUnlike", "(I)Z"⟩, 38) := ⟨⟨by decide +kernel, by decide +kernel⟩, List.mem_of_getElem? (i := 1267) (by decide +kernel), List.mem_of_getElem? (i := 1810) (by decide +kernel), List.mem_of_getElem? (i := 1811) (by decide +kernel)⟩
theorem lw_p120 : lw_okq (⟨"FareNumbersModel", "isLaid", "(II)Z"⟩, 38) := ⟨⟨by decide +kernel, by decide +kernel⟩, List.mem_of_getElem? (i := 1267) (by decide +kernel), List.mem_of_getElem? (i := 1814) (by decide +kernel), List.mem_of_getElem? (i := 1815) (by decide +kernel)⟩
theorem lw_p121 : lw_okq (⟨"FareNumbersModel", "isUsed", "(II)Z"⟩, 38) := ⟨⟨by decide +kernel, by decide +kernel⟩, List.mem_of_getElem? (i := 1267) (by decide +kernel), List.mem_of_getElem? (i := 1839) (by decide +kernel), List.mem_of_getElem? (i := 1840) (by decide +kernel)⟩
theorem lw_p122 : lw_okq (⟨"FareNumbersModel", "labelSum", "()I"⟩, 38) := ⟨⟨by decide +kernel, by decide +kernel⟩, List.mem_of_getElem? (i := 1267) (by decide +kernel), List.mem_of_getElem? (i := 1843) (by decide +kernel), List.mem_of_getElem? (i := 1844) (by decide +kernel)⟩
theorem lw_p123 : lw_okq (⟨"FareNumbersModel", "weighed", "(ZZ)J"⟩, 38) := ⟨⟨by decide +kernel, by decide +kernel⟩, List.mem_of_getElem? (i := 1267) (by decide +kernel), List.mem_of_getElem? (i := 1851) (by decide +kernel), List.mem_of_getElem? (i := 1852) (by decide +kernel)⟩
theorem lw_p124 : lw_okq (⟨"FareNumbersModel", "layOpened", "()V"⟩, 38) := ⟨⟨by decide +kernel, by decide +kernel⟩, List.mem_of_getElem? (i := 1267) (by decide +kernel), List.mem_of_getElem? (i := 1855) (by decide +kernel), List.mem_of_getElem? (i := 1856) (by decide +kernel)⟩
theorem lw_p125 : lw_okq (⟨"FareNumbersModel", "isWeighed", "(I)Z"⟩, 38) := ⟨⟨by decide +kernel, by decide +kernel⟩, List.mem_of_getElem? (i := 1267) (by decide +kernel), List.mem_of_getElem? (i := 1859) (by decide +kernel), List.mem_of_getElem? (i := 1860) (by decide +kernel)⟩
theorem lw_p126 : lw_okq (⟨"FareNumbersModel", "areSums", "(ZI)Z"⟩, 38) := ⟨⟨by decide +kernel, by decide +kernel⟩, List.mem_of_getElem? (i := 1267) (by decide +kernel), List.mem_of_getElem? (i := 1863) (by decide +kernel), List.mem_of_getElem? (i := 1864) (by decide +kernel)⟩
theorem lw_p127 : lw_okq (⟨"FareNumbersModel", "weightAt", "(I)I"⟩, 38) := ⟨⟨by decide +kernel, by decide +kernel⟩, List.mem_of_getElem? (i := 1267) (by decide +kernel), List.mem_of_getElem? (i := 1867) (by decide +kernel), List.mem_of_getElem? (i := 1868) (by decide +kernel)⟩
def lw_privs_8 : List (MethodName × Nat) := [(⟨"FareNumbersModel", "twins", "()I"⟩, 38), (⟨"FareNumbersModel", "labelled", "(IIZ)J"⟩, 38), (⟨"FareNumbersModel", "layWho", "()V"⟩, 38), (⟨"FareNumbersModel", "canLabel", "(II)Z"⟩, 38), (⟨"FareNumbersModel", "doFit", "(III)Z"⟩, 38), (⟨"FareNumbersModel", "areBeside", "(II)Z"⟩, 38), (⟨"FareNumbersModel", "areOverTwo", "(II)Z"⟩, 38), (⟨"FareNumbersModel", "areUnlike", "(I)Z"⟩, 38), (⟨"FareNumbersModel", "isLaid", "(II)Z"⟩, 38), (⟨"FareNumbersModel", "isUsed", "(II)Z"⟩, 38), (⟨"FareNumbersModel", "labelSum", "()I"⟩, 38), (⟨"FareNumbersModel", "weighed", "(ZZ)J"⟩, 38), (⟨"FareNumbersModel", "layOpened", "()V"⟩, 38), (⟨"FareNumbersModel", "isWeighed", "(I)Z"⟩, 38), (⟨"FareNumbersModel", "areSums", "(ZI)Z"⟩, 38), (⟨"FareNumbersModel", "weightAt", "(I)I"⟩, 38)]
theorem lw_r8 : ∀ q ∈ lw_privs_8, lw_okq q := List.forall_mem_cons.mpr ⟨lw_p112, List.forall_mem_cons.mpr ⟨lw_p113, List.forall_mem_cons.mpr ⟨lw_p114, List.forall_mem_cons.mpr ⟨lw_p115, List.forall_mem_cons.mpr ⟨lw_p116, List.forall_mem_cons.mpr ⟨lw_p117, List.forall_mem_cons.mpr ⟨lw_p118, List.forall_mem_cons.mpr ⟨lw_p119, List.forall_mem_cons.mpr ⟨lw_p120, List.forall_mem_cons.mpr ⟨lw_p121, List.forall_mem_cons.mpr ⟨lw_p122, List.forall_mem_cons.mpr ⟨lw_p123, List.forall_mem_cons.mpr ⟨lw_p124, List.forall_mem_cons.mpr ⟨lw_p125, List.forall_mem_cons.mpr ⟨lw_p126, List.forall_mem_cons.mpr ⟨lw_p127, fun _ h => absurd h List.not_mem_nil⟩⟩⟩⟩⟩⟩⟩⟩⟩⟩⟩⟩⟩⟩⟩⟩
theorem lw_p128 : lw_okq (⟨"FareNumbersModel", "isDone", "(II)Z"⟩, 38) := ⟨⟨by decide +kernel, by decide +kernel⟩, List.mem_of_getElem? (i := 1267) (by decide +kernel), List.mem_of_getElem? (i := 1871) (by decide +kernel), List.mem_of_getElem? (i := 1872) (by decide +kernel)⟩
theorem lw_p129 : lw_okq (⟨"FareNumbersModel", "isMended", "(I)Z"⟩, 38) := ⟨⟨by decide +kernel, by decide +kernel⟩, List.mem_of_getElem? (i := 1267) (by decide +kernel), List.mem_of_getElem? (i := 1887) (by decide +kernel), List.mem_of_getElem? (i := 1888) (by decide +kernel)⟩
theorem lw_p130 : lw_okq (⟨"FareNumbersModel", "isFairSoFar", "(II)Z"⟩, 38) := ⟨⟨by decide +kernel, by decide +kernel⟩, List.mem_of_getElem? (i := 1267) (by decide +kernel), List.mem_of_getElem? (i := 1891) (by decide +kernel), List.mem_of_getElem? (i := 1892) (by decide +kernel)⟩
theorem lw_p131 : lw_okq (⟨"FareNumbersModel", "isFareLaid", "(III)Z"⟩, 38) := ⟨⟨by decide +kernel, by decide +kernel⟩, List.mem_of_getElem? (i := 1267) (by decide +kernel), List.mem_of_getElem? (i := 1895) (by decide +kernel), List.mem_of_getElem? (i := 1896) (by decide +kernel)⟩
theorem lw_p132 : lw_okq (⟨"FareNumbersModel", "isNamed", "(I)Z"⟩, 38) := ⟨⟨by decide +kernel, by decide +kernel⟩, List.mem_of_getElem? (i := 1267) (by decide +kernel), List.mem_of_getElem? (i := 1903) (by decide +kernel), List.mem_of_getElem? (i := 1904) (by decide +kernel)⟩
theorem lw_p133 : lw_okq (⟨"FareNumbersModel", "partsBy", "(I)I"⟩, 38) := ⟨⟨by decide +kernel, by decide +kernel⟩, List.mem_of_getElem? (i := 1267) (by decide +kernel), List.mem_of_getElem? (i := 1911) (by decide +kernel), List.mem_of_getElem? (i := 1912) (by decide +kernel)⟩
theorem lw_p134 : lw_okq (⟨"FareNumbersModel", "comeBy", "(II)I"⟩, 38) := ⟨⟨by decide +kernel, by decide +kernel⟩, List.mem_of_getElem? (i := 1267) (by decide +kernel), List.mem_of_getElem? (i := 1915) (by decide +kernel), List.mem_of_getElem? (i := 1916) (by decide +kernel)⟩
theorem lw_p135 : lw_okq (⟨"FareNumbersModel", "markFirst", "(I)I"⟩, 38) := ⟨⟨by decide +kernel, by decide +kernel⟩, List.mem_of_getElem? (i := 1267) (by decide +kernel), List.mem_of_getElem? (i := 1930) (by decide +kernel), List.mem_of_getElem? (i := 1931) (by decide +kernel)⟩
theorem lw_p136 : lw_okq (⟨"FareNumbersModel", "markOf", "(I)I"⟩, 38) := ⟨⟨by decide +kernel, by decide +kernel⟩, List.mem_of_getElem? (i := 1267) (by decide +kernel), List.mem_of_getElem? (i := 1934) (by decide +kernel), List.mem_of_getElem? (i := 1935) (by decide +kernel)⟩
theorem lw_p137 : lw_okq (⟨"FareNumbersModel", "layRides", "(I)V"⟩, 38) := ⟨⟨by decide +kernel, by decide +kernel⟩, List.mem_of_getElem? (i := 1267) (by decide +kernel), List.mem_of_getElem? (i := 1946) (by decide +kernel), List.mem_of_getElem? (i := 1947) (by decide +kernel)⟩
theorem lw_p138 : lw_okq (⟨"FareNumbersModel", "isNext", "(II)Z"⟩, 38) := ⟨⟨by decide +kernel, by decide +kernel⟩, List.mem_of_getElem? (i := 1267) (by decide +kernel), List.mem_of_getElem? (i := 1954) (by decide +kernel), List.mem_of_getElem? (i := 1955) (by decide +kernel)⟩
def lw_privs_9 : List (MethodName × Nat) := [(⟨"FareNumbersModel", "isDone", "(II)Z"⟩, 38), (⟨"FareNumbersModel", "isMended", "(I)Z"⟩, 38), (⟨"FareNumbersModel", "isFairSoFar", "(II)Z"⟩, 38), (⟨"FareNumbersModel", "isFareLaid", "(III)Z"⟩, 38), (⟨"FareNumbersModel", "isNamed", "(I)Z"⟩, 38), (⟨"FareNumbersModel", "partsBy", "(I)I"⟩, 38), (⟨"FareNumbersModel", "comeBy", "(II)I"⟩, 38), (⟨"FareNumbersModel", "markFirst", "(I)I"⟩, 38), (⟨"FareNumbersModel", "markOf", "(I)I"⟩, 38), (⟨"FareNumbersModel", "layRides", "(I)V"⟩, 38), (⟨"FareNumbersModel", "isNext", "(II)Z"⟩, 38)]
theorem lw_r9 : ∀ q ∈ lw_privs_9, lw_okq q := List.forall_mem_cons.mpr ⟨lw_p128, List.forall_mem_cons.mpr ⟨lw_p129, List.forall_mem_cons.mpr ⟨lw_p130, List.forall_mem_cons.mpr ⟨lw_p131, List.forall_mem_cons.mpr ⟨lw_p132, List.forall_mem_cons.mpr ⟨lw_p133, List.forall_mem_cons.mpr ⟨lw_p134, List.forall_mem_cons.mpr ⟨lw_p135, List.forall_mem_cons.mpr ⟨lw_p136, List.forall_mem_cons.mpr ⟨lw_p137, List.forall_mem_cons.mpr ⟨lw_p138, fun _ h => absurd h List.not_mem_nil⟩⟩⟩⟩⟩⟩⟩⟩⟩⟩⟩
def lw_privs : List (MethodName × Nat) := lw_privs_1 ++ (lw_privs_2 ++ (lw_privs_3 ++ (lw_privs_4 ++ (lw_privs_5 ++ (lw_privs_6 ++ (lw_privs_7 ++ (lw_privs_8 ++ (lw_privs_9))))))))
def lw_tbl : List Cond := k2_sels lw_privs ++ tables_1
theorem lw_privs_ok : ∀ q ∈ lw_privs, lw_okq q := by
  show ∀ q ∈ lw_privs_1 ++ (lw_privs_2 ++ (lw_privs_3 ++ (lw_privs_4 ++ (lw_privs_5 ++ (lw_privs_6 ++ (lw_privs_7 ++ (lw_privs_8 ++ (lw_privs_9)))))))), lw_okq q
  exact List.forall_mem_append.mpr ⟨lw_r1, List.forall_mem_append.mpr ⟨lw_r2, List.forall_mem_append.mpr ⟨lw_r3, List.forall_mem_append.mpr ⟨lw_r4, List.forall_mem_append.mpr ⟨lw_r5, List.forall_mem_append.mpr ⟨lw_r6, List.forall_mem_append.mpr ⟨lw_r7, List.forall_mem_append.mpr ⟨lw_r8, lw_r9⟩⟩⟩⟩⟩⟩⟩⟩
def RX0 : String := "FareNumbers$Net"
def TX0 : u_T := fun k => match k with
  | 0 => ("FareNumbers$Net", "one", "[I", true)
  | 1 => ("FareNumbers$Net", "other", "[I", true)
  | 2 => ("FareNumbers$Net", "beside", "[I", true)
  | 3 => ("FareNumbers$Net", "open", "I", false)
  | 4 => ("FareNumbers$Net", "count", "I", false)
  | 5 => ("FareNumbers$Net", "with", "I", false)
  | 6 => ("FareNumbers$Net", "stops", "I", false)
  | _ => ("FareNumbers$Net", "key", "J", false)
def tyX0 : Nat → FieldType := fun k => match k with
  | 0 => .array .int
  | 1 => .array .int
  | 2 => .array .int
  | 3 => .int
  | 4 => .int
  | 5 => .int
  | 6 => .int
  | _ => .long
theorem nmX0 : ∀ a, a < 8 → ∀ b, b < 8 → a ≠ b → (TX0 a).2.1 ≠ (TX0 b).2.1 := by decide +kernel
theorem tyX0_ok : ∀ k, k < 8 → parseFieldDescriptor (TX0 k).2.2.1 = some (tyX0 k) := by decide +kernel
abbrev cX0_init : ByteArray := prog_2_method_1_code
def yX0_init : MethodName := ⟨RX0, "<init>", "()V"⟩
abbrev cX0_look : ByteArray := prog_2_method_2_code
def yX0_look : MethodName := ⟨RX0, "look", "(LFareNumbers$World;)V"⟩
abbrev cX0_isOpen : ByteArray := prog_2_method_3_code
def yX0_isOpen : MethodName := ⟨RX0, "isOpen", "(I)Z"⟩
abbrev cX0_isBeside : ByteArray := prog_2_method_4_code
def yX0_isBeside : MethodName := ⟨RX0, "isBeside", "(I)Z"⟩
abbrev cX0_ofSearch : ByteArray := prog_2_method_5_code
def yX0_ofSearch : MethodName := ⟨RX0, "ofSearch", "([II)I"⟩
abbrev cX0_reached : ByteArray := prog_2_method_6_code
def yX0_reached : MethodName := ⟨RX0, "reached", "(II)I"⟩
abbrev cX0_countParts : ByteArray := prog_2_method_7_code
def yX0_countParts : MethodName := ⟨RX0, "countParts", "()I"⟩
abbrev cX0_cutBits : ByteArray := prog_2_method_8_code
def yX0_cutBits : MethodName := ⟨RX0, "cutBits", "()I"⟩
def RX1 : String := "FareNumbers$Numbering"
def TX1 : u_T := fun k => match k with
  | 0 => ("FareNumbers$Numbering", "row", "[I", true)
  | 1 => ("FareNumbers$Numbering", "greatest", "I", false)
  | 2 => ("FareNumbers$Numbering", "number", "[I", true)
  | 3 => ("FareNumbers$Numbering", "solvedFor", "J", false)
  | 4 => ("FareNumbers$Numbering", "countedFor", "J", false)
  | 5 => ("FareNumbers$Numbering", "ways", "J", false)
  | 6 => ("FareNumbers$Numbering", "share", "I", false)
  | 7 => ("FareNumbers$Numbering", "most", "I", false)
  | 8 => ("FareNumbers$Numbering", "unlike", "Z", false)
  | 9 => ("FareNumbers$Numbering", "inOrder", "Z", false)
  | 10 => ("FareNumbers$Numbering", "counting", "Z", false)
  | 11 => ("FareNumbers$Numbering", "given", "J", false)
  | 12 => ("FareNumbers$Numbering", "fares", "J", false)
  | 13 => ("FareNumbers$Numbering", "mirror", "J", false)
  | _ => ("FareNumbers$Numbering", "above", "J", false)
def tyX1 : Nat → FieldType := fun k => match k with
  | 0 => .array .int
  | 1 => .int
  | 2 => .array .int
  | 3 => .long
  | 4 => .long
  | 5 => .long
  | 6 => .int
  | 7 => .int
  | 8 => .boolean
  | 9 => .boolean
  | 10 => .boolean
  | 11 => .long
  | 12 => .long
  | 13 => .long
  | _ => .long
theorem nmX1 : ∀ a, a < 15 → ∀ b, b < 15 → a ≠ b → (TX1 a).2.1 ≠ (TX1 b).2.1 := by decide +kernel
theorem tyX1_ok : ∀ k, k < 15 → parseFieldDescriptor (TX1 k).2.2.1 = some (tyX1 k) := by decide +kernel
abbrev cX1_init : ByteArray := prog_3_method_1_code
def yX1_init : MethodName := ⟨RX1, "<init>", "()V"⟩
abbrev cX1_solve : ByteArray := prog_3_method_2_code
def yX1_solve : MethodName := ⟨RX1, "solve", "(LFareNumbers$Net;)V"⟩
abbrev cX1_wholeWays : ByteArray := prog_3_method_3_code
def yX1_wholeWays : MethodName := ⟨RX1, "wholeWays", "(LFareNumbers$Net;)J"⟩
abbrev cX1_mending : ByteArray := prog_3_method_4_code
def yX1_mending : MethodName := ⟨RX1, "mending", "(LFareNumbers$Net;[I)I"⟩
abbrev cX1_mends : ByteArray := prog_3_method_5_code
def yX1_mends : MethodName := ⟨RX1, "mends", "(LFareNumbers$Net;[II)Z"⟩
abbrev cX1_begin : ByteArray := prog_3_method_6_code
def yX1_begin : MethodName := ⟨RX1, "begin", "(ZZI)V"⟩
abbrev cX1_clear : ByteArray := prog_3_method_7_code
def yX1_clear : MethodName := ⟨RX1, "clear", "()V"⟩
abbrev cX1_goOn : ByteArray := prog_3_method_8_code
def yX1_goOn : MethodName := ⟨RX1, "goOn", "(LFareNumbers$Net;II)Z"⟩
abbrev cX1_goOnWith : ByteArray := prog_3_method_9_code
def yX1_goOnWith : MethodName := ⟨RX1, "goOnWith", "(LFareNumbers$Net;IIII)Z"⟩
abbrev cX1_nextOf : ByteArray := prog_3_method_10_code
def yX1_nextOf : MethodName := ⟨RX1, "nextOf", "(LFareNumbers$Net;II)I"⟩
abbrev cX1_fitting : ByteArray := prog_3_method_11_code
def yX1_fitting : MethodName := ⟨RX1, "fitting", "(LFareNumbers$Net;II)J"⟩
abbrev cX1_spoilt : ByteArray := prog_3_method_12_code
def yX1_spoilt : MethodName := ⟨RX1, "spoilt", "(I)J"⟩
abbrev cX1_halfWay : ByteArray := prog_3_method_13_code
def yX1_halfWay : MethodName := ⟨RX1, "halfWay", "(II)J"⟩
abbrev cX1_note : ByteArray := prog_3_method_14_code
def yX1_note : MethodName := ⟨RX1, "note", "(I)Z"⟩
def RX2 : String := "FareNumbers$Places"
def TX2 : u_T := fun k => match k with
  | 0 => ("FareNumbers$Places", "place", "[I", true)
  | 1 => ("FareNumbers$Places", "least", "I", false)
  | 2 => ("FareNumbers$Places", "atLeast", "[[I", true)
  | 3 => ("FareNumbers$Places", "atMost", "[[I", true)
  | 4 => ("FareNumbers$Places", "solvedFor", "J", false)
  | 5 => ("FareNumbers$Places", "solvedNear", "I", false)
  | 6 => ("FareNumbers$Places", "solvedFar", "I", false)
  | _ => ("FareNumbers$Places", "useful", "J", false)
def tyX2 : Nat → FieldType := fun k => match k with
  | 0 => .array .int
  | 1 => .int
  | 2 => .array (.array .int)
  | 3 => .array (.array .int)
  | 4 => .long
  | 5 => .int
  | 6 => .int
  | _ => .long
theorem nmX2 : ∀ a, a < 8 → ∀ b, b < 8 → a ≠ b → (TX2 a).2.1 ≠ (TX2 b).2.1 := by decide +kernel
theorem tyX2_ok : ∀ k, k < 8 → parseFieldDescriptor (TX2 k).2.2.1 = some (tyX2 k) := by decide +kernel
abbrev cX2_init : ByteArray := prog_4_method_1_code
def yX2_init : MethodName := ⟨RX2, "<init>", "()V"⟩
abbrev cX2_space : ByteArray := prog_4_method_2_code
def yX2_space : MethodName := ⟨RX2, "space", "(LFareNumbers$Net;II)V"⟩
abbrev cX2_overTwo : ByteArray := prog_4_method_3_code
def yX2_overTwo : MethodName := ⟨RX2, "overTwo", "(LFareNumbers$Net;I)I"⟩
abbrev cX2_sums : ByteArray := prog_4_method_4_code
def yX2_sums : MethodName := ⟨RX2, "sums", "(II)J"⟩
abbrev cX2_bind : ByteArray := prog_4_method_5_code
def yX2_bind : MethodName := ⟨RX2, "bind", "(LFareNumbers$Net;)V"⟩
abbrev cX2_goOn : ByteArray := prog_4_method_6_code
def yX2_goOn : MethodName := ⟨RX2, "goOn", "(II)Z"⟩
abbrev cX2_goOnWith : ByteArray := prog_4_method_7_code
def yX2_goOnWith : MethodName := ⟨RX2, "goOnWith", "(IIII)Z"⟩
abbrev cX2_fitting : ByteArray := prog_4_method_8_code
def yX2_fitting : MethodName := ⟨RX2, "fitting", "(II)J"⟩
abbrev cX2_around : ByteArray := prog_4_method_9_code
def yX2_around : MethodName := ⟨RX2, "around", "(II)J"⟩
def RX3 : String := "FareNumbers$Reader"
def TX3 : u_T := fun k => match k with
  | 0 => ("FareNumbers$Reader", "bytes", "[B", true)
  | 1 => ("FareNumbers$Reader", "length", "I", false)
  | 2 => ("FareNumbers$Reader", "hasRead", "Z", false)
  | 3 => ("FareNumbers$Reader", "fault", "I", false)
  | 4 => ("FareNumbers$Reader", "place", "I", false)
  | 5 => ("FareNumbers$Reader", "into", "LFareNumbers$Text;", false)
  | 6 => ("FareNumbers$Reader", "law", "I", false)
  | 7 => ("FareNumbers$Reader", "token", "I", false)
  | 8 => ("FareNumbers$Reader", "value", "I", false)
  | 9 => ("FareNumbers$Reader", "from", "I", false)
  | _ => ("FareNumbers$Reader", "next", "I", false)
def tyX3 : Nat → FieldType := fun k => match k with
  | 0 => .array .byte
  | 1 => .int
  | 2 => .boolean
  | 3 => .int
  | 4 => .int
  | 5 => .object "FareNumbers$Text"
  | 6 => .int
  | 7 => .int
  | 8 => .int
  | 9 => .int
  | _ => .int
theorem nmX3 : ∀ a, a < 11 → ∀ b, b < 11 → a ≠ b → (TX3 a).2.1 ≠ (TX3 b).2.1 := by decide +kernel
theorem tyX3_ok : ∀ k, k < 11 → parseFieldDescriptor (TX3 k).2.2.1 = some (tyX3 k) := by decide +kernel
abbrev cX3_init : ByteArray := prog_5_method_1_code
def yX3_init : MethodName := ⟨RX3, "<init>", "()V"⟩
abbrev cX3_take : ByteArray := prog_5_method_2_code
def yX3_take : MethodName := ⟨RX3, "take", "(I)V"⟩
abbrev cX3_read : ByteArray := prog_5_method_3_code
def yX3_read : MethodName := ⟨RX3, "read", "(LFareNumbers$Text;)Z"⟩
abbrev cX3_wrong : ByteArray := prog_5_method_4_code
def yX3_wrong : MethodName := ⟨RX3, "wrong", "(I)Z"⟩
abbrev cX3_expect : ByteArray := prog_5_method_5_code
def yX3_expect : MethodName := ⟨RX3, "expect", "(I)Z"⟩
abbrev cX3_clause : ByteArray := prog_5_method_6_code
def yX3_clause : MethodName := ⟨RX3, "clause", "()Z"⟩
abbrev cX3_startsClause : ByteArray := prog_5_method_7_code
def yX3_startsClause : MethodName := ⟨RX3, "startsClause", "(I)Z"⟩
abbrev cX3_doClause : ByteArray := prog_5_method_8_code
def yX3_doClause : MethodName := ⟨RX3, "doClause", "(I)Z"⟩
abbrev cX3_number : ByteArray := prog_5_method_9_code
def yX3_number : MethodName := ⟨RX3, "number", "(I)Z"⟩
abbrev cX3_mostOf : ByteArray := prog_5_method_10_code
def yX3_mostOf : MethodName := ⟨RX3, "mostOf", "(I)I"⟩
abbrev cX3_sum : ByteArray := prog_5_method_11_code
def yX3_sum : MethodName := ⟨RX3, "sum", "(I)Z"⟩
abbrev cX3_product : ByteArray := prog_5_method_12_code
def yX3_product : MethodName := ⟨RX3, "product", "(I)Z"⟩
abbrev cX3_one : ByteArray := prog_5_method_13_code
def yX3_one : MethodName := ⟨RX3, "one", "(I)Z"⟩
abbrev cX3_isOfLaw : ByteArray := prog_5_method_14_code
def yX3_isOfLaw : MethodName := ⟨RX3, "isOfLaw", "(I)Z"⟩
abbrev cX3_nested : ByteArray := prog_5_method_15_code
def yX3_nested : MethodName := ⟨RX3, "nested", "(II)Z"⟩
abbrev cX3_choice : ByteArray := prog_5_method_16_code
def yX3_choice : MethodName := ⟨RX3, "choice", "(I)Z"⟩
abbrev cX3_either : ByteArray := prog_5_method_17_code
def yX3_either : MethodName := ⟨RX3, "either", "(I)Z"⟩
abbrev cX3_both : ByteArray := prog_5_method_18_code
def yX3_both : MethodName := ⟨RX3, "both", "(I)Z"⟩
abbrev cX3_ask : ByteArray := prog_5_method_19_code
def yX3_ask : MethodName := ⟨RX3, "ask", "(I)Z"⟩
abbrev cX3_denied : ByteArray := prog_5_method_20_code
def yX3_denied : MethodName := ⟨RX3, "denied", "(I)Z"⟩
abbrev cX3_advance : ByteArray := prog_5_method_21_code
def yX3_advance : MethodName := ⟨RX3, "advance", "()V"⟩
abbrev cX3_isLetter : ByteArray := prog_5_method_22_code
def yX3_isLetter : MethodName := ⟨RX3, "isLetter", "(I)Z"⟩
abbrev cX3_isDigit : ByteArray := prog_5_method_23_code
def yX3_isDigit : MethodName := ⟨RX3, "isDigit", "(I)Z"⟩
abbrev cX3_word : ByteArray := prog_5_method_24_code
def yX3_word : MethodName := ⟨RX3, "word", "()I"⟩
abbrev cX3_digits : ByteArray := prog_5_method_25_code
def yX3_digits : MethodName := ⟨RX3, "digits", "()I"⟩
abbrev cX3_signToken : ByteArray := prog_5_method_26_code
def yX3_signToken : MethodName := ⟨RX3, "signToken", "(I)I"⟩
def RX4 : String := "FareNumbers$Standing"
def TX4 : u_T := fun k => match k with
  | 0 => ("FareNumbers$Standing", "numbers", "[I", true)
  | 1 => ("FareNumbers$Standing", "pages", "[I", true)
  | 2 => ("FareNumbers$Standing", "written", "I", false)
  | 3 => ("FareNumbers$Standing", "shut", "I", false)
  | 4 => ("FareNumbers$Standing", "fund", "I", false)
  | 5 => ("FareNumbers$Standing", "day", "I", false)
  | _ => ("FareNumbers$Standing", "x", "I", false)
def tyX4 : Nat → FieldType := fun k => match k with
  | 0 => .array .int
  | 1 => .array .int
  | 2 => .int
  | 3 => .int
  | 4 => .int
  | 5 => .int
  | _ => .int
theorem nmX4 : ∀ a, a < 7 → ∀ b, b < 7 → a ≠ b → (TX4 a).2.1 ≠ (TX4 b).2.1 := by decide +kernel
theorem tyX4_ok : ∀ k, k < 7 → parseFieldDescriptor (TX4 k).2.2.1 = some (tyX4 k) := by decide +kernel
abbrev cX4_init : ByteArray := prog_6_method_1_code
def yX4_init : MethodName := ⟨RX4, "<init>", "()V"⟩
abbrev cX4_become : ByteArray := prog_6_method_2_code
def yX4_become : MethodName := ⟨RX4, "become", "(LFareNumbers$Standing;)V"⟩
abbrev cX4_draw : ByteArray := prog_6_method_3_code
def yX4_draw : MethodName := ⟨RX4, "draw", "()I"⟩
abbrev cX4_write : ByteArray := prog_6_method_4_code
def yX4_write : MethodName := ⟨RX4, "write", "(III)V"⟩
abbrev cX4_told : ByteArray := prog_6_method_5_code
def yX4_told : MethodName := ⟨RX4, "told", "(II)I"⟩
def RX5 : String := "FareNumbers$Teller"
def TX5 : u_T := fun k => match k with
  | 0 => ("FareNumbers$Teller", "stack", "[I", true)
  | 1 => ("FareNumbers$Teller", "top", "I", false)
  | 2 => ("FareNumbers$Teller", "which", "I", false)
  | _ => ("FareNumbers$Teller", "otherNumber", "I", false)
def tyX5 : Nat → FieldType := fun k => match k with
  | 0 => .array .int
  | 1 => .int
  | 2 => .int
  | _ => .int
theorem nmX5 : ∀ a, a < 4 → ∀ b, b < 4 → a ≠ b → (TX5 a).2.1 ≠ (TX5 b).2.1 := by decide +kernel
theorem tyX5_ok : ∀ k, k < 4 → parseFieldDescriptor (TX5 k).2.2.1 = some (tyX5 k) := by decide +kernel
abbrev cX5_init : ByteArray := prog_7_method_1_code
def yX5_init : MethodName := ⟨RX5, "<init>", "()V"⟩
abbrev cX5_tell : ByteArray := prog_7_method_2_code
def yX5_tell : MethodName := ⟨RX5, "tell", "(LFareNumbers$World;LFareNumbers$Text;III)I"⟩
abbrev cX5_push : ByteArray := prog_7_method_3_code
def yX5_push : MethodName := ⟨RX5, "push", "(I)V"⟩
abbrev cX5_pop : ByteArray := prog_7_method_4_code
def yX5_pop : MethodName := ⟨RX5, "pop", "()I"⟩
abbrev cX5_valueOf : ByteArray := prog_7_method_5_code
def yX5_valueOf : MethodName := ⟨RX5, "valueOf", "(LFareNumbers$World;II)I"⟩
abbrev cX5_nameOf : ByteArray := prog_7_method_6_code
def yX5_nameOf : MethodName := ⟨RX5, "nameOf", "(LFareNumbers$World;I)I"⟩
abbrev cX5_signOf : ByteArray := prog_7_method_7_code
def yX5_signOf : MethodName := ⟨RX5, "signOf", "(LFareNumbers$World;I)I"⟩
abbrev cX5_endSign : ByteArray := prog_7_method_8_code
def yX5_endSign : MethodName := ⟨RX5, "endSign", "(LFareNumbers$World;[I)I"⟩
abbrev cX5_joined : ByteArray := prog_7_method_9_code
def yX5_joined : MethodName := ⟨RX5, "joined", "(III)I"⟩
abbrev cX5_product : ByteArray := prog_7_method_10_code
def yX5_product : MethodName := ⟨RX5, "product", "(JJ)I"⟩
abbrev cX5_holds : ByteArray := prog_7_method_11_code
def yX5_holds : MethodName := ⟨RX5, "holds", "(III)Z"⟩
def RX6 : String := "FareNumbers$Text"
def TX6 : u_T := fun k => match k with
  | 0 => ("FareNumbers$Text", "code", "[I", true)
  | 1 => ("FareNumbers$Text", "kinds", "[I", true)
  | 2 => ("FareNumbers$Text", "firsts", "[I", true)
  | 3 => ("FareNumbers$Text", "seconds", "[I", true)
  | 4 => ("FareNumbers$Text", "length", "I", false)
  | 5 => ("FareNumbers$Text", "clauses", "I", false)
  | 6 => ("FareNumbers$Text", "ridesFrom", "I", false)
  | 7 => ("FareNumbers$Text", "ridesTo", "I", false)
  | 8 => ("FareNumbers$Text", "costsFrom", "I", false)
  | _ => ("FareNumbers$Text", "costsTo", "I", false)
def tyX6 : Nat → FieldType := fun k => match k with
  | 0 => .array .int
  | 1 => .array .int
  | 2 => .array .int
  | 3 => .array .int
  | 4 => .int
  | 5 => .int
  | 6 => .int
  | 7 => .int
  | 8 => .int
  | _ => .int
theorem nmX6 : ∀ a, a < 10 → ∀ b, b < 10 → a ≠ b → (TX6 a).2.1 ≠ (TX6 b).2.1 := by decide +kernel
theorem tyX6_ok : ∀ k, k < 10 → parseFieldDescriptor (TX6 k).2.2.1 = some (tyX6 k) := by decide +kernel
abbrev cX6_init : ByteArray := prog_8_method_1_code
def yX6_init : MethodName := ⟨RX6, "<init>", "()V"⟩
abbrev cX6_clear : ByteArray := prog_8_method_2_code
def yX6_clear : MethodName := ⟨RX6, "clear", "()V"⟩
abbrev cX6_become : ByteArray := prog_8_method_3_code
def yX6_become : MethodName := ⟨RX6, "become", "(LFareNumbers$Text;)V"⟩
abbrev cX6_has : ByteArray := prog_8_method_4_code
def yX6_has : MethodName := ⟨RX6, "has", "(I)Z"⟩
abbrev cX6_emit : ByteArray := prog_8_method_5_code
def yX6_emit : MethodName := ⟨RX6, "emit", "(II)I"⟩
abbrev cX6_land : ByteArray := prog_8_method_6_code
def yX6_land : MethodName := ⟨RX6, "land", "(I)V"⟩
abbrev cX6_addLaw : ByteArray := prog_8_method_7_code
def yX6_addLaw : MethodName := ⟨RX6, "addLaw", "(II)V"⟩
abbrev cX6_add : ByteArray := prog_8_method_8_code
def yX6_add : MethodName := ⟨RX6, "add", "(III)V"⟩
def RX7 : String := "FareNumbers$Walks"
def TX7 : u_T := fun k => match k with
  | 0 => ("FareNumbers$Walks", "ofSets", "[I", true)
  | 1 => ("FareNumbers$Walks", "worth", "[I", true)
  | _ => ("FareNumbers$Walks", "swapped", "[I", true)
def tyX7 : Nat → FieldType := fun k => match k with
  | 0 => .array .int
  | 1 => .array .int
  | _ => .array .int
theorem nmX7 : ∀ a, a < 3 → ∀ b, b < 3 → a ≠ b → (TX7 a).2.1 ≠ (TX7 b).2.1 := by decide +kernel
theorem tyX7_ok : ∀ k, k < 3 → parseFieldDescriptor (TX7 k).2.2.1 = some (tyX7 k) := by decide +kernel
abbrev cX7_init : ByteArray := prog_9_method_1_code
def yX7_init : MethodName := ⟨RX7, "<init>", "()V"⟩
abbrev cX7_leastFares : ByteArray := prog_9_method_2_code
def yX7_leastFares : MethodName := ⟨RX7, "leastFares", "(LFareNumbers$Net;)I"⟩
abbrev cX7_swaps : ByteArray := prog_9_method_3_code
def yX7_swaps : MethodName := ⟨RX7, "swaps", "(LFareNumbers$Net;)I"⟩
abbrev cX7_swapsFrom : ByteArray := prog_9_method_4_code
def yX7_swapsFrom : MethodName := ⟨RX7, "swapsFrom", "(LFareNumbers$Net;II)I"⟩
abbrev cX7_swapsWith : ByteArray := prog_9_method_5_code
def yX7_swapsWith : MethodName := ⟨RX7, "swapsWith", "(LFareNumbers$Net;III)I"⟩
abbrev cX7_keepsBeside : ByteArray := prog_9_method_6_code
def yX7_keepsBeside : MethodName := ⟨RX7, "keepsBeside", "(LFareNumbers$Net;II)Z"⟩
abbrev cX7_winner : ByteArray := prog_9_method_7_code
def yX7_winner : MethodName := ⟨RX7, "winner", "(LFareNumbers$Net;I)I"⟩
abbrev cX7_rideFares : ByteArray := prog_9_method_8_code
def yX7_rideFares : MethodName := ⟨RX7, "rideFares", "(LFareNumbers$Net;[III)I"⟩
abbrev cX7_rideHalt : ByteArray := prog_9_method_9_code
def yX7_rideHalt : MethodName := ⟨RX7, "rideHalt", "(LFareNumbers$Net;[IIII)I"⟩
abbrev cX7_reckon : ByteArray := prog_9_method_10_code
def yX7_reckon : MethodName := ⟨RX7, "reckon", "(LFareNumbers$Net;[II)V"⟩
abbrev cX7_stepWorth : ByteArray := prog_9_method_11_code
def yX7_stepWorth : MethodName := ⟨RX7, "stepWorth", "([III)I"⟩
abbrev cX7_nextHalt : ByteArray := prog_9_method_12_code
def yX7_nextHalt : MethodName := ⟨RX7, "nextHalt", "(LFareNumbers$Net;[II)I"⟩
def RX8 : String := "FareNumbers$Weights"
def TX8 : u_T := fun k => match k with
  | 0 => ("FareNumbers$Weights", "alikeRow", "[I", true)
  | 1 => ("FareNumbers$Weights", "unlikeRow", "[I", true)
  | 2 => ("FareNumbers$Weights", "sum", "I", false)
  | 3 => ("FareNumbers$Weights", "ways", "J", false)
  | 4 => ("FareNumbers$Weights", "canUnlike", "Z", false)
  | 5 => ("FareNumbers$Weights", "weight", "[I", true)
  | 6 => ("FareNumbers$Weights", "together", "[I", true)
  | 7 => ("FareNumbers$Weights", "rest", "[I", true)
  | 8 => ("FareNumbers$Weights", "used", "I", false)
  | 9 => ("FareNumbers$Weights", "alikeFor", "J", false)
  | _ => ("FareNumbers$Weights", "unlikeFor", "J", false)
def tyX8 : Nat → FieldType := fun k => match k with
  | 0 => .array .int
  | 1 => .array .int
  | 2 => .int
  | 3 => .long
  | 4 => .boolean
  | 5 => .array .int
  | 6 => .array .int
  | 7 => .array .int
  | 8 => .int
  | 9 => .long
  | _ => .long
theorem nmX8 : ∀ a, a < 11 → ∀ b, b < 11 → a ≠ b → (TX8 a).2.1 ≠ (TX8 b).2.1 := by decide +kernel
theorem tyX8_ok : ∀ k, k < 11 → parseFieldDescriptor (TX8 k).2.2.1 = some (tyX8 k) := by decide +kernel
abbrev cX8_init : ByteArray := prog_10_method_1_code
def yX8_init : MethodName := ⟨RX8, "<init>", "()V"⟩
abbrev cX8_solveAlike : ByteArray := prog_10_method_2_code
def yX8_solveAlike : MethodName := ⟨RX8, "solveAlike", "(LFareNumbers$Net;)V"⟩
abbrev cX8_begin : ByteArray := prog_10_method_3_code
def yX8_begin : MethodName := ⟨RX8, "begin", "(LFareNumbers$Net;I)V"⟩
abbrev cX8_goAlike : ByteArray := prog_10_method_4_code
def yX8_goAlike : MethodName := ⟨RX8, "goAlike", "(LFareNumbers$Net;I)V"⟩
abbrev cX8_goAlikeWith : ByteArray := prog_10_method_5_code
def yX8_goAlikeWith : MethodName := ⟨RX8, "goAlikeWith", "(LFareNumbers$Net;III)V"⟩
abbrev cX8_put : ByteArray := prog_10_method_6_code
def yX8_put : MethodName := ⟨RX8, "put", "(IIIII)V"⟩
abbrev cX8_takeOff : ByteArray := prog_10_method_7_code
def yX8_takeOff : MethodName := ⟨RX8, "takeOff", "(IIII)V"⟩
abbrev cX8_canBe : ByteArray := prog_10_method_8_code
def yX8_canBe : MethodName := ⟨RX8, "canBe", "(LFareNumbers$Net;I)Z"⟩
abbrev cX8_tightest : ByteArray := prog_10_method_9_code
def yX8_tightest : MethodName := ⟨RX8, "tightest", "(LFareNumbers$Net;I)I"⟩
abbrev cX8_keepLowest : ByteArray := prog_10_method_10_code
def yX8_keepLowest : MethodName := ⟨RX8, "keepLowest", "(LFareNumbers$Net;)V"⟩
abbrev cX8_isLower : ByteArray := prog_10_method_11_code
def yX8_isLower : MethodName := ⟨RX8, "isLower", "(LFareNumbers$Net;)Z"⟩
abbrev cX8_solveUnlike : ByteArray := prog_10_method_12_code
def yX8_solveUnlike : MethodName := ⟨RX8, "solveUnlike", "(LFareNumbers$Net;)V"⟩
abbrev cX8_hasLone : ByteArray := prog_10_method_13_code
def yX8_hasLone : MethodName := ⟨RX8, "hasLone", "(LFareNumbers$Net;)Z"⟩
abbrev cX8_goUnlike : ByteArray := prog_10_method_14_code
def yX8_goUnlike : MethodName := ⟨RX8, "goUnlike", "(LFareNumbers$Net;I)Z"⟩
abbrev cX8_goUnlikeWith : ByteArray := prog_10_method_15_code
def yX8_goUnlikeWith : MethodName := ⟨RX8, "goUnlikeWith", "(LFareNumbers$Net;II)Z"⟩
abbrev cX8_isMet : ByteArray := prog_10_method_16_code
def yX8_isMet : MethodName := ⟨RX8, "isMet", "(LFareNumbers$Net;I)Z"⟩
def RX9 : String := "FareNumbers$World"
def TX9 : u_T := fun k => match k with
  | 0 => ("FareNumbers$World", "now", "LFareNumbers$Standing;", true)
  | 1 => ("FareNumbers$World", "one", "[I", true)
  | 2 => ("FareNumbers$World", "other", "[I", true)
  | 3 => ("FareNumbers$World", "texts", "[LFareNumbers$Text;", true)
  | 4 => ("FareNumbers$World", "saidLine", "[I", true)
  | 5 => ("FareNumbers$World", "saidRides", "[I", true)
  | 6 => ("FareNumbers$World", "steps", "[LFareNumbers$Standing;", true)
  | 7 => ("FareNumbers$World", "teller", "LFareNumbers$Teller;", true)
  | 8 => ("FareNumbers$World", "lines", "I", false)
  | 9 => ("FareNumbers$World", "textCount", "I", false)
  | 10 => ("FareNumbers$World", "ruling", "I", false)
  | 11 => ("FareNumbers$World", "saidCount", "I", false)
  | 12 => ("FareNumbers$World", "stepCount", "I", false)
  | _ => ("FareNumbers$World", "firstStep", "I", false)
def tyX9 : Nat → FieldType := fun k => match k with
  | 0 => .object "FareNumbers$Standing"
  | 1 => .array .int
  | 2 => .array .int
  | 3 => .array (.object "FareNumbers$Text")
  | 4 => .array .int
  | 5 => .array .int
  | 6 => .array (.object "FareNumbers$Standing")
  | 7 => .object "FareNumbers$Teller"
  | 8 => .int
  | 9 => .int
  | 10 => .int
  | 11 => .int
  | 12 => .int
  | _ => .int
theorem nmX9 : ∀ a, a < 14 → ∀ b, b < 14 → a ≠ b → (TX9 a).2.1 ≠ (TX9 b).2.1 := by decide +kernel
theorem tyX9_ok : ∀ k, k < 14 → parseFieldDescriptor (TX9 k).2.2.1 = some (tyX9 k) := by decide +kernel
abbrev cX9_init : ByteArray := prog_11_method_1_code
def yX9_init : MethodName := ⟨RX9, "<init>", "()V"⟩
abbrev cX9_become : ByteArray := prog_11_method_2_code
def yX9_become : MethodName := ⟨RX9, "become", "(LFareNumbers$World;)V"⟩
abbrev cX9_hasLine : ByteArray := prog_11_method_3_code
def yX9_hasLine : MethodName := ⟨RX9, "hasLine", "(I)Z"⟩
abbrev cX9_hasText : ByteArray := prog_11_method_4_code
def yX9_hasText : MethodName := ⟨RX9, "hasText", "(I)Z"⟩
abbrev cX9_openBits : ByteArray := prog_11_method_5_code
def yX9_openBits : MethodName := ⟨RX9, "openBits", "()I"⟩
abbrev cX9_fareOf : ByteArray := prog_11_method_6_code
def yX9_fareOf : MethodName := ⟨RX9, "fareOf", "(I)I"⟩
abbrev cX9_besideBits : ByteArray := prog_11_method_7_code
def yX9_besideBits : MethodName := ⟨RX9, "besideBits", "(I)I"⟩
abbrev cX9_theText : ByteArray := prog_11_method_8_code
def yX9_theText : MethodName := ⟨RX9, "theText", "()LFareNumbers$Text;"⟩
abbrev cX9_lawSays : ByteArray := prog_11_method_9_code
def yX9_lawSays : MethodName := ⟨RX9, "lawSays", "(III)I"⟩
abbrev cX9_saysAll : ByteArray := prog_11_method_10_code
def yX9_saysAll : MethodName := ⟨RX9, "saysAll", "(LFareNumbers$Text;)Z"⟩
abbrev cX9_addLine : ByteArray := prog_11_method_11_code
def yX9_addLine : MethodName := ⟨RX9, "addLine", "(II)I"⟩
abbrev cX9_keepStep : ByteArray := prog_11_method_12_code
def yX9_keepStep : MethodName := ⟨RX9, "keepStep", "()V"⟩
abbrev cX9_takeBack : ByteArray := prog_11_method_13_code
def yX9_takeBack : MethodName := ⟨RX9, "takeBack", "()I"⟩
abbrev cX9_putPlate : ByteArray := prog_11_method_14_code
def yX9_putPlate : MethodName := ⟨RX9, "putPlate", "(IIZ)I"⟩
abbrev cX9_turnLine : ByteArray := prog_11_method_15_code
def yX9_turnLine : MethodName := ⟨RX9, "turnLine", "(IZ)Z"⟩
abbrev cX9_giveGrant : ByteArray := prog_11_method_16_code
def yX9_giveGrant : MethodName := ⟨RX9, "giveGrant", "(IZ)Z"⟩
abbrev cX9_passDay : ByteArray := prog_11_method_17_code
def yX9_passDay : MethodName := ⟨RX9, "passDay", "(Z)I"⟩
abbrev cX9_drawOnce : ByteArray := prog_11_method_18_code
def yX9_drawOnce : MethodName := ⟨RX9, "drawOnce", "(I)V"⟩
abbrev cX9_perform : ByteArray := prog_11_method_19_code
def yX9_perform : MethodName := ⟨RX9, "perform", "(III)Z"⟩
def RX10 : String := "FareNumbers"
def TX10 : u_T := fun k => match k with
  | 0 => ("FareNumbers", "world", "LFareNumbers$World;", true)
  | 1 => ("FareNumbers", "kept", "LFareNumbers$World;", true)
  | 2 => ("FareNumbers", "ahead", "LFareNumbers$Standing;", true)
  | 3 => ("FareNumbers", "reader", "LFareNumbers$Reader;", true)
  | 4 => ("FareNumbers", "net", "LFareNumbers$Net;", true)
  | 5 => ("FareNumbers", "numbering", "LFareNumbers$Numbering;", true)
  | 6 => ("FareNumbers", "spaced", "LFareNumbers$Places;", true)
  | 7 => ("FareNumbers", "banded", "LFareNumbers$Places;", true)
  | 8 => ("FareNumbers", "weights", "LFareNumbers$Weights;", true)
  | _ => ("FareNumbers", "walks", "LFareNumbers$Walks;", true)
def tyX10 : Nat → FieldType := fun k => match k with
  | 0 => .object "FareNumbers$World"
  | 1 => .object "FareNumbers$World"
  | 2 => .object "FareNumbers$Standing"
  | 3 => .object "FareNumbers$Reader"
  | 4 => .object "FareNumbers$Net"
  | 5 => .object "FareNumbers$Numbering"
  | 6 => .object "FareNumbers$Places"
  | 7 => .object "FareNumbers$Places"
  | 8 => .object "FareNumbers$Weights"
  | _ => .object "FareNumbers$Walks"
theorem nmX10 : ∀ a, a < 10 → ∀ b, b < 10 → a ≠ b → (TX10 a).2.1 ≠ (TX10 b).2.1 := by decide +kernel
theorem tyX10_ok : ∀ k, k < 10 → parseFieldDescriptor (TX10 k).2.2.1 = some (tyX10 k) := by decide +kernel
abbrev cX10_init : ByteArray := prog_1_method_1_code
def yX10_init : MethodName := ⟨RX10, "<init>", "()V"⟩
abbrev cX10_lay : ByteArray := prog_1_method_2_code
def yX10_lay : MethodName := ⟨RX10, "lay", "(II)I"⟩
abbrev cX10_feed : ByteArray := prog_1_method_3_code
def yX10_feed : MethodName := ⟨RX10, "feed", "(IIIII)I"⟩
abbrev cX10_end : ByteArray := prog_1_method_4_code
def yX10_end : MethodName := ⟨RX10, "end", "(I)I"⟩
abbrev cX10_text : ByteArray := prog_1_method_5_code
def yX10_text : MethodName := ⟨RX10, "text", "()I"⟩
abbrev cX10_fault : ByteArray := prog_1_method_6_code
def yX10_fault : MethodName := ⟨RX10, "fault", "(I)I"⟩
abbrev cX10_by : ByteArray := prog_1_method_7_code
def yX10_by : MethodName := ⟨RX10, "by", "(I)Z"⟩
abbrev cX10_plate : ByteArray := prog_1_method_8_code
def yX10_plate : MethodName := ⟨RX10, "plate", "(II)I"⟩
abbrev cX10_turn : ByteArray := prog_1_method_9_code
def yX10_turn : MethodName := ⟨RX10, "turn", "(I)Z"⟩
abbrev cX10_grant : ByteArray := prog_1_method_10_code
def yX10_grant : MethodName := ⟨RX10, "grant", "(I)Z"⟩
abbrev cX10_day : ByteArray := prog_1_method_11_code
def yX10_day : MethodName := ⟨RX10, "day", "(I)I"⟩
abbrev cX10_played : ByteArray := prog_1_method_12_code
def yX10_played : MethodName := ⟨RX10, "played", "(I)I"⟩
abbrev cX10_years : ByteArray := prog_1_method_13_code
def yX10_years : MethodName := ⟨RX10, "years", "(II)I"⟩
abbrev cX10_undo : ByteArray := prog_1_method_14_code
def yX10_undo : MethodName := ⟨RX10, "undo", "()I"⟩
abbrev cX10_of : ByteArray := prog_1_method_15_code
def yX10_of : MethodName := ⟨RX10, "of", "(II)I"⟩
abbrev cX10_ofHalt : ByteArray := prog_1_method_16_code
def yX10_ofHalt : MethodName := ⟨RX10, "ofHalt", "(II)I"⟩
abbrev cX10_costs : ByteArray := prog_1_method_17_code
def yX10_costs : MethodName := ⟨RX10, "costs", "(II)I"⟩
abbrev cX10_is : ByteArray := prog_1_method_18_code
def yX10_is : MethodName := ⟨RX10, "is", "(I)I"⟩
abbrev cX10_openFares : ByteArray := prog_1_method_19_code
def yX10_openFares : MethodName := ⟨RX10, "openFares", "()I"⟩
abbrev cX10_book : ByteArray := prog_1_method_20_code
def yX10_book : MethodName := ⟨RX10, "book", "(II)I"⟩
abbrev cX10_foretold : ByteArray := prog_1_method_21_code
def yX10_foretold : MethodName := ⟨RX10, "foretold", "(I)I"⟩
abbrev cX10_fair : ByteArray := prog_1_method_22_code
def yX10_fair : MethodName := ⟨RX10, "fair", "()Z"⟩
abbrev cX10_likeAbove : ByteArray := prog_1_method_23_code
def yX10_likeAbove : MethodName := ⟨RX10, "likeAbove", "(II)I"⟩
abbrev cX10_left : ByteArray := prog_1_method_24_code
def yX10_left : MethodName := ⟨RX10, "left", "()I"⟩
abbrev cX10_twin : ByteArray := prog_1_method_25_code
def yX10_twin : MethodName := ⟨RX10, "twin", "(Z)I"⟩
abbrev cX10_whole : ByteArray := prog_1_method_26_code
def yX10_whole : MethodName := ⟨RX10, "whole", "(I)I"⟩
abbrev cX10_wholes : ByteArray := prog_1_method_27_code
def yX10_wholes : MethodName := ⟨RX10, "wholes", "()J"⟩
abbrev cX10_span : ByteArray := prog_1_method_28_code
def yX10_span : MethodName := ⟨RX10, "span", "(I)I"⟩
abbrev cX10_apart : ByteArray := prog_1_method_29_code
def yX10_apart : MethodName := ⟨RX10, "apart", "(III)I"⟩
abbrev cX10_alike : ByteArray := prog_1_method_30_code
def yX10_alike : MethodName := ⟨RX10, "alike", "(I)I"⟩
abbrev cX10_alikes : ByteArray := prog_1_method_31_code
def yX10_alikes : MethodName := ⟨RX10, "alikes", "()J"⟩
abbrev cX10_unlike : ByteArray := prog_1_method_32_code
def yX10_unlike : MethodName := ⟨RX10, "unlike", "(I)I"⟩
abbrev cX10_band : ByteArray := prog_1_method_33_code
def yX10_band : MethodName := ⟨RX10, "band", "(I)I"⟩
abbrev cX10_total : ByteArray := prog_1_method_34_code
def yX10_total : MethodName := ⟨RX10, "total", "()I"⟩
abbrev cX10_mend : ByteArray := prog_1_method_35_code
def yX10_mend : MethodName := ⟨RX10, "mend", "()I"⟩
abbrev cX10_names : ByteArray := prog_1_method_36_code
def yX10_names : MethodName := ⟨RX10, "names", "()I"⟩
abbrev cX10_parts : ByteArray := prog_1_method_37_code
def yX10_parts : MethodName := ⟨RX10, "parts", "()I"⟩
abbrev cX10_cuts : ByteArray := prog_1_method_38_code
def yX10_cuts : MethodName := ⟨RX10, "cuts", "()I"⟩
abbrev cX10_game : ByteArray := prog_1_method_39_code
def yX10_game : MethodName := ⟨RX10, "game", "(I)I"⟩
abbrev cX10_mark : ByteArray := prog_1_method_40_code
def yX10_mark : MethodName := ⟨RX10, "mark", "(I)I"⟩
abbrev cX10_ride : ByteArray := prog_1_method_41_code
def yX10_ride : MethodName := ⟨RX10, "ride", "(II)I"⟩
abbrev cX10_change : ByteArray := prog_1_method_42_code
def yX10_change : MethodName := ⟨RX10, "change", "(III)I"⟩
abbrev cX10_said : ByteArray := prog_1_method_43_code
def yX10_said : MethodName := ⟨RX10, "said", "(II)I"⟩
abbrev cX10_whose : ByteArray := prog_1_method_44_code
def yX10_whose : MethodName := ⟨RX10, "whose", "()I"⟩
abbrev cX10_dearest : ByteArray := prog_1_method_45_code
def yX10_dearest : MethodName := ⟨RX10, "dearest", "()I"⟩
abbrev cX10_highest : ByteArray := prog_1_method_46_code
def yX10_highest : MethodName := ⟨RX10, "highest", "()I"⟩
abbrev cX10_ledger : ByteArray := prog_1_method_47_code
def yX10_ledger : MethodName := ⟨RX10, "ledger", "(I)I"⟩
abbrev cX10_image : ByteArray := prog_1_method_48_code
def yX10_image : MethodName := ⟨RX10, "image", "()I"⟩
abbrev cX10_back : ByteArray := prog_1_method_49_code
def yX10_back : MethodName := ⟨RX10, "back", "()I"⟩
abbrev cX10_about : ByteArray := prog_1_method_50_code
def yX10_about : MethodName := ⟨RX10, "about", "(I)I"⟩
def RX11 : String := "FareNumbersModel"
def TX11 : u_T := fun k => match k with
  | 0 => ("FareNumbersModel", "a", "[I", true)
  | 1 => ("FareNumbersModel", "image", "[I", true)
  | 2 => ("FareNumbersModel", "texts", "[I", true)
  | 3 => ("FareNumbersModel", "tape", "[I", true)
  | 4 => ("FareNumbersModel", "taped", "I", false)
  | 5 => ("FareNumbersModel", "fault", "I", false)
  | 6 => ("FareNumbersModel", "faultPlace", "I", false)
  | 7 => ("FareNumbersModel", "at", "I", false)
  | 8 => ("FareNumbersModel", "place", "I", false)
  | 9 => ("FareNumbersModel", "token", "I", false)
  | 10 => ("FareNumbersModel", "number", "I", false)
  | 11 => ("FareNumbersModel", "word", "J", false)
  | 12 => ("FareNumbersModel", "text0", "I", false)
  | 13 => ("FareNumbersModel", "written", "I", false)
  | 14 => ("FareNumbersModel", "sort0", "I", false)
  | 15 => ("FareNumbersModel", "pile", "[I", true)
  | 16 => ("FareNumbersModel", "piled", "I", false)
  | 17 => ("FareNumbersModel", "opens", "I", false)
  | 18 => ("FareNumbersModel", "isWhole", "Z", false)
  | 19 => ("FareNumbersModel", "once", "I", false)
  | 20 => ("FareNumbersModel", "named", "[I", true)
  | 21 => ("FareNumbersModel", "values", "[J", true)
  | 22 => ("FareNumbersModel", "truth", "[Z", true)
  | 23 => ("FareNumbersModel", "isWritten", "Z", false)
  | 24 => ("FareNumbersModel", "income", "I", false)
  | 25 => ("FareNumbersModel", "aside", "[I", true)
  | 26 => ("FareNumbersModel", "labels", "[I", true)
  | 27 => ("FareNumbersModel", "who", "[I", true)
  | 28 => ("FareNumbersModel", "whoMany", "I", false)
  | 29 => ("FareNumbersModel", "near", "I", false)
  | 30 => ("FareNumbersModel", "far", "I", false)
  | 31 => ("FareNumbersModel", "widest", "I", false)
  | 32 => ("FareNumbersModel", "weights", "[I", true)
  | 33 => ("FareNumbersModel", "openLines", "[I", true)
  | 34 => ("FareNumbersModel", "openLinesMany", "I", false)
  | 35 => ("FareNumbersModel", "sumOfEach", "I", false)
  | 36 => ("FareNumbersModel", "wins", "[Z", true)
  | _ => ("FareNumbersModel", "rides", "[I", true)
def tyX11 : Nat → FieldType := fun k => match k with
  | 0 => .array .int
  | 1 => .array .int
  | 2 => .array .int
  | 3 => .array .int
  | 4 => .int
  | 5 => .int
  | 6 => .int
  | 7 => .int
  | 8 => .int
  | 9 => .int
  | 10 => .int
  | 11 => .long
  | 12 => .int
  | 13 => .int
  | 14 => .int
  | 15 => .array .int
  | 16 => .int
  | 17 => .int
  | 18 => .boolean
  | 19 => .int
  | 20 => .array .int
  | 21 => .array .long
  | 22 => .array .boolean
  | 23 => .boolean
  | 24 => .int
  | 25 => .array .int
  | 26 => .array .int
  | 27 => .array .int
  | 28 => .int
  | 29 => .int
  | 30 => .int
  | 31 => .int
  | 32 => .array .int
  | 33 => .array .int
  | 34 => .int
  | 35 => .int
  | 36 => .array .boolean
  | _ => .array .int
theorem nmX11 : ∀ a, a < 38 → ∀ b, b < 38 → a ≠ b → (TX11 a).2.1 ≠ (TX11 b).2.1 := by decide +kernel
theorem tyX11_ok : ∀ k, k < 38 → parseFieldDescriptor (TX11 k).2.2.1 = some (tyX11 k) := by decide +kernel
abbrev cX11_init : ByteArray := prog_13_method_1_code
def yX11_init : MethodName := ⟨RX11, "<init>", "()V"⟩
abbrev cX11_copy : ByteArray := prog_13_method_2_code
def yX11_copy : MethodName := ⟨RX11, "copy", "([I[I)V"⟩
abbrev cX11_isIn : ByteArray := prog_13_method_3_code
def yX11_isIn : MethodName := ⟨RX11, "isIn", "(III)Z"⟩
abbrev cX11_held : ByteArray := prog_13_method_4_code
def yX11_held : MethodName := ⟨RX11, "held", "(JII)I"⟩
abbrev cX11_has : ByteArray := prog_13_method_5_code
def yX11_has : MethodName := ⟨RX11, "has", "(II)Z"⟩
abbrev cX11_bits : ByteArray := prog_13_method_6_code
def yX11_bits : MethodName := ⟨RX11, "bits", "(I)I"⟩
abbrev cX11_apartBy : ByteArray := prog_13_method_7_code
def yX11_apartBy : MethodName := ⟨RX11, "apartBy", "(II)I"⟩
abbrev cX11_isLine : ByteArray := prog_13_method_8_code
def yX11_isLine : MethodName := ⟨RX11, "isLine", "(I)Z"⟩
abbrev cX11_isHalt : ByteArray := prog_13_method_9_code
def yX11_isHalt : MethodName := ⟨RX11, "isHalt", "(I)Z"⟩
abbrev cX11_isOpen : ByteArray := prog_13_method_10_code
def yX11_isOpen : MethodName := ⟨RX11, "isOpen", "(I)Z"⟩
abbrev cX11_one : ByteArray := prog_13_method_11_code
def yX11_one : MethodName := ⟨RX11, "one", "(I)I"⟩
abbrev cX11_other : ByteArray := prog_13_method_12_code
def yX11_other : MethodName := ⟨RX11, "other", "(I)I"⟩
abbrev cX11_isOn : ByteArray := prog_13_method_13_code
def yX11_isOn : MethodName := ⟨RX11, "isOn", "(II)Z"⟩
abbrev cX11_fareOf : ByteArray := prog_13_method_14_code
def yX11_fareOf : MethodName := ⟨RX11, "fareOf", "(I)I"⟩
abbrev cX11_openMany : ByteArray := prog_13_method_15_code
def yX11_openMany : MethodName := ⟨RX11, "openMany", "()I"⟩
abbrev cX11_besideOf : ByteArray := prog_13_method_16_code
def yX11_besideOf : MethodName := ⟨RX11, "besideOf", "(I)I"⟩
abbrev cX11_areBeside : ByteArray := prog_13_method_17_code
def yX11_areBeside : MethodName := ⟨RX11, "areBeside", "(II)Z"⟩
abbrev cX11_lay : ByteArray := prog_13_method_18_code
def yX11_lay : MethodName := ⟨RX11, "lay", "(II)I"⟩
abbrev cX11_four : ByteArray := prog_13_method_19_code
def yX11_four : MethodName := ⟨RX11, "four", "(I)V"⟩
abbrev cX11_feed : ByteArray := prog_13_method_20_code
def yX11_feed : MethodName := ⟨RX11, "feed", "(IIIII)I"⟩
abbrev cX11_end : ByteArray := prog_13_method_21_code
def yX11_end : MethodName := ⟨RX11, "end", "(I)I"⟩
abbrev cX11_byteAt : ByteArray := prog_13_method_22_code
def yX11_byteAt : MethodName := ⟨RX11, "byteAt", "(I)I"⟩
abbrev cX11_isLetterByte : ByteArray := prog_13_method_23_code
def yX11_isLetterByte : MethodName := ⟨RX11, "isLetterByte", "(I)Z"⟩
abbrev cX11_isFigure : ByteArray := prog_13_method_24_code
def yX11_isFigure : MethodName := ⟨RX11, "isFigure", "(I)Z"⟩
abbrev cX11_isSign : ByteArray := prog_13_method_25_code
def yX11_isSign : MethodName := ⟨RX11, "isSign", "(I)Z"⟩
abbrev cX11_nextToken : ByteArray := prog_13_method_26_code
def yX11_nextToken : MethodName := ⟨RX11, "nextToken", "()V"⟩
abbrev cX11_w2 : ByteArray := prog_13_method_27_code
def yX11_w2 : MethodName := ⟨RX11, "w2", "(II)J"⟩
abbrev cX11_w3 : ByteArray := prog_13_method_28_code
def yX11_w3 : MethodName := ⟨RX11, "w3", "(III)J"⟩
abbrev cX11_w4 : ByteArray := prog_13_method_29_code
def yX11_w4 : MethodName := ⟨RX11, "w4", "(IIII)J"⟩
abbrev cX11_w5 : ByteArray := prog_13_method_30_code
def yX11_w5 : MethodName := ⟨RX11, "w5", "(IIIII)J"⟩
abbrev cX11_w6 : ByteArray := prog_13_method_31_code
def yX11_w6 : MethodName := ⟨RX11, "w6", "(IIIIII)J"⟩
abbrev cX11_isWord : ByteArray := prog_13_method_32_code
def yX11_isWord : MethodName := ⟨RX11, "isWord", "(J)Z"⟩
abbrev cX11_emit : ByteArray := prog_13_method_33_code
def yX11_emit : MethodName := ⟨RX11, "emit", "(II)V"⟩
abbrev cX11_nameOf : ByteArray := prog_13_method_34_code
def yX11_nameOf : MethodName := ⟨RX11, "nameOf", "()I"⟩
abbrev cX11_isOf : ByteArray := prog_13_method_35_code
def yX11_isOf : MethodName := ⟨RX11, "isOf", "(I)Z"⟩
abbrev cX11_rank : ByteArray := prog_13_method_36_code
def yX11_rank : MethodName := ⟨RX11, "rank", "(I)I"⟩
abbrev cX11_settle : ByteArray := prog_13_method_37_code
def yX11_settle : MethodName := ⟨RX11, "settle", "(I)V"⟩
abbrev cX11_openAt : ByteArray := prog_13_method_38_code
def yX11_openAt : MethodName := ⟨RX11, "openAt", "()I"⟩
abbrev cX11_openNow : ByteArray := prog_13_method_39_code
def yX11_openNow : MethodName := ⟨RX11, "openNow", "()I"⟩
abbrev cX11_isCompared : ByteArray := prog_13_method_40_code
def yX11_isCompared : MethodName := ⟨RX11, "isCompared", "()Z"⟩
abbrev cX11_isAskAhead : ByteArray := prog_13_method_41_code
def yX11_isAskAhead : MethodName := ⟨RX11, "isAskAhead", "()Z"⟩
abbrev cX11_opened : ByteArray := prog_13_method_42_code
def yX11_opened : MethodName := ⟨RX11, "opened", "(I)I"⟩
abbrev cX11_beginOne : ByteArray := prog_13_method_43_code
def yX11_beginOne : MethodName := ⟨RX11, "beginOne", "()I"⟩
abbrev cX11_compareOf : ByteArray := prog_13_method_44_code
def yX11_compareOf : MethodName := ⟨RX11, "compareOf", "()I"⟩
abbrev cX11_betweenOf : ByteArray := prog_13_method_45_code
def yX11_betweenOf : MethodName := ⟨RX11, "betweenOf", "()I"⟩
abbrev cX11_partOf : ByteArray := prog_13_method_46_code
def yX11_partOf : MethodName := ⟨RX11, "partOf", "(I)I"⟩
abbrev cX11_behindOne : ByteArray := prog_13_method_47_code
def yX11_behindOne : MethodName := ⟨RX11, "behindOne", "()Z"⟩
abbrev cX11_summed : ByteArray := prog_13_method_48_code
def yX11_summed : MethodName := ⟨RX11, "summed", "()I"⟩
abbrev cX11_figure : ByteArray := prog_13_method_49_code
def yX11_figure : MethodName := ⟨RX11, "figure", "(III)I"⟩
abbrev cX11_lawClause : ByteArray := prog_13_method_50_code
def yX11_lawClause : MethodName := ⟨RX11, "lawClause", "(I)I"⟩
abbrev cX11_pair : ByteArray := prog_13_method_51_code
def yX11_pair : MethodName := ⟨RX11, "pair", "(IIJ)I"⟩
abbrev cX11_body : ByteArray := prog_13_method_52_code
def yX11_body : MethodName := ⟨RX11, "body", "(II)I"⟩
abbrev cX11_sortOf : ByteArray := prog_13_method_53_code
def yX11_sortOf : MethodName := ⟨RX11, "sortOf", "()I"⟩
abbrev cX11_clause : ByteArray := prog_13_method_54_code
def yX11_clause : MethodName := ⟨RX11, "clause", "()I"⟩
abbrev cX11_readText : ByteArray := prog_13_method_55_code
def yX11_readText : MethodName := ⟨RX11, "readText", "()I"⟩
abbrev cX11_text : ByteArray := prog_13_method_56_code
def yX11_text : MethodName := ⟨RX11, "text", "()I"⟩
abbrev cX11_fault : ByteArray := prog_13_method_57_code
def yX11_fault : MethodName := ⟨RX11, "fault", "(I)I"⟩
abbrev cX11_by : ByteArray := prog_13_method_58_code
def yX11_by : MethodName := ⟨RX11, "by", "(I)Z"⟩
abbrev cX11_clip : ByteArray := prog_13_method_59_code
def yX11_clip : MethodName := ⟨RX11, "clip", "(J)J"⟩
abbrev cX11_two : ByteArray := prog_13_method_60_code
def yX11_two : MethodName := ⟨RX11, "two", "(IJJ)J"⟩
abbrev cX11_isAsked : ByteArray := prog_13_method_61_code
def yX11_isAsked : MethodName := ⟨RX11, "isAsked", "(IJJ)Z"⟩
abbrev cX11_ofOne : ByteArray := prog_13_method_62_code
def yX11_ofOne : MethodName := ⟨RX11, "ofOne", "(IJ)J"⟩
abbrev cX11_joined : ByteArray := prog_13_method_63_code
def yX11_joined : MethodName := ⟨RX11, "joined", "(IZZ)Z"⟩
abbrev cX11_summedUp : ByteArray := prog_13_method_64_code
def yX11_summedUp : MethodName := ⟨RX11, "summedUp", "(II)J"⟩
abbrev cX11_says : ByteArray := prog_13_method_65_code
def yX11_says : MethodName := ⟨RX11, "says", "(IIII)I"⟩
abbrev cX11_name : ByteArray := prog_13_method_66_code
def yX11_name : MethodName := ⟨RX11, "name", "(I)V"⟩
abbrev cX11_ridesOf : ByteArray := prog_13_method_67_code
def yX11_ridesOf : MethodName := ⟨RX11, "ridesOf", "(II)I"⟩
abbrev cX11_costsOf : ByteArray := prog_13_method_68_code
def yX11_costsOf : MethodName := ⟨RX11, "costsOf", "(II)I"⟩
abbrev cX11_write : ByteArray := prog_13_method_69_code
def yX11_write : MethodName := ⟨RX11, "write", "(III)V"⟩
abbrev cX11_drawnBy : ByteArray := prog_13_method_70_code
def yX11_drawnBy : MethodName := ⟨RX11, "drawnBy", "(I)I"⟩
abbrev cX11_anew : ByteArray := prog_13_method_71_code
def yX11_anew : MethodName := ⟨RX11, "anew", "()V"⟩
abbrev cX11_canPlate : ByteArray := prog_13_method_72_code
def yX11_canPlate : MethodName := ⟨RX11, "canPlate", "(II)Z"⟩
abbrev cX11_plateNow : ByteArray := prog_13_method_73_code
def yX11_plateNow : MethodName := ⟨RX11, "plateNow", "(II)I"⟩
abbrev cX11_turnNow : ByteArray := prog_13_method_74_code
def yX11_turnNow : MethodName := ⟨RX11, "turnNow", "(I)V"⟩
abbrev cX11_canGrant : ByteArray := prog_13_method_75_code
def yX11_canGrant : MethodName := ⟨RX11, "canGrant", "(I)Z"⟩
abbrev cX11_pass : ByteArray := prog_13_method_76_code
def yX11_pass : MethodName := ⟨RX11, "pass", "()V"⟩
abbrev cX11_keep : ByteArray := prog_13_method_77_code
def yX11_keep : MethodName := ⟨RX11, "keep", "()V"⟩
abbrev cX11_undo : ByteArray := prog_13_method_78_code
def yX11_undo : MethodName := ⟨RX11, "undo", "()I"⟩
abbrev cX11_plate : ByteArray := prog_13_method_79_code
def yX11_plate : MethodName := ⟨RX11, "plate", "(II)I"⟩
abbrev cX11_turn : ByteArray := prog_13_method_80_code
def yX11_turn : MethodName := ⟨RX11, "turn", "(I)Z"⟩
abbrev cX11_grant : ByteArray := prog_13_method_81_code
def yX11_grant : MethodName := ⟨RX11, "grant", "(I)Z"⟩
abbrev cX11_arePassed : ByteArray := prog_13_method_82_code
def yX11_arePassed : MethodName := ⟨RX11, "arePassed", "(I)Z"⟩
abbrev cX11_day : ByteArray := prog_13_method_83_code
def yX11_day : MethodName := ⟨RX11, "day", "(I)I"⟩
abbrev cX11_isPlayed : ByteArray := prog_13_method_84_code
def yX11_isPlayed : MethodName := ⟨RX11, "isPlayed", "(I)Z"⟩
abbrev cX11_played : ByteArray := prog_13_method_85_code
def yX11_played : MethodName := ⟨RX11, "played", "(I)I"⟩
abbrev cX11_happens : ByteArray := prog_13_method_86_code
def yX11_happens : MethodName := ⟨RX11, "happens", "(I)V"⟩
abbrev cX11_years : ByteArray := prog_13_method_87_code
def yX11_years : MethodName := ⟨RX11, "years", "(II)I"⟩
abbrev cX11_of : ByteArray := prog_13_method_88_code
def yX11_of : MethodName := ⟨RX11, "of", "(II)I"⟩
abbrev cX11_ofHalt : ByteArray := prog_13_method_89_code
def yX11_ofHalt : MethodName := ⟨RX11, "ofHalt", "(II)I"⟩
abbrev cX11_costs : ByteArray := prog_13_method_90_code
def yX11_costs : MethodName := ⟨RX11, "costs", "(II)I"⟩
abbrev cX11_is : ByteArray := prog_13_method_91_code
def yX11_is : MethodName := ⟨RX11, "is", "(I)I"⟩
abbrev cX11_lineOf : ByteArray := prog_13_method_92_code
def yX11_lineOf : MethodName := ⟨RX11, "lineOf", "(II)I"⟩
abbrev cX11_book : ByteArray := prog_13_method_93_code
def yX11_book : MethodName := ⟨RX11, "book", "(II)I"⟩
abbrev cX11_ledger : ByteArray := prog_13_method_94_code
def yX11_ledger : MethodName := ⟨RX11, "ledger", "(I)I"⟩
abbrev cX11_dearest : ByteArray := prog_13_method_95_code
def yX11_dearest : MethodName := ⟨RX11, "dearest", "()I"⟩
abbrev cX11_highest : ByteArray := prog_13_method_96_code
def yX11_highest : MethodName := ⟨RX11, "highest", "()I"⟩
abbrev cX11_foretold : ByteArray := prog_13_method_97_code
def yX11_foretold : MethodName := ⟨RX11, "foretold", "(I)I"⟩
abbrev cX11_twins : ByteArray := prog_13_method_98_code
def yX11_twins : MethodName := ⟨RX11, "twins", "()I"⟩
abbrev cX11_isFair : ByteArray := prog_13_method_99_code
def yX11_isFair : MethodName := ⟨RX11, "isFair", "()Z"⟩
abbrev cX11_fair : ByteArray := prog_13_method_100_code
def yX11_fair : MethodName := ⟨RX11, "fair", "()Z"⟩
abbrev cX11_left : ByteArray := prog_13_method_101_code
def yX11_left : MethodName := ⟨RX11, "left", "()I"⟩
abbrev cX11_twin : ByteArray := prog_13_method_102_code
def yX11_twin : MethodName := ⟨RX11, "twin", "(Z)I"⟩
abbrev cX11_layWho : ByteArray := prog_13_method_103_code
def yX11_layWho : MethodName := ⟨RX11, "layWho", "()V"⟩
abbrev cX11_areUnlike : ByteArray := prog_13_method_104_code
def yX11_areUnlike : MethodName := ⟨RX11, "areUnlike", "(I)Z"⟩
abbrev cX11_isLaid : ByteArray := prog_13_method_105_code
def yX11_isLaid : MethodName := ⟨RX11, "isLaid", "(II)Z"⟩
abbrev cX11_areOverTwo : ByteArray := prog_13_method_106_code
def yX11_areOverTwo : MethodName := ⟨RX11, "areOverTwo", "(II)Z"⟩
abbrev cX11_doFit : ByteArray := prog_13_method_107_code
def yX11_doFit : MethodName := ⟨RX11, "doFit", "(III)Z"⟩
abbrev cX11_canLabel : ByteArray := prog_13_method_108_code
def yX11_canLabel : MethodName := ⟨RX11, "canLabel", "(II)Z"⟩
abbrev cX11_labelled : ByteArray := prog_13_method_109_code
def yX11_labelled : MethodName := ⟨RX11, "labelled", "(IIZ)J"⟩
abbrev cX11_whole : ByteArray := prog_13_method_110_code
def yX11_whole : MethodName := ⟨RX11, "whole", "(I)I"⟩
abbrev cX11_wholes : ByteArray := prog_13_method_111_code
def yX11_wholes : MethodName := ⟨RX11, "wholes", "()J"⟩
abbrev cX11_span : ByteArray := prog_13_method_112_code
def yX11_span : MethodName := ⟨RX11, "span", "(I)I"⟩
abbrev cX11_apart : ByteArray := prog_13_method_113_code
def yX11_apart : MethodName := ⟨RX11, "apart", "(III)I"⟩
abbrev cX11_band : ByteArray := prog_13_method_114_code
def yX11_band : MethodName := ⟨RX11, "band", "(I)I"⟩
abbrev cX11_labelSum : ByteArray := prog_13_method_115_code
def yX11_labelSum : MethodName := ⟨RX11, "labelSum", "()I"⟩
abbrev cX11_isUsed : ByteArray := prog_13_method_116_code
def yX11_isUsed : MethodName := ⟨RX11, "isUsed", "(II)Z"⟩
abbrev cX11_total : ByteArray := prog_13_method_117_code
def yX11_total : MethodName := ⟨RX11, "total", "()I"⟩
abbrev cX11_layOpened : ByteArray := prog_13_method_118_code
def yX11_layOpened : MethodName := ⟨RX11, "layOpened", "()V"⟩
abbrev cX11_weightAt : ByteArray := prog_13_method_119_code
def yX11_weightAt : MethodName := ⟨RX11, "weightAt", "(I)I"⟩
abbrev cX11_isDone : ByteArray := prog_13_method_120_code
def yX11_isDone : MethodName := ⟨RX11, "isDone", "(II)Z"⟩
abbrev cX11_isWeighed : ByteArray := prog_13_method_121_code
def yX11_isWeighed : MethodName := ⟨RX11, "isWeighed", "(I)Z"⟩
abbrev cX11_areSums : ByteArray := prog_13_method_122_code
def yX11_areSums : MethodName := ⟨RX11, "areSums", "(ZI)Z"⟩
abbrev cX11_weighed : ByteArray := prog_13_method_123_code
def yX11_weighed : MethodName := ⟨RX11, "weighed", "(ZZ)J"⟩
abbrev cX11_alike : ByteArray := prog_13_method_124_code
def yX11_alike : MethodName := ⟨RX11, "alike", "(I)I"⟩
abbrev cX11_alikes : ByteArray := prog_13_method_125_code
def yX11_alikes : MethodName := ⟨RX11, "alikes", "()J"⟩
abbrev cX11_unlike : ByteArray := prog_13_method_126_code
def yX11_unlike : MethodName := ⟨RX11, "unlike", "(I)I"⟩
abbrev cX11_isFareLaid : ByteArray := prog_13_method_127_code
def yX11_isFareLaid : MethodName := ⟨RX11, "isFareLaid", "(III)Z"⟩
abbrev cX11_isFairSoFar : ByteArray := prog_13_method_128_code
def yX11_isFairSoFar : MethodName := ⟨RX11, "isFairSoFar", "(II)Z"⟩
abbrev cX11_isMended : ByteArray := prog_13_method_129_code
def yX11_isMended : MethodName := ⟨RX11, "isMended", "(I)Z"⟩
abbrev cX11_mend : ByteArray := prog_13_method_130_code
def yX11_mend : MethodName := ⟨RX11, "mend", "()I"⟩
abbrev cX11_names : ByteArray := prog_13_method_131_code
def yX11_names : MethodName := ⟨RX11, "names", "()I"⟩
abbrev cX11_isNamed : ByteArray := prog_13_method_132_code
def yX11_isNamed : MethodName := ⟨RX11, "isNamed", "(I)Z"⟩
abbrev cX11_comeBy : ByteArray := prog_13_method_133_code
def yX11_comeBy : MethodName := ⟨RX11, "comeBy", "(II)I"⟩
abbrev cX11_partsBy : ByteArray := prog_13_method_134_code
def yX11_partsBy : MethodName := ⟨RX11, "partsBy", "(I)I"⟩
abbrev cX11_parts : ByteArray := prog_13_method_135_code
def yX11_parts : MethodName := ⟨RX11, "parts", "()I"⟩
abbrev cX11_cuts : ByteArray := prog_13_method_136_code
def yX11_cuts : MethodName := ⟨RX11, "cuts", "()I"⟩
abbrev cX11_markOf : ByteArray := prog_13_method_137_code
def yX11_markOf : MethodName := ⟨RX11, "markOf", "(I)I"⟩
abbrev cX11_areHalts : ByteArray := prog_13_method_138_code
def yX11_areHalts : MethodName := ⟨RX11, "areHalts", "(I)Z"⟩
abbrev cX11_markFirst : ByteArray := prog_13_method_139_code
def yX11_markFirst : MethodName := ⟨RX11, "markFirst", "(I)I"⟩
abbrev cX11_game : ByteArray := prog_13_method_140_code
def yX11_game : MethodName := ⟨RX11, "game", "(I)I"⟩
abbrev cX11_mark : ByteArray := prog_13_method_141_code
def yX11_mark : MethodName := ⟨RX11, "mark", "(I)I"⟩
abbrev cX11_layRides : ByteArray := prog_13_method_142_code
def yX11_layRides : MethodName := ⟨RX11, "layRides", "(I)V"⟩
abbrev cX11_ride : ByteArray := prog_13_method_143_code
def yX11_ride : MethodName := ⟨RX11, "ride", "(II)I"⟩
abbrev cX11_isNext : ByteArray := prog_13_method_144_code
def yX11_isNext : MethodName := ⟨RX11, "isNext", "(II)Z"⟩
abbrev cX11_change : ByteArray := prog_13_method_145_code
def yX11_change : MethodName := ⟨RX11, "change", "(III)I"⟩
abbrev cX11_said : ByteArray := prog_13_method_146_code
def yX11_said : MethodName := ⟨RX11, "said", "(II)I"⟩
abbrev cX11_whose : ByteArray := prog_13_method_147_code
def yX11_whose : MethodName := ⟨RX11, "whose", "()I"⟩
abbrev cX11_image : ByteArray := prog_13_method_148_code
def yX11_image : MethodName := ⟨RX11, "image", "()I"⟩
abbrev cX11_back : ByteArray := prog_13_method_149_code
def yX11_back : MethodName := ⟨RX11, "back", "()I"⟩
abbrev cX11_about : ByteArray := prog_13_method_150_code
def yX11_about : MethodName := ⟨RX11, "about", "(I)I"⟩
def RJ6 : String := "java/lang/Integer"
def TJ6 : u_T := fun k => match k with
  | _ => ("", "", "", false)
def tyJ6 : Nat → FieldType := fun k => match k with
  | _ => .int
theorem nmJ6 : ∀ a, a < 0 → ∀ b, b < 0 → a ≠ b → (TJ6 a).2.1 ≠ (TJ6 b).2.1 := by decide +kernel
theorem tyJ6_ok : ∀ k, k < 0 → parseFieldDescriptor (TJ6 k).2.2.1 = some (tyJ6 k) := by decide +kernel
abbrev cJ6_bitCount_0f7a4 : ByteArray := prog_14_method_49_code
def yJ6_bitCount_0f7a4 : MethodName := ⟨RJ6, "bitCount", "(I)I"⟩
def RJ13 : String := "java/lang/Long"
def TJ13 : u_T := fun k => match k with
  | _ => ("", "", "", false)
def tyJ13 : Nat → FieldType := fun k => match k with
  | _ => .int
theorem nmJ13 : ∀ a, a < 0 → ∀ b, b < 0 → a ≠ b → (TJ13 a).2.1 ≠ (TJ13 b).2.1 := by decide +kernel
theorem tyJ13_ok : ∀ k, k < 0 → parseFieldDescriptor (TJ13 k).2.2.1 = some (tyJ13 k) := by decide +kernel
abbrev cJ13_bitCount_95d88 : ByteArray := prog_15_method_50_code
def yJ13_bitCount_95d88 : MethodName := ⟨RJ13, "bitCount", "(J)I"⟩
def RJ9 : String := "java/lang/Math"
def TJ9 : u_T := fun k => match k with
  | _ => ("", "", "", false)
def tyJ9 : Nat → FieldType := fun k => match k with
  | _ => .int
theorem nmJ9 : ∀ a, a < 0 → ∀ b, b < 0 → a ≠ b → (TJ9 a).2.1 ≠ (TJ9 b).2.1 := by decide +kernel
theorem tyJ9_ok : ∀ k, k < 0 → parseFieldDescriptor (TJ9 k).2.2.1 = some (tyJ9 k) := by decide +kernel
abbrev cJ9_abs_0f7a4 : ByteArray := prog_16_method_59_code
def yJ9_abs_0f7a4 : MethodName := ⟨RJ9, "abs", "(I)I"⟩
abbrev cJ9_max_7cf53 : ByteArray := prog_16_method_65_code
def yJ9_max_7cf53 : MethodName := ⟨RJ9, "max", "(II)I"⟩
abbrev cJ9_max_f86c9 : ByteArray := prog_16_method_66_code
def yJ9_max_f86c9 : MethodName := ⟨RJ9, "max", "(JJ)J"⟩
abbrev cJ9_min_7cf53 : ByteArray := prog_16_method_69_code
def yJ9_min_7cf53 : MethodName := ⟨RJ9, "min", "(II)I"⟩
abbrev cJ9_min_f86c9 : ByteArray := prog_16_method_70_code
def yJ9_min_f86c9 : MethodName := ⟨RJ9, "min", "(JJ)J"⟩
def RJ0 : String := "java/lang/String"
def TJ0 : u_T := fun k => match k with
  | _ => ("", "", "", false)
def tyJ0 : Nat → FieldType := fun k => match k with
  | _ => .int
theorem nmJ0 : ∀ a, a < 0 → ∀ b, b < 0 → a ≠ b → (TJ0 a).2.1 ≠ (TJ0 b).2.1 := by decide +kernel
theorem tyJ0_ok : ∀ k, k < 0 → parseFieldDescriptor (TJ0 k).2.2.1 = some (tyJ0 k) := by decide +kernel
abbrev cJ0_charAt_5068e : ByteArray := prog_17_method_56_code
def yJ0_charAt_5068e : MethodName := ⟨RJ0, "charAt", "(I)C"⟩
abbrev cJ0_isLatin1_aae02 : ByteArray := prog_17_method_154_code
def yJ0_isLatin1_aae02 : MethodName := ⟨RJ0, "isLatin1", "()Z"⟩
abbrev cJ0_checkIndex_df160 : ByteArray := prog_17_method_155_code
def yJ0_checkIndex_df160 : MethodName := ⟨RJ0, "checkIndex", "(II)V"⟩
def RJ1 : String := "java/lang/StringLatin1"
def TJ1 : u_T := fun k => match k with
  | _ => ("", "", "", false)
def tyJ1 : Nat → FieldType := fun k => match k with
  | _ => .int
theorem nmJ1 : ∀ a, a < 0 → ∀ b, b < 0 → a ≠ b → (TJ1 a).2.1 ≠ (TJ1 b).2.1 := by decide +kernel
theorem tyJ1_ok : ∀ k, k < 0 → parseFieldDescriptor (TJ1 k).2.2.1 = some (tyJ1 k) := by decide +kernel
abbrev cJ1_charAt_3b067 : ByteArray := prog_18_method_2_code
def yJ1_charAt_3b067 : MethodName := ⟨RJ1, "charAt", "([BI)C"⟩
def RJ2 : String := "java/lang/StringUTF16"
def TJ2 : u_T := fun k => match k with
  | _ => ("", "", "", false)
def tyJ2 : Nat → FieldType := fun k => match k with
  | _ => .int
theorem nmJ2 : ∀ a, a < 0 → ∀ b, b < 0 → a ≠ b → (TJ2 a).2.1 ≠ (TJ2 b).2.1 := by decide +kernel
theorem tyJ2_ok : ∀ k, k < 0 → parseFieldDescriptor (TJ2 k).2.2.1 = some (tyJ2 k) := by decide +kernel
abbrev cJ2_getChar_3b067 : ByteArray := prog_19_method_5_code
def yJ2_getChar_3b067 : MethodName := ⟨RJ2, "getChar", "([BI)C"⟩
abbrev cJ2_length_9d52b : ByteArray := prog_19_method_6_code
def yJ2_length_9d52b : MethodName := ⟨RJ2, "length", "([B)I"⟩
abbrev cJ2_charAt_3b067 : ByteArray := prog_19_method_83_code
def yJ2_charAt_3b067 : MethodName := ⟨RJ2, "charAt", "([BI)C"⟩
abbrev cJ2_checkIndex_2214a : ByteArray := prog_19_method_91_code
def yJ2_checkIndex_2214a : MethodName := ⟨RJ2, "checkIndex", "(I[B)V"⟩
def RJ10 : String := "java/lang/System"
def TJ10 : u_T := fun k => match k with
  | _ => ("", "", "", false)
def tyJ10 : Nat → FieldType := fun k => match k with
  | _ => .int
theorem nmJ10 : ∀ a, a < 0 → ∀ b, b < 0 → a ≠ b → (TJ10 a).2.1 ≠ (TJ10 b).2.1 := by decide +kernel
theorem tyJ10_ok : ∀ k, k < 0 → parseFieldDescriptor (TJ10 k).2.2.1 = some (tyJ10 k) := by decide +kernel
def RJ3 : String := "jdk/internal/util/Preconditions"
def TJ3 : u_T := fun k => match k with
  | _ => ("", "", "", false)
def tyJ3 : Nat → FieldType := fun k => match k with
  | _ => .int
theorem nmJ3 : ∀ a, a < 0 → ∀ b, b < 0 → a ≠ b → (TJ3 a).2.1 ≠ (TJ3 b).2.1 := by decide +kernel
theorem tyJ3_ok : ∀ k, k < 0 → parseFieldDescriptor (TJ3 k).2.2.1 = some (tyJ3 k) := by decide +kernel
abbrev cJ3_checkIndex_8e157 : ByteArray := prog_21_method_11_code
def yJ3_checkIndex_8e157 : MethodName := ⟨RJ3, "checkIndex", "(IILjava/util/function/BiFunction;)I"⟩
def RL : String := "FareNumbersLaw"
abbrev cL_law : ByteArray := code
def yL_law : MethodName := ⟨RL, "law", "([I)Z"⟩
abbrev vwCl : List vw_C := [(RX0, TX0, 8), (RX1, TX1, 15), (RX2, TX2, 8), (RX3, TX3, 11), (RX4, TX4, 7), (RX5, TX5, 4), (RX6, TX6, 10), (RX7, TX7, 3), (RX8, TX8, 11), (RX9, TX9, 14), (RX10, TX10, 10), (RX11, TX11, 38)]
