-- ===== PART A: goes FIRST, ahead of the names: the tables' words, and 'selects' of the private methods out of them =====
/-- a private method of a class that the tables say can be made, by its rows of tables_1 -/
def lw_okq (q : MethodName × Nat) : Prop := (q.1.cls ≠ "java/lang/invoke/MethodHandle" ∧ q.1.cls ≠ "java/lang/invoke/VarHandle") ∧ Cond.instantiable q.1.cls q.2 ∈ tables_1 ∧ Cond.privateMethod q.1 ∈ tables_1 ∧ Cond.instanceMethod q.1 ∈ tables_1
theorem lw_p0 : lw_okq (⟨"CoinBoats", "append", "(I)V"⟩, 13) := ⟨⟨by decide +kernel, by decide +kernel⟩, List.mem_of_getElem? (i := 22) (by decide +kernel), List.mem_of_getElem? (i := 396) (by decide +kernel), List.mem_of_getElem? (i := 397) (by decide +kernel)⟩
theorem lw_p1 : lw_okq (⟨"CoinBoats$Tokens", "skipBlanks", "([B)V"⟩, 7) := ⟨⟨by decide +kernel, by decide +kernel⟩, List.mem_of_getElem? (i := 140) (by decide +kernel), List.mem_of_getElem? (i := 438) (by decide +kernel), List.mem_of_getElem? (i := 439) (by decide +kernel)⟩
theorem lw_p2 : lw_okq (⟨"CoinBoats$Tokens", "byteAt", "([BI)I"⟩, 7) := ⟨⟨by decide +kernel, by decide +kernel⟩, List.mem_of_getElem? (i := 140) (by decide +kernel), List.mem_of_getElem? (i := 442) (by decide +kernel), List.mem_of_getElem? (i := 443) (by decide +kernel)⟩
theorem lw_p3 : lw_okq (⟨"CoinBoats$Tokens", "next", "([B)I"⟩, 7) := ⟨⟨by decide +kernel, by decide +kernel⟩, List.mem_of_getElem? (i := 140) (by decide +kernel), List.mem_of_getElem? (i := 449) (by decide +kernel), List.mem_of_getElem? (i := 450) (by decide +kernel)⟩
theorem lw_p4 : lw_okq (⟨"CoinBoats$Tokens", "word", "([B)I"⟩, 7) := ⟨⟨by decide +kernel, by decide +kernel⟩, List.mem_of_getElem? (i := 140) (by decide +kernel), List.mem_of_getElem? (i := 456) (by decide +kernel), List.mem_of_getElem? (i := 457) (by decide +kernel)⟩
theorem lw_p5 : lw_okq (⟨"CoinBoats$Tokens", "isWord", "([BII)Z"⟩, 7) := ⟨⟨by decide +kernel, by decide +kernel⟩, List.mem_of_getElem? (i := 140) (by decide +kernel), List.mem_of_getElem? (i := 460) (by decide +kernel), List.mem_of_getElem? (i := 461) (by decide +kernel)⟩
theorem lw_p6 : lw_okq (⟨"CoinBoats$Tokens", "digits", "([B)I"⟩, 7) := ⟨⟨by decide +kernel, by decide +kernel⟩, List.mem_of_getElem? (i := 140) (by decide +kernel), List.mem_of_getElem? (i := 516) (by decide +kernel), List.mem_of_getElem? (i := 517) (by decide +kernel)⟩
theorem lw_p7 : lw_okq (⟨"CoinBoats$Reader", "upcoming", "()I"⟩, 8) := ⟨⟨by decide +kernel, by decide +kernel⟩, List.mem_of_getElem? (i := 134) (by decide +kernel), List.mem_of_getElem? (i := 578) (by decide +kernel), List.mem_of_getElem? (i := 579) (by decide +kernel)⟩
theorem lw_p8 : lw_okq (⟨"CoinBoats$Reader", "tell", "(LCoinBoats$Text;I)V"⟩, 8) := ⟨⟨by decide +kernel, by decide +kernel⟩, List.mem_of_getElem? (i := 134) (by decide +kernel), List.mem_of_getElem? (i := 586) (by decide +kernel), List.mem_of_getElem? (i := 587) (by decide +kernel)⟩
theorem lw_p9 : lw_okq (⟨"CoinBoats$Reader", "tellKind", "(LCoinBoats$Rows;)V"⟩, 8) := ⟨⟨by decide +kernel, by decide +kernel⟩, List.mem_of_getElem? (i := 134) (by decide +kernel), List.mem_of_getElem? (i := 590) (by decide +kernel), List.mem_of_getElem? (i := 591) (by decide +kernel)⟩
theorem lw_p10 : lw_okq (⟨"CoinBoats$Reader", "open", "(LCoinBoats$Rows;)I"⟩, 8) := ⟨⟨by decide +kernel, by decide +kernel⟩, List.mem_of_getElem? (i := 134) (by decide +kernel), List.mem_of_getElem? (i := 594) (by decide +kernel), List.mem_of_getElem? (i := 595) (by decide +kernel)⟩
theorem lw_p11 : lw_okq (⟨"CoinBoats$Reader", "fail", "(I)V"⟩, 8) := ⟨⟨by decide +kernel, by decide +kernel⟩, List.mem_of_getElem? (i := 134) (by decide +kernel), List.mem_of_getElem? (i := 602) (by decide +kernel), List.mem_of_getElem? (i := 603) (by decide +kernel)⟩
theorem lw_p12 : lw_okq (⟨"CoinBoats$Reader", "accept", "()V"⟩, 8) := ⟨⟨by decide +kernel, by decide +kernel⟩, List.mem_of_getElem? (i := 134) (by decide +kernel), List.mem_of_getElem? (i := 606) (by decide +kernel), List.mem_of_getElem? (i := 607) (by decide +kernel)⟩
theorem lw_p13 : lw_okq (⟨"CoinBoats$Rows", "cell", "(II)I"⟩, 4) := ⟨⟨by decide +kernel, by decide +kernel⟩, List.mem_of_getElem? (i := 36) (by decide +kernel), List.mem_of_getElem? (i := 619) (by decide +kernel), List.mem_of_getElem? (i := 620) (by decide +kernel)⟩
theorem lw_p14 : lw_okq (⟨"CoinBoats$Reader", "newName", "([JI)V"⟩, 8) := ⟨⟨by decide +kernel, by decide +kernel⟩, List.mem_of_getElem? (i := 134) (by decide +kernel), List.mem_of_getElem? (i := 623) (by decide +kernel), List.mem_of_getElem? (i := 624) (by decide +kernel)⟩
theorem lw_p15 : lw_okq (⟨"CoinBoats$Reader", "failLater", "(II)V"⟩, 8) := ⟨⟨by decide +kernel, by decide +kernel⟩, List.mem_of_getElem? (i := 134) (by decide +kernel), List.mem_of_getElem? (i := 634) (by decide +kernel), List.mem_of_getElem? (i := 635) (by decide +kernel)⟩
def lw_privs_1 : List (MethodName × Nat) := [(⟨"CoinBoats", "append", "(I)V"⟩, 13), (⟨"CoinBoats$Tokens", "skipBlanks", "([B)V"⟩, 7), (⟨"CoinBoats$Tokens", "byteAt", "([BI)I"⟩, 7), (⟨"CoinBoats$Tokens", "next", "([B)I"⟩, 7), (⟨"CoinBoats$Tokens", "word", "([B)I"⟩, 7), (⟨"CoinBoats$Tokens", "isWord", "([BII)Z"⟩, 7), (⟨"CoinBoats$Tokens", "digits", "([B)I"⟩, 7), (⟨"CoinBoats$Reader", "upcoming", "()I"⟩, 8), (⟨"CoinBoats$Reader", "tell", "(LCoinBoats$Text;I)V"⟩, 8), (⟨"CoinBoats$Reader", "tellKind", "(LCoinBoats$Rows;)V"⟩, 8), (⟨"CoinBoats$Reader", "open", "(LCoinBoats$Rows;)I"⟩, 8), (⟨"CoinBoats$Reader", "fail", "(I)V"⟩, 8), (⟨"CoinBoats$Reader", "accept", "()V"⟩, 8), (⟨"CoinBoats$Rows", "cell", "(II)I"⟩, 4), (⟨"CoinBoats$Reader", "newName", "([JI)V"⟩, 8), (⟨"CoinBoats$Reader", "failLater", "(II)V"⟩, 8)]
theorem lw_r1 : ∀ q ∈ lw_privs_1, lw_okq q := List.forall_mem_cons.mpr ⟨lw_p0, List.forall_mem_cons.mpr ⟨lw_p1, List.forall_mem_cons.mpr ⟨lw_p2, List.forall_mem_cons.mpr ⟨lw_p3, List.forall_mem_cons.mpr ⟨lw_p4, List.forall_mem_cons.mpr ⟨lw_p5, List.forall_mem_cons.mpr ⟨lw_p6, List.forall_mem_cons.mpr ⟨lw_p7, List.forall_mem_cons.mpr ⟨lw_p8, List.forall_mem_cons.mpr ⟨lw_p9, List.forall_mem_cons.mpr ⟨lw_p10, List.forall_mem_cons.mpr ⟨lw_p11, List.forall_mem_cons.mpr ⟨lw_p12, List.forall_mem_cons.mpr ⟨lw_p13, List.forall_mem_cons.mpr ⟨lw_p14, List.forall_mem_cons.mpr ⟨lw_p15, fun _ h => absurd h List.not_mem_nil⟩⟩⟩⟩⟩⟩⟩⟩⟩⟩⟩⟩⟩⟩⟩⟩
theorem lw_p16 : lw_okq (⟨"CoinBoats$Reader", "expect", "(I)V"⟩, 8) := ⟨⟨by decide +kernel, by decide +kernel⟩, List.mem_of_getElem? (i := 134) (by decide +kernel), List.mem_of_getElem? (i := 638) (by decide +kernel), List.mem_of_getElem? (i := 639) (by decide +kernel)⟩
theorem lw_p17 : lw_okq (⟨"CoinBoats$Reader", "number", "(II)I"⟩, 8) := ⟨⟨by decide +kernel, by decide +kernel⟩, List.mem_of_getElem? (i := 134) (by decide +kernel), List.mem_of_getElem? (i := 642) (by decide +kernel), List.mem_of_getElem? (i := 643) (by decide +kernel)⟩
theorem lw_p18 : lw_okq (⟨"CoinBoats$Reader", "tellIsland", "(LCoinBoats$Rows;)V"⟩, 8) := ⟨⟨by decide +kernel, by decide +kernel⟩, List.mem_of_getElem? (i := 134) (by decide +kernel), List.mem_of_getElem? (i := 647) (by decide +kernel), List.mem_of_getElem? (i := 648) (by decide +kernel)⟩
theorem lw_p19 : lw_okq (⟨"CoinBoats$Reader", "tellOfIsland", "(LCoinBoats$Rows;)V"⟩, 8) := ⟨⟨by decide +kernel, by decide +kernel⟩, List.mem_of_getElem? (i := 134) (by decide +kernel), List.mem_of_getElem? (i := 651) (by decide +kernel), List.mem_of_getElem? (i := 652) (by decide +kernel)⟩
theorem lw_p20 : lw_okq (⟨"CoinBoats$Reader", "placeTold", "(Z)I"⟩, 8) := ⟨⟨by decide +kernel, by decide +kernel⟩, List.mem_of_getElem? (i := 134) (by decide +kernel), List.mem_of_getElem? (i := 655) (by decide +kernel), List.mem_of_getElem? (i := 656) (by decide +kernel)⟩
theorem lw_p21 : lw_okq (⟨"CoinBoats$Reader", "nameTold", "(I)I"⟩, 8) := ⟨⟨by decide +kernel, by decide +kernel⟩, List.mem_of_getElem? (i := 134) (by decide +kernel), List.mem_of_getElem? (i := 659) (by decide +kernel), List.mem_of_getElem? (i := 660) (by decide +kernel)⟩
theorem lw_p22 : lw_okq (⟨"CoinBoats$Reader", "kindTold", "()I"⟩, 8) := ⟨⟨by decide +kernel, by decide +kernel⟩, List.mem_of_getElem? (i := 134) (by decide +kernel), List.mem_of_getElem? (i := 663) (by decide +kernel), List.mem_of_getElem? (i := 664) (by decide +kernel)⟩
theorem lw_p23 : lw_okq (⟨"CoinBoats$Reader", "equation", "(LCoinBoats$Rows;LCoinBoats$Formulas;)V"⟩, 8) := ⟨⟨by decide +kernel, by decide +kernel⟩, List.mem_of_getElem? (i := 134) (by decide +kernel), List.mem_of_getElem? (i := 667) (by decide +kernel), List.mem_of_getElem? (i := 668) (by decide +kernel)⟩
theorem lw_p24 : lw_okq (⟨"CoinBoats$Reader", "sum", "(LCoinBoats$Formulas;I)V"⟩, 8) := ⟨⟨by decide +kernel, by decide +kernel⟩, List.mem_of_getElem? (i := 134) (by decide +kernel), List.mem_of_getElem? (i := 679) (by decide +kernel), List.mem_of_getElem? (i := 680) (by decide +kernel)⟩
theorem lw_p25 : lw_okq (⟨"CoinBoats$Reader", "product", "(LCoinBoats$Formulas;I)V"⟩, 8) := ⟨⟨by decide +kernel, by decide +kernel⟩, List.mem_of_getElem? (i := 134) (by decide +kernel), List.mem_of_getElem? (i := 683) (by decide +kernel), List.mem_of_getElem? (i := 684) (by decide +kernel)⟩
theorem lw_p26 : lw_okq (⟨"CoinBoats$Reader", "unit", "(LCoinBoats$Formulas;I)V"⟩, 8) := ⟨⟨by decide +kernel, by decide +kernel⟩, List.mem_of_getElem? (i := 134) (by decide +kernel), List.mem_of_getElem? (i := 687) (by decide +kernel), List.mem_of_getElem? (i := 688) (by decide +kernel)⟩
theorem lw_p27 : lw_okq (⟨"CoinBoats$Reader", "nest", "(LCoinBoats$Formulas;I)V"⟩, 8) := ⟨⟨by decide +kernel, by decide +kernel⟩, List.mem_of_getElem? (i := 134) (by decide +kernel), List.mem_of_getElem? (i := 696) (by decide +kernel), List.mem_of_getElem? (i := 697) (by decide +kernel)⟩
theorem lw_p28 : lw_okq (⟨"CoinBoats$Reader", "tellFlow", "(LCoinBoats$Rows;)V"⟩, 8) := ⟨⟨by decide +kernel, by decide +kernel⟩, List.mem_of_getElem? (i := 134) (by decide +kernel), List.mem_of_getElem? (i := 700) (by decide +kernel), List.mem_of_getElem? (i := 701) (by decide +kernel)⟩
theorem lw_p29 : lw_okq (⟨"CoinBoats$Reader", "tellWear", "(LCoinBoats$Rows;)V"⟩, 8) := ⟨⟨by decide +kernel, by decide +kernel⟩, List.mem_of_getElem? (i := 134) (by decide +kernel), List.mem_of_getElem? (i := 704) (by decide +kernel), List.mem_of_getElem? (i := 705) (by decide +kernel)⟩
theorem lw_p30 : lw_okq (⟨"CoinBoats$Reader", "tellBoat", "(LCoinBoats$Rows;LCoinBoats$Text;)V"⟩, 8) := ⟨⟨by decide +kernel, by decide +kernel⟩, List.mem_of_getElem? (i := 134) (by decide +kernel), List.mem_of_getElem? (i := 708) (by decide +kernel), List.mem_of_getElem? (i := 709) (by decide +kernel)⟩
theorem lw_p31 : lw_okq (⟨"CoinBoats", "isOf", "(II)Z"⟩, 13) := ⟨⟨by decide +kernel, by decide +kernel⟩, List.mem_of_getElem? (i := 22) (by decide +kernel), List.mem_of_getElem? (i := 774) (by decide +kernel), List.mem_of_getElem? (i := 775) (by decide +kernel)⟩
def lw_privs_2 : List (MethodName × Nat) := [(⟨"CoinBoats$Reader", "expect", "(I)V"⟩, 8), (⟨"CoinBoats$Reader", "number", "(II)I"⟩, 8), (⟨"CoinBoats$Reader", "tellIsland", "(LCoinBoats$Rows;)V"⟩, 8), (⟨"CoinBoats$Reader", "tellOfIsland", "(LCoinBoats$Rows;)V"⟩, 8), (⟨"CoinBoats$Reader", "placeTold", "(Z)I"⟩, 8), (⟨"CoinBoats$Reader", "nameTold", "(I)I"⟩, 8), (⟨"CoinBoats$Reader", "kindTold", "()I"⟩, 8), (⟨"CoinBoats$Reader", "equation", "(LCoinBoats$Rows;LCoinBoats$Formulas;)V"⟩, 8), (⟨"CoinBoats$Reader", "sum", "(LCoinBoats$Formulas;I)V"⟩, 8), (⟨"CoinBoats$Reader", "product", "(LCoinBoats$Formulas;I)V"⟩, 8), (⟨"CoinBoats$Reader", "unit", "(LCoinBoats$Formulas;I)V"⟩, 8), (⟨"CoinBoats$Reader", "nest", "(LCoinBoats$Formulas;I)V"⟩, 8), (⟨"CoinBoats$Reader", "tellFlow", "(LCoinBoats$Rows;)V"⟩, 8), (⟨"CoinBoats$Reader", "tellWear", "(LCoinBoats$Rows;)V"⟩, 8), (⟨"CoinBoats$Reader", "tellBoat", "(LCoinBoats$Rows;LCoinBoats$Text;)V"⟩, 8), (⟨"CoinBoats", "isOf", "(II)Z"⟩, 13)]
theorem lw_r2 : ∀ q ∈ lw_privs_2, lw_okq q := List.forall_mem_cons.mpr ⟨lw_p16, List.forall_mem_cons.mpr ⟨lw_p17, List.forall_mem_cons.mpr ⟨lw_p18, List.forall_mem_cons.mpr ⟨lw_p19, List.forall_mem_cons.mpr ⟨lw_p20, List.forall_mem_cons.mpr ⟨lw_p21, List.forall_mem_cons.mpr ⟨lw_p22, List.forall_mem_cons.mpr ⟨lw_p23, List.forall_mem_cons.mpr ⟨lw_p24, List.forall_mem_cons.mpr ⟨lw_p25, List.forall_mem_cons.mpr ⟨lw_p26, List.forall_mem_cons.mpr ⟨lw_p27, List.forall_mem_cons.mpr ⟨lw_p28, List.forall_mem_cons.mpr ⟨lw_p29, List.forall_mem_cons.mpr ⟨lw_p30, List.forall_mem_cons.mpr ⟨lw_p31, fun _ h => absurd h List.not_mem_nil⟩⟩⟩⟩⟩⟩⟩⟩⟩⟩⟩⟩⟩⟩⟩⟩
theorem lw_p32 : lw_okq (⟨"CoinBoats$Formulas", "push", "(I)V"⟩, 5) := ⟨⟨by decide +kernel, by decide +kernel⟩, List.mem_of_getElem? (i := 60) (by decide +kernel), List.mem_of_getElem? (i := 794) (by decide +kernel), List.mem_of_getElem? (i := 795) (by decide +kernel)⟩
theorem lw_p33 : lw_okq (⟨"CoinBoats$Formulas", "pop", "()I"⟩, 5) := ⟨⟨by decide +kernel, by decide +kernel⟩, List.mem_of_getElem? (i := 60) (by decide +kernel), List.mem_of_getElem? (i := 798) (by decide +kernel), List.mem_of_getElem? (i := 799) (by decide +kernel)⟩
theorem lw_p34 : lw_okq (⟨"CoinBoats$Formulas", "joined", "(III)I"⟩, 5) := ⟨⟨by decide +kernel, by decide +kernel⟩, List.mem_of_getElem? (i := 60) (by decide +kernel), List.mem_of_getElem? (i := 802) (by decide +kernel), List.mem_of_getElem? (i := 803) (by decide +kernel)⟩
theorem lw_p35 : lw_okq (⟨"CoinBoats$Calendar", "refusal", "(LCoinBoats$Text;LCoinBoats$Rows;ILCoinBoats$Pieces;IZ)I"⟩, 3) := ⟨⟨by decide +kernel, by decide +kernel⟩, List.mem_of_getElem? (i := 262) (by decide +kernel), List.mem_of_getElem? (i := 879) (by decide +kernel), List.mem_of_getElem? (i := 880) (by decide +kernel)⟩
theorem lw_p36 : lw_okq (⟨"CoinBoats$Calendar", "carry", "(LCoinBoats$Text;LCoinBoats$Rows;ILCoinBoats$Pieces;)V"⟩, 3) := ⟨⟨by decide +kernel, by decide +kernel⟩, List.mem_of_getElem? (i := 262) (by decide +kernel), List.mem_of_getElem? (i := 898) (by decide +kernel), List.mem_of_getElem? (i := 899) (by decide +kernel)⟩
theorem lw_p37 : lw_okq (⟨"CoinBoats$Calendar", "sail", "(LCoinBoats$Text;LCoinBoats$State;I)V"⟩, 3) := ⟨⟨by decide +kernel, by decide +kernel⟩, List.mem_of_getElem? (i := 262) (by decide +kernel), List.mem_of_getElem? (i := 925) (by decide +kernel), List.mem_of_getElem? (i := 926) (by decide +kernel)⟩
theorem lw_p38 : lw_okq (⟨"CoinBoats$Coins", "fill", "([IIII)V"⟩, 4) := ⟨⟨by decide +kernel, by decide +kernel⟩, List.mem_of_getElem? (i := 282) (by decide +kernel), List.mem_of_getElem? (i := 987) (by decide +kernel), List.mem_of_getElem? (i := 988) (by decide +kernel)⟩
theorem lw_p39 : lw_okq (⟨"CoinBoats$Coins", "ofKind", "([IIII)I"⟩, 4) := ⟨⟨by decide +kernel, by decide +kernel⟩, List.mem_of_getElem? (i := 282) (by decide +kernel), List.mem_of_getElem? (i := 1010) (by decide +kernel), List.mem_of_getElem? (i := 1011) (by decide +kernel)⟩
theorem lw_p40 : lw_okq (⟨"CoinBoats$Coins", "mostOf", "([IIIII)I"⟩, 4) := ⟨⟨by decide +kernel, by decide +kernel⟩, List.mem_of_getElem? (i := 282) (by decide +kernel), List.mem_of_getElem? (i := 1014) (by decide +kernel), List.mem_of_getElem? (i := 1015) (by decide +kernel)⟩
theorem lw_p41 : lw_okq (⟨"CoinBoats$Coins", "hasOne", "(I)Z"⟩, 4) := ⟨⟨by decide +kernel, by decide +kernel⟩, List.mem_of_getElem? (i := 282) (by decide +kernel), List.mem_of_getElem? (i := 1042) (by decide +kernel), List.mem_of_getElem? (i := 1043) (by decide +kernel)⟩
theorem lw_p42 : lw_okq (⟨"CoinBoats", "isPlan", "(IIIII)Z"⟩, 13) := ⟨⟨by decide +kernel, by decide +kernel⟩, List.mem_of_getElem? (i := 22) (by decide +kernel), List.mem_of_getElem? (i := 1066) (by decide +kernel), List.mem_of_getElem? (i := 1067) (by decide +kernel)⟩
theorem lw_p43 : lw_okq (⟨"CoinBoats$Stocks", "takeWanted", "(IIIJ)V"⟩, 3) := ⟨⟨by decide +kernel, by decide +kernel⟩, List.mem_of_getElem? (i := 303) (by decide +kernel), List.mem_of_getElem? (i := 1076) (by decide +kernel), List.mem_of_getElem? (i := 1077) (by decide +kernel)⟩
theorem lw_p44 : lw_okq (⟨"CoinBoats$Stocks", "chooseOrders", "(LCoinBoats$Text;IIIJ)V"⟩, 3) := ⟨⟨by decide +kernel, by decide +kernel⟩, List.mem_of_getElem? (i := 303) (by decide +kernel), List.mem_of_getElem? (i := 1085) (by decide +kernel), List.mem_of_getElem? (i := 1086) (by decide +kernel)⟩
theorem lw_p45 : lw_okq (⟨"CoinBoats$Stocks", "behind", "(I)J"⟩, 3) := ⟨⟨by decide +kernel, by decide +kernel⟩, List.mem_of_getElem? (i := 303) (by decide +kernel), List.mem_of_getElem? (i := 1091) (by decide +kernel), List.mem_of_getElem? (i := 1092) (by decide +kernel)⟩
theorem lw_p46 : lw_okq (⟨"CoinBoats", "isShare", "(III)Z"⟩, 13) := ⟨⟨by decide +kernel, by decide +kernel⟩, List.mem_of_getElem? (i := 22) (by decide +kernel), List.mem_of_getElem? (i := 1112) (by decide +kernel), List.mem_of_getElem? (i := 1113) (by decide +kernel)⟩
theorem lw_p47 : lw_okq (⟨"CoinBoats", "isKnown", "(I)Z"⟩, 13) := ⟨⟨by decide +kernel, by decide +kernel⟩, List.mem_of_getElem? (i := 22) (by decide +kernel), List.mem_of_getElem? (i := 1159) (by decide +kernel), List.mem_of_getElem? (i := 1160) (by decide +kernel)⟩
def lw_privs_3 : List (MethodName × Nat) := [(⟨"CoinBoats$Formulas", "push", "(I)V"⟩, 5), (⟨"CoinBoats$Formulas", "pop", "()I"⟩, 5), (⟨"CoinBoats$Formulas", "joined", "(III)I"⟩, 5), (⟨"CoinBoats$Calendar", "refusal", "(LCoinBoats$Text;LCoinBoats$Rows;ILCoinBoats$Pieces;IZ)I"⟩, 3), (⟨"CoinBoats$Calendar", "carry", "(LCoinBoats$Text;LCoinBoats$Rows;ILCoinBoats$Pieces;)V"⟩, 3), (⟨"CoinBoats$Calendar", "sail", "(LCoinBoats$Text;LCoinBoats$State;I)V"⟩, 3), (⟨"CoinBoats$Coins", "fill", "([IIII)V"⟩, 4), (⟨"CoinBoats$Coins", "ofKind", "([IIII)I"⟩, 4), (⟨"CoinBoats$Coins", "mostOf", "([IIIII)I"⟩, 4), (⟨"CoinBoats$Coins", "hasOne", "(I)Z"⟩, 4), (⟨"CoinBoats", "isPlan", "(IIIII)Z"⟩, 13), (⟨"CoinBoats$Stocks", "takeWanted", "(IIIJ)V"⟩, 3), (⟨"CoinBoats$Stocks", "chooseOrders", "(LCoinBoats$Text;IIIJ)V"⟩, 3), (⟨"CoinBoats$Stocks", "behind", "(I)J"⟩, 3), (⟨"CoinBoats", "isShare", "(III)Z"⟩, 13), (⟨"CoinBoats", "isKnown", "(I)Z"⟩, 13)]
theorem lw_r3 : ∀ q ∈ lw_privs_3, lw_okq q := List.forall_mem_cons.mpr ⟨lw_p32, List.forall_mem_cons.mpr ⟨lw_p33, List.forall_mem_cons.mpr ⟨lw_p34, List.forall_mem_cons.mpr ⟨lw_p35, List.forall_mem_cons.mpr ⟨lw_p36, List.forall_mem_cons.mpr ⟨lw_p37, List.forall_mem_cons.mpr ⟨lw_p38, List.forall_mem_cons.mpr ⟨lw_p39, List.forall_mem_cons.mpr ⟨lw_p40, List.forall_mem_cons.mpr ⟨lw_p41, List.forall_mem_cons.mpr ⟨lw_p42, List.forall_mem_cons.mpr ⟨lw_p43, List.forall_mem_cons.mpr ⟨lw_p44, List.forall_mem_cons.mpr ⟨lw_p45, List.forall_mem_cons.mpr ⟨lw_p46, List.forall_mem_cons.mpr ⟨lw_p47, fun _ h => absurd h List.not_mem_nil⟩⟩⟩⟩⟩⟩⟩⟩⟩⟩⟩⟩⟩⟩⟩⟩
theorem lw_p48 : lw_okq (⟨"CoinBoats$Ledger", "enter", "(LCoinBoats$Rows;I)V"⟩, 8) := ⟨⟨by decide +kernel, by decide +kernel⟩, List.mem_of_getElem? (i := 319) (by decide +kernel), List.mem_of_getElem? (i := 1172) (by decide +kernel), List.mem_of_getElem? (i := 1173) (by decide +kernel)⟩
theorem lw_p49 : lw_okq (⟨"CoinBoats", "isJars", "(III)Z"⟩, 13) := ⟨⟨by decide +kernel, by decide +kernel⟩, List.mem_of_getElem? (i := 22) (by decide +kernel), List.mem_of_getElem? (i := 1201) (by decide +kernel), List.mem_of_getElem? (i := 1202) (by decide +kernel)⟩
theorem lw_p50 : lw_okq (⟨"CoinBoats$Ledger", "off", "(LCoinBoats$Text;IIII)I"⟩, 8) := ⟨⟨by decide +kernel, by decide +kernel⟩, List.mem_of_getElem? (i := 319) (by decide +kernel), List.mem_of_getElem? (i := 1209) (by decide +kernel), List.mem_of_getElem? (i := 1210) (by decide +kernel)⟩
theorem lw_p51 : lw_okq (⟨"CoinBoats$Ledger", "isNear", "(LCoinBoats$Text;IIII)Z"⟩, 8) := ⟨⟨by decide +kernel, by decide +kernel⟩, List.mem_of_getElem? (i := 319) (by decide +kernel), List.mem_of_getElem? (i := 1233) (by decide +kernel), List.mem_of_getElem? (i := 1234) (by decide +kernel)⟩
theorem lw_p52 : lw_okq (⟨"CoinBoats$Ledger", "isLessLuck", "(II)Z"⟩, 8) := ⟨⟨by decide +kernel, by decide +kernel⟩, List.mem_of_getElem? (i := 319) (by decide +kernel), List.mem_of_getElem? (i := 1253) (by decide +kernel), List.mem_of_getElem? (i := 1254) (by decide +kernel)⟩
theorem lw_p53 : lw_okq (⟨"CoinBoatsModel", "typed", "(I)V"⟩, 44) := ⟨⟨by decide +kernel, by decide +kernel⟩, List.mem_of_getElem? (i := 1320) (by decide +kernel), List.mem_of_getElem? (i := 1465) (by decide +kernel), List.mem_of_getElem? (i := 1466) (by decide +kernel)⟩
theorem lw_p54 : lw_okq (⟨"CoinBoatsModel", "scanAll", "()V"⟩, 44) := ⟨⟨by decide +kernel, by decide +kernel⟩, List.mem_of_getElem? (i := 1320) (by decide +kernel), List.mem_of_getElem? (i := 1477) (by decide +kernel), List.mem_of_getElem? (i := 1478) (by decide +kernel)⟩
theorem lw_p55 : lw_okq (⟨"CoinBoatsModel", "byteAt", "(I)I"⟩, 44) := ⟨⟨by decide +kernel, by decide +kernel⟩, List.mem_of_getElem? (i := 1320) (by decide +kernel), List.mem_of_getElem? (i := 1481) (by decide +kernel), List.mem_of_getElem? (i := 1482) (by decide +kernel)⟩
theorem lw_p56 : lw_okq (⟨"CoinBoatsModel", "scan", "(I)I"⟩, 44) := ⟨⟨by decide +kernel, by decide +kernel⟩, List.mem_of_getElem? (i := 1320) (by decide +kernel), List.mem_of_getElem? (i := 1485) (by decide +kernel), List.mem_of_getElem? (i := 1486) (by decide +kernel)⟩
theorem lw_p57 : lw_okq (⟨"CoinBoatsModel", "isLetter", "(I)Z"⟩, 44) := ⟨⟨by decide +kernel, by decide +kernel⟩, List.mem_of_getElem? (i := 1320) (by decide +kernel), List.mem_of_getElem? (i := 1489) (by decide +kernel), List.mem_of_getElem? (i := 1490) (by decide +kernel)⟩
theorem lw_p58 : lw_okq (⟨"CoinBoatsModel", "token", "(III)V"⟩, 44) := ⟨⟨by decide +kernel, by decide +kernel⟩, List.mem_of_getElem? (i := 1320) (by decide +kernel), List.mem_of_getElem? (i := 1511) (by decide +kernel), List.mem_of_getElem? (i := 1512) (by decide +kernel)⟩
theorem lw_p59 : lw_okq (⟨"CoinBoatsModel", "isDigit", "(I)Z"⟩, 44) := ⟨⟨by decide +kernel, by decide +kernel⟩, List.mem_of_getElem? (i := 1320) (by decide +kernel), List.mem_of_getElem? (i := 1515) (by decide +kernel), List.mem_of_getElem? (i := 1516) (by decide +kernel)⟩
theorem lw_p60 : lw_okq (⟨"CoinBoatsModel", "signAt", "(I)I"⟩, 44) := ⟨⟨by decide +kernel, by decide +kernel⟩, List.mem_of_getElem? (i := 1320) (by decide +kernel), List.mem_of_getElem? (i := 1519) (by decide +kernel), List.mem_of_getElem? (i := 1520) (by decide +kernel)⟩
theorem lw_p61 : lw_okq (⟨"CoinBoatsModel", "tell", "(II)V"⟩, 44) := ⟨⟨by decide +kernel, by decide +kernel⟩, List.mem_of_getElem? (i := 1320) (by decide +kernel), List.mem_of_getElem? (i := 1523) (by decide +kernel), List.mem_of_getElem? (i := 1524) (by decide +kernel)⟩
theorem lw_p62 : lw_okq (⟨"CoinBoatsModel", "parses", "()Z"⟩, 44) := ⟨⟨by decide +kernel, by decide +kernel⟩, List.mem_of_getElem? (i := 1320) (by decide +kernel), List.mem_of_getElem? (i := 1527) (by decide +kernel), List.mem_of_getElem? (i := 1528) (by decide +kernel)⟩
theorem lw_p63 : lw_okq (⟨"CoinBoatsModel", "tellOne", "()Z"⟩, 44) := ⟨⟨by decide +kernel, by decide +kernel⟩, List.mem_of_getElem? (i := 1320) (by decide +kernel), List.mem_of_getElem? (i := 1531) (by decide +kernel), List.mem_of_getElem? (i := 1532) (by decide +kernel)⟩
def lw_privs_4 : List (MethodName × Nat) := [(⟨"CoinBoats$Ledger", "enter", "(LCoinBoats$Rows;I)V"⟩, 8), (⟨"CoinBoats", "isJars", "(III)Z"⟩, 13), (⟨"CoinBoats$Ledger", "off", "(LCoinBoats$Text;IIII)I"⟩, 8), (⟨"CoinBoats$Ledger", "isNear", "(LCoinBoats$Text;IIII)Z"⟩, 8), (⟨"CoinBoats$Ledger", "isLessLuck", "(II)Z"⟩, 8), (⟨"CoinBoatsModel", "typed", "(I)V"⟩, 44), (⟨"CoinBoatsModel", "scanAll", "()V"⟩, 44), (⟨"CoinBoatsModel", "byteAt", "(I)I"⟩, 44), (⟨"CoinBoatsModel", "scan", "(I)I"⟩, 44), (⟨"CoinBoatsModel", "isLetter", "(I)Z"⟩, 44), (⟨"CoinBoatsModel", "token", "(III)V"⟩, 44), (⟨"CoinBoatsModel", "isDigit", "(I)Z"⟩, 44), (⟨"CoinBoatsModel", "signAt", "(I)I"⟩, 44), (⟨"CoinBoatsModel", "tell", "(II)V"⟩, 44), (⟨"CoinBoatsModel", "parses", "()Z"⟩, 44), (⟨"CoinBoatsModel", "tellOne", "()Z"⟩, 44)]
theorem lw_r4 : ∀ q ∈ lw_privs_4, lw_okq q := List.forall_mem_cons.mpr ⟨lw_p48, List.forall_mem_cons.mpr ⟨lw_p49, List.forall_mem_cons.mpr ⟨lw_p50, List.forall_mem_cons.mpr ⟨lw_p51, List.forall_mem_cons.mpr ⟨lw_p52, List.forall_mem_cons.mpr ⟨lw_p53, List.forall_mem_cons.mpr ⟨lw_p54, List.forall_mem_cons.mpr ⟨lw_p55, List.forall_mem_cons.mpr ⟨lw_p56, List.forall_mem_cons.mpr ⟨lw_p57, List.forall_mem_cons.mpr ⟨lw_p58, List.forall_mem_cons.mpr ⟨lw_p59, List.forall_mem_cons.mpr ⟨lw_p60, List.forall_mem_cons.mpr ⟨lw_p61, List.forall_mem_cons.mpr ⟨lw_p62, List.forall_mem_cons.mpr ⟨lw_p63, fun _ h => absurd h List.not_mem_nil⟩⟩⟩⟩⟩⟩⟩⟩⟩⟩⟩⟩⟩⟩⟩⟩
theorem lw_p64 : lw_okq (⟨"CoinBoatsModel", "tellKind", "()Z"⟩, 44) := ⟨⟨by decide +kernel, by decide +kernel⟩, List.mem_of_getElem? (i := 1320) (by decide +kernel), List.mem_of_getElem? (i := 1535) (by decide +kernel), List.mem_of_getElem? (i := 1536) (by decide +kernel)⟩
theorem lw_p65 : lw_okq (⟨"CoinBoatsModel", "told", "(I)I"⟩, 44) := ⟨⟨by decide +kernel, by decide +kernel⟩, List.mem_of_getElem? (i := 1320) (by decide +kernel), List.mem_of_getElem? (i := 1539) (by decide +kernel), List.mem_of_getElem? (i := 1540) (by decide +kernel)⟩
theorem lw_p66 : lw_okq (⟨"CoinBoatsModel", "wrong", "(I)Z"⟩, 44) := ⟨⟨by decide +kernel, by decide +kernel⟩, List.mem_of_getElem? (i := 1320) (by decide +kernel), List.mem_of_getElem? (i := 1543) (by decide +kernel), List.mem_of_getElem? (i := 1544) (by decide +kernel)⟩
theorem lw_p67 : lw_okq (⟨"CoinBoatsModel", "pass", "()Z"⟩, 44) := ⟨⟨by decide +kernel, by decide +kernel⟩, List.mem_of_getElem? (i := 1320) (by decide +kernel), List.mem_of_getElem? (i := 1547) (by decide +kernel), List.mem_of_getElem? (i := 1548) (by decide +kernel)⟩
theorem lw_p68 : lw_okq (⟨"CoinBoatsModel", "names", "(II)Z"⟩, 44) := ⟨⟨by decide +kernel, by decide +kernel⟩, List.mem_of_getElem? (i := 1320) (by decide +kernel), List.mem_of_getElem? (i := 1551) (by decide +kernel), List.mem_of_getElem? (i := 1552) (by decide +kernel)⟩
theorem lw_p69 : lw_okq (⟨"CoinBoatsModel", "takes", "(I)Z"⟩, 44) := ⟨⟨by decide +kernel, by decide +kernel⟩, List.mem_of_getElem? (i := 1320) (by decide +kernel), List.mem_of_getElem? (i := 1555) (by decide +kernel), List.mem_of_getElem? (i := 1556) (by decide +kernel)⟩
theorem lw_p70 : lw_okq (⟨"CoinBoatsModel", "tells", "(II)V"⟩, 44) := ⟨⟨by decide +kernel, by decide +kernel⟩, List.mem_of_getElem? (i := 1320) (by decide +kernel), List.mem_of_getElem? (i := 1559) (by decide +kernel), List.mem_of_getElem? (i := 1560) (by decide +kernel)⟩
theorem lw_p71 : lw_okq (⟨"CoinBoatsModel", "takesInt", "(II)Z"⟩, 44) := ⟨⟨by decide +kernel, by decide +kernel⟩, List.mem_of_getElem? (i := 1320) (by decide +kernel), List.mem_of_getElem? (i := 1563) (by decide +kernel), List.mem_of_getElem? (i := 1564) (by decide +kernel)⟩
theorem lw_p72 : lw_okq (⟨"CoinBoatsModel", "tellIsland", "()Z"⟩, 44) := ⟨⟨by decide +kernel, by decide +kernel⟩, List.mem_of_getElem? (i := 1320) (by decide +kernel), List.mem_of_getElem? (i := 1567) (by decide +kernel), List.mem_of_getElem? (i := 1568) (by decide +kernel)⟩
theorem lw_p73 : lw_okq (⟨"CoinBoatsModel", "tellWant", "(II)Z"⟩, 44) := ⟨⟨by decide +kernel, by decide +kernel⟩, List.mem_of_getElem? (i := 1320) (by decide +kernel), List.mem_of_getElem? (i := 1571) (by decide +kernel), List.mem_of_getElem? (i := 1572) (by decide +kernel)⟩
theorem lw_p74 : lw_okq (⟨"CoinBoatsModel", "takesName", "(I)Z"⟩, 44) := ⟨⟨by decide +kernel, by decide +kernel⟩, List.mem_of_getElem? (i := 1320) (by decide +kernel), List.mem_of_getElem? (i := 1575) (by decide +kernel), List.mem_of_getElem? (i := 1576) (by decide +kernel)⟩
theorem lw_p75 : lw_okq (⟨"CoinBoatsModel", "takesSum", "(I)Z"⟩, 44) := ⟨⟨by decide +kernel, by decide +kernel⟩, List.mem_of_getElem? (i := 1320) (by decide +kernel), List.mem_of_getElem? (i := 1579) (by decide +kernel), List.mem_of_getElem? (i := 1580) (by decide +kernel)⟩
theorem lw_p76 : lw_okq (⟨"CoinBoatsModel", "isSign", "(I)Z"⟩, 44) := ⟨⟨by decide +kernel, by decide +kernel⟩, List.mem_of_getElem? (i := 1320) (by decide +kernel), List.mem_of_getElem? (i := 1583) (by decide +kernel), List.mem_of_getElem? (i := 1584) (by decide +kernel)⟩
theorem lw_p77 : lw_okq (⟨"CoinBoatsModel", "expr", "()Z"⟩, 44) := ⟨⟨by decide +kernel, by decide +kernel⟩, List.mem_of_getElem? (i := 1320) (by decide +kernel), List.mem_of_getElem? (i := 1587) (by decide +kernel), List.mem_of_getElem? (i := 1588) (by decide +kernel)⟩
theorem lw_p78 : lw_okq (⟨"CoinBoatsModel", "await", "(I)V"⟩, 44) := ⟨⟨by decide +kernel, by decide +kernel⟩, List.mem_of_getElem? (i := 1320) (by decide +kernel), List.mem_of_getElem? (i := 1591) (by decide +kernel), List.mem_of_getElem? (i := 1592) (by decide +kernel)⟩
theorem lw_p79 : lw_okq (⟨"CoinBoatsModel", "emit", "(II)V"⟩, 44) := ⟨⟨by decide +kernel, by decide +kernel⟩, List.mem_of_getElem? (i := 1320) (by decide +kernel), List.mem_of_getElem? (i := 1595) (by decide +kernel), List.mem_of_getElem? (i := 1596) (by decide +kernel)⟩
def lw_privs_5 : List (MethodName × Nat) := [(⟨"CoinBoatsModel", "tellKind", "()Z"⟩, 44), (⟨"CoinBoatsModel", "told", "(I)I"⟩, 44), (⟨"CoinBoatsModel", "wrong", "(I)Z"⟩, 44), (⟨"CoinBoatsModel", "pass", "()Z"⟩, 44), (⟨"CoinBoatsModel", "names", "(II)Z"⟩, 44), (⟨"CoinBoatsModel", "takes", "(I)Z"⟩, 44), (⟨"CoinBoatsModel", "tells", "(II)V"⟩, 44), (⟨"CoinBoatsModel", "takesInt", "(II)Z"⟩, 44), (⟨"CoinBoatsModel", "tellIsland", "()Z"⟩, 44), (⟨"CoinBoatsModel", "tellWant", "(II)Z"⟩, 44), (⟨"CoinBoatsModel", "takesName", "(I)Z"⟩, 44), (⟨"CoinBoatsModel", "takesSum", "(I)Z"⟩, 44), (⟨"CoinBoatsModel", "isSign", "(I)Z"⟩, 44), (⟨"CoinBoatsModel", "expr", "()Z"⟩, 44), (⟨"CoinBoatsModel", "await", "(I)V"⟩, 44), (⟨"CoinBoatsModel", "emit", "(II)V"⟩, 44)]
theorem lw_r5 : ∀ q ∈ lw_privs_5, lw_okq q := List.forall_mem_cons.mpr ⟨lw_p64, List.forall_mem_cons.mpr ⟨lw_p65, List.forall_mem_cons.mpr ⟨lw_p66, List.forall_mem_cons.mpr ⟨lw_p67, List.forall_mem_cons.mpr ⟨lw_p68, List.forall_mem_cons.mpr ⟨lw_p69, List.forall_mem_cons.mpr ⟨lw_p70, List.forall_mem_cons.mpr ⟨lw_p71, List.forall_mem_cons.mpr ⟨lw_p72, List.forall_mem_cons.mpr ⟨lw_p73, List.forall_mem_cons.mpr ⟨lw_p74, List.forall_mem_cons.mpr ⟨lw_p75, List.forall_mem_cons.mpr ⟨lw_p76, List.forall_mem_cons.mpr ⟨lw_p77, List.forall_mem_cons.mpr ⟨lw_p78, List.forall_mem_cons.mpr ⟨lw_p79, fun _ h => absurd h List.not_mem_nil⟩⟩⟩⟩⟩⟩⟩⟩⟩⟩⟩⟩⟩⟩⟩⟩
theorem lw_p80 : lw_okq (⟨"CoinBoatsModel", "joinAt", "()I"⟩, 44) := ⟨⟨by decide +kernel, by decide +kernel⟩, List.mem_of_getElem? (i := 1320) (by decide +kernel), List.mem_of_getElem? (i := 1599) (by decide +kernel), List.mem_of_getElem? (i := 1600) (by decide +kernel)⟩
theorem lw_p81 : lw_okq (⟨"CoinBoatsModel", "reduce", "(I)V"⟩, 44) := ⟨⟨by decide +kernel, by decide +kernel⟩, List.mem_of_getElem? (i := 1320) (by decide +kernel), List.mem_of_getElem? (i := 1606) (by decide +kernel), List.mem_of_getElem? (i := 1607) (by decide +kernel)⟩
theorem lw_p82 : lw_okq (⟨"CoinBoatsModel", "tellFlow", "()Z"⟩, 44) := ⟨⟨by decide +kernel, by decide +kernel⟩, List.mem_of_getElem? (i := 1320) (by decide +kernel), List.mem_of_getElem? (i := 1610) (by decide +kernel), List.mem_of_getElem? (i := 1611) (by decide +kernel)⟩
theorem lw_p83 : lw_okq (⟨"CoinBoatsModel", "takesPlace", "()Z"⟩, 44) := ⟨⟨by decide +kernel, by decide +kernel⟩, List.mem_of_getElem? (i := 1320) (by decide +kernel), List.mem_of_getElem? (i := 1614) (by decide +kernel), List.mem_of_getElem? (i := 1615) (by decide +kernel)⟩
theorem lw_p84 : lw_okq (⟨"CoinBoatsModel", "isWord", "(I)Z"⟩, 44) := ⟨⟨by decide +kernel, by decide +kernel⟩, List.mem_of_getElem? (i := 1320) (by decide +kernel), List.mem_of_getElem? (i := 1618) (by decide +kernel), List.mem_of_getElem? (i := 1619) (by decide +kernel)⟩
theorem lw_p85 : lw_okq (⟨"CoinBoatsModel", "tellWear", "()Z"⟩, 44) := ⟨⟨by decide +kernel, by decide +kernel⟩, List.mem_of_getElem? (i := 1320) (by decide +kernel), List.mem_of_getElem? (i := 1622) (by decide +kernel), List.mem_of_getElem? (i := 1623) (by decide +kernel)⟩
theorem lw_p86 : lw_okq (⟨"CoinBoatsModel", "tellBoat", "()Z"⟩, 44) := ⟨⟨by decide +kernel, by decide +kernel⟩, List.mem_of_getElem? (i := 1320) (by decide +kernel), List.mem_of_getElem? (i := 1626) (by decide +kernel), List.mem_of_getElem? (i := 1627) (by decide +kernel)⟩
theorem lw_p87 : lw_okq (⟨"CoinBoatsModel", "copy", "(II)V"⟩, 44) := ⟨⟨by decide +kernel, by decide +kernel⟩, List.mem_of_getElem? (i := 1320) (by decide +kernel), List.mem_of_getElem? (i := 1630) (by decide +kernel), List.mem_of_getElem? (i := 1631) (by decide +kernel)⟩
theorem lw_p88 : lw_okq (⟨"CoinBoatsModel", "isKind", "(I)Z"⟩, 44) := ⟨⟨by decide +kernel, by decide +kernel⟩, List.mem_of_getElem? (i := 1320) (by decide +kernel), List.mem_of_getElem? (i := 1650) (by decide +kernel), List.mem_of_getElem? (i := 1651) (by decide +kernel)⟩
theorem lw_p89 : lw_okq (⟨"CoinBoatsModel", "isIsland", "(I)Z"⟩, 44) := ⟨⟨by decide +kernel, by decide +kernel⟩, List.mem_of_getElem? (i := 1320) (by decide +kernel), List.mem_of_getElem? (i := 1661) (by decide +kernel), List.mem_of_getElem? (i := 1662) (by decide +kernel)⟩
theorem lw_p90 : lw_okq (⟨"CoinBoatsModel", "boatOf", "(II)I"⟩, 44) := ⟨⟨by decide +kernel, by decide +kernel⟩, List.mem_of_getElem? (i := 1320) (by decide +kernel), List.mem_of_getElem? (i := 1669) (by decide +kernel), List.mem_of_getElem? (i := 1670) (by decide +kernel)⟩
theorem lw_p91 : lw_okq (⟨"CoinBoatsModel", "wanted", "(III)I"⟩, 44) := ⟨⟨by decide +kernel, by decide +kernel⟩, List.mem_of_getElem? (i := 1320) (by decide +kernel), List.mem_of_getElem? (i := 1677) (by decide +kernel), List.mem_of_getElem? (i := 1678) (by decide +kernel)⟩
theorem lw_p92 : lw_okq (⟨"CoinBoatsModel", "ask", "(IIII)V"⟩, 44) := ⟨⟨by decide +kernel, by decide +kernel⟩, List.mem_of_getElem? (i := 1320) (by decide +kernel), List.mem_of_getElem? (i := 1681) (by decide +kernel), List.mem_of_getElem? (i := 1682) (by decide +kernel)⟩
theorem lw_p93 : lw_okq (⟨"CoinBoatsModel", "sum", "(I)I"⟩, 44) := ⟨⟨by decide +kernel, by decide +kernel⟩, List.mem_of_getElem? (i := 1320) (by decide +kernel), List.mem_of_getElem? (i := 1685) (by decide +kernel), List.mem_of_getElem? (i := 1686) (by decide +kernel)⟩
theorem lw_p94 : lw_okq (⟨"CoinBoatsModel", "all", "(II)I"⟩, 44) := ⟨⟨by decide +kernel, by decide +kernel⟩, List.mem_of_getElem? (i := 1320) (by decide +kernel), List.mem_of_getElem? (i := 1703) (by decide +kernel), List.mem_of_getElem? (i := 1704) (by decide +kernel)⟩
theorem lw_p95 : lw_okq (⟨"CoinBoatsModel", "isPlace", "(I)Z"⟩, 44) := ⟨⟨by decide +kernel, by decide +kernel⟩, List.mem_of_getElem? (i := 1320) (by decide +kernel), List.mem_of_getElem? (i := 1715) (by decide +kernel), List.mem_of_getElem? (i := 1716) (by decide +kernel)⟩
def lw_privs_6 : List (MethodName × Nat) := [(⟨"CoinBoatsModel", "joinAt", "()I"⟩, 44), (⟨"CoinBoatsModel", "reduce", "(I)V"⟩, 44), (⟨"CoinBoatsModel", "tellFlow", "()Z"⟩, 44), (⟨"CoinBoatsModel", "takesPlace", "()Z"⟩, 44), (⟨"CoinBoatsModel", "isWord", "(I)Z"⟩, 44), (⟨"CoinBoatsModel", "tellWear", "()Z"⟩, 44), (⟨"CoinBoatsModel", "tellBoat", "()Z"⟩, 44), (⟨"CoinBoatsModel", "copy", "(II)V"⟩, 44), (⟨"CoinBoatsModel", "isKind", "(I)Z"⟩, 44), (⟨"CoinBoatsModel", "isIsland", "(I)Z"⟩, 44), (⟨"CoinBoatsModel", "boatOf", "(II)I"⟩, 44), (⟨"CoinBoatsModel", "wanted", "(III)I"⟩, 44), (⟨"CoinBoatsModel", "ask", "(IIII)V"⟩, 44), (⟨"CoinBoatsModel", "sum", "(I)I"⟩, 44), (⟨"CoinBoatsModel", "all", "(II)I"⟩, 44), (⟨"CoinBoatsModel", "isPlace", "(I)Z"⟩, 44)]
theorem lw_r6 : ∀ q ∈ lw_privs_6, lw_okq q := List.forall_mem_cons.mpr ⟨lw_p80, List.forall_mem_cons.mpr ⟨lw_p81, List.forall_mem_cons.mpr ⟨lw_p82, List.forall_mem_cons.mpr ⟨lw_p83, List.forall_mem_cons.mpr ⟨lw_p84, List.forall_mem_cons.mpr ⟨lw_p85, List.forall_mem_cons.mpr ⟨lw_p86, List.forall_mem_cons.mpr ⟨lw_p87, List.forall_mem_cons.mpr ⟨lw_p88, List.forall_mem_cons.mpr ⟨lw_p89, List.forall_mem_cons.mpr ⟨lw_p90, List.forall_mem_cons.mpr ⟨lw_p91, List.forall_mem_cons.mpr ⟨lw_p92, List.forall_mem_cons.mpr ⟨lw_p93, List.forall_mem_cons.mpr ⟨lw_p94, List.forall_mem_cons.mpr ⟨lw_p95, fun _ h => absurd h List.not_mem_nil⟩⟩⟩⟩⟩⟩⟩⟩⟩⟩⟩⟩⟩⟩⟩⟩
theorem lw_p96 : lw_okq (⟨"CoinBoatsModel", "judgeAll", "()V"⟩, 44) := ⟨⟨by decide +kernel, by decide +kernel⟩, List.mem_of_getElem? (i := 1320) (by decide +kernel), List.mem_of_getElem? (i := 1735) (by decide +kernel), List.mem_of_getElem? (i := 1736) (by decide +kernel)⟩
theorem lw_p97 : lw_okq (⟨"CoinBoatsModel", "layTills", "()V"⟩, 44) := ⟨⟨by decide +kernel, by decide +kernel⟩, List.mem_of_getElem? (i := 1320) (by decide +kernel), List.mem_of_getElem? (i := 1739) (by decide +kernel), List.mem_of_getElem? (i := 1740) (by decide +kernel)⟩
theorem lw_p98 : lw_okq (⟨"CoinBoatsModel", "reason", "(II)I"⟩, 44) := ⟨⟨by decide +kernel, by decide +kernel⟩, List.mem_of_getElem? (i := 1320) (by decide +kernel), List.mem_of_getElem? (i := 1743) (by decide +kernel), List.mem_of_getElem? (i := 1744) (by decide +kernel)⟩
theorem lw_p99 : lw_okq (⟨"CoinBoatsModel", "sends", "(II)V"⟩, 44) := ⟨⟨by decide +kernel, by decide +kernel⟩, List.mem_of_getElem? (i := 1320) (by decide +kernel), List.mem_of_getElem? (i := 1755) (by decide +kernel), List.mem_of_getElem? (i := 1756) (by decide +kernel)⟩
theorem lw_p100 : lw_okq (⟨"CoinBoatsModel", "go", "(IIIIZ)V"⟩, 44) := ⟨⟨by decide +kernel, by decide +kernel⟩, List.mem_of_getElem? (i := 1320) (by decide +kernel), List.mem_of_getElem? (i := 1766) (by decide +kernel), List.mem_of_getElem? (i := 1767) (by decide +kernel)⟩
theorem lw_p101 : lw_okq (⟨"CoinBoatsModel", "flows", "(II)V"⟩, 44) := ⟨⟨by decide +kernel, by decide +kernel⟩, List.mem_of_getElem? (i := 1320) (by decide +kernel), List.mem_of_getElem? (i := 1770) (by decide +kernel), List.mem_of_getElem? (i := 1771) (by decide +kernel)⟩
theorem lw_p102 : lw_okq (⟨"CoinBoatsModel", "wears", "(I)V"⟩, 44) := ⟨⟨by decide +kernel, by decide +kernel⟩, List.mem_of_getElem? (i := 1320) (by decide +kernel), List.mem_of_getElem? (i := 1774) (by decide +kernel), List.mem_of_getElem? (i := 1775) (by decide +kernel)⟩
theorem lw_p103 : lw_okq (⟨"CoinBoatsModel", "isLastWear", "(I)Z"⟩, 44) := ⟨⟨by decide +kernel, by decide +kernel⟩, List.mem_of_getElem? (i := 1320) (by decide +kernel), List.mem_of_getElem? (i := 1778) (by decide +kernel), List.mem_of_getElem? (i := 1779) (by decide +kernel)⟩
theorem lw_p104 : lw_okq (⟨"CoinBoatsModel", "loses", "(I)V"⟩, 44) := ⟨⟨by decide +kernel, by decide +kernel⟩, List.mem_of_getElem? (i := 1320) (by decide +kernel), List.mem_of_getElem? (i := 1782) (by decide +kernel), List.mem_of_getElem? (i := 1783) (by decide +kernel)⟩
theorem lw_p105 : lw_okq (⟨"CoinBoatsModel", "isLast", "(III)Z"⟩, 44) := ⟨⟨by decide +kernel, by decide +kernel⟩, List.mem_of_getElem? (i := 1320) (by decide +kernel), List.mem_of_getElem? (i := 1786) (by decide +kernel), List.mem_of_getElem? (i := 1787) (by decide +kernel)⟩
theorem lw_p106 : lw_okq (⟨"CoinBoatsModel", "lacking", "(I)I"⟩, 44) := ⟨⟨by decide +kernel, by decide +kernel⟩, List.mem_of_getElem? (i := 1320) (by decide +kernel), List.mem_of_getElem? (i := 1790) (by decide +kernel), List.mem_of_getElem? (i := 1791) (by decide +kernel)⟩
theorem lw_p107 : lw_okq (⟨"CoinBoatsModel", "harm", "(I)I"⟩, 44) := ⟨⟨by decide +kernel, by decide +kernel⟩, List.mem_of_getElem? (i := 1320) (by decide +kernel), List.mem_of_getElem? (i := 1794) (by decide +kernel), List.mem_of_getElem? (i := 1795) (by decide +kernel)⟩
theorem lw_p108 : lw_okq (⟨"CoinBoatsModel", "layFewest", "(II)V"⟩, 44) := ⟨⟨by decide +kernel, by decide +kernel⟩, List.mem_of_getElem? (i := 1320) (by decide +kernel), List.mem_of_getElem? (i := 1811) (by decide +kernel), List.mem_of_getElem? (i := 1812) (by decide +kernel)⟩
theorem lw_p109 : lw_okq (⟨"CoinBoatsModel", "layKind", "(III)V"⟩, 44) := ⟨⟨by decide +kernel, by decide +kernel⟩, List.mem_of_getElem? (i := 1320) (by decide +kernel), List.mem_of_getElem? (i := 1816) (by decide +kernel), List.mem_of_getElem? (i := 1817) (by decide +kernel)⟩
theorem lw_p110 : lw_okq (⟨"CoinBoatsModel", "worth", "(I)I"⟩, 44) := ⟨⟨by decide +kernel, by decide +kernel⟩, List.mem_of_getElem? (i := 1320) (by decide +kernel), List.mem_of_getElem? (i := 1820) (by decide +kernel), List.mem_of_getElem? (i := 1821) (by decide +kernel)⟩
theorem lw_p111 : lw_okq (⟨"CoinBoatsModel", "fewestOf", "(II)I"⟩, 44) := ⟨⟨by decide +kernel, by decide +kernel⟩, List.mem_of_getElem? (i := 1320) (by decide +kernel), List.mem_of_getElem? (i := 1824) (by decide +kernel), List.mem_of_getElem? (i := 1825) (by decide +kernel)⟩
def lw_privs_7 : List (MethodName × Nat) := [(⟨"CoinBoatsModel", "judgeAll", "()V"⟩, 44), (⟨"CoinBoatsModel", "layTills", "()V"⟩, 44), (⟨"CoinBoatsModel", "reason", "(II)I"⟩, 44), (⟨"CoinBoatsModel", "sends", "(II)V"⟩, 44), (⟨"CoinBoatsModel", "go", "(IIIIZ)V"⟩, 44), (⟨"CoinBoatsModel", "flows", "(II)V"⟩, 44), (⟨"CoinBoatsModel", "wears", "(I)V"⟩, 44), (⟨"CoinBoatsModel", "isLastWear", "(I)Z"⟩, 44), (⟨"CoinBoatsModel", "loses", "(I)V"⟩, 44), (⟨"CoinBoatsModel", "isLast", "(III)Z"⟩, 44), (⟨"CoinBoatsModel", "lacking", "(I)I"⟩, 44), (⟨"CoinBoatsModel", "harm", "(I)I"⟩, 44), (⟨"CoinBoatsModel", "layFewest", "(II)V"⟩, 44), (⟨"CoinBoatsModel", "layKind", "(III)V"⟩, 44), (⟨"CoinBoatsModel", "worth", "(I)I"⟩, 44), (⟨"CoinBoatsModel", "fewestOf", "(II)I"⟩, 44)]
theorem lw_r7 : ∀ q ∈ lw_privs_7, lw_okq q := List.forall_mem_cons.mpr ⟨lw_p96, List.forall_mem_cons.mpr ⟨lw_p97, List.forall_mem_cons.mpr ⟨lw_p98, List.forall_mem_cons.mpr ⟨lw_p99, List.forall_mem_cons.mpr ⟨lw_p100, List.forall_mem_cons.mpr ⟨lw_p101, List.forall_mem_cons.mpr ⟨lw_p102, List.forall_mem_cons.mpr ⟨lw_p103, List.forall_mem_cons.mpr ⟨lw_p104, List.forall_mem_cons.mpr ⟨lw_p105, List.forall_mem_cons.mpr ⟨lw_p106, List.forall_mem_cons.mpr ⟨lw_p107, List.forall_mem_cons.mpr ⟨lw_p108, List.forall_mem_cons.mpr ⟨lw_p109, List.forall_mem_cons.mpr ⟨lw_p110, List.forall_mem_cons.mpr ⟨lw_p111, fun _ h => absurd h List.not_mem_nil⟩⟩⟩⟩⟩⟩⟩⟩⟩⟩⟩⟩⟩⟩⟩⟩
theorem lw_p112 : lw_okq (⟨"CoinBoatsModel", "paidOf", "(III)I"⟩, 44) := ⟨⟨by decide +kernel, by decide +kernel⟩, List.mem_of_getElem? (i := 1320) (by decide +kernel), List.mem_of_getElem? (i := 1828) (by decide +kernel), List.mem_of_getElem? (i := 1829) (by decide +kernel)⟩
theorem lw_p113 : lw_okq (⟨"CoinBoatsModel", "chooses", "(II)V"⟩, 44) := ⟨⟨by decide +kernel, by decide +kernel⟩, List.mem_of_getElem? (i := 1320) (by decide +kernel), List.mem_of_getElem? (i := 1840) (by decide +kernel), List.mem_of_getElem? (i := 1841) (by decide +kernel)⟩
theorem lw_p114 : lw_okq (⟨"CoinBoatsModel", "piecesOf", "(II)I"⟩, 44) := ⟨⟨by decide +kernel, by decide +kernel⟩, List.mem_of_getElem? (i := 1320) (by decide +kernel), List.mem_of_getElem? (i := 1844) (by decide +kernel), List.mem_of_getElem? (i := 1845) (by decide +kernel)⟩
theorem lw_p115 : lw_okq (⟨"CoinBoatsModel", "isCoin", "(IIIIII)Z"⟩, 44) := ⟨⟨by decide +kernel, by decide +kernel⟩, List.mem_of_getElem? (i := 1320) (by decide +kernel), List.mem_of_getElem? (i := 1859) (by decide +kernel), List.mem_of_getElem? (i := 1860) (by decide +kernel)⟩
theorem lw_p116 : lw_okq (⟨"CoinBoatsModel", "coins", "(IIIIII)J"⟩, 44) := ⟨⟨by decide +kernel, by decide +kernel⟩, List.mem_of_getElem? (i := 1320) (by decide +kernel), List.mem_of_getElem? (i := 1863) (by decide +kernel), List.mem_of_getElem? (i := 1864) (by decide +kernel)⟩
theorem lw_p117 : lw_okq (⟨"CoinBoatsModel", "leastOf", "(IIIIIJ)J"⟩, 44) := ⟨⟨by decide +kernel, by decide +kernel⟩, List.mem_of_getElem? (i := 1320) (by decide +kernel), List.mem_of_getElem? (i := 1870) (by decide +kernel), List.mem_of_getElem? (i := 1871) (by decide +kernel)⟩
theorem lw_p118 : lw_okq (⟨"CoinBoatsModel", "isPool", "(III)Z"⟩, 44) := ⟨⟨by decide +kernel, by decide +kernel⟩, List.mem_of_getElem? (i := 1320) (by decide +kernel), List.mem_of_getElem? (i := 1886) (by decide +kernel), List.mem_of_getElem? (i := 1887) (by decide +kernel)⟩
theorem lw_p119 : lw_okq (⟨"CoinBoatsModel", "poolOf", "(III)I"⟩, 44) := ⟨⟨by decide +kernel, by decide +kernel⟩, List.mem_of_getElem? (i := 1320) (by decide +kernel), List.mem_of_getElem? (i := 1890) (by decide +kernel), List.mem_of_getElem? (i := 1891) (by decide +kernel)⟩
theorem lw_p120 : lw_okq (⟨"CoinBoatsModel", "savedOf", "(III)I"⟩, 44) := ⟨⟨by decide +kernel, by decide +kernel⟩, List.mem_of_getElem? (i := 1320) (by decide +kernel), List.mem_of_getElem? (i := 1898) (by decide +kernel), List.mem_of_getElem? (i := 1899) (by decide +kernel)⟩
theorem lw_p121 : lw_okq (⟨"CoinBoatsModel", "row", "(IIII)I"⟩, 44) := ⟨⟨by decide +kernel, by decide +kernel⟩, List.mem_of_getElem? (i := 1320) (by decide +kernel), List.mem_of_getElem? (i := 1910) (by decide +kernel), List.mem_of_getElem? (i := 1911) (by decide +kernel)⟩
theorem lw_p122 : lw_okq (⟨"CoinBoatsModel", "isKnown", "(I)Z"⟩, 44) := ⟨⟨by decide +kernel, by decide +kernel⟩, List.mem_of_getElem? (i := 1320) (by decide +kernel), List.mem_of_getElem? (i := 1926) (by decide +kernel), List.mem_of_getElem? (i := 1927) (by decide +kernel)⟩
theorem lw_p123 : lw_okq (⟨"CoinBoatsModel", "booked", "(IIII)I"⟩, 44) := ⟨⟨by decide +kernel, by decide +kernel⟩, List.mem_of_getElem? (i := 1320) (by decide +kernel), List.mem_of_getElem? (i := 1930) (by decide +kernel), List.mem_of_getElem? (i := 1931) (by decide +kernel)⟩
theorem lw_p124 : lw_okq (⟨"CoinBoatsModel", "isLive", "(II)Z"⟩, 44) := ⟨⟨by decide +kernel, by decide +kernel⟩, List.mem_of_getElem? (i := 1320) (by decide +kernel), List.mem_of_getElem? (i := 1934) (by decide +kernel), List.mem_of_getElem? (i := 1935) (by decide +kernel)⟩
theorem lw_p125 : lw_okq (⟨"CoinBoatsModel", "isJars", "(III)Z"⟩, 44) := ⟨⟨by decide +kernel, by decide +kernel⟩, List.mem_of_getElem? (i := 1320) (by decide +kernel), List.mem_of_getElem? (i := 1947) (by decide +kernel), List.mem_of_getElem? (i := 1948) (by decide +kernel)⟩
theorem lw_p126 : lw_okq (⟨"CoinBoatsModel", "layBooks", "(II)V"⟩, 44) := ⟨⟨by decide +kernel, by decide +kernel⟩, List.mem_of_getElem? (i := 1320) (by decide +kernel), List.mem_of_getElem? (i := 1951) (by decide +kernel), List.mem_of_getElem? (i := 1952) (by decide +kernel)⟩
theorem lw_p127 : lw_okq (⟨"CoinBoatsModel", "offBy", "(III)I"⟩, 44) := ⟨⟨by decide +kernel, by decide +kernel⟩, List.mem_of_getElem? (i := 1320) (by decide +kernel), List.mem_of_getElem? (i := 1955) (by decide +kernel), List.mem_of_getElem? (i := 1956) (by decide +kernel)⟩
def lw_privs_8 : List (MethodName × Nat) := [(⟨"CoinBoatsModel", "paidOf", "(III)I"⟩, 44), (⟨"CoinBoatsModel", "chooses", "(II)V"⟩, 44), (⟨"CoinBoatsModel", "piecesOf", "(II)I"⟩, 44), (⟨"CoinBoatsModel", "isCoin", "(IIIIII)Z"⟩, 44), (⟨"CoinBoatsModel", "coins", "(IIIIII)J"⟩, 44), (⟨"CoinBoatsModel", "leastOf", "(IIIIIJ)J"⟩, 44), (⟨"CoinBoatsModel", "isPool", "(III)Z"⟩, 44), (⟨"CoinBoatsModel", "poolOf", "(III)I"⟩, 44), (⟨"CoinBoatsModel", "savedOf", "(III)I"⟩, 44), (⟨"CoinBoatsModel", "row", "(IIII)I"⟩, 44), (⟨"CoinBoatsModel", "isKnown", "(I)Z"⟩, 44), (⟨"CoinBoatsModel", "booked", "(IIII)I"⟩, 44), (⟨"CoinBoatsModel", "isLive", "(II)Z"⟩, 44), (⟨"CoinBoatsModel", "isJars", "(III)Z"⟩, 44), (⟨"CoinBoatsModel", "layBooks", "(II)V"⟩, 44), (⟨"CoinBoatsModel", "offBy", "(III)I"⟩, 44)]
theorem lw_r8 : ∀ q ∈ lw_privs_8, lw_okq q := List.forall_mem_cons.mpr ⟨lw_p112, List.forall_mem_cons.mpr ⟨lw_p113, List.forall_mem_cons.mpr ⟨lw_p114, List.forall_mem_cons.mpr ⟨lw_p115, List.forall_mem_cons.mpr ⟨lw_p116, List.forall_mem_cons.mpr ⟨lw_p117, List.forall_mem_cons.mpr ⟨lw_p118, List.forall_mem_cons.mpr ⟨lw_p119, List.forall_mem_cons.mpr ⟨lw_p120, List.forall_mem_cons.mpr ⟨lw_p121, List.forall_mem_cons.mpr ⟨lw_p122, List.forall_mem_cons.mpr ⟨lw_p123, List.forall_mem_cons.mpr ⟨lw_p124, List.forall_mem_cons.mpr ⟨lw_p125, List.forall_mem_cons.mpr ⟨lw_p126, List.forall_mem_cons.mpr ⟨lw_p127, fun _ h => absurd h List.not_mem_nil⟩⟩⟩⟩⟩⟩⟩⟩⟩⟩⟩⟩⟩⟩⟩⟩
theorem lw_p128 : lw_okq (⟨"CoinBoatsModel", "layFalse", "(I)V"⟩, 44) := ⟨⟨by decide +kernel, by decide +kernel⟩, List.mem_of_getElem? (i := 1320) (by decide +kernel), List.mem_of_getElem? (i := 1968) (by decide +kernel), List.mem_of_getElem? (i := 1969) (by decide +kernel)⟩
theorem lw_p129 : lw_okq (⟨"CoinBoatsModel", "falseWays", "(I)J"⟩, 44) := ⟨⟨by decide +kernel, by decide +kernel⟩, List.mem_of_getElem? (i := 1320) (by decide +kernel), List.mem_of_getElem? (i := 1972) (by decide +kernel), List.mem_of_getElem? (i := 1973) (by decide +kernel)⟩
def lw_privs_9 : List (MethodName × Nat) := [(⟨"CoinBoatsModel", "layFalse", "(I)V"⟩, 44), (⟨"CoinBoatsModel", "falseWays", "(I)J"⟩, 44)]
theorem lw_r9 : ∀ q ∈ lw_privs_9, lw_okq q := List.forall_mem_cons.mpr ⟨lw_p128, List.forall_mem_cons.mpr ⟨lw_p129, fun _ h => absurd h List.not_mem_nil⟩⟩
def lw_privs : List (MethodName × Nat) := lw_privs_1 ++ (lw_privs_2 ++ (lw_privs_3 ++ (lw_privs_4 ++ (lw_privs_5 ++ (lw_privs_6 ++ (lw_privs_7 ++ (lw_privs_8 ++ (lw_privs_9))))))))
def lw_tbl : List Cond := k2_sels lw_privs ++ tables_1
theorem lw_privs_ok : ∀ q ∈ lw_privs, lw_okq q := by
  show ∀ q ∈ lw_privs_1 ++ (lw_privs_2 ++ (lw_privs_3 ++ (lw_privs_4 ++ (lw_privs_5 ++ (lw_privs_6 ++ (lw_privs_7 ++ (lw_privs_8 ++ (lw_privs_9)))))))), lw_okq q
  exact List.forall_mem_append.mpr ⟨lw_r1, List.forall_mem_append.mpr ⟨lw_r2, List.forall_mem_append.mpr ⟨lw_r3, List.forall_mem_append.mpr ⟨lw_r4, List.forall_mem_append.mpr ⟨lw_r5, List.forall_mem_append.mpr ⟨lw_r6, List.forall_mem_append.mpr ⟨lw_r7, List.forall_mem_append.mpr ⟨lw_r8, lw_r9⟩⟩⟩⟩⟩⟩⟩⟩
def RX0 : String := "CoinBoats$Calendar"
def TX0 : u_T := fun k => match k with
  | 0 => ("CoinBoats$Calendar", "loads", "LCoinBoats$Rows;", true)
  | 1 => ("CoinBoats$Calendar", "shadow", "LCoinBoats$Pieces;", true)
  | _ => ("CoinBoats$Calendar", "reason", "I", false)
def tyX0 : Nat → FieldType := fun k => match k with
  | 0 => .object "CoinBoats$Rows"
  | 1 => .object "CoinBoats$Pieces"
  | _ => .int
abbrev wsX00 : List Cond := u_ws RX0 TX0 3
theorem nmX0 : ∀ a, a < 3 → ∀ b, b < 3 → a ≠ b → (TX0 a).2.1 ≠ (TX0 b).2.1 := by decide +kernel
theorem tyX0_ok : ∀ k, k < 3 → parseFieldDescriptor (TX0 k).2.2.1 = some (tyX0 k) := by decide +kernel
def RX1 : String := "CoinBoats$Coins"
def TX1 : u_T := fun k => match k with
  | 0 => ("CoinBoats$Coins", "given", "[I", true)
  | 1 => ("CoinBoats$Coins", "comes", "[I", true)
  | 2 => ("CoinBoats$Coins", "tills", "LCoinBoats$Rows;", true)
  | _ => ("CoinBoats$Coins", "pieces", "I", false)
def tyX1 : Nat → FieldType := fun k => match k with
  | 0 => .array .int
  | 1 => .array .int
  | 2 => .object "CoinBoats$Rows"
  | _ => .int
abbrev wsX10 : List Cond := u_ws RX1 TX1 4
theorem nmX1 : ∀ a, a < 4 → ∀ b, b < 4 → a ≠ b → (TX1 a).2.1 ≠ (TX1 b).2.1 := by decide +kernel
theorem tyX1_ok : ∀ k, k < 4 → parseFieldDescriptor (TX1 k).2.2.1 = some (tyX1 k) := by decide +kernel
def RX2 : String := "CoinBoats$Formulas"
def TX2 : u_T := fun k => match k with
  | 0 => ("CoinBoats$Formulas", "steps", "[I", true)
  | 1 => ("CoinBoats$Formulas", "size", "I", false)
  | 2 => ("CoinBoats$Formulas", "stack", "[I", true)
  | 3 => ("CoinBoats$Formulas", "depth", "I", false)
  | _ => ("CoinBoats$Formulas", "dividedByZero", "Z", false)
def tyX2 : Nat → FieldType := fun k => match k with
  | 0 => .array .int
  | 1 => .int
  | 2 => .array .int
  | 3 => .int
  | _ => .boolean
abbrev wsX20 : List Cond := u_ws RX2 TX2 5
theorem nmX2 : ∀ a, a < 5 → ∀ b, b < 5 → a ≠ b → (TX2 a).2.1 ≠ (TX2 b).2.1 := by decide +kernel
theorem tyX2_ok : ∀ k, k < 5 → parseFieldDescriptor (TX2 k).2.2.1 = some (tyX2 k) := by decide +kernel
def RX3 : String := "CoinBoats$Ledger"
def TX3 : u_T := fun k => match k with
  | 0 => ("CoinBoats$Ledger", "went", "LCoinBoats$Rows;", true)
  | 1 => ("CoinBoats$Ledger", "came", "LCoinBoats$Rows;", true)
  | 2 => ("CoinBoats$Ledger", "looks", "LCoinBoats$Rows;", true)
  | 3 => ("CoinBoats$Ledger", "voided", "LCoinBoats$Rows;", true)
  | 4 => ("CoinBoats$Ledger", "allSeen", "I", false)
  | 5 => ("CoinBoats$Ledger", "allFalse", "I", false)
  | 6 => ("CoinBoats$Ledger", "kept", "I", false)
  | _ => ("CoinBoats$Ledger", "lost", "I", false)
def tyX3 : Nat → FieldType := fun k => match k with
  | 0 => .object "CoinBoats$Rows"
  | 1 => .object "CoinBoats$Rows"
  | 2 => .object "CoinBoats$Rows"
  | 3 => .object "CoinBoats$Rows"
  | 4 => .int
  | 5 => .int
  | 6 => .int
  | _ => .int
abbrev wsX30 : List Cond := u_ws RX3 TX3 8
theorem nmX3 : ∀ a, a < 8 → ∀ b, b < 8 → a ≠ b → (TX3 a).2.1 ≠ (TX3 b).2.1 := by decide +kernel
theorem tyX3_ok : ∀ k, k < 8 → parseFieldDescriptor (TX3 k).2.2.1 = some (tyX3 k) := by decide +kernel
def RX4 : String := "CoinBoats$Pieces"
def TX4 : u_T := fun k => match k with
  | _ => ("CoinBoats$Pieces", "rows", "LCoinBoats$Rows;", true)
def tyX4 : Nat → FieldType := fun k => match k with
  | _ => .object "CoinBoats$Rows"
abbrev wsX40 : List Cond := u_ws RX4 TX4 1
theorem nmX4 : ∀ a, a < 1 → ∀ b, b < 1 → a ≠ b → (TX4 a).2.1 ≠ (TX4 b).2.1 := by decide +kernel
theorem tyX4_ok : ∀ k, k < 1 → parseFieldDescriptor (TX4 k).2.2.1 = some (tyX4 k) := by decide +kernel
def RX5 : String := "CoinBoats$Reader"
def TX5 : u_T := fun k => match k with
  | 0 => ("CoinBoats$Reader", "tokens", "LCoinBoats$Tokens;", true)
  | 1 => ("CoinBoats$Reader", "kindNames", "[J", true)
  | 2 => ("CoinBoats$Reader", "islandNames", "[J", true)
  | 3 => ("CoinBoats$Reader", "at", "I", false)
  | 4 => ("CoinBoats$Reader", "fault", "I", false)
  | 5 => ("CoinBoats$Reader", "faultToken", "I", false)
  | 6 => ("CoinBoats$Reader", "laterFault", "I", false)
  | _ => ("CoinBoats$Reader", "laterToken", "I", false)
def tyX5 : Nat → FieldType := fun k => match k with
  | 0 => .object "CoinBoats$Tokens"
  | 1 => .array .long
  | 2 => .array .long
  | 3 => .int
  | 4 => .int
  | 5 => .int
  | 6 => .int
  | _ => .int
abbrev wsX50 : List Cond := u_ws RX5 TX5 8
theorem nmX5 : ∀ a, a < 8 → ∀ b, b < 8 → a ≠ b → (TX5 a).2.1 ≠ (TX5 b).2.1 := by decide +kernel
theorem tyX5_ok : ∀ k, k < 8 → parseFieldDescriptor (TX5 k).2.2.1 = some (tyX5 k) := by decide +kernel
def RX6 : String := "CoinBoats$Rows"
def TX6 : u_T := fun k => match k with
  | 0 => ("CoinBoats$Rows", "most", "I", true)
  | 1 => ("CoinBoats$Rows", "width", "I", true)
  | 2 => ("CoinBoats$Rows", "cells", "[I", true)
  | _ => ("CoinBoats$Rows", "size", "I", false)
def tyX6 : Nat → FieldType := fun k => match k with
  | 0 => .int
  | 1 => .int
  | 2 => .array .int
  | _ => .int
abbrev wsX60 : List Cond := u_ws RX6 TX6 4
theorem nmX6 : ∀ a, a < 4 → ∀ b, b < 4 → a ≠ b → (TX6 a).2.1 ≠ (TX6 b).2.1 := by decide +kernel
theorem tyX6_ok : ∀ k, k < 4 → parseFieldDescriptor (TX6 k).2.2.1 = some (tyX6 k) := by decide +kernel
def RX7 : String := "CoinBoats$State"
def TX7 : u_T := fun k => match k with
  | 0 => ("CoinBoats$State", "pieces", "LCoinBoats$Pieces;", true)
  | 1 => ("CoinBoats$State", "sendings", "LCoinBoats$Rows;", true)
  | 2 => ("CoinBoats$State", "books", "LCoinBoats$Rows;", true)
  | 3 => ("CoinBoats$State", "lacked", "LCoinBoats$Rows;", true)
  | 4 => ("CoinBoats$State", "time", "I", false)
  | 5 => ("CoinBoats$State", "spentHarm", "J", false)
  | 6 => ("CoinBoats$State", "spentBoats", "J", false)
  | 7 => ("CoinBoats$State", "spentNew", "J", false)
  | _ => ("CoinBoats$State", "isHeld", "Z", false)
def tyX7 : Nat → FieldType := fun k => match k with
  | 0 => .object "CoinBoats$Pieces"
  | 1 => .object "CoinBoats$Rows"
  | 2 => .object "CoinBoats$Rows"
  | 3 => .object "CoinBoats$Rows"
  | 4 => .int
  | 5 => .long
  | 6 => .long
  | 7 => .long
  | _ => .boolean
abbrev wsX70 : List Cond := u_ws RX7 TX7 9
theorem nmX7 : ∀ a, a < 9 → ∀ b, b < 9 → a ≠ b → (TX7 a).2.1 ≠ (TX7 b).2.1 := by decide +kernel
theorem tyX7_ok : ∀ k, k < 9 → parseFieldDescriptor (TX7 k).2.2.1 = some (tyX7 k) := by decide +kernel
def RX8 : String := "CoinBoats$Stocks"
def TX8 : u_T := fun k => match k with
  | 0 => ("CoinBoats$Stocks", "costs", "[J", true)
  | 1 => ("CoinBoats$Stocks", "behindBoat", "[J", true)
  | _ => ("CoinBoats$Stocks", "orders", "[I", true)
def tyX8 : Nat → FieldType := fun k => match k with
  | 0 => .array .long
  | 1 => .array .long
  | _ => .array .int
abbrev wsX80 : List Cond := u_ws RX8 TX8 3
theorem nmX8 : ∀ a, a < 3 → ∀ b, b < 3 → a ≠ b → (TX8 a).2.1 ≠ (TX8 b).2.1 := by decide +kernel
theorem tyX8_ok : ∀ k, k < 3 → parseFieldDescriptor (TX8 k).2.2.1 = some (tyX8 k) := by decide +kernel
def RX9 : String := "CoinBoats$Text"
def TX9 : u_T := fun k => match k with
  | 0 => ("CoinBoats$Text", "kinds", "LCoinBoats$Rows;", true)
  | 1 => ("CoinBoats$Text", "islands", "LCoinBoats$Rows;", true)
  | 2 => ("CoinBoats$Text", "wants", "LCoinBoats$Rows;", true)
  | 3 => ("CoinBoats$Text", "losses", "LCoinBoats$Rows;", true)
  | 4 => ("CoinBoats$Text", "flows", "LCoinBoats$Rows;", true)
  | 5 => ("CoinBoats$Text", "wears", "LCoinBoats$Rows;", true)
  | 6 => ("CoinBoats$Text", "boats", "LCoinBoats$Rows;", true)
  | _ => ("CoinBoats$Text", "formulas", "LCoinBoats$Formulas;", true)
def tyX9 : Nat → FieldType := fun k => match k with
  | 0 => .object "CoinBoats$Rows"
  | 1 => .object "CoinBoats$Rows"
  | 2 => .object "CoinBoats$Rows"
  | 3 => .object "CoinBoats$Rows"
  | 4 => .object "CoinBoats$Rows"
  | 5 => .object "CoinBoats$Rows"
  | 6 => .object "CoinBoats$Rows"
  | _ => .object "CoinBoats$Formulas"
abbrev wsX90 : List Cond := u_ws RX9 TX9 8
theorem nmX9 : ∀ a, a < 8 → ∀ b, b < 8 → a ≠ b → (TX9 a).2.1 ≠ (TX9 b).2.1 := by decide +kernel
theorem tyX9_ok : ∀ k, k < 8 → parseFieldDescriptor (TX9 k).2.2.1 = some (tyX9 k) := by decide +kernel
def RX10 : String := "CoinBoats$Tokens"
def TX10 : u_T := fun k => match k with
  | 0 => ("CoinBoats$Tokens", "sorts", "[I", true)
  | 1 => ("CoinBoats$Tokens", "places", "[I", true)
  | 2 => ("CoinBoats$Tokens", "values", "[J", true)
  | 3 => ("CoinBoats$Tokens", "size", "I", false)
  | 4 => ("CoinBoats$Tokens", "at", "I", false)
  | 5 => ("CoinBoats$Tokens", "length", "I", false)
  | _ => ("CoinBoats$Tokens", "value", "J", false)
def tyX10 : Nat → FieldType := fun k => match k with
  | 0 => .array .int
  | 1 => .array .int
  | 2 => .array .long
  | 3 => .int
  | 4 => .int
  | 5 => .int
  | _ => .long
abbrev wsX100 : List Cond := u_ws RX10 TX10 7
theorem nmX10 : ∀ a, a < 7 → ∀ b, b < 7 → a ≠ b → (TX10 a).2.1 ≠ (TX10 b).2.1 := by decide +kernel
theorem tyX10_ok : ∀ k, k < 7 → parseFieldDescriptor (TX10 k).2.2.1 = some (tyX10 k) := by decide +kernel
def RX11 : String := "CoinBoats"
def TX11 : u_T := fun k => match k with
  | 0 => ("CoinBoats", "tape", "[B", true)
  | 1 => ("CoinBoats", "bytes", "I", false)
  | 2 => ("CoinBoats", "faultPlace", "I", false)
  | 3 => ("CoinBoats", "text", "LCoinBoats$Text;", false)
  | 4 => ("CoinBoats", "spare", "LCoinBoats$Text;", false)
  | 5 => ("CoinBoats", "reader", "LCoinBoats$Reader;", true)
  | 6 => ("CoinBoats", "now", "LCoinBoats$State;", true)
  | 7 => ("CoinBoats", "slotA", "LCoinBoats$State;", true)
  | 8 => ("CoinBoats", "slotB", "LCoinBoats$State;", true)
  | 9 => ("CoinBoats", "calendar", "LCoinBoats$Calendar;", true)
  | 10 => ("CoinBoats", "coins", "LCoinBoats$Coins;", true)
  | 11 => ("CoinBoats", "stocks", "LCoinBoats$Stocks;", true)
  | _ => ("CoinBoats", "ledger", "LCoinBoats$Ledger;", true)
def tyX11 : Nat → FieldType := fun k => match k with
  | 0 => .array .byte
  | 1 => .int
  | 2 => .int
  | 3 => .object "CoinBoats$Text"
  | 4 => .object "CoinBoats$Text"
  | 5 => .object "CoinBoats$Reader"
  | 6 => .object "CoinBoats$State"
  | 7 => .object "CoinBoats$State"
  | 8 => .object "CoinBoats$State"
  | 9 => .object "CoinBoats$Calendar"
  | 10 => .object "CoinBoats$Coins"
  | 11 => .object "CoinBoats$Stocks"
  | _ => .object "CoinBoats$Ledger"
abbrev wsX110 : List Cond := u_ws RX11 TX11 13
theorem nmX11 : ∀ a, a < 13 → ∀ b, b < 13 → a ≠ b → (TX11 a).2.1 ≠ (TX11 b).2.1 := by decide +kernel
theorem tyX11_ok : ∀ k, k < 13 → parseFieldDescriptor (TX11 k).2.2.1 = some (tyX11 k) := by decide +kernel
def RX12 : String := "CoinBoatsModel"
def TX12 : u_T := fun k => match k with
  | 0 => ("CoinBoatsModel", "taped", "I", false)
  | 1 => ("CoinBoatsModel", "tape", "[I", true)
  | 2 => ("CoinBoatsModel", "tokens", "I", false)
  | 3 => ("CoinBoatsModel", "tokenSort", "[I", true)
  | 4 => ("CoinBoatsModel", "tokenFrom", "[I", true)
  | 5 => ("CoinBoatsModel", "tokenWhat", "[I", true)
  | 6 => ("CoinBoatsModel", "tokenName", "[J", true)
  | 7 => ("CoinBoatsModel", "head", "I", false)
  | 8 => ("CoinBoatsModel", "fault", "I", false)
  | 9 => ("CoinBoatsModel", "faultPlace", "I", false)
  | 10 => ("CoinBoatsModel", "worst", "I", false)
  | 11 => ("CoinBoatsModel", "worstPlace", "I", false)
  | 12 => ("CoinBoatsModel", "state", "[I", true)
  | 13 => ("CoinBoatsModel", "spent", "[J", true)
  | 14 => ("CoinBoatsModel", "held", "[Z", true)
  | 15 => ("CoinBoatsModel", "names", "I", false)
  | 16 => ("CoinBoatsModel", "named", "[J", true)
  | 17 => ("CoinBoatsModel", "namedSort", "[I", true)
  | 18 => ("CoinBoatsModel", "namedNumber", "[I", true)
  | 19 => ("CoinBoatsModel", "valued", "I", false)
  | 20 => ("CoinBoatsModel", "waiting", "I", false)
  | 21 => ("CoinBoatsModel", "waits", "[I", true)
  | 22 => ("CoinBoatsModel", "exprFrom", "I", false)
  | 23 => ("CoinBoatsModel", "asked", "[I", true)
  | 24 => ("CoinBoatsModel", "stack", "[I", true)
  | 25 => ("CoinBoatsModel", "load", "[I", true)
  | 26 => ("CoinBoatsModel", "till", "[I", true)
  | 27 => ("CoinBoatsModel", "judged", "I", false)
  | 28 => ("CoinBoatsModel", "judgedWhy", "I", false)
  | 29 => ("CoinBoatsModel", "tills", "[I", true)
  | 30 => ("CoinBoatsModel", "fewest", "[I", true)
  | 31 => ("CoinBoatsModel", "queue", "[I", true)
  | 32 => ("CoinBoatsModel", "endless", "[I", true)
  | 33 => ("CoinBoatsModel", "bestKinds", "I", false)
  | 34 => ("CoinBoatsModel", "bestSum", "I", false)
  | 35 => ("CoinBoatsModel", "coin", "[J", true)
  | 36 => ("CoinBoatsModel", "coinThen", "[J", true)
  | 37 => ("CoinBoatsModel", "ordered", "I", false)
  | 38 => ("CoinBoatsModel", "went", "[I", true)
  | 39 => ("CoinBoatsModel", "came", "[I", true)
  | 40 => ("CoinBoatsModel", "lookedAll", "I", false)
  | 41 => ("CoinBoatsModel", "falseAll", "I", false)
  | 42 => ("CoinBoatsModel", "lookedAt", "[I", true)
  | _ => ("CoinBoatsModel", "falseAt", "[I", true)
def tyX12 : Nat → FieldType := fun k => match k with
  | 0 => .int
  | 1 => .array .int
  | 2 => .int
  | 3 => .array .int
  | 4 => .array .int
  | 5 => .array .int
  | 6 => .array .long
  | 7 => .int
  | 8 => .int
  | 9 => .int
  | 10 => .int
  | 11 => .int
  | 12 => .array .int
  | 13 => .array .long
  | 14 => .array .boolean
  | 15 => .int
  | 16 => .array .long
  | 17 => .array .int
  | 18 => .array .int
  | 19 => .int
  | 20 => .int
  | 21 => .array .int
  | 22 => .int
  | 23 => .array .int
  | 24 => .array .int
  | 25 => .array .int
  | 26 => .array .int
  | 27 => .int
  | 28 => .int
  | 29 => .array .int
  | 30 => .array .int
  | 31 => .array .int
  | 32 => .array .int
  | 33 => .int
  | 34 => .int
  | 35 => .array .long
  | 36 => .array .long
  | 37 => .int
  | 38 => .array .int
  | 39 => .array .int
  | 40 => .int
  | 41 => .int
  | 42 => .array .int
  | _ => .array .int
abbrev wsX120 : List Cond := u_ws RX12 TX12 44
theorem nmX12 : ∀ a, a < 44 → ∀ b, b < 44 → a ≠ b → (TX12 a).2.1 ≠ (TX12 b).2.1 := by decide +kernel
theorem tyX12_ok : ∀ k, k < 44 → parseFieldDescriptor (TX12 k).2.2.1 = some (tyX12 k) := by decide +kernel
abbrev vwCl : List vw_C := [(RX0, TX0, 3), (RX1, TX1, 4), (RX2, TX2, 5), (RX3, TX3, 8), (RX4, TX4, 1), (RX5, TX5, 8), (RX6, TX6, 4), (RX7, TX7, 9), (RX8, TX8, 3), (RX9, TX9, 8), (RX10, TX10, 7), (RX11, TX11, 13), (RX12, TX12, 44)]
