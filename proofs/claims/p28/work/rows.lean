section
-- ===== PART A: goes FIRST, ahead of the names: the tables' words, and 'selects' of the private methods out of them =====
/-- a private method of a class that the tables say can be made, by its rows of tables_1 -/
def lw_okq (q : MethodName × Nat) : Prop := (q.1.cls ≠ "java/lang/invoke/MethodHandle" ∧ q.1.cls ≠ "java/lang/invoke/VarHandle") ∧ Cond.instantiable q.1.cls q.2 ∈ tables_1 ∧ Cond.privateMethod q.1 ∈ tables_1 ∧ Cond.instanceMethod q.1 ∈ tables_1
theorem lw_p0 : lw_okq (⟨"RiddleMill$Tokens", "addNumber", "(LRiddleMill$Tape;I)I"⟩, 4) := ⟨⟨by decide +kernel, by decide +kernel⟩, List.mem_of_getElem? (i := 57) (by decide +kernel), List.mem_of_getElem? (i := 345) (by decide +kernel), List.mem_of_getElem? (i := 346) (by decide +kernel)⟩
theorem lw_p1 : lw_okq (⟨"RiddleMill$Tokens", "add", "(III)V"⟩, 4) := ⟨⟨by decide +kernel, by decide +kernel⟩, List.mem_of_getElem? (i := 57) (by decide +kernel), List.mem_of_getElem? (i := 349) (by decide +kernel), List.mem_of_getElem? (i := 350) (by decide +kernel)⟩
theorem lw_p2 : lw_okq (⟨"RiddleMill$Tokens", "addWord", "(LRiddleMill$Tape;I)I"⟩, 4) := ⟨⟨by decide +kernel, by decide +kernel⟩, List.mem_of_getElem? (i := 57) (by decide +kernel), List.mem_of_getElem? (i := 356) (by decide +kernel), List.mem_of_getElem? (i := 357) (by decide +kernel)⟩
theorem lw_p3 : lw_okq (⟨"RiddleMill$PuzzleReader", "hasForm", "()Z"⟩, 4) := ⟨⟨by decide +kernel, by decide +kernel⟩, List.mem_of_getElem? (i := 51) (by decide +kernel), List.mem_of_getElem? (i := 419) (by decide +kernel), List.mem_of_getElem? (i := 420) (by decide +kernel)⟩
theorem lw_p4 : lw_okq (⟨"RiddleMill$PuzzleReader", "passes", "(II)Z"⟩, 4) := ⟨⟨by decide +kernel, by decide +kernel⟩, List.mem_of_getElem? (i := 51) (by decide +kernel), List.mem_of_getElem? (i := 427) (by decide +kernel), List.mem_of_getElem? (i := 428) (by decide +kernel)⟩
theorem lw_p5 : lw_okq (⟨"RiddleMill$PuzzleReader", "passesRule", "()Z"⟩, 4) := ⟨⟨by decide +kernel, by decide +kernel⟩, List.mem_of_getElem? (i := 51) (by decide +kernel), List.mem_of_getElem? (i := 435) (by decide +kernel), List.mem_of_getElem? (i := 436) (by decide +kernel)⟩
theorem lw_p6 : lw_okq (⟨"RiddleMill$PuzzleReader", "passesCells", "(I)Z"⟩, 4) := ⟨⟨by decide +kernel, by decide +kernel⟩, List.mem_of_getElem? (i := 51) (by decide +kernel), List.mem_of_getElem? (i := 440) (by decide +kernel), List.mem_of_getElem? (i := 441) (by decide +kernel)⟩
theorem lw_p7 : lw_okq (⟨"RiddleMill$PuzzleReader", "fail", "(I)Z"⟩, 4) := ⟨⟨by decide +kernel, by decide +kernel⟩, List.mem_of_getElem? (i := 51) (by decide +kernel), List.mem_of_getElem? (i := 446) (by decide +kernel), List.mem_of_getElem? (i := 447) (by decide +kernel)⟩
theorem lw_p8 : lw_okq (⟨"RiddleMill$PuzzleReader", "readSizes", "(LRiddleMill$Puzzle;)Z"⟩, 4) := ⟨⟨by decide +kernel, by decide +kernel⟩, List.mem_of_getElem? (i := 51) (by decide +kernel), List.mem_of_getElem? (i := 454) (by decide +kernel), List.mem_of_getElem? (i := 455) (by decide +kernel)⟩
theorem lw_p9 : lw_okq (⟨"RiddleMill$PuzzleReader", "readRules", "(LRiddleMill$Puzzle;)Z"⟩, 4) := ⟨⟨by decide +kernel, by decide +kernel⟩, List.mem_of_getElem? (i := 51) (by decide +kernel), List.mem_of_getElem? (i := 466) (by decide +kernel), List.mem_of_getElem? (i := 467) (by decide +kernel)⟩
theorem lw_p10 : lw_okq (⟨"RiddleMill$PuzzleReader", "readRule", "(LRiddleMill$Puzzle;)Z"⟩, 4) := ⟨⟨by decide +kernel, by decide +kernel⟩, List.mem_of_getElem? (i := 51) (by decide +kernel), List.mem_of_getElem? (i := 470) (by decide +kernel), List.mem_of_getElem? (i := 471) (by decide +kernel)⟩
theorem lw_p11 : lw_okq (⟨"RiddleMill$PuzzleReader", "readNumber", "(LRiddleMill$Puzzle;LRiddleMill$Rule;)Z"⟩, 4) := ⟨⟨by decide +kernel, by decide +kernel⟩, List.mem_of_getElem? (i := 51) (by decide +kernel), List.mem_of_getElem? (i := 499) (by decide +kernel), List.mem_of_getElem? (i := 500) (by decide +kernel)⟩
theorem lw_p12 : lw_okq (⟨"RiddleMill$PuzzleReader", "readTimes", "(LRiddleMill$Rule;)Z"⟩, 4) := ⟨⟨by decide +kernel, by decide +kernel⟩, List.mem_of_getElem? (i := 51) (by decide +kernel), List.mem_of_getElem? (i := 514) (by decide +kernel), List.mem_of_getElem? (i := 515) (by decide +kernel)⟩
theorem lw_p13 : lw_okq (⟨"RiddleMill$PuzzleReader", "readCells", "(LRiddleMill$Puzzle;LRiddleMill$Rule;)Z"⟩, 4) := ⟨⟨by decide +kernel, by decide +kernel⟩, List.mem_of_getElem? (i := 51) (by decide +kernel), List.mem_of_getElem? (i := 518) (by decide +kernel), List.mem_of_getElem? (i := 519) (by decide +kernel)⟩
theorem lw_p14 : lw_okq (⟨"RiddleMill", "takeDraft", "()V"⟩, 9) := ⟨⟨by decide +kernel, by decide +kernel⟩, List.mem_of_getElem? (i := 27) (by decide +kernel), List.mem_of_getElem? (i := 527) (by decide +kernel), List.mem_of_getElem? (i := 528) (by decide +kernel)⟩
theorem lw_p15 : lw_okq (⟨"RiddleMill$Rule", "hasPair", "([IZ)Z"⟩, 6) := ⟨⟨by decide +kernel, by decide +kernel⟩, List.mem_of_getElem? (i := 204) (by decide +kernel), List.mem_of_getElem? (i := 564) (by decide +kernel), List.mem_of_getElem? (i := 565) (by decide +kernel)⟩
def lw_privs_1 : List (MethodName × Nat) := [(⟨"RiddleMill$Tokens", "addNumber", "(LRiddleMill$Tape;I)I"⟩, 4), (⟨"RiddleMill$Tokens", "add", "(III)V"⟩, 4), (⟨"RiddleMill$Tokens", "addWord", "(LRiddleMill$Tape;I)I"⟩, 4), (⟨"RiddleMill$PuzzleReader", "hasForm", "()Z"⟩, 4), (⟨"RiddleMill$PuzzleReader", "passes", "(II)Z"⟩, 4), (⟨"RiddleMill$PuzzleReader", "passesRule", "()Z"⟩, 4), (⟨"RiddleMill$PuzzleReader", "passesCells", "(I)Z"⟩, 4), (⟨"RiddleMill$PuzzleReader", "fail", "(I)Z"⟩, 4), (⟨"RiddleMill$PuzzleReader", "readSizes", "(LRiddleMill$Puzzle;)Z"⟩, 4), (⟨"RiddleMill$PuzzleReader", "readRules", "(LRiddleMill$Puzzle;)Z"⟩, 4), (⟨"RiddleMill$PuzzleReader", "readRule", "(LRiddleMill$Puzzle;)Z"⟩, 4), (⟨"RiddleMill$PuzzleReader", "readNumber", "(LRiddleMill$Puzzle;LRiddleMill$Rule;)Z"⟩, 4), (⟨"RiddleMill$PuzzleReader", "readTimes", "(LRiddleMill$Rule;)Z"⟩, 4), (⟨"RiddleMill$PuzzleReader", "readCells", "(LRiddleMill$Puzzle;LRiddleMill$Rule;)Z"⟩, 4), (⟨"RiddleMill", "takeDraft", "()V"⟩, 9), (⟨"RiddleMill$Rule", "hasPair", "([IZ)Z"⟩, 6)]
theorem lw_r1 : ∀ q ∈ lw_privs_1, lw_okq q := List.forall_mem_cons.mpr ⟨lw_p0, List.forall_mem_cons.mpr ⟨lw_p1, List.forall_mem_cons.mpr ⟨lw_p2, List.forall_mem_cons.mpr ⟨lw_p3, List.forall_mem_cons.mpr ⟨lw_p4, List.forall_mem_cons.mpr ⟨lw_p5, List.forall_mem_cons.mpr ⟨lw_p6, List.forall_mem_cons.mpr ⟨lw_p7, List.forall_mem_cons.mpr ⟨lw_p8, List.forall_mem_cons.mpr ⟨lw_p9, List.forall_mem_cons.mpr ⟨lw_p10, List.forall_mem_cons.mpr ⟨lw_p11, List.forall_mem_cons.mpr ⟨lw_p12, List.forall_mem_cons.mpr ⟨lw_p13, List.forall_mem_cons.mpr ⟨lw_p14, List.forall_mem_cons.mpr ⟨lw_p15, fun _ h => absurd h List.not_mem_nil⟩⟩⟩⟩⟩⟩⟩⟩⟩⟩⟩⟩⟩⟩⟩⟩
theorem lw_p16 : lw_okq (⟨"RiddleMill$Rule", "breaksSum", "([II)Z"⟩, 6) := ⟨⟨by decide +kernel, by decide +kernel⟩, List.mem_of_getElem? (i := 204) (by decide +kernel), List.mem_of_getElem? (i := 568) (by decide +kernel), List.mem_of_getElem? (i := 569) (by decide +kernel)⟩
theorem lw_p17 : lw_okq (⟨"RiddleMill$Rule", "breaksProduct", "([I)Z"⟩, 6) := ⟨⟨by decide +kernel, by decide +kernel⟩, List.mem_of_getElem? (i := 204) (by decide +kernel), List.mem_of_getElem? (i := 572) (by decide +kernel), List.mem_of_getElem? (i := 573) (by decide +kernel)⟩
theorem lw_p18 : lw_okq (⟨"RiddleMill$Rule", "breaksOrder", "([I)Z"⟩, 6) := ⟨⟨by decide +kernel, by decide +kernel⟩, List.mem_of_getElem? (i := 204) (by decide +kernel), List.mem_of_getElem? (i := 576) (by decide +kernel), List.mem_of_getElem? (i := 577) (by decide +kernel)⟩
theorem lw_p19 : lw_okq (⟨"RiddleMill$Rule", "breaksSight", "([I)Z"⟩, 6) := ⟨⟨by decide +kernel, by decide +kernel⟩, List.mem_of_getElem? (i := 204) (by decide +kernel), List.mem_of_getElem? (i := 580) (by decide +kernel), List.mem_of_getElem? (i := 581) (by decide +kernel)⟩
theorem lw_p20 : lw_okq (⟨"RiddleMill$Rule", "hasRemainder", "([II)Z"⟩, 6) := ⟨⟨by decide +kernel, by decide +kernel⟩, List.mem_of_getElem? (i := 204) (by decide +kernel), List.mem_of_getElem? (i := 584) (by decide +kernel), List.mem_of_getElem? (i := 585) (by decide +kernel)⟩
theorem lw_p21 : lw_okq (⟨"RiddleMill$Rule", "breaksCount", "([I)Z"⟩, 6) := ⟨⟨by decide +kernel, by decide +kernel⟩, List.mem_of_getElem? (i := 204) (by decide +kernel), List.mem_of_getElem? (i := 588) (by decide +kernel), List.mem_of_getElem? (i := 589) (by decide +kernel)⟩
theorem lw_p22 : lw_okq (⟨"RiddleMill$Rule", "breaksIs", "([I)Z"⟩, 6) := ⟨⟨by decide +kernel, by decide +kernel⟩, List.mem_of_getElem? (i := 204) (by decide +kernel), List.mem_of_getElem? (i := 592) (by decide +kernel), List.mem_of_getElem? (i := 593) (by decide +kernel)⟩
theorem lw_p23 : lw_okq (⟨"RiddleMill$Rule", "breaksApart", "([I)Z"⟩, 6) := ⟨⟨by decide +kernel, by decide +kernel⟩, List.mem_of_getElem? (i := 204) (by decide +kernel), List.mem_of_getElem? (i := 596) (by decide +kernel), List.mem_of_getElem? (i := 597) (by decide +kernel)⟩
theorem lw_p24 : lw_okq (⟨"java/lang/Throwable", "fillInStackTrace", "(I)Ljava/lang/Throwable;"⟩, 6) := ⟨⟨by decide +kernel, by decide +kernel⟩, List.mem_of_getElem? (i := 638) (by decide +kernel), List.mem_of_getElem? (i := 636) (by decide +kernel), List.mem_of_getElem? (i := 637) (by decide +kernel)⟩
theorem lw_p25 : lw_okq (⟨"RiddleMill", "requireRule", "(I)V"⟩, 9) := ⟨⟨by decide +kernel, by decide +kernel⟩, List.mem_of_getElem? (i := 27) (by decide +kernel), List.mem_of_getElem? (i := 671) (by decide +kernel), List.mem_of_getElem? (i := 672) (by decide +kernel)⟩
theorem lw_p26 : lw_okq (⟨"RiddleMill", "requirePuzzle", "()V"⟩, 9) := ⟨⟨by decide +kernel, by decide +kernel⟩, List.mem_of_getElem? (i := 27) (by decide +kernel), List.mem_of_getElem? (i := 694) (by decide +kernel), List.mem_of_getElem? (i := 695) (by decide +kernel)⟩
theorem lw_p27 : lw_okq (⟨"RiddleMill$Paper", "addWord", "(Ljava/lang/String;)V"⟩, 2) := ⟨⟨by decide +kernel, by decide +kernel⟩, List.mem_of_getElem? (i := 91) (by decide +kernel), List.mem_of_getElem? (i := 723) (by decide +kernel), List.mem_of_getElem? (i := 724) (by decide +kernel)⟩
theorem lw_p28 : lw_okq (⟨"RiddleMill$Paper", "add", "(I)V"⟩, 2) := ⟨⟨by decide +kernel, by decide +kernel⟩, List.mem_of_getElem? (i := 91) (by decide +kernel), List.mem_of_getElem? (i := 729) (by decide +kernel), List.mem_of_getElem? (i := 730) (by decide +kernel)⟩
theorem lw_p29 : lw_okq (⟨"RiddleMill$Paper", "addNumber", "(I)V"⟩, 2) := ⟨⟨by decide +kernel, by decide +kernel⟩, List.mem_of_getElem? (i := 91) (by decide +kernel), List.mem_of_getElem? (i := 733) (by decide +kernel), List.mem_of_getElem? (i := 734) (by decide +kernel)⟩
theorem lw_p30 : lw_okq (⟨"RiddleMill$Paper", "addRule", "(LRiddleMill$Rule;I)V"⟩, 2) := ⟨⟨by decide +kernel, by decide +kernel⟩, List.mem_of_getElem? (i := 91) (by decide +kernel), List.mem_of_getElem? (i := 737) (by decide +kernel), List.mem_of_getElem? (i := 738) (by decide +kernel)⟩
theorem lw_p31 : lw_okq (⟨"RiddleMill$Paper", "addCell", "(II)V"⟩, 2) := ⟨⟨by decide +kernel, by decide +kernel⟩, List.mem_of_getElem? (i := 91) (by decide +kernel), List.mem_of_getElem? (i := 741) (by decide +kernel), List.mem_of_getElem? (i := 742) (by decide +kernel)⟩
def lw_privs_2 : List (MethodName × Nat) := [(⟨"RiddleMill$Rule", "breaksSum", "([II)Z"⟩, 6), (⟨"RiddleMill$Rule", "breaksProduct", "([I)Z"⟩, 6), (⟨"RiddleMill$Rule", "breaksOrder", "([I)Z"⟩, 6), (⟨"RiddleMill$Rule", "breaksSight", "([I)Z"⟩, 6), (⟨"RiddleMill$Rule", "hasRemainder", "([II)Z"⟩, 6), (⟨"RiddleMill$Rule", "breaksCount", "([I)Z"⟩, 6), (⟨"RiddleMill$Rule", "breaksIs", "([I)Z"⟩, 6), (⟨"RiddleMill$Rule", "breaksApart", "([I)Z"⟩, 6), (⟨"java/lang/Throwable", "fillInStackTrace", "(I)Ljava/lang/Throwable;"⟩, 6), (⟨"RiddleMill", "requireRule", "(I)V"⟩, 9), (⟨"RiddleMill", "requirePuzzle", "()V"⟩, 9), (⟨"RiddleMill$Paper", "addWord", "(Ljava/lang/String;)V"⟩, 2), (⟨"RiddleMill$Paper", "add", "(I)V"⟩, 2), (⟨"RiddleMill$Paper", "addNumber", "(I)V"⟩, 2), (⟨"RiddleMill$Paper", "addRule", "(LRiddleMill$Rule;I)V"⟩, 2), (⟨"RiddleMill$Paper", "addCell", "(II)V"⟩, 2)]
theorem lw_r2 : ∀ q ∈ lw_privs_2, lw_okq q := List.forall_mem_cons.mpr ⟨lw_p16, List.forall_mem_cons.mpr ⟨lw_p17, List.forall_mem_cons.mpr ⟨lw_p18, List.forall_mem_cons.mpr ⟨lw_p19, List.forall_mem_cons.mpr ⟨lw_p20, List.forall_mem_cons.mpr ⟨lw_p21, List.forall_mem_cons.mpr ⟨lw_p22, List.forall_mem_cons.mpr ⟨lw_p23, List.forall_mem_cons.mpr ⟨lw_p24, List.forall_mem_cons.mpr ⟨lw_p25, List.forall_mem_cons.mpr ⟨lw_p26, List.forall_mem_cons.mpr ⟨lw_p27, List.forall_mem_cons.mpr ⟨lw_p28, List.forall_mem_cons.mpr ⟨lw_p29, List.forall_mem_cons.mpr ⟨lw_p30, List.forall_mem_cons.mpr ⟨lw_p31, fun _ h => absurd h List.not_mem_nil⟩⟩⟩⟩⟩⟩⟩⟩⟩⟩⟩⟩⟩⟩⟩⟩
theorem lw_p32 : lw_okq (⟨"RiddleMill", "requireCell", "(I)V"⟩, 9) := ⟨⟨by decide +kernel, by decide +kernel⟩, List.mem_of_getElem? (i := 27) (by decide +kernel), List.mem_of_getElem? (i := 755) (by decide +kernel), List.mem_of_getElem? (i := 756) (by decide +kernel)⟩
theorem lw_p33 : lw_okq (⟨"RiddleMill$Search", "begin", "(II)V"⟩, 9) := ⟨⟨by decide +kernel, by decide +kernel⟩, List.mem_of_getElem? (i := 106) (by decide +kernel), List.mem_of_getElem? (i := 790) (by decide +kernel), List.mem_of_getElem? (i := 791) (by decide +kernel)⟩
theorem lw_p34 : lw_okq (⟨"RiddleMill$Search", "keep", "()V"⟩, 9) := ⟨⟨by decide +kernel, by decide +kernel⟩, List.mem_of_getElem? (i := 106) (by decide +kernel), List.mem_of_getElem? (i := 798) (by decide +kernel), List.mem_of_getElem? (i := 799) (by decide +kernel)⟩
theorem lw_p35 : lw_okq (⟨"RiddleMill$Search", "giveUp", "()V"⟩, 9) := ⟨⟨by decide +kernel, by decide +kernel⟩, List.mem_of_getElem? (i := 106) (by decide +kernel), List.mem_of_getElem? (i := 802) (by decide +kernel), List.mem_of_getElem? (i := 803) (by decide +kernel)⟩
theorem lw_p36 : lw_okq (⟨"RiddleMill$Search", "choice", "(III)I"⟩, 9) := ⟨⟨by decide +kernel, by decide +kernel⟩, List.mem_of_getElem? (i := 106) (by decide +kernel), List.mem_of_getElem? (i := 806) (by decide +kernel), List.mem_of_getElem? (i := 807) (by decide +kernel)⟩
theorem lw_p37 : lw_okq (⟨"RiddleMill$Reasoner", "findFirstBy", "(LRiddleMill$Rule;I)Z"⟩, 8) := ⟨⟨by decide +kernel, by decide +kernel⟩, List.mem_of_getElem? (i := 146) (by decide +kernel), List.mem_of_getElem? (i := 855) (by decide +kernel), List.mem_of_getElem? (i := 856) (by decide +kernel)⟩
theorem lw_p38 : lw_okq (⟨"RiddleMill$Reasoner", "isRefuted", "(LRiddleMill$Rule;III)Z"⟩, 8) := ⟨⟨by decide +kernel, by decide +kernel⟩, List.mem_of_getElem? (i := 146) (by decide +kernel), List.mem_of_getElem? (i := 859) (by decide +kernel), List.mem_of_getElem? (i := 860) (by decide +kernel)⟩
theorem lw_p39 : lw_okq (⟨"RiddleMill$Reasoner", "hasValue", "(II)Z"⟩, 8) := ⟨⟨by decide +kernel, by decide +kernel⟩, List.mem_of_getElem? (i := 146) (by decide +kernel), List.mem_of_getElem? (i := 863) (by decide +kernel), List.mem_of_getElem? (i := 864) (by decide +kernel)⟩
theorem lw_p40 : lw_okq (⟨"RiddleMill$Reasoner", "gradeOf", "(LRiddleMill$Rule;)I"⟩, 8) := ⟨⟨by decide +kernel, by decide +kernel⟩, List.mem_of_getElem? (i := 146) (by decide +kernel), List.mem_of_getElem? (i := 871) (by decide +kernel), List.mem_of_getElem? (i := 872) (by decide +kernel)⟩
theorem lw_p41 : lw_okq (⟨"RiddleMill$Reasoner", "deduceBy", "(LRiddleMill$Rule;I)I"⟩, 8) := ⟨⟨by decide +kernel, by decide +kernel⟩, List.mem_of_getElem? (i := 146) (by decide +kernel), List.mem_of_getElem? (i := 883) (by decide +kernel), List.mem_of_getElem? (i := 884) (by decide +kernel)⟩
theorem lw_p42 : lw_okq (⟨"RiddleMill$Maker", "draw", "()I"⟩, 2) := ⟨⟨by decide +kernel, by decide +kernel⟩, List.mem_of_getElem? (i := 184) (by decide +kernel), List.mem_of_getElem? (i := 924) (by decide +kernel), List.mem_of_getElem? (i := 925) (by decide +kernel)⟩
def lw_privs_3 : List (MethodName × Nat) := [(⟨"RiddleMill", "requireCell", "(I)V"⟩, 9), (⟨"RiddleMill$Search", "begin", "(II)V"⟩, 9), (⟨"RiddleMill$Search", "keep", "()V"⟩, 9), (⟨"RiddleMill$Search", "giveUp", "()V"⟩, 9), (⟨"RiddleMill$Search", "choice", "(III)I"⟩, 9), (⟨"RiddleMill$Reasoner", "findFirstBy", "(LRiddleMill$Rule;I)Z"⟩, 8), (⟨"RiddleMill$Reasoner", "isRefuted", "(LRiddleMill$Rule;III)Z"⟩, 8), (⟨"RiddleMill$Reasoner", "hasValue", "(II)Z"⟩, 8), (⟨"RiddleMill$Reasoner", "gradeOf", "(LRiddleMill$Rule;)I"⟩, 8), (⟨"RiddleMill$Reasoner", "deduceBy", "(LRiddleMill$Rule;I)I"⟩, 8), (⟨"RiddleMill$Maker", "draw", "()I"⟩, 2)]
theorem lw_r3 : ∀ q ∈ lw_privs_3, lw_okq q := List.forall_mem_cons.mpr ⟨lw_p32, List.forall_mem_cons.mpr ⟨lw_p33, List.forall_mem_cons.mpr ⟨lw_p34, List.forall_mem_cons.mpr ⟨lw_p35, List.forall_mem_cons.mpr ⟨lw_p36, List.forall_mem_cons.mpr ⟨lw_p37, List.forall_mem_cons.mpr ⟨lw_p38, List.forall_mem_cons.mpr ⟨lw_p39, List.forall_mem_cons.mpr ⟨lw_p40, List.forall_mem_cons.mpr ⟨lw_p41, List.forall_mem_cons.mpr ⟨lw_p42, fun _ h => absurd h List.not_mem_nil⟩⟩⟩⟩⟩⟩⟩⟩⟩⟩⟩
def lw_privs : List (MethodName × Nat) := lw_privs_1 ++ (lw_privs_2 ++ (lw_privs_3))
def lw_tbl : List Cond := k2_sels lw_privs ++ tables_1
theorem lw_privs_ok : ∀ q ∈ lw_privs, lw_okq q := by
  show ∀ q ∈ lw_privs_1 ++ (lw_privs_2 ++ (lw_privs_3)), lw_okq q
  exact List.forall_mem_append.mpr ⟨lw_r1, List.forall_mem_append.mpr ⟨lw_r2, lw_r3⟩⟩
/-- the streams that the claim lets the run draw from -/
abbrev lw_cs : List Choice := [Jvm.Choice.named "NaN.bits"]
theorem lw_bits : nanBits ∈ lw_cs := by first | decide | exact List.mem_cons_self | simp [lw_cs, nanBits]
end
section
/-- the kit has no va_AOA: what the printed rows of new T[n][m] ask, as va_AO for an array of arrays -/
def va_AOA (ty : FieldType) (U : State) : Prop := (Cond.arrayOver (.array ty)).before #[] U = true
theorem va_AOA.use {ty : FieldType} {A : Array Value} {U : State} (h : va_AOA ty U) : (Cond.arrayOver (.array ty)).before A U = true := h
/-! ===== BEGIN words of one list among another's, by their places ===== -/
theorem goodIn_r {big : List Cond} (ws : List Cond) (ps : List Nat) (hp : ws = ps.filterMap (fun i => big[i]?)) (h : ws.all goodWord = true) : GoodIn big ws := by
  intro w hw
  have h1 := List.all_eq_true.mp h w hw
  rw [hp] at hw
  obtain ⟨i, -, hi⟩ := List.mem_filterMap.mp hw
  have hm : w ∈ big := by first | exact List.mem_of_getElem? hi | exact List.getElem?_mem hi
  exact ⟨hm, good_of_word h1⟩
theorem goodIn_app {big a b : List Cond} (ha : GoodIn big a) (hb : GoodIn big b) : GoodIn big (a ++ b) := fun w h => (List.mem_append.mp h).elim (ha w) (hb w)
theorem goodIn_ca {big a b : List Cond} {c : Cond} (ha : GoodIn big (c :: a)) (hb : GoodIn big b) : GoodIn big (c :: (a ++ b)) := fun w h => (List.mem_cons.mp h).elim (fun e => ha w (List.mem_cons.mpr (Or.inl e))) (fun h => (List.mem_append.mp h).elim (fun h => ha w (List.mem_cons.mpr (Or.inr h))) (hb w))
theorem goodIn_sub {big ws : List Cond} (hm : ∀ w ∈ ws, w ∈ big) (h : ws.all goodWord = true) : GoodIn big ws := fun w hw => ⟨hm w hw, good_of_word (List.all_eq_true.mp h w hw)⟩
/-! ===== END ===== -/

/-! ===== BEGIN new T[n][m]: the outer array a place, the inner ones among the pooled ===== -/
/-- f, but v at every address of l -/
def vr_up {α : Type} (f : Nat → α) (l : List Nat) (v : α) : Nat → α := fun a => if a ∈ l then v else f a
theorem vr_up_in {α : Type} {f : Nat → α} {l : List Nat} {v : α} {a : Nat} (h : a ∈ l) : vr_up f l v a = v := if_pos h
theorem vr_up_ne {α : Type} {f : Nat → α} {l : List Nat} {v : α} {a : Nat} (h : a ∉ l) : vr_up f l v a = f a := if_neg h
theorem vr_rows {L l : List Nat} {f : Nat → va_E} {e : va_E} (h : ∀ a, a ∈ l → a ∉ L) : va_pl L f ++ l.map (fun a => (a, e)) = va_pl (L ++ l) (vr_up f l e) := by
  unfold va_pl
  rw [List.map_append]
  congr 1
  · apply List.map_congr_left
    intro a ha
    rw [vr_up_ne (fun q => h a q ha)]
  · apply List.map_congr_left
    intro a ha
    rw [vr_up_in ha]
theorem vr_lay {X rows : va_W} {x : Nat × va_E} {pl : va_W} {D : va_G} {cl : List vw_C} {H : Heap} (hP : va_P D cl (((X ++ pl) ++ [x]) ++ rows) H) : va_P D cl ((X ++ [x]) ++ (pl ++ rows)) H := by
  rw [List.append_assoc (X ++ pl)] at hP
  have h := va_P.swap hP
  rw [← List.append_assoc X] at h
  have h2 := va_P.swap h
  rw [List.append_assoc (X ++ [x])] at h2
  exact h2
theorem vr_layD {X rows : va_W} {x : Nat × va_E} {pl : va_W} {A : Nat → Prop} (hD : va_D A (((X ++ pl) ++ [x]) ++ rows)) : va_D A ((X ++ [x]) ++ (pl ++ rows)) := by
  rw [List.append_assoc (X ++ pl)] at hD
  have h := va_D.swap hD
  rw [← List.append_assoc X] at h
  have h2 := va_D.swap h
  rw [List.append_assoc (X ++ [x])] at h2
  exact h2
theorem vr_outer (c : ClassId) (N h0 : Nat) : ∀ i : Nat, Jvm.Free.Multi.outerC c N h0 i = arrV c N (fun j => va_rf (if j < i then some (h0 + 1 + j) else none))
  | 0 => by
    show ({ cls := c, slots := Array.replicate N .null, vm := .none } : Cell) = _
    rw [arrV_new]
    refine congrArg (arrV c N) (funext fun j => ?_)
    simp [va_rf]
  | i + 1 => by
    show (Jvm.Free.Multi.outerC c N h0 i).setSlot i (.ref (h0 + 1 + i)) = _
    rw [vr_outer c N h0 i, arrV_store]
    refine congrArg (arrV c N) (funext fun j => ?_)
    by_cases e : j = i
    · subst e
      simp [updV, va_rf]
    · by_cases h : j < i
      · simp [updV, e, h, Nat.lt_succ_of_lt h]
      · simp [updV, e, h, show ¬ j < i + 1 by omega]
section VGM
variable {p : Program} {l : Launch} {e : Env} {R : Room} {s : State} {m : MethodId} {args : Array Value} {below : List Frame} {meth : Method} {c : Code} {H : Heap} {locs : List Loc} {cells slots : Nat} {Q : State → Prop}
variable {cc : ByteArray} {pc : Nat} {ls : Array Slot} {rest : List Value} {D : va_G} {cl : List vw_C} {A : Nat → Prop} {a : Nat} {tys : List (ClassId × FieldType)} {ws : va_W} {H0 : Heap}
theorem va_mna {X : va_W} {L : List Nat} {f : Nat → va_E} {cc : ByteArray} (hexec : p.tables.exec = Jvm.exec) (hb : c.code = cc) {own : String} {index : Nat} {ty : FieldType} {cy : ClassId} (hown : s.vm.findClass own = some m.cls) (hclink : (Cond.classLink own index ("[" ++ (FieldType.array ty).toString)).before args s = true) (hover : va_AOA ty s) (harr : (Cond.arrayClass ty).before args s = true) (hcy : s.vm.findClass (FieldType.array ty).toString = some cy)
    (hK : va_K D cl tys s) (hP : va_P D cl (X ++ va_pl L f) H) (hD : va_D A (X ++ va_pl L f)) (hS : va_S A H0 H locs) (hA : ∀ q, H0.size ≤ q → A q) {n k : Int32} {N' K' : Nat} {z : vp_A} (hn : ¬ n < 0) (hk : ¬ k < 0) (hN : n.toNatClampNeg = N') (hM : k.toNatClampNeg = K')
    (hb1 : N' * 4 ≤ 536870912) (hb2 : K' * componentBytes ty ≤ 536870912) (hb3 : K' ≤ 536870912) (hdf : fits ty (defaultValue ty) = true) (hdd : (defaultValue ty).isDefault = true) (hcells : cells + (1 + N') ≤ R.cells) (hslots : slots + (N' + N' * K') ≤ R.slots) (hz : ∀ c : ClassId, Jvm.Free.Multi.innerC c K' (defaultValue ty) = vp_cell c z) (hdg : decode cc pc = .ok (.multianewarray index 2, 4))
    (kk : ∀ (q : Nat) (r : Nat → Nat) (cA : ClassId) (H1 : Heap), (∀ i j : Nat, i < N' → j < N' → r i = r j → i = j) → (∀ i : Nat, i < N' → r i ∉ L) → va_K D cl (tys ++ [(cA, .array ty)]) s →
      va_P D cl ((X ++ [(q, .inl (cA, N', .inr (.inr (.inr (.inr (fun i => if i < N' then some (r i) else none))))))]) ++ va_pl (L ++ (List.range N').map r) (vr_up f ((List.range N').map r) (.inl (cy, z)))) H1 → va_D A ((X ++ [(q, .inl (cA, N', .inr (.inr (.inr (.inr (fun i => if i < N' then some (r i) else none))))))]) ++ va_pl (L ++ (List.range N').map r) (vr_up f ((List.range N').map r) (.inl (cy, z)))) → va_S A H0 H1 locs →
      W p l e R s m args below meth c H1 locs (cells + 1 + N') (slots + N' + N' * K') Q (F0 m (pc + 4) ls (.ref q :: rest))) : W p l e R s m args below meth c H locs cells slots Q (F0 m pc ls (.int k :: .int n :: rest)) := by
  subst hN
  subst hM
  intro T hT Xs
  obtain ⟨vm₁, cA, comp, -, fA, fC, hO, -, X', step⟩ := Xs.multianewarray2F hexec hown hclink (va_AOA.use hover) harr (g := F0 m pc ls (.int k :: .int n :: rest)) rfl (by rw [hb]; exact hdg) rfl hn hk hb1 hb2 hb3 hdf hdd hcells hslots
  have ec : some cy = some comp := hcy.symm.trans fC
  cases ec
  generalize hF : Jvm.Free.Multi.fill (T.setVm vm₁) cA cy n.toNatClampNeg k.toNatClampNeg (defaultValue ty) n.toNatClampNeg = F at X' step
  have hTh : (T.setVm vm₁).heap = H := hT
  obtain ⟨f1, f2, -, -⟩ := Jvm.Free.Multi.fill_facts (T.setVm vm₁) cA cy n.toNatClampNeg k.toNatClampNeg (defaultValue ty) n.toNatClampNeg
  rw [hF, hTh] at f1 f2
  have hold : ∀ x : Nat, x < H.size → F.heap[x]? = H[x]? := fun x hx => by
    have := Jvm.Free.Multi.fill_old (T.setVm vm₁) cA cy n.toNatClampNeg k.toNatClampNeg (defaultValue ty) (a := x) (by rw [hTh]; exact hx) n.toNatClampNeg
    rw [hF, hTh] at this
    exact this
  have hrow : ∀ j : Nat, j < n.toNatClampNeg → F.heap[H.size + 1 + j]? = some (vp_cell cy z) := fun j hj => by
    have := Jvm.Free.Multi.fill_inner (T.setVm vm₁) cA cy n.toNatClampNeg k.toNatClampNeg (defaultValue ty) n.toNatClampNeg j hj
    rw [hF, hTh, hz] at this
    exact this
  have hout : Jvm.Free.Multi.outerC cA n.toNatClampNeg H.size n.toNatClampNeg = vp_cell cA (n.toNatClampNeg, .inr (.inr (.inr (.inr (fun i => if i < n.toNatClampNeg then some (H.size + 1 + i) else none))))) := by
    rw [vp_cell_q]
    exact vr_outer cA n.toNatClampNeg H.size n.toNatClampNeg
  rw [hout] at f2
  have hlt : ∀ a, a ∈ L → a < H.size := fun a ha => by
    obtain ⟨k9, hk9⟩ := va_pl_get (X := X) (f := f) ha
    exact (hP k9 _ hk9).lt
  have hnl : ∀ i : Nat, i < n.toNatClampNeg → H.size + 1 + i ∉ L := fun i _ h => by
    have := hlt _ h
    omega
  have hnm : ∀ a, a ∈ (List.range n.toNatClampNeg).map (fun i => H.size + 1 + i) → a ∉ L := fun a ha h => by
    obtain ⟨i, -, rfl⟩ := List.mem_map.mp ha
    have := hlt _ h
    omega
  have hP0 : va_P D cl (X ++ va_pl L f) F.heap := hP.kept (fun k9 x hx => hold x.1 ((hP k9 x hx).lt))
  have hP1 : va_P D cl ((X ++ va_pl L f) ++ [(H.size, .inl (cA, n.toNatClampNeg, .inr (.inr (.inr (.inr (fun i => if i < n.toNatClampNeg then some (H.size + 1 + i) else none))))))]) F.heap := hP0.app (fun k9 x hx => by
    have h0 : k9 < 1 := (List.getElem?_eq_some_iff.mp hx).1
    rw [show k9 = 0 by omega] at hx
    cases hx
    exact f2)
  have hP2 : va_P D cl (((X ++ va_pl L f) ++ [(H.size, .inl (cA, n.toNatClampNeg, .inr (.inr (.inr (.inr (fun i => if i < n.toNatClampNeg then some (H.size + 1 + i) else none))))))]) ++ ((List.range n.toNatClampNeg).map (fun i => H.size + 1 + i)).map (fun a => (a, .inl (cy, z)))) F.heap := hP1.app (fun k9 x hx => by
    obtain ⟨a, ha, rfl⟩ := List.mem_map.mp (List.mem_of_getElem? hx)
    obtain ⟨i, hi, rfl⟩ := List.mem_map.mp ha
    exact hrow i (List.mem_range.mp hi))
  have hD2 : va_D A (((X ++ va_pl L f) ++ [(H.size, .inl (cA, n.toNatClampNeg, .inr (.inr (.inr (.inr (fun i => if i < n.toNatClampNeg then some (H.size + 1 + i) else none))))))]) ++ ((List.range n.toNatClampNeg).map (fun i => H.size + 1 + i)).map (fun a => (a, .inl (cy, z)))) := by
    have hD1 := hD.push (e := .inl (cA, n.toNatClampNeg, .inr (.inr (.inr (.inr (fun i => if i < n.toNatClampNeg then some (H.size + 1 + i) else none)))))) hP rfl (hA _ hS.1)
    generalize hW1 : (X ++ va_pl L f) ++ [(H.size, .inl (cA, n.toNatClampNeg, .inr (.inr (.inr (.inr (fun i => if i < n.toNatClampNeg then some (H.size + 1 + i) else none))))))] = W1 at hD1 hP1 ⊢
    have hle : ∀ (k9 : Nat) (x : Nat × va_E), W1[k9]? = some x → x.1 ≤ H.size := fun k9 x hx => by
      rw [← hW1] at hx
      by_cases hl : k9 < (X ++ va_pl L f).length
      · rw [List.getElem?_append_left hl] at hx
        exact Nat.le_of_lt ((hP k9 x hx).lt)
      · rw [List.getElem?_append_right (by omega)] at hx
        have h0 : k9 - (X ++ va_pl L f).length < 1 := (List.getElem?_eq_some_iff.mp hx).1
        rw [show k9 - (X ++ va_pl L f).length = 0 by omega] at hx
        cases hx
        exact Nat.le_refl _
    have hr : ∀ (k9 : Nat) (x : Nat × va_E), (((List.range n.toNatClampNeg).map (fun i => H.size + 1 + i)).map (fun a => ((a, .inl (cy, z)) : Nat × va_E)))[k9]? = some x → x.1 = H.size + 1 + k9 := fun k9 x hx => by
      rw [List.getElem?_map, List.getElem?_map] at hx
      by_cases h9 : k9 < n.toNatClampNeg
      · rw [List.getElem?_range h9] at hx
        cases hx
        rfl
      · have hn0 : (List.range n.toNatClampNeg)[k9]? = none := List.getElem?_eq_none (by rw [List.length_range]; omega)
        rw [hn0] at hx
        cases hx
    refine ⟨fun i j x y hi hj hxy => ?_, fun k9 x hx => ?_⟩
    · by_cases h1 : i < W1.length <;> by_cases h2 : j < W1.length
      · rw [List.getElem?_append_left h1] at hi
        rw [List.getElem?_append_left h2] at hj
        exact hD1.1 i j x y hi hj hxy
      · rw [List.getElem?_append_left h1] at hi
        rw [List.getElem?_append_right (by omega)] at hj
        have := hle _ _ hi
        have := hr _ _ hj
        omega
      · rw [List.getElem?_append_right (by omega)] at hi
        rw [List.getElem?_append_left h2] at hj
        have := hle _ _ hj
        have := hr _ _ hi
        omega
      · rw [List.getElem?_append_right (by omega)] at hi hj
        have := hr _ _ hi
        have := hr _ _ hj
        omega
    · by_cases h1 : k9 < W1.length
      · rw [List.getElem?_append_left h1] at hx
        exact hD1.2 k9 x hx
      · rw [List.getElem?_append_right (by omega)] at hx
        have := hr _ _ hx
        exact hA _ (by have := hS.1; omega)
  have hAr : ArrOfT s cA (.array ty) := fun N9 z9 => by
    obtain ⟨-, k9, hk9, cm9, hkk9⟩ := (hO 0 0 0).1
    exact ⟨(fun q hq => by cases hq), k9, hk9, cm9, hkk9⟩
  have hK2 : va_K D cl (tys ++ [(cA, .array ty)]) s := ⟨hK.1, fun k9 x hx => by
    by_cases hl : k9 < tys.length
    · rw [List.getElem?_append_left hl] at hx
      exact hK.2 k9 x hx
    · rw [List.getElem?_append_right (by omega)] at hx
      have h0 : k9 - tys.length < 1 := (List.getElem?_eq_some_iff.mp hx).1
      rw [show k9 - tys.length = 0 by omega] at hx
      cases hx
      exact ⟨hAr, fA⟩⟩
  obtain ⟨t, a1, b1⟩ := kk H.size (fun i => H.size + 1 + i) cA F.heap (fun i j _ _ h => by have h9 : H.size + 1 + i = H.size + 1 + j := h; omega) hnl hK2 (by rw [← vr_rows hnm]; exact vr_lay hP2) (by rw [← vr_rows hnm]; exact vr_layD hD2) ⟨by rw [f1]; have := hS.1; omega, fun x h1 h2 => (hold x (Nat.lt_of_lt_of_le h1 hS.1)).trans (hS.2.1 x h1 h2), hS.2.2⟩ F rfl X'
  refine ⟨t, step t ?_, b1⟩
  have e : T.heap.size = H.size := by rw [hT]
  rw [e]
  exact a1
end VGM
/-! ===== END ===== -/

/-! ===== BEGIN exceptions that leave a method, and their catching by the caller (launches without stack traces) ===== -/
section VXA
/-! The laws vx_back, vx_callV, vx_callS, vx_callSW, vx_throw0, vx_throwS follow proofs of the library, with one case more: JvmDerived/Free/Laws.lean (Back.of_free), Shelf42/LK1.lean (callV, callS), Shelf/KitTraced.lean (throwNew0V, throwNewS). -/
/-- where a method has thrown q: the class by its name, the cell, what was written, the world -/
def vx_T (XC : String → State → State → Prop) (st : State) (q : Addr) (t : State) (mc ms : Nat) (free : Addr → Prop) : Prop :=
  ∃ (E : String) (ce : Cell) (L : List Loc), XC E st t ∧ t.heap[q]? = some ce ∧ ce.vm = .none ∧ st.vm.findClass E = some ce.cls ∧ st.WarmedH t.vm ∧ st.sameButNew ({ t with vm := st.vm } : State) L mc ms ∧ ∀ z ∈ L, free z.base
def vx_Q (Qc : Array Value → State → Outcome → State → Prop) (XC : String → State → State → Prop) (mc ms : Nat) (free : Addr → Prop) : Array Value → State → Outcome → State → Prop := fun a st o t =>
  (Qc a st o t ∧ ∃ L, FrameEnd st o t L mc ms ∧ ∀ q ∈ L, free q.base) ∨ ∃ q, o = .threw q ∧ vx_T XC st q t mc ms free
/-- a callee that returns or throws -/
def vx_Met (l : Launch) (y : MethodName) (ws : List Cond) (rm : Room) (Pc : Array Value → State → Prop) (Qc : Array Value → State → Outcome → State → Prop) (XC : String → State → State → Prop) (mc ms : Nat) (free : Addr → Prop) : Prop :=
  MetFree l y (headSpec ws rm) Pc (fun _ _ _ _ _ => True) (vx_Q Qc XC mc ms free)
def vx_Post (XC : String → State → State → Prop) (mc ms : Nat) (free : Addr → Prop) : Pt → Array Value → Addr → Pt → Prop := fun A a q B =>
  ∃ (g : JFrame) (mk : MethodId) (t : State) (L : List Loc) (E : String) (ce : Cell), B.U.heap = t.heap ∧ B.U.vm = t.vm ∧ XC E (A.U.calling g mk a) t ∧ t.heap[q]? = some ce ∧ ce.vm = .none ∧ A.U.vm.findClass E = some ce.cls ∧ B.locs = A.locs ++ L ∧ (∀ z ∈ L, free z.base) ∧ B.cells = A.cells + mc ∧ B.slots = A.slots + ms
def vx_Back (l : Launch) (R : Room) (p : Program) (e : Env) (below : List Frame) (s : State) (sargs : Array Value) (y : MethodName) (len W9 : Nat)
    (Pre : Pt → Array Value → Prop) (Post : Pt → Array Value → Option Value → Pt → Prop) (PostX : Pt → Array Value → Addr → Pt → Prop) : Prop :=
  ∀ (m : MethodId) (meth : Method) (c : Code) (A : Pt) (g : JFrame) (ig : Instr) (mk : MethodId) (a : Array Value),
    Stand p l e R s m sargs below meth c A.U A.locs A.cells A.slots → g.method = m → g.locals.size = c.maxLocals → decode c.code g.pc = .ok (ig, len) →
    2 * g.monitorRoom + (g.stack.map fun v => v.category).sum ≤ W9 → A.U.methodNamed? y = some mk → Pre A a →
    (∃ (v : Option Value) (B : Pt), Stand p l e R s m sargs below meth c B.U B.locs B.cells B.slots ∧ Post A a v B ∧
      Steps p.tables e below (doInvoke e (A.U.setTop g) [] mk a).1 (B.U.setTop { g with pc := g.pc + len, stack := v.toList ++ g.stack })) ∨
    (∃ (q : Addr) (B : Pt), Stand p l e R s m sargs below meth c B.U B.locs B.cells B.slots ∧ PostX A a q B ∧
      Steps p.tables e below (doInvoke e (A.U.setTop g) [] mk a).1 ((B.U.setTop g).pushFrame (.throwing q)))
section Payer
variable {l : Launch} {R : Room} {p : Program} {e : Env} {below : List Frame} {s : State} {sargs : Array Value} {y : MethodName} {len W9 : Nat}
theorem vx_back {ws : List Cond} {rm : Room} {Pc : Array Value → State → Prop} {Qc : Array Value → State → Outcome → State → Prop} {XC : String → State → State → Prop} {mc ms : Nat} {free : Addr → Prop} {bytes : ByteArray} {maxL : Nat} {ret : Option FieldType}
    (hM : vx_Met l y ws rm Pc Qc XC mc ms free) (hblind : FrameBlind Pc) (hrc : rm.cells = mc) (hrs : rm.slots = ms)
    (hframes : rm.frames + 1 ≤ R.frames) (hlocals : W9 + (maxL + 11) + rm.locals ≤ R.locals)
    (hws : ∀ w ∈ ws, ∀ a' U, s.WarmedH U.vm → w.before a' U = true) (hcode : Cond.code y bytes maxL ret ∈ ws) (hinit : ∀ a' U, s.WarmedH U.vm → (Cond.initialized y.cls).before a' U = true) :
    vx_Back l R p e below s sargs y len W9 (PreOf R mc ms Pc) (PostOf Qc mc ms free) (vx_Post XC mc ms free) := by
  intro m meth c A g ig mk a X hg hsize hdg hW hn hp
  have h1 : (headSpec ws rm).pre.before a A.U = true := atoms_intro fun w hw => hws w hw _ _ X.warmed
  have h2 : (Cond.code y bytes maxL ret).before a A.U = true := hws _ hcode _ _ X.warmed
  have h3 : (Cond.initialized y.cls).before a A.U = true := hinit _ _ X.warmed
  have h4 : A.cells + (headSpec ws rm).room.cells ≤ R.cells := by rw [show (headSpec ws rm).room.cells = mc from hrc]; exact hp.1
  have h5 : A.slots + (headSpec ws rm).room.slots ≤ R.slots := by rw [show (headSpec ws rm).room.slots = ms from hrs]; exact hp.2.1
  have hPc : Pc a (A.U.calling g mk a) := hblind _ _ _ _ hp.2.2
  obtain ⟨U, Ls, c0, s0⟩ := A
  dsimp only [Pt.U, Pt.locs, Pt.cells, Pt.slots] at h1 h2 h3 h4 h5 X hn hPc ⊢
  obtain ⟨methY, cY, hmY, hcY, -, hlY, -, -, -, -⟩ := Cond.code_spec hn h2
  obtain ⟨kY, hkY, -⟩ := className_of_methodNamed hn
  have hinitY : kY.init = .initialized := Cond.initialized_spec (findClass_of_methodNamed hn) hkY h3
  have h : At U g.method c below := by rw [hg]; exact X.here
  have hlocals9 : W9 + (maxL + 11) + (headSpec ws rm).room.locals ≤ R.locals := hlocals
  have happ : (headSpec ws rm).appliesLoose y e.platform (U.calling g mk a) = true :=
    Spec.appliesLoose_calling (g := g) h hdg hn hkY hinitY
      (X.room_calling (g := g) (R' := (headSpec ws rm).room) hsize hmY hcY hframes (by rw [hlY]; omega) h4 h5) h1
  obtain ⟨mid, hmid⟩ := h.above
  have hfr : (U.setTop g).frames = (.java g :: mid) ++ below := by rw [State.frames_setTop' g h.top, hmid]; rfl
  obtain ⟨o, s₂, hsteps, -, hend, hq⟩ := Steps.callFree hM p X.admits X.cas X.clock (acts := []) hfr happ hPc trivial
  have hq' : vx_Q Qc XC mc ms free a (U.calling g mk a) o s₂ := hq
  rw [State.frames_setTop' g h.top] at hend
  obtain ⟨g₀, hg0⟩ := Option.isSome_iff_exists.mp h.top
  obtain ⟨r, hr⟩ := State.topJava?_eq_some.mp hg0
  have hr' : (({ U with heap := s₂.heap, slotsUsed := s₂.slotsUsed } : State).setVm s₂.vm).frames = .java g₀ :: r := hr
  rcases hq' with ⟨hqc, L, hfe, hL⟩ | ⟨q, rfl, E, ce, L, hx, hce, hcv, hcl, hW₂, hsm, hL⟩
  · obtain ⟨⟨v, rfl⟩, hW₂, e2, q2, q3, q4, q5, q6⟩ := id hfe
    have e3 : s₂ = ({ (U.calling g mk a).setFrames s₂.frames with heap := s₂.heap, slotsUsed := s₂.slotsUsed } : State).setVm s₂.vm := by
      have : s₂ = ({ s₂ with vm := (U.calling g mk a).vm } : State).setVm s₂.vm := rfl
      rw [e2] at this
      exact this
    obtain ⟨c₂, i₂, len₂, hc₂, hd₂, hf₂⟩ := hend
    have hW' : U.WarmedH s₂.vm := hW₂
    have hcc : c₂ = c := by
      have h1 : s₂.code? g.method = U.code? g.method := by
        rw [State.code?_eq, State.code?_eq, hW'.alike.method?]
      exact Option.some.inj (hc₂.symm.trans (h1.trans h.code))
    subst hcc
    have hlen : len₂ = len := by rw [hdg] at hd₂; cases hd₂; rfl
    subst hlen
    have hs₂ : s₂ = (({ U with heap := s₂.heap, slotsUsed := s₂.slotsUsed } : State).setVm s₂.vm).setTop { g with pc := g.pc + len₂, stack := v.toList ++ g.stack } := by
      refine e3.trans ?_
      rw [hf₂, State.calling_eq h.top, State.setFrames_setFrames, State.setTop_of_frames _ hr', hr]
      rfl
    have hsame : U.sameButNew ({ U with heap := s₂.heap, slotsUsed := s₂.slotsUsed } : State) L mc ms := by
      refine ⟨?_, q2, q3, q4, q5, q6⟩
      obtain ⟨t, ht, -⟩ := State.frames_cons hr
      show ({ U with heap := s₂.heap, slotsUsed := s₂.slotsUsed } : State) = { U.setFrames U.frames with heap := s₂.heap, slotsUsed := s₂.slotsUsed }
      rw [State.setFrames_self ht]
    subst hg
    refine Or.inl ⟨v, ⟨(({ U with heap := s₂.heap, slotsUsed := s₂.slotsUsed } : State).setVm s₂.vm), Ls ++ L, c0 + mc, s0 + ms⟩,
      ⟨X.admits, X.cas, X.clock, X.frames, X.room, X.hears, X.method, X.code, (X.here.setHeapUsed s₂.heap s₂.slotsUsed).setVm hW'.alike, X.tail, State.WarmedH.trans X.warmed hW', X.limits, X.bytes, X.same.trans (hsame.setVm s.vm)⟩,
      ⟨g, mk, s₂, L, rfl, rfl, hqc, rfl, hL, rfl, rfl⟩, ?_⟩
    show Steps p.tables e below _ ((({ U with heap := s₂.heap, slotsUsed := s₂.slotsUsed } : State).setVm s₂.vm).setTop { g with pc := g.pc + len₂, stack := v.toList ++ g.stack })
    rw [← hs₂]
    exact hsteps
  · obtain ⟨e2, q2, q3, q4, q5, q6⟩ := id hsm
    have e3 : s₂ = ({ (U.calling g mk a).setFrames s₂.frames with heap := s₂.heap, slotsUsed := s₂.slotsUsed } : State).setVm s₂.vm := by
      have : s₂ = ({ s₂ with vm := (U.calling g mk a).vm } : State).setVm s₂.vm := rfl
      rw [e2] at this
      exact this
    have hf₂ : s₂.frames = .throwing q :: .java g :: U.frames.tail := hend
    have hW' : U.WarmedH s₂.vm := hW₂
    have hs₂ : s₂ = ((({ U with heap := s₂.heap, slotsUsed := s₂.slotsUsed } : State).setVm s₂.vm).setTop g).pushFrame (.throwing q) := by
      refine e3.trans ?_
      rw [hf₂, State.calling_eq h.top, State.setFrames_setFrames, State.pushFrame, State.frames_setTop _ hr', State.setTop_of_frames _ hr', State.setFrames_setFrames, hr]
      rfl
    have hsame : U.sameButNew ({ U with heap := s₂.heap, slotsUsed := s₂.slotsUsed } : State) L mc ms := by
      refine ⟨?_, q2, q3, q4, q5, q6⟩
      obtain ⟨t, ht, -⟩ := State.frames_cons hr
      show ({ U with heap := s₂.heap, slotsUsed := s₂.slotsUsed } : State) = { U.setFrames U.frames with heap := s₂.heap, slotsUsed := s₂.slotsUsed }
      rw [State.setFrames_self ht]
    subst hg
    refine Or.inr ⟨q, ⟨(({ U with heap := s₂.heap, slotsUsed := s₂.slotsUsed } : State).setVm s₂.vm), Ls ++ L, c0 + mc, s0 + ms⟩,
      ⟨X.admits, X.cas, X.clock, X.frames, X.room, X.hears, X.method, X.code, (X.here.setHeapUsed s₂.heap s₂.slotsUsed).setVm hW'.alike, X.tail, State.WarmedH.trans X.warmed hW', X.limits, X.bytes, X.same.trans (hsame.setVm s.vm)⟩,
      ⟨g, mk, s₂, L, E, ce, rfl, rfl, hx, hce, hcv, hcl, rfl, hL, rfl, rfl⟩, ?_⟩
    show Steps p.tables e below _ (((({ U with heap := s₂.heap, slotsUsed := s₂.slotsUsed } : State).setVm s₂.vm).setTop g).pushFrame (.throwing q))
    rw [← hs₂]
    exact hsteps
end Payer
section Calls
variable {p : Program} {l : Launch} {e : Env} {R : Room} {s : State} {m : MethodId} {args : Array Value} {below : List Frame} {meth : Method} {c : Code} {T : State} {locs : List Loc} {cells slots : Nat}
theorem vx_callV (X : Stand p l e R s m args below meth c T locs cells slots) (hexec : p.tables.exec = Jvm.exec) {own C : String} {index : Nat} {y : MethodName} {bytes : ByteArray} {maxL : Nat} {ret : Option FieldType}
    (hown : s.vm.findClass own = some m.cls) (hlink : (Cond.methodLink own index y).before args s = true) (hinst : (Cond.instanceMethod y).before args s = true) (hsel : (Cond.selects C y y).before args s = true)
    (hcode : (Cond.code y bytes maxL ret).before args s = true) (hy : y.cls ≠ "java/lang/invoke/MethodHandle" ∧ y.cls ≠ "java/lang/invoke/VarHandle")
    {W9 : Nat} {Pre : Pt → Array Value → Prop} {Post : Pt → Array Value → Option Value → Pt → Prop} {PostX : Pt → Array Value → Addr → Pt → Prop} (hK : vx_Back l R p e below s args y 3 W9 Pre Post PostX)
    {b : Addr} {cellB : Cell} (hcell : T.heap[b]? = some cellB) (hobj : cellB.vm.isStatics = false) (hcls : s.vm.findClass C = some cellB.cls)
    {g : JFrame} (hg : g.method = m) (hsize : g.locals.size = c.maxLocals) {argsL rest : List Value} (hlen : ∀ sig, parseMethodDescriptor y.desc = some sig → argsL.length = sig.parameters.length)
    (hstack : g.stack = argsL.reverse ++ .ref b :: rest) (hW : 2 * g.monitorRoom + (rest.map fun v => v.category).sum ≤ W9) (hdg : decode c.code g.pc = .ok (.invokevirtual index, 3))
    (hpre : ∀ vm₁, s.WarmedH vm₁ → Pre ⟨T.setVm vm₁, locs, cells, slots⟩ (Value.ref b :: argsL).toArray) :
    (∃ (v : Option Value) (vm₁ : Vm) (B : Pt), s.WarmedH vm₁ ∧ Stand p l e R s m args below meth c B.U B.locs B.cells B.slots ∧ Post ⟨T.setVm vm₁, locs, cells, slots⟩ (Value.ref b :: argsL).toArray v B ∧
      ∀ target, Steps p.tables e below (B.U.setTop { g with pc := g.pc + 3, stack := v.toList ++ rest }) target → Steps p.tables e below (T.setTop g) target) ∨
    (∃ (q : Addr) (vm₁ : Vm) (B : Pt), s.WarmedH vm₁ ∧ Stand p l e R s m args below meth c B.U B.locs B.cells B.slots ∧ PostX ⟨T.setVm vm₁, locs, cells, slots⟩ (Value.ref b :: argsL).toArray q B ∧
      Steps p.tables e below (T.setTop g) ((B.U.setTop { g with stack := rest }).pushFrame (.throwing q))) := by
  obtain ⟨mk, methM, hnamed, hmethM, hstM, habM⟩ := Cond.instanceMethod_spec hinst
  obtain ⟨methM', cM, hmethM', -, -, -, -, -, -, hsigM⟩ := Cond.code_spec hnamed hcode
  cases hmethM.symm.trans hmethM'
  obtain ⟨c2, r2, m2, q1, q2, q3, q4, kP, hkP, hkPi⟩ := Cond.selects_spec hsel
  cases hcls.symm.trans q1
  cases (State.methodFound?_of_named hnamed hy).symm.trans q2
  cases hnamed.symm.trans q3
  have hselP : selectMethod e.platform s.vm cellB.cls mk = .method mk := by rw [Launch.admits_selectMethod X.admits]; exact q4
  obtain ⟨vm₁, X₁, hstep₁⟩ := X.invokevirtual hexec hown hlink hnamed hmethM hstM hkP hkPi hy (a := b) (cell := cellB) hcell
    (fun z h => by rw [h] at hobj; cases hobj) hselP hmethM habM hkP hkPi (g := g) hg (argsL := argsL) (rest := rest) (hlen _ hsigM) hstack hdg
  rcases hK m meth c ⟨T.setVm vm₁, locs, cells, slots⟩ { g with stack := rest } (.invokevirtual index) mk (Value.ref b :: argsL).toArray X₁ hg hsize hdg hW (X₁.named hnamed) (hpre vm₁ X₁.warmed) with ⟨v, B, X', hpost, hsteps⟩ | ⟨q, B, X', hpost, hsteps⟩
  · exact Or.inl ⟨v, vm₁, B, X₁.warmed, X', hpost, fun target h => hstep₁ _ fun acts => by rw [doInvoke_state]; exact hsteps.trans h⟩
  · exact Or.inr ⟨q, vm₁, B, X₁.warmed, X', hpost, hstep₁ _ fun acts => by rw [doInvoke_state]; exact hsteps⟩
theorem vx_callS (X : Stand p l e R s m args below meth c T locs cells slots) (hexec : p.tables.exec = Jvm.exec) {own : String} {index : Nat} {y : MethodName} {bytes : ByteArray} {maxL : Nat} {ret : Option FieldType}
    (hown : s.vm.findClass own = some m.cls) (hlink : (Cond.methodLink own index y).before args s = true) (hstat : (Cond.static y).before args s = true) (hinit : (Cond.initialized y.cls).before args s = true)
    (hcode : (Cond.code y bytes maxL ret).before args s = true) (hy : y.cls ≠ "java/lang/invoke/MethodHandle" ∧ y.cls ≠ "java/lang/invoke/VarHandle")
    {W9 : Nat} {Pre : Pt → Array Value → Prop} {Post : Pt → Array Value → Option Value → Pt → Prop} {PostX : Pt → Array Value → Addr → Pt → Prop} (hK : vx_Back l R p e below s args y 3 W9 Pre Post PostX)
    {g : JFrame} (hg : g.method = m) (hsize : g.locals.size = c.maxLocals) {argsL rest : List Value} (hlen : ∀ sig, parseMethodDescriptor y.desc = some sig → argsL.length = sig.parameters.length)
    (hstack : g.stack = argsL.reverse ++ rest) (hW : 2 * g.monitorRoom + (rest.map fun v => v.category).sum ≤ W9) (hdg : decode c.code g.pc = .ok (.invokestatic index, 3))
    (hpre : ∀ vm₁, s.WarmedH vm₁ → Pre ⟨T.setVm vm₁, locs, cells, slots⟩ argsL.toArray) :
    (∃ (v : Option Value) (vm₁ : Vm) (B : Pt), s.WarmedH vm₁ ∧ Stand p l e R s m args below meth c B.U B.locs B.cells B.slots ∧ Post ⟨T.setVm vm₁, locs, cells, slots⟩ argsL.toArray v B ∧
      ∀ target, Steps p.tables e below (B.U.setTop { g with pc := g.pc + 3, stack := v.toList ++ rest }) target → Steps p.tables e below (T.setTop g) target) ∨
    (∃ (q : Addr) (vm₁ : Vm) (B : Pt), s.WarmedH vm₁ ∧ Stand p l e R s m args below meth c B.U B.locs B.cells B.slots ∧ PostX ⟨T.setVm vm₁, locs, cells, slots⟩ argsL.toArray q B ∧
      Steps p.tables e below (T.setTop g) ((B.U.setTop { g with stack := rest }).pushFrame (.throwing q))) := by
  obtain ⟨mk, hnamed⟩ := Cond.code_named hcode
  obtain ⟨methM, cM, hmethM, -, -, -, -, -, -, hsigM⟩ := Cond.code_spec hnamed hcode
  have hstatic : methM.isStatic = true := Cond.static_spec hnamed hmethM hstat
  obtain ⟨kP, hkP, -⟩ := className_of_methodNamed hnamed
  have hinitP : kP.init = .initialized := Cond.initialized_spec (findClass_of_methodNamed hnamed) hkP hinit
  obtain ⟨vm₁, X₁, hstep₁⟩ := X.invokestatic hexec hown hlink hnamed hmethM hstatic hkP hinitP hy (g := g) hg (argsL := argsL) (rest := rest) (hlen _ hsigM) hstack hdg
  rcases hK m meth c ⟨T.setVm vm₁, locs, cells, slots⟩ { g with stack := rest } (.invokestatic index) mk argsL.toArray X₁ hg hsize hdg hW (X₁.named hnamed) (hpre vm₁ X₁.warmed) with ⟨v, B, X', hpost, hsteps⟩ | ⟨q, B, X', hpost, hsteps⟩
  · exact Or.inl ⟨v, vm₁, B, X₁.warmed, X', hpost, fun target h => hstep₁ _ fun acts => by rw [doInvoke_state]; exact hsteps.trans h⟩
  · exact Or.inr ⟨q, vm₁, B, X₁.warmed, X', hpost, hstep₁ _ fun acts => by rw [doInvoke_state]; exact hsteps⟩
end Calls
theorem vx_cls {s : State} {T : State} {vm₁ : Vm} {E : String} {k : ClassId} (hW : s.WarmedH vm₁) (h : (T.setVm vm₁).vm.findClass E = some k) : s.vm.findClass E = some k := by
  have h1 : vm₁.findClass E = some k := h
  rw [hW.alike.findClass] at h1
  exact h1
/-- the method's frame g, with q thrown over it -/
def vx_W (p : Program) (l : Launch) (e : Env) (R : Room) (s : State) (m : MethodId) (args : Array Value) (below : List Frame) (meth : Method) (c : Code) (H : Heap) (locs : List Loc) (cells slots : Nat) (Q : State → Prop) (g : JFrame) (q : Addr) : Prop :=
  ∀ T : State, T.heap = H → Stand p l e R s m args below meth c T locs cells slots → ∃ t, Steps p.tables e below ((T.setTop g).pushFrame (.throwing q)) t ∧ Q t
def vx_Run (p : Program) (l : Launch) (e : Env) (R : Room) (s : State) (m : MethodId) (args : Array Value) (below : List Frame) (meth : Method) (c : Code) (H : Heap) (locs : List Loc) (cells slots mc ms : Nat) (g : JFrame) (rest : List Value) (Qa : State → Outcome → State → Prop) (XC : String → State → State → Prop) (free : Addr → Prop) : Prop :=
  ∀ T : State, T.heap = H → Stand p l e R s m args below meth c T locs cells slots →
    (∃ (v : Option Value) (st₀ t T' : State) (L : List Loc), st₀.heap = H ∧ Stand p l e R s m args below meth c T' (locs ++ L) (cells + mc) (slots + ms) ∧ (∀ q ∈ L, free q.base) ∧ T'.heap = t.heap ∧ T'.vm = t.vm ∧ Qa st₀ (.returned v) t ∧
      Goes p e below T g T' { g with pc := g.pc + 3, stack := v.toList ++ rest }) ∨
    (∃ (q : Addr) (st₀ t T' : State) (L : List Loc) (E : String) (ce : Cell), st₀.heap = H ∧ Stand p l e R s m args below meth c T' (locs ++ L) (cells + mc) (slots + ms) ∧ (∀ z ∈ L, free z.base) ∧ T'.heap = t.heap ∧ T'.vm = t.vm ∧ XC E st₀ t ∧ t.heap[q]? = some ce ∧ ce.vm = .none ∧ s.vm.findClass E = some ce.cls ∧
      Steps p.tables e below (T.setTop g) ((T'.setTop { g with stack := rest }).pushFrame (.throwing q)))
def vx_X {S : Type} (px : S → Prop) (B : String → S → State → Prop) (A : Nat → Prop) : String → State → State → Prop := fun E st t => ∃ u : S, px u ∧ B E u t ∧ va_F A st t
section Runs
variable {p : Program} {l : Launch} {e : Env} {R : Room} {s : State} {m : MethodId} {args : Array Value} {below : List Frame} {meth : Method} {c : Code} {H : Heap} {locs : List Loc} {cells slots : Nat}
variable {y : MethodName} {bytes cc : ByteArray} {maxL nL mc ms n index : Nat} {ret : Option FieldType} {ws : List Cond} {rm : Room} {Pc : Array Value → State → Prop} {Qc : Array Value → State → Outcome → State → Prop} {XC : String → State → State → Prop} {free : Addr → Prop} {Ts : List Cond} {own C : String} {b : Addr} {As rest : List Value} {g : JFrame}
theorem vx_callBack (cb : CallB R s args own index y bytes maxL ret ws rm mc ms n) (hM : vx_Met l y ws rm Pc Qc XC mc ms free) (hbl : FrameBlind Pc) : vx_Back l R p e below s args y 3 8 (PreOf R mc ms Pc) (PostOf Qc mc ms free) (vx_Post XC mc ms free) := by
  obtain ⟨hrc, hrs, hfr, hlo, hws, hcw, -, hini, -⟩ := cb
  exact vx_back (bytes := bytes) (maxL := maxL) (ret := ret) hM hbl hrc hrs hfr hlo hws hcw (fun a' U hW => word_at hW (Or.inl (by first | rfl | simp [Cond.onTables, Cond.keeps, Cond.steady])) hini)
theorem vx_runV (S : CallFix p m c cc nL s args Ts own) (hM : vx_Met l y ws rm Pc Qc XC mc ms free) (cw : CallW R s args own C index y bytes maxL ret ws rm mc ms n) (hp : PreV s H C b Pc As)
    (hg : g.method = m) (hn : As.length = n) (hsize : g.locals.size = nL) (hstack : g.stack = As.reverse ++ .ref b :: rest) (hW : 2 * g.monitorRoom + (rest.map fun v => v.category).sum ≤ 8) (hdg : decode cc g.pc = .ok (.invokevirtual index, 3)) (hf : cells + mc ≤ R.cells ∧ slots + ms ≤ R.slots) :
    vx_Run p l e R s m args below meth c H locs cells slots mc ms g rest (Qc (Value.ref b :: As).toArray) XC free := by
  have hK : vx_Back l R p e below s args y 3 8 (PreOf R mc ms Pc) (PostOf Qc mc ms free) (vx_Post XC mc ms free) := vx_callBack cw.1 hM hp.1
  obtain ⟨⟨-, -, -, -, -, -, hcode, -, hy, hlen, hl⟩, hin, hse⟩ := cw
  obtain ⟨hx, hb, hml, ho, -⟩ := S
  obtain ⟨-, ⟨cellB, hcB, hoB, hclB⟩, hPc⟩ := hp
  intro T hT X
  rcases vx_callV X hx (C := C) (bytes := bytes) (maxL := maxL) (ret := ret) ho hl hin hse hcode hy hK (by rw [hT]; exact hcB) hoB hclB hg (hsize.trans hml.symm) (argsL := As) (rest := rest) (fun sig h => hn.trans (hlen sig h)) hstack hW (by rw [hb]; exact hdg)
    (fun vm₁ hW₁ => ⟨hf.1, hf.2, hPc (T.setVm vm₁) hT hW₁⟩) with ⟨v, vm₁, ⟨U', l2, c2, s2⟩, hW₁, X', ⟨g', mk, t, L, e1, e2, hq, h1, hL, h2, h3⟩, st⟩ | ⟨q, vm₁, ⟨U', l2, c2, s2⟩, hW₁, X', ⟨g', mk, t, L, E, ce, e1, e2, hq, hce, hcv, hcl, h1, hL, h2, h3⟩, st⟩
  · dsimp only [Pt.U, Pt.locs, Pt.cells, Pt.slots] at X' e1 e2 h1 h2 h3 st
    subst h1; subst h2; subst h3
    exact Or.inl ⟨v, (T.setVm vm₁).calling g' mk (Value.ref b :: As).toArray, t, U', L, hT, X', hL, e1, e2, hq, st⟩
  · dsimp only [Pt.U, Pt.locs, Pt.cells, Pt.slots] at X' e1 e2 h1 h2 h3 st hcl
    subst h1; subst h2; subst h3
    exact Or.inr ⟨q, (T.setVm vm₁).calling g' mk (Value.ref b :: As).toArray, t, U', L, E, ce, hT, X', hL, e1, e2, hq, hce, hcv, vx_cls hW₁ hcl, st⟩
theorem vx_runS (S : CallFix p m c cc nL s args Ts own) (hM : vx_Met l y ws rm Pc Qc XC mc ms free) (cw : CallB R s args own index y bytes maxL ret ws rm mc ms n ∧ (Cond.static y).before args s = true) (hp : PreS s H Pc As)
    (hg : g.method = m) (hn : As.length = n) (hsize : g.locals.size = nL) (hstack : g.stack = As.reverse ++ rest) (hW : 2 * g.monitorRoom + (rest.map fun v => v.category).sum ≤ 8) (hdg : decode cc g.pc = .ok (.invokestatic index, 3)) (hf : cells + mc ≤ R.cells ∧ slots + ms ≤ R.slots) :
    vx_Run p l e R s m args below meth c H locs cells slots mc ms g rest (Qc As.toArray) XC free := by
  have hK : vx_Back l R p e below s args y 3 8 (PreOf R mc ms Pc) (PostOf Qc mc ms free) (vx_Post XC mc ms free) := vx_callBack cw.1 hM hp.1
  obtain ⟨⟨-, -, -, -, -, -, hcode, hini, hy, hlen, hl⟩, hstt⟩ := cw
  obtain ⟨hx, hb, hml, ho, -⟩ := S
  intro T hT X
  rcases vx_callS X hx (bytes := bytes) (maxL := maxL) (ret := ret) ho hl hstt hini hcode hy hK hg (hsize.trans hml.symm) (argsL := As) (rest := rest) (fun sig h => hn.trans (hlen sig h)) hstack hW (by rw [hb]; exact hdg)
    (fun vm₁ hW₁ => ⟨hf.1, hf.2, hp.2 (T.setVm vm₁) hT hW₁⟩) with ⟨v, vm₁, ⟨U', l2, c2, s2⟩, hW₁, X', ⟨g', mk, t, L, e1, e2, hq, h1, hL, h2, h3⟩, st⟩ | ⟨q, vm₁, ⟨U', l2, c2, s2⟩, hW₁, X', ⟨g', mk, t, L, E, ce, e1, e2, hq, hce, hcv, hcl, h1, hL, h2, h3⟩, st⟩
  · dsimp only [Pt.U, Pt.locs, Pt.cells, Pt.slots] at X' e1 e2 h1 h2 h3 st
    subst h1; subst h2; subst h3
    exact Or.inl ⟨v, (T.setVm vm₁).calling g' mk As.toArray, t, U', L, hT, X', hL, e1, e2, hq, st⟩
  · dsimp only [Pt.U, Pt.locs, Pt.cells, Pt.slots] at X' e1 e2 h1 h2 h3 st hcl
    subst h1; subst h2; subst h3
    exact Or.inr ⟨q, (T.setVm vm₁).calling g' mk As.toArray, t, U', L, E, ce, hT, X', hL, e1, e2, hq, hce, hcv, vx_cls hW₁ hcl, st⟩
end Runs
section Rows
variable {p : Program} {l : Launch} {e : Env} {R : Room} {s : State} {m : MethodId} {args : Array Value} {below : List Frame} {meth : Method} {c : Code} {H : Heap} {locs : List Loc} {cells slots : Nat} {Q : State → Prop}
variable {mc ms : Nat} {free : Addr → Prop} {A0 A1 : Nat → Prop} {H0 : Heap} {a : Array Value} {pc : Nat} {ls : Array Slot} {st0 rest : List Value}
theorem vx_keep {st₀ t T' : State} {L : List Loc} (h0 : st₀.heap = H) (e1 : T'.heap = t.heap) (hS : va_S A0 H0 H locs) (hA : ∀ q, q < H.size → A1 q → A0 q) (hf : ∀ q, free q → A0 q) (hL : ∀ q ∈ L, free q.base) (hF : va_F A1 st₀ t) :
    H.size ≤ T'.heap.size ∧ (∀ q : Nat, q < H.size → ¬ A1 q → T'.heap[q]? = H[q]?) ∧ va_S A0 H0 T'.heap (locs ++ L) := by
  obtain ⟨hz, hk⟩ := hF
  rw [h0] at hz hk
  exact ⟨by rw [e1]; exact hz, fun q h1 h2 => by rw [e1]; exact hk q h1 h2,
    ⟨Nat.le_trans hS.1 (by rw [e1]; exact hz), fun q h1 h2 => by rw [e1, hk q (Nat.lt_of_lt_of_le h1 hS.1) (fun z => h2 (hA q (Nat.lt_of_lt_of_le h1 hS.1) z))]; exact hS.2.1 q h1 h2, fun q hq => by
      rcases List.mem_append.mp hq with h | h
      · exact hS.2.2 q h
      · exact hf _ (hL q h)⟩⟩
theorem vx_calli {S SX : Type} {post : Int32 → S → Prop} {px : SX → Prop} {B : S → State → Prop} {BX : String → SX → State → Prop} {AX : Nat → Prop} (hr : vx_Run p l e R s m args below meth c H locs cells slots mc ms (F0 m pc ls st0) rest (va_Qi post B A1 a) (vx_X px BX AX) free) (hS : va_S A0 H0 H locs) (hA : ∀ q, q < H.size → A1 q → A0 q) (hf : ∀ q, free q → A0 q) (hAX : ∀ q, q < H.size → AX q → A0 q)
    (kx : ∀ (E : String) (ce : Cell) (q9 : Addr) (u : SX) (t : State) (H1 : Heap) (locs1 : List Loc), t.heap = H1 → s.vm.Alike t.vm → px u → BX E u t → H.size ≤ H1.size → (∀ q : Nat, q < H.size → ¬ AX q → H1[q]? = H[q]?) → va_S A0 H0 H1 locs1 → H1[q9]? = some ce → ce.vm = .none → s.vm.findClass E = some ce.cls → vx_W p l e R s m args below meth c H1 locs1 (cells + mc) (slots + ms) Q (F0 m pc ls rest) q9)
    (kk : ∀ (r : Int32) (u : S) (t : State) (H1 : Heap) (locs1 : List Loc), t.heap = H1 → s.vm.Alike t.vm → post r u → B u t → H.size ≤ H1.size → (∀ q : Nat, q < H.size → ¬ A1 q → H1[q]? = H[q]?) → va_S A0 H0 H1 locs1 → W p l e R s m args below meth c H1 locs1 (cells + mc) (slots + ms) Q (F0 m (pc + 3) ls (.int r :: rest))) : W p l e R s m args below meth c H locs cells slots Q (F0 m pc ls st0) := by
  intro T hT X
  rcases hr T hT X with ⟨v, st₀, t, T', L, h0, X', hL, e1, e2, ⟨⟨r, u, hv, hp, hb⟩, hF⟩, st⟩ | ⟨q, st₀, t, T', L, E, ce, h0, X', hL, e1, e2, ⟨u, hp, hb, hF⟩, hce, hcv, hcl, st⟩
  · cases hv
    obtain ⟨k1, k2, k3⟩ := vx_keep h0 e1 hS hA hf hL hF
    obtain ⟨t2, a1, b1⟩ := kk r u t T'.heap (locs ++ L) e1.symm (by rw [← e2]; exact X'.warmed.alike) hp hb k1 k2 k3 T' rfl X'
    exact ⟨t2, st t2 a1, b1⟩
  · obtain ⟨k1, k2, k3⟩ := vx_keep h0 e1 hS hAX hf hL hF
    obtain ⟨t2, a1, b1⟩ := kx E ce q u t T'.heap (locs ++ L) e1.symm (by rw [← e2]; exact X'.warmed.alike) hp hb k1 k2 k3 (by rw [e1]; exact hce) hcv hcl T' rfl X'
    exact ⟨t2, st.trans a1, b1⟩
theorem vx_calll {S SX : Type} {post : Int64 → S → Prop} {px : SX → Prop} {B : S → State → Prop} {BX : String → SX → State → Prop} {AX : Nat → Prop} (hr : vx_Run p l e R s m args below meth c H locs cells slots mc ms (F0 m pc ls st0) rest (va_Ql post B A1 a) (vx_X px BX AX) free) (hS : va_S A0 H0 H locs) (hA : ∀ q, q < H.size → A1 q → A0 q) (hf : ∀ q, free q → A0 q) (hAX : ∀ q, q < H.size → AX q → A0 q)
    (kx : ∀ (E : String) (ce : Cell) (q9 : Addr) (u : SX) (t : State) (H1 : Heap) (locs1 : List Loc), t.heap = H1 → s.vm.Alike t.vm → px u → BX E u t → H.size ≤ H1.size → (∀ q : Nat, q < H.size → ¬ AX q → H1[q]? = H[q]?) → va_S A0 H0 H1 locs1 → H1[q9]? = some ce → ce.vm = .none → s.vm.findClass E = some ce.cls → vx_W p l e R s m args below meth c H1 locs1 (cells + mc) (slots + ms) Q (F0 m pc ls rest) q9)
    (kk : ∀ (r : Int64) (u : S) (t : State) (H1 : Heap) (locs1 : List Loc), t.heap = H1 → s.vm.Alike t.vm → post r u → B u t → H.size ≤ H1.size → (∀ q : Nat, q < H.size → ¬ A1 q → H1[q]? = H[q]?) → va_S A0 H0 H1 locs1 → W p l e R s m args below meth c H1 locs1 (cells + mc) (slots + ms) Q (F0 m (pc + 3) ls (.long r :: rest))) : W p l e R s m args below meth c H locs cells slots Q (F0 m pc ls st0) := by
  intro T hT X
  rcases hr T hT X with ⟨v, st₀, t, T', L, h0, X', hL, e1, e2, ⟨⟨r, u, hv, hp, hb⟩, hF⟩, st⟩ | ⟨q, st₀, t, T', L, E, ce, h0, X', hL, e1, e2, ⟨u, hp, hb, hF⟩, hce, hcv, hcl, st⟩
  · cases hv
    obtain ⟨k1, k2, k3⟩ := vx_keep h0 e1 hS hA hf hL hF
    obtain ⟨t2, a1, b1⟩ := kk r u t T'.heap (locs ++ L) e1.symm (by rw [← e2]; exact X'.warmed.alike) hp hb k1 k2 k3 T' rfl X'
    exact ⟨t2, st t2 a1, b1⟩
  · obtain ⟨k1, k2, k3⟩ := vx_keep h0 e1 hS hAX hf hL hF
    obtain ⟨t2, a1, b1⟩ := kx E ce q u t T'.heap (locs ++ L) e1.symm (by rw [← e2]; exact X'.warmed.alike) hp hb k1 k2 k3 (by rw [e1]; exact hce) hcv hcl T' rfl X'
    exact ⟨t2, st.trans a1, b1⟩
theorem vx_callf {S SX : Type} {post : UInt32 → S → Prop} {px : SX → Prop} {B : S → State → Prop} {BX : String → SX → State → Prop} {AX : Nat → Prop} (hr : vx_Run p l e R s m args below meth c H locs cells slots mc ms (F0 m pc ls st0) rest (va_Qf post B A1 a) (vx_X px BX AX) free) (hS : va_S A0 H0 H locs) (hA : ∀ q, q < H.size → A1 q → A0 q) (hf : ∀ q, free q → A0 q) (hAX : ∀ q, q < H.size → AX q → A0 q)
    (kx : ∀ (E : String) (ce : Cell) (q9 : Addr) (u : SX) (t : State) (H1 : Heap) (locs1 : List Loc), t.heap = H1 → s.vm.Alike t.vm → px u → BX E u t → H.size ≤ H1.size → (∀ q : Nat, q < H.size → ¬ AX q → H1[q]? = H[q]?) → va_S A0 H0 H1 locs1 → H1[q9]? = some ce → ce.vm = .none → s.vm.findClass E = some ce.cls → vx_W p l e R s m args below meth c H1 locs1 (cells + mc) (slots + ms) Q (F0 m pc ls rest) q9)
    (kk : ∀ (r : UInt32) (u : S) (t : State) (H1 : Heap) (locs1 : List Loc), t.heap = H1 → s.vm.Alike t.vm → post r u → B u t → H.size ≤ H1.size → (∀ q : Nat, q < H.size → ¬ A1 q → H1[q]? = H[q]?) → va_S A0 H0 H1 locs1 → W p l e R s m args below meth c H1 locs1 (cells + mc) (slots + ms) Q (F0 m (pc + 3) ls (.float r :: rest))) : W p l e R s m args below meth c H locs cells slots Q (F0 m pc ls st0) := by
  intro T hT X
  rcases hr T hT X with ⟨v, st₀, t, T', L, h0, X', hL, e1, e2, ⟨⟨r, u, hv, hp, hb⟩, hF⟩, st⟩ | ⟨q, st₀, t, T', L, E, ce, h0, X', hL, e1, e2, ⟨u, hp, hb, hF⟩, hce, hcv, hcl, st⟩
  · cases hv
    obtain ⟨k1, k2, k3⟩ := vx_keep h0 e1 hS hA hf hL hF
    obtain ⟨t2, a1, b1⟩ := kk r u t T'.heap (locs ++ L) e1.symm (by rw [← e2]; exact X'.warmed.alike) hp hb k1 k2 k3 T' rfl X'
    exact ⟨t2, st t2 a1, b1⟩
  · obtain ⟨k1, k2, k3⟩ := vx_keep h0 e1 hS hAX hf hL hF
    obtain ⟨t2, a1, b1⟩ := kx E ce q u t T'.heap (locs ++ L) e1.symm (by rw [← e2]; exact X'.warmed.alike) hp hb k1 k2 k3 (by rw [e1]; exact hce) hcv hcl T' rfl X'
    exact ⟨t2, st.trans a1, b1⟩
theorem vx_calld {S SX : Type} {post : UInt64 → S → Prop} {px : SX → Prop} {B : S → State → Prop} {BX : String → SX → State → Prop} {AX : Nat → Prop} (hr : vx_Run p l e R s m args below meth c H locs cells slots mc ms (F0 m pc ls st0) rest (va_Qd post B A1 a) (vx_X px BX AX) free) (hS : va_S A0 H0 H locs) (hA : ∀ q, q < H.size → A1 q → A0 q) (hf : ∀ q, free q → A0 q) (hAX : ∀ q, q < H.size → AX q → A0 q)
    (kx : ∀ (E : String) (ce : Cell) (q9 : Addr) (u : SX) (t : State) (H1 : Heap) (locs1 : List Loc), t.heap = H1 → s.vm.Alike t.vm → px u → BX E u t → H.size ≤ H1.size → (∀ q : Nat, q < H.size → ¬ AX q → H1[q]? = H[q]?) → va_S A0 H0 H1 locs1 → H1[q9]? = some ce → ce.vm = .none → s.vm.findClass E = some ce.cls → vx_W p l e R s m args below meth c H1 locs1 (cells + mc) (slots + ms) Q (F0 m pc ls rest) q9)
    (kk : ∀ (r : UInt64) (u : S) (t : State) (H1 : Heap) (locs1 : List Loc), t.heap = H1 → s.vm.Alike t.vm → post r u → B u t → H.size ≤ H1.size → (∀ q : Nat, q < H.size → ¬ A1 q → H1[q]? = H[q]?) → va_S A0 H0 H1 locs1 → W p l e R s m args below meth c H1 locs1 (cells + mc) (slots + ms) Q (F0 m (pc + 3) ls (.double r :: rest))) : W p l e R s m args below meth c H locs cells slots Q (F0 m pc ls st0) := by
  intro T hT X
  rcases hr T hT X with ⟨v, st₀, t, T', L, h0, X', hL, e1, e2, ⟨⟨r, u, hv, hp, hb⟩, hF⟩, st⟩ | ⟨q, st₀, t, T', L, E, ce, h0, X', hL, e1, e2, ⟨u, hp, hb, hF⟩, hce, hcv, hcl, st⟩
  · cases hv
    obtain ⟨k1, k2, k3⟩ := vx_keep h0 e1 hS hA hf hL hF
    obtain ⟨t2, a1, b1⟩ := kk r u t T'.heap (locs ++ L) e1.symm (by rw [← e2]; exact X'.warmed.alike) hp hb k1 k2 k3 T' rfl X'
    exact ⟨t2, st t2 a1, b1⟩
  · obtain ⟨k1, k2, k3⟩ := vx_keep h0 e1 hS hAX hf hL hF
    obtain ⟨t2, a1, b1⟩ := kx E ce q u t T'.heap (locs ++ L) e1.symm (by rw [← e2]; exact X'.warmed.alike) hp hb k1 k2 k3 (by rw [e1]; exact hce) hcv hcl T' rfl X'
    exact ⟨t2, st.trans a1, b1⟩
theorem vx_callv {S SX : Type} {post : S → Prop} {px : SX → Prop} {B : S → State → Prop} {BX : String → SX → State → Prop} {AX : Nat → Prop} (hr : vx_Run p l e R s m args below meth c H locs cells slots mc ms (F0 m pc ls st0) rest (va_Qv post B A1 a) (vx_X px BX AX) free) (hS : va_S A0 H0 H locs) (hA : ∀ q, q < H.size → A1 q → A0 q) (hf : ∀ q, free q → A0 q) (hAX : ∀ q, q < H.size → AX q → A0 q)
    (kx : ∀ (E : String) (ce : Cell) (q9 : Addr) (u : SX) (t : State) (H1 : Heap) (locs1 : List Loc), t.heap = H1 → s.vm.Alike t.vm → px u → BX E u t → H.size ≤ H1.size → (∀ q : Nat, q < H.size → ¬ AX q → H1[q]? = H[q]?) → va_S A0 H0 H1 locs1 → H1[q9]? = some ce → ce.vm = .none → s.vm.findClass E = some ce.cls → vx_W p l e R s m args below meth c H1 locs1 (cells + mc) (slots + ms) Q (F0 m pc ls rest) q9)
    (kk : ∀ (u : S) (t : State) (H1 : Heap) (locs1 : List Loc), t.heap = H1 → s.vm.Alike t.vm → post u → B u t → H.size ≤ H1.size → (∀ q : Nat, q < H.size → ¬ A1 q → H1[q]? = H[q]?) → va_S A0 H0 H1 locs1 → W p l e R s m args below meth c H1 locs1 (cells + mc) (slots + ms) Q (F0 m (pc + 3) ls (rest))) : W p l e R s m args below meth c H locs cells slots Q (F0 m pc ls st0) := by
  intro T hT X
  rcases hr T hT X with ⟨v, st₀, t, T', L, h0, X', hL, e1, e2, ⟨⟨u, hv, hp, hb⟩, hF⟩, st⟩ | ⟨q, st₀, t, T', L, E, ce, h0, X', hL, e1, e2, ⟨u, hp, hb, hF⟩, hce, hcv, hcl, st⟩
  · cases hv
    obtain ⟨k1, k2, k3⟩ := vx_keep h0 e1 hS hA hf hL hF
    obtain ⟨t2, a1, b1⟩ := kk u t T'.heap (locs ++ L) e1.symm (by rw [← e2]; exact X'.warmed.alike) hp hb k1 k2 k3 T' rfl X'
    exact ⟨t2, st t2 a1, b1⟩
  · obtain ⟨k1, k2, k3⟩ := vx_keep h0 e1 hS hAX hf hL hF
    obtain ⟨t2, a1, b1⟩ := kx E ce q u t T'.heap (locs ++ L) e1.symm (by rw [← e2]; exact X'.warmed.alike) hp hb k1 k2 k3 (by rw [e1]; exact hce) hcv hcl T' rfl X'
    exact ⟨t2, st.trans a1, b1⟩
/-- caught by the row x of this method's table; the rows ahead don't take it -/
theorem vx_catch {own name : String} {E : String} {ce : Cell} {q : Addr} (hown : s.vm.findClass own = some m.cls) (pre : List ExceptionTableEntry) (x : ExceptionTableEntry) (suf : List ExceptionTableEntry) (hsplit : c.exceptionTable.toList = pre ++ x :: suf)
    (hpass : ∀ z ∈ pre, covers z pc = false ∨ (z.catchType ≠ 0 ∧ ∃ nm : String, (Cond.classLink own z.catchType nm).before args s = true ∧ va_Nc E nm s)) (hx : covers x pc = true) (h0 : x.catchType ≠ 0)
    (hlink : (Cond.classLink own x.catchType name).before args s = true) (hcast : (Cond.castable E name).before args s = true) (hcell : H[q]? = some ce) (hv : ce.vm = .none) (hcl : s.vm.findClass E = some ce.cls)
    (kk : W p l e R s m args below meth c H locs cells slots Q (F0 m x.handlerPc ls [.ref q])) : vx_W p l e R s m args below meth c H locs cells slots Q (F0 m pc ls rest) q := by
  intro T hT X
  have hpl : e.platform.magicAccessors = ({} : Platform).magicAccessors := by rw [X.admits.platform]
  obtain ⟨c3, c4, hc3, hc4, hasg⟩ := Cond.castable_spec hcast
  cases Option.some.inj (hc3.symm.trans hcl)
  obtain ⟨c5, hc5, hcl5⟩ := Cond.classLink_spec hown hlink e.platform hpl
  cases Option.some.inj (hc4.symm.trans hc5)
  obtain ⟨vm', X', st⟩ := X.thenCaughtThrough q (g := F0 m pc ls rest) rfl (Steps.refl _) (by rw [hT]; exact hcell) (by rw [hv]; rfl) (by obtain ⟨k9, h9, -⟩ := Vm.findClass_spec hcl; exact ⟨k9, h9⟩) pre x suf hsplit
    (fun z hz => by
      rcases hpass z hz with h | ⟨hz0, nm, hl1, hn1⟩
      · exact Or.inl h
      · obtain ⟨c6, hc6, hcl6⟩ := Cond.classLink_spec hown hl1 e.platform hpl
        obtain ⟨a8, b8, h1, h2, h3⟩ := hn1
        cases Option.some.inj (h1.symm.trans hcl)
        cases Option.some.inj (h2.symm.trans hc6)
        exact Or.inr ⟨hz0, _, hcl6, h3⟩) hx (Or.inr ⟨h0, c4, hcl5, hasg⟩)
  obtain ⟨t, a1, b1⟩ := kk (T.setVm vm') hT X'
  exact ⟨t, st.trans a1, b1⟩
end Rows
section Ends
variable {p : Program} {l : Launch} {e : Env} {R : Room} {s : State} {m : MethodId} {args : Array Value} {below : List Frame} {meth : Method} {c : Code} {H : Heap} {locs : List Loc} {cells slots : Nat} {Q : State → Prop}
variable {mc ms : Nat} {free : Addr → Prop} {A0 A1 : Nat → Prop} {H0 : Heap} {a : Array Value} {ls : Array Slot} {st0 rest : List Value}
variable {Qc : Array Value → State → Outcome → State → Prop} {XC : String → State → State → Prop}
/-- what a body that may throw owes at its end -/
def vx_MQ (below : List Frame) (Qc : Array Value → State → Outcome → State → Prop) (XC : String → State → State → Prop) (a : Array Value) (s : State) (mc ms : Nat) (free : Addr → Prop) : State → Prop := fun t =>
  ∃ o, t.status = .running ∧ Ended t below o ∧ vx_Q Qc XC mc ms free a s o t
theorem vx_ret {g : JFrame} {mc ms : Nat} (k : W p l e R s m args below meth c H locs cells slots (MQ below Qc args s mc ms free) g) : W p l e R s m args below meth c H locs cells slots (vx_MQ below Qc XC args s mc ms free) g := by
  intro T hT X
  obtain ⟨t, a1, o, b1, b2, b3, b4⟩ := k T hT X
  exact ⟨t, a1, o, b1, b2, Or.inl ⟨b3, b4⟩⟩
/-- not caught here: it goes on to the caller -/
theorem vx_widen {g : JFrame} {q : Addr} {k n : Nat} (h1 : cells ≤ k) (h2 : slots ≤ n) (kk : vx_W p l e R s m args below meth c H locs k n Q g q) : vx_W p l e R s m args below meth c H locs cells slots Q g q := fun T hT X => kk T hT (stand_widen X h1 h2)
theorem vx_out {pc : Nat} {E : String} {ce : Cell} {q : Addr} {mc ms : Nat} (hout : ∀ x ∈ c.exceptionTable.toList, covers x pc = false) (hlocks : meth.locks = false) (hcell : H[q]? = some ce) (hv : ce.vm = .none) (hcl : s.vm.findClass E = some ce.cls)
    (hx : ∀ t : State, t.heap = H → s.vm.Alike t.vm → XC E s t) (hf : ∀ z ∈ locs, free z.base) (hc : cells ≤ mc) (hs : slots ≤ ms) :
    vx_W p l e R s m args below meth c H locs cells slots (vx_MQ below Qc XC args s mc ms free) (F0 m pc ls rest) q := by
  intro T hT X
  obtain ⟨st1, hrun, hend, hW, hsm⟩ := X.leaveThrown q (g := F0 m pc ls rest) rfl rfl rfl hout hlocks
  have hcell9 : (T.setFrames (.throwing q :: below)).heap[q]? = some ce := by
    show T.heap[q]? = some ce
    rw [hT]; exact hcell
  exact ⟨_, st1, .threw q, hrun, hend, Or.inr ⟨q, rfl, E, ce, locs, hx _ hT hW.alike, hcell9, hv, hcl, hW, hsm.mono hc hs, hf⟩⟩
theorem vx_frame {U : State} {k n : Nat} (h : s.sameButNew ({ U with vm := s.vm } : State) locs k n) : s.heap.size ≤ U.heap.size ∧ ∀ q : Nat, q < s.heap.size → (∀ z ∈ locs, z.base ≠ q) → U.heap[q]? = s.heap[q]? := by
  obtain ⟨-, h2, -, -, -, h6⟩ := h
  refine ⟨h2, fun q hq hz => ?_⟩
  obtain ⟨c9, e1, e2, e3, e4⟩ := h6 q _ (Array.getElem?_eq_getElem hq)
  have hs : c9.slots = (s.heap[q]).slots := Array.ext_getElem? fun i => e4 i fun hm => hz _ hm rfl
  have h9 : c9 = s.heap[q] := by
    rw [hs] at e2
    exact e2
  have e5 : U.heap[q]? = some c9 := e1
  rw [e5, h9, Array.getElem?_eq_getElem hq]
/-- the words of a throw but the four that speak of the heap -/
def vx_no (w : Cond) : Bool := decide (w ≠ .isRef (.static Bundle.tN "UNASSIGNED_STACK" Bundle.steD)) && decide (w ≠ .isRef (.static Bundle.tN "SUPPRESSED_SENTINEL" Bundle.listD)) && decide (w ≠ .laysStatic Bundle.tN "UNASSIGNED_STACK" Bundle.steD) && decide (w ≠ .laysStatic Bundle.tN "SUPPRESSED_SENTINEL" Bundle.listD)
def vx_at0 (own : String) (ic : Nat) (X : String) (names : List String) : List Cond := (Bundle.ownAtoms0 own ic X names).filter vx_no
def vx_atS (own : String) (ic : Nat) (X : String) (names : List String) : List Cond := (Bundle.ownAtoms own ic X names).filter vx_no
/-- a word that the tables alone decide, or a good one -/
def vx_ot (w : Cond) : Bool := w.onTables || goodWord w
theorem vx_ot_at {args a' : Array Value} {s U : State} {w : Cond} (hW : s.WarmedH U.vm) (hvm : s.vm = U.vm) (hg : vx_ot w = true) (h : w.before args s = true) : w.before a' U = true := by
  simp only [vx_ot, Bool.or_eq_true] at hg
  rcases hg with hg | hg
  · exact va_tabs hg hvm h
  · exact word_at hW (good_of_word hg) h
/-- a list's words: the good ones out of the method's own list, the others by premises of their own -/
theorem vx_hat {args : Array Value} {s : State} {L B : List Cond} (h1 : ∀ w ∈ L.filter goodWord, w.before args s = true) (h2 : ∀ w ∈ L.filter (fun w => !goodWord w), w ∈ B) (h3 : ∀ w ∈ B, w.before args s = true) : ∀ w ∈ L, w.before args s = true := by
  intro w hw
  by_cases g : goodWord w = true
  · exact h1 w (List.mem_filter.mpr ⟨hw, g⟩)
  · refine h3 w (h2 w (List.mem_filter.mpr ⟨hw, ?_⟩))
    show (!goodWord w) = true
    cases hgw : goodWord w
    · rfl
    · exact absurd hgw g
theorem vx_c {args : Array Value} {s : State} {w : Cond} {B : List Cond} (h : w.before args s = true) (t : ∀ w ∈ B, w.before args s = true) : ∀ w' ∈ w :: B, w'.before args s = true := fun w' h' => (List.mem_cons.mp h').elim (fun e => by rw [e]; exact h) (t w')
theorem vx_n {args : Array Value} {s : State} : ∀ w ∈ ([] : List Cond), w.before args s = true := fun _ h => nomatch h
theorem vx_own {args : Array Value} {s : State} {L : List Cond} (h1 : ∀ w ∈ L.filter vx_no, w.before args s = true)
    (hU : (Cond.isRef (.static Bundle.tN "UNASSIGNED_STACK" Bundle.steD)).before args s = true) (hN : (Cond.isRef (.static Bundle.tN "SUPPRESSED_SENTINEL" Bundle.listD)).before args s = true)
    (lU : (Cond.laysStatic Bundle.tN "UNASSIGNED_STACK" Bundle.steD).before args s = true) (lN : (Cond.laysStatic Bundle.tN "SUPPRESSED_SENTINEL" Bundle.listD).before args s = true) : ∀ w ∈ L, w.before args s = true := by
  intro w hw
  by_cases e1 : w = .isRef (.static Bundle.tN "UNASSIGNED_STACK" Bundle.steD)
  · rw [e1]; exact hU
  · by_cases e2 : w = .isRef (.static Bundle.tN "SUPPRESSED_SENTINEL" Bundle.listD)
    · rw [e2]; exact hN
    · by_cases e3 : w = .laysStatic Bundle.tN "UNASSIGNED_STACK" Bundle.steD
      · rw [e3]; exact lU
      · by_cases e4 : w = .laysStatic Bundle.tN "SUPPRESSED_SENTINEL" Bundle.listD
        · rw [e4]; exact lN
        · exact h1 w (List.mem_filter.mpr ⟨hw, by unfold vx_no; rw [decide_eq_true e1, decide_eq_true e2, decide_eq_true e3, decide_eq_true e4]; rfl⟩)
/-- where a static field lies, its class's statics cell in H -/
def vx_L (C n d : String) (A : Nat → Prop) (U : State) (H : Heap) : Prop := ∃ (c : ClassId) (k : Class) (i : Nat) (f : Field) (a : Nat) (cell : Cell), U.vm.findClass C = some c ∧ U.fieldFound? C n d = some (c, k, i, f) ∧ f.isStatic = true ∧ k.statics = some a ∧ H[a]? = some cell ∧ cell.vm.isStatics = true ∧ cell.cls = c ∧ f.slot < cell.slots.size ∧ k.staticTypes[f.slot]? = some f.type ∧ ¬ A a
theorem vx_L.moved {C n d : String} {A : Nat → Prop} {u U : State} {H : Heap} (hvm : u.vm.Alike U.vm) (h : vx_L C n d A u H) : vx_L C n d A U H := by
  obtain ⟨c, k, i, f, a, cell, h1, h2, h3, h4, h5, h6, h7, h8, h9, h10⟩ := h
  obtain ⟨k', hi', he⟩ := State.fieldFound?_setVm hvm h2
  exact ⟨c, k', i, f, a, cell, by rw [hvm.findClass]; exact h1, hi', h3, by rw [he]; exact h4, h5, h6, h7, h8, by rw [he]; exact h9, h10⟩
theorem vx_L.kept {C n d : String} {A : Nat → Prop} {U : State} {H H1 : Heap} (h : vx_L C n d A U H) (hq : ∀ a : Nat, a < H.size → ¬ A a → H1[a]? = H[a]?) : vx_L C n d A U H1 := by
  obtain ⟨c, k, i, f, a, cell, h1, h2, h3, h4, h5, h6, h7, h8, h9, h10⟩ := h
  exact ⟨c, k, i, f, a, cell, h1, h2, h3, h4, by rw [hq a (Array.getElem?_eq_some_iff.mp h5).1 h10]; exact h5, h6, h7, h8, h9, h10⟩
theorem vx_L.narrow {C n d : String} {A B : Nat → Prop} {U : State} {H : Heap} (h : vx_L C n d A U H) (hAB : ∀ q, B q → A q) : vx_L C n d B U H := by
  obtain ⟨c, k, i, f, a, cell, h1, h2, h3, h4, h5, h6, h7, h8, h9, h10⟩ := h
  exact ⟨c, k, i, f, a, cell, h1, h2, h3, h4, h5, h6, h7, h8, h9, fun z => h10 (hAB _ z)⟩
theorem vx_L.word {C n d : String} {A : Nat → Prop} {s : State} {args : Array Value} (h : vx_L C n d A s s.heap) : (Cond.laysStatic C n d).before args s = true := by
  obtain ⟨c, k, i, f, a, cell, h1, h2, h3, h4, h5, h6, h7, h8, h9, -⟩ := h
  show (Cond.laysStatic C n d).holds args s none s [] = true
  exact Cond.laysStatic_of h1 h2 h3 h4 h5 h6 h7 h8 h9
/-- .. and what it holds: null or some reference -/
def vx_Zq (C n d : String) (A : Nat → Prop) (U : State) (H : Heap) : Prop := va_Zq C n d A U H ∧ vx_L C n d A U H
theorem vx_Zq.moved {C n d : String} {A : Nat → Prop} {u U : State} {H : Heap} (hvm : u.vm.Alike U.vm) (h : vx_Zq C n d A u H) : vx_Zq C n d A U H := ⟨va_Zq.moved hvm h.1, vx_L.moved hvm h.2⟩
theorem vx_Zq.kept {C n d : String} {A : Nat → Prop} {U : State} {H H1 : Heap} (h : vx_Zq C n d A U H) (hq : ∀ a : Nat, a < H.size → ¬ A a → H1[a]? = H[a]?) : vx_Zq C n d A U H1 := ⟨va_Zq.kept h.1 hq, vx_L.kept h.2 hq⟩
theorem vx_Zq.narrow {C n d : String} {A B : Nat → Prop} {U : State} {H : Heap} (h : vx_Zq C n d A U H) (hAB : ∀ q, B q → A q) : vx_Zq C n d B U H := ⟨va_Zq.narrow h.1 hAB, vx_L.narrow h.2 hAB⟩
theorem vx_Zqof {args : Array Value} {s : State} {C n d : String} {A : Nat → Prop} (hl : (Cond.laysStatic C n d).before args s = true) (hini : (Cond.initialized C).before args s = true) (h : (Cond.isRef (.static C n d)).before args s = true) (hA : ∀ a : Nat, a < s.heap.size → ¬ A a) : vx_Zq C n d A s s.heap := by
  refine ⟨va_Zqof hl hini h hA, ?_⟩
  obtain ⟨c, k, i, f, a, cell, h1, h2, h3, h4, h5, h6, h7, h8, h9⟩ := Cond.laysStatic_spec hl
  exact ⟨c, k, i, f, a, cell, h1, h2, h3, h4, h5, h6, h7, h8, h9, hA a (Array.getElem?_eq_some_iff.mp h5).1⟩
theorem vx_isRef {C n d : String} {v : Value} {A : Nat → Prop} {s : State} {args : Array Value} (h : va_Z C n d v A s s.heap) (hv : v.isRef = true) : (Cond.isRef (.static C n d)).before args s = true := by
  obtain ⟨cf, kf, fi, f, a, cell, h1, h2, h3, h4, h5, h6, h7, -⟩ := h
  have he : (Term.static C n d).eval args s none [] s = some v := by
    simp [Term.eval, State.fieldNamed?, h1, h2, h4, h5, h6, h7]
  simp only [Cond.before, Cond.holds, Cond.value, he]
  cases v <;> simp_all [Value.isRef]
theorem vx_isRefq {C n d : String} {A : Nat → Prop} {s : State} {args : Array Value} (h : va_Zq C n d A s s.heap) : (Cond.isRef (.static C n d)).before args s = true := by
  rcases h with h | ⟨t, h⟩
  · exact vx_isRef h rfl
  · exact vx_isRef h rfl
/-- the same frame, seen from here: as if the method were called anew in this heap -/
theorem vx_rebase {T : State} (X : Stand p l e R s m args below meth c T locs cells slots) {R' : Room} (hf : R'.frames ≤ R.frames) (hl : R'.locals ≤ R.locals) (hc : cells + R'.cells ≤ R.cells) (hs : slots + R'.slots ≤ R.slots) :
    Stand p l e R' ((T.setVm s.vm).setFrames (.invoking m args :: below)) m args below meth c T [] 0 0 := by
  have htop : (T.setVm s.vm).topJava?.isSome := X.here.top
  have hF : ((T.setVm s.vm).setFrames (.invoking m args :: below)).frames = .invoking m args :: below := State.frames_setFrames _ (State.cur_lt_of_top htop)
  obtain ⟨g₀, hg0⟩ := Option.isSome_iff_exists.mp htop
  obtain ⟨r, hr⟩ := State.topJava?_eq_some.mp hg0
  have hl9 : e.platform.stackLimits (T.setVm s.vm).me = e.platform.stackLimits s.me := X.limits
  have hb9 : (T.setVm s.vm).me.stackBytes = s.me.stackBytes := X.bytes
  refine ⟨X.admits, X.cas, X.clock, hF, ?_, X.hears, X.method, X.code, X.here, X.tail, X.warmed, ?_, ?_, ?_⟩
  · have h := X.room
    have hU : ((T.setVm s.vm).setFrames (.invoking m args :: below)).localsInUse = s.localsInUse := by
      rw [State.localsInUse_invoking hF (meth := meth) (c := c) X.method X.code, State.localsInUse_invoking X.frames X.method X.code]
    simp only [State.hasRoom, Bool.and_eq_true, decide_eq_true_eq] at h ⊢
    obtain ⟨⟨⟨⟨h1, h2, h3, h4, h5, h6⟩, h7⟩, h8⟩, h9⟩ := h
    rw [X.frames, List.length_cons] at h2 h3
    have q1 := X.heapSize
    have q2 := X.used
    simp only [hF, hU, List.length_cons, State.stackLimits_setFrames, State.stackBytes_setFrames, hl9, hb9]
    refine ⟨⟨⟨⟨by omega, by omega, by omega, by omega, by omega, h6⟩, ?_⟩, ?_⟩, X.book⟩
    · show T.heap.size + R'.cells ≤ e.platform.maxCells
      omega
    · show T.slotsUsed + R'.slots ≤ e.platform.maxSlots
      omega
  · rw [State.stackLimits_setFrames]; rfl
  · rw [State.stackBytes_setFrames]; rfl
  · refine ⟨?_, Nat.le_refl _, Nat.le_refl _, ?_, ?_, fun a c9 h9 => ⟨c9, h9, rfl, rfl, fun _ _ => rfl⟩⟩
    · obtain ⟨t, ht, -⟩ := State.frames_cons hr
      show T.setVm s.vm = { ((T.setVm s.vm).setFrames (.invoking m args :: below)).setFrames (T.setVm s.vm).frames with heap := T.heap, slotsUsed := T.slotsUsed }
      rw [State.setFrames_setFrames, State.setFrames_self ht]
      rfl
    · show T.slotsUsed = T.slotsUsed + ((T.heap.toList.drop T.heap.size).map (·.slots.size)).sum
      rw [List.drop_eq_nil_of_le (Nat.le_of_eq Array.length_toList)]
      rfl
    · show ((T.heap.toList.drop T.heap.size).map (·.slots.size)).sum ≤ 0
      rw [List.drop_eq_nil_of_le (Nat.le_of_eq Array.length_toList)]
      exact Nat.le_refl _
/-- 'throw new E()': new; dup; invokespecial; athrow -/
theorem vx_throw0 {cc : ByteArray} {pc : Nat} (hexec : p.tables.exec = Jvm.exec) (hb : c.code = cc) (hl : l.stackTraces = false) {own cls : String} {names : List String} {ik ic mc ms : Nat} {A : Nat → Prop}
    (hown : s.vm.findClass own = some m.cls) (hcls : Bundle.fit cls = true) (hnames : ∀ n ∈ names, Bundle.fit n = true)
    (hk : (Cond.classLink own ik cls).before args s = true) (hini : (Cond.initialized cls).before args s = true) (hat : ∀ w ∈ vx_at0 own ic cls names, w.before args s = true)
    (hgood : ∀ w ∈ Cond.classLink own ik cls :: Cond.initialized cls :: vx_at0 own ic cls names, vx_ot w = true)
    (hU : vx_Zq Bundle.tN "UNASSIGNED_STACK" Bundle.steD A s s.heap) (hN : vx_Zq Bundle.tN "SUPPRESSED_SENTINEL" Bundle.listD A s s.heap) (hS : va_S A s.heap H locs) (hsize : ls.size = c.maxLocals)
    (d0 : decode cc pc = .ok (.new ik, 3)) (d3 : decode cc (pc + 3) = .ok (.dup, 1)) (d4 : decode cc (pc + 4) = .ok (.invokespecial ic, 3)) (d7 : decode cc (pc + 7) = .ok (.athrow, 1))
    (hout : ∀ x ∈ c.exceptionTable.toList, covers x (pc + 7) = false)
    (hRframes : names.length + 3 < R.frames) (hRlocals : (rest.map fun v => v.category).sum + (13 * (names.length + 1) + 42) ≤ R.locals) (hRcells : cells + 1 ≤ R.cells) (hRslots : slots + 6 ≤ R.slots) (hlocks : meth.locks = false)
    (hx : ∀ t : State, s.vm.Alike t.vm → H.size ≤ t.heap.size → (∀ q : Nat, q < H.size → t.heap[q]? = H[q]?) → XC cls s t)
    (hf : ∀ z ∈ locs, free z.base) (hc : cells + 1 ≤ mc) (hs : slots + 6 ≤ ms) :
    W p l e R s m args below meth c H locs cells slots (vx_MQ below Qc XC args s mc ms free) (F0 m pc ls rest) := by
  intro T hT X
  have htr : e.platform.stackTraces = false := (show e.platform.stackTraces = l.stackTraces by rw [X.admits.platform]).trans hl
  have Y := vx_rebase X (R' := { frames := R.frames, locals := R.locals, cells := 1, slots := 6 }) (Nat.le_refl _) (Nat.le_refl _) hRcells hRslots
  obtain ⟨s', hA⟩ : ∃ z, z = (T.setVm s.vm).setFrames (.invoking m args :: below) := ⟨_, rfl⟩
  rw [← hA] at Y
  have hvm : s'.vm = s.vm := by rw [hA]; rfl
  have hhp : s'.heap = H := by rw [hA]; exact hT
  have hW0 : s.WarmedH s'.vm := by rw [hvm]; exact State.WarmedH.refl s
  have hat' : ∀ w ∈ vx_at0 own ic cls names, w.before args s' = true := fun w hw => vx_ot_at hW0 hvm.symm (hgood w (List.mem_cons_of_mem _ (List.mem_cons_of_mem _ hw))) (hat w hw)
  have hk' : (Cond.classLink own ik cls).before args s' = true := vx_ot_at hW0 hvm.symm (hgood _ List.mem_cons_self) hk
  have hini' : (Cond.initialized cls).before args s' = true := vx_ot_at hW0 hvm.symm (hgood _ (List.mem_cons_of_mem _ List.mem_cons_self)) hini
  have hU' : vx_Zq Bundle.tN "UNASSIGNED_STACK" Bundle.steD A s' s'.heap := by rw [hhp]; exact vx_Zq.moved hW0.alike (hU.kept hS.2.1)
  have hN' : vx_Zq Bundle.tN "SUPPRESSED_SENTINEL" Bundle.listD A s' s'.heap := by rw [hhp]; exact vx_Zq.moved hW0.alike (hN.kept hS.2.1)
  have h : ∀ w ∈ Bundle.ownAtoms0 own ic cls names, w.before args s' = true := vx_own hat' (vx_isRefq hU'.1) (vx_isRefq hN'.1) hU'.2.word hN'.2.word
  have hown' : s'.vm.findClass own = some m.cls := by rw [hvm]; exact hown
  have hins : (Cond.instantiable cls 6).before args s' = true := h _ (by simp [Bundle.ownAtoms0])
  obtain ⟨vm₁, cX, kX, hfX, hkX, -, -, X₁, st1⟩ := Y.newCold hexec (own := own) (C := cls) (index := ik) (n := 6) hown' hk' hins hini'
    (g := F0 m pc ls rest) rfl (by rw [hb]; exact d0) (Nat.le_refl _) (Nat.le_refl _)
  generalize hT1 : (T.setVm vm₁).pushCell { cls := cX, slots := kX.instanceTypes.map defaultValue, vm := .none } = T1 at X₁ st1
  have hcat : (Value.ref T.heap.size).category = 1 := rfl
  have hcellA : T1.heap[T.heap.size]? = some (freshCell cX kX) := by rw [← hT1]; exact State.heap_pushCell_size _ _
  have d3' : decode c.code (pc + 3) = .ok (.dup, 1) := by rw [hb]; exact d3
  obtain ⟨U, hsteps, hrun, hend, hW, hsame, ce, hce, hO⟩ := X₁.ctorThrow0 hexec htr (own := own) (cls := cls) (names := names) (ic := ic) hown' hcls hnames h (fun x hx => nomatch hx) hfX hkX hcellA (by rw [hhp, hT]; exact Nat.le_refl _)
    (g := { method := m, pc := pc + 4, locals := ls, stack := .ref T.heap.size :: .ref T.heap.size :: rest, locked := none }) rfl hsize rfl rfl (rest := rest) rfl
    (by rw [hb]; exact d4) (by rw [hb]; exact d7) hout hRframes (by simp only [List.map_cons, List.sum_cons, hcat]; omega) hlocks
  obtain ⟨f1, f2⟩ := vx_frame hsame
  rw [hhp] at f1 f2
  have hWs : s.WarmedH U.vm := State.WarmedH.trans hW0 hW
  have hcl : s.vm.findClass cls = some ce.cls := by
    have h9 := hO.cls
    rw [hvm] at h9
    exact h9
  have hall : s.sameButNew ({ U with vm := s.vm } : State) locs mc ms := by
    subst hA
    obtain ⟨e1, e2⟩ := hsame
    rw [State.setFrames_setFrames] at e1
    have h2 : (T.setVm s.vm).sameButNew ({ U with vm := s.vm } : State) [] (0 + 1) (0 + 6) := ⟨e1, e2⟩
    have h3 := X.same.trans h2
    rw [List.append_nil] at h3
    exact h3.mono hc hs
  refine ⟨U, ?_, .threw T.heap.size, hrun, hend, Or.inr ⟨T.heap.size, rfl, cls, ce, locs, hx U hWs.alike f1 (fun q hq => f2 q hq (fun z hz => nomatch hz)), hce, hO.vm, hcl, hWs, hall, hf⟩⟩
  refine st1 _ ?_
  show Steps p.tables e below (T1.setTop { method := m, pc := pc + 3, locals := ls, stack := .ref T.heap.size :: rest, locked := none }) _
  jvm_step X₁.here [X₁.here.top, hexec, d3', Value.category]
  exact hsteps
/-- 'throw new E("text")': new; dup; ldc; invokespecial; athrow -/
theorem vx_throwS {cc : ByteArray} {pc : Nat} (hexec : p.tables.exec = Jvm.exec) (hb : c.code = cc) (hl : l.stackTraces = false) {own cls text : String} {names : List String} {ik is ic mc ms sa : Nat} {A : Nat → Prop}
    (hown : s.vm.findClass own = some m.cls) (hcls : Bundle.fit cls = true) (hnames : ∀ n ∈ names, Bundle.fit n = true)
    (hk : (Cond.classLink own ik cls).before args s = true) (hini : (Cond.initialized cls).before args s = true) (hstr : vk_R own is text sa s) (hat : ∀ w ∈ vx_atS own ic cls names, w.before args s = true)
    (hgood : ∀ w ∈ Cond.classLink own ik cls :: Cond.initialized cls :: vx_atS own ic cls names, vx_ot w = true)
    (hU : vx_Zq Bundle.tN "UNASSIGNED_STACK" Bundle.steD A s s.heap) (hN : vx_Zq Bundle.tN "SUPPRESSED_SENTINEL" Bundle.listD A s s.heap) (hS : va_S A s.heap H locs) (hsize : ls.size = c.maxLocals)
    (d0 : decode cc pc = .ok (.new ik, 3)) (d3 : decode cc (pc + 3) = .ok (.dup, 1)) (d4 : decode cc (pc + 4) = .ok (.ldc is, 2)) (d6 : decode cc (pc + 6) = .ok (.invokespecial ic, 3)) (d9 : decode cc (pc + 9) = .ok (.athrow, 1))
    (hout : ∀ x ∈ c.exceptionTable.toList, covers x (pc + 9) = false)
    (hRframes : names.length + 3 < R.frames) (hRlocals : (rest.map fun v => v.category).sum + (13 * (names.length + 1) + 43) ≤ R.locals) (hRcells : cells + 1 ≤ R.cells) (hRslots : slots + 6 ≤ R.slots) (hlocks : meth.locks = false)
    (hx : ∀ t : State, s.vm.Alike t.vm → H.size ≤ t.heap.size → (∀ q : Nat, q < H.size → t.heap[q]? = H[q]?) → XC cls s t)
    (hf : ∀ z ∈ locs, free z.base) (hc : cells + 1 ≤ mc) (hs : slots + 6 ≤ ms) :
    W p l e R s m args below meth c H locs cells slots (vx_MQ below Qc XC args s mc ms free) (F0 m pc ls rest) := by
  intro T hT X
  have htr : e.platform.stackTraces = false := (show e.platform.stackTraces = l.stackTraces by rw [X.admits.platform]).trans hl
  have Y := vx_rebase X (R' := { frames := R.frames, locals := R.locals, cells := 1, slots := 6 }) (Nat.le_refl _) (Nat.le_refl _) hRcells hRslots
  obtain ⟨s', hA⟩ : ∃ z, z = (T.setVm s.vm).setFrames (.invoking m args :: below) := ⟨_, rfl⟩
  rw [← hA] at Y
  have hvm : s'.vm = s.vm := by rw [hA]; rfl
  have hhp : s'.heap = H := by rw [hA]; exact hT
  have hW0 : s.WarmedH s'.vm := by rw [hvm]; exact State.WarmedH.refl s
  have hat' : ∀ w ∈ vx_atS own ic cls names, w.before args s' = true := fun w hw => vx_ot_at hW0 hvm.symm (hgood w (List.mem_cons_of_mem _ (List.mem_cons_of_mem _ hw))) (hat w hw)
  have hk' : (Cond.classLink own ik cls).before args s' = true := vx_ot_at hW0 hvm.symm (hgood _ List.mem_cons_self) hk
  have hini' : (Cond.initialized cls).before args s' = true := vx_ot_at hW0 hvm.symm (hgood _ (List.mem_cons_of_mem _ List.mem_cons_self)) hini
  have hU' : vx_Zq Bundle.tN "UNASSIGNED_STACK" Bundle.steD A s' s'.heap := by rw [hhp]; exact vx_Zq.moved hW0.alike (hU.kept hS.2.1)
  have hN' : vx_Zq Bundle.tN "SUPPRESSED_SENTINEL" Bundle.listD A s' s'.heap := by rw [hhp]; exact vx_Zq.moved hW0.alike (hN.kept hS.2.1)
  have h : ∀ w ∈ Bundle.ownAtoms own ic cls names, w.before args s' = true := vx_own hat' (vx_isRefq hU'.1) (vx_isRefq hN'.1) hU'.2.word hN'.2.word
  have hown' : s'.vm.findClass own = some m.cls := by rw [hvm]; exact hown
  have hins : (Cond.instantiable cls 6).before args s' = true := h _ (by simp [Bundle.ownAtoms])
  obtain ⟨vm₁, cX, kX, hfX, hkX, -, -, X₁, st1⟩ := Y.newCold hexec (own := own) (C := cls) (index := ik) (n := 6) hown' hk' hins hini'
    (g := F0 m pc ls rest) rfl (by rw [hb]; exact d0) (Nat.le_refl _) (Nat.le_refl _)
  generalize hT1 : (T.setVm vm₁).pushCell { cls := cX, slots := kX.instanceTypes.map defaultValue, vm := .none } = T1 at X₁ st1
  have hcat : (Value.ref T.heap.size).category = 1 := rfl
  have hcellA : T1.heap[T.heap.size]? = some (freshCell cX kX) := by rw [← hT1]; exact State.heap_pushCell_size _ _
  have d3' : decode c.code (pc + 3) = .ok (.dup, 1) := by rw [hb]; exact d3
  have d4' : decode c.code (pc + 4) = .ok (.ldc is, 2) := by rw [hb]; exact d4
  have hstr' : vk_R own is text sa s' := vk_R.warm hW0 hstr
  obtain ⟨U, hsteps, hrun, hend, hW, hsame, ce, hce, hO⟩ := X₁.ctorThrowS hexec htr (own := own) (cls := cls) (names := names) (ic := ic) hown' hcls hnames h (fun x hx => nomatch hx) hfX hkX hcellA (by rw [hhp, hT]; exact Nat.le_refl _) (msg := .ref sa) rfl
    (g := { method := m, pc := pc + 6, locals := ls, stack := .ref sa :: .ref T.heap.size :: .ref T.heap.size :: rest, locked := none }) rfl hsize rfl rfl (rest := rest) rfl
    (by rw [hb]; exact d6) (by rw [hb]; exact d9) hout hRframes (by simp only [List.map_cons, List.sum_cons, hcat]; omega) hlocks
  obtain ⟨f1, f2⟩ := vx_frame hsame
  rw [hhp] at f1 f2
  have hWs : s.WarmedH U.vm := State.WarmedH.trans hW0 hW
  have hcl : s.vm.findClass cls = some ce.cls := by
    have h9 := hO.cls
    rw [hvm] at h9
    exact h9
  have hall : s.sameButNew ({ U with vm := s.vm } : State) locs mc ms := by
    subst hA
    obtain ⟨e1, e2⟩ := hsame
    rw [State.setFrames_setFrames] at e1
    have h2 : (T.setVm s.vm).sameButNew ({ U with vm := s.vm } : State) [] (0 + 1) (0 + 6) := ⟨e1, e2⟩
    have h3 := X.same.trans h2
    rw [List.append_nil] at h3
    exact h3.mono hc hs
  refine ⟨U, ?_, .threw T.heap.size, hrun, hend, Or.inr ⟨T.heap.size, rfl, cls, ce, locs, hx U hWs.alike f1 (fun q hq => f2 q hq (fun z hz => nomatch hz)), hce, hO.vm, hcl, hWs, hall, hf⟩⟩
  refine st1 _ ?_
  show Steps p.tables e below (T1.setTop { method := m, pc := pc + 3, locals := ls, stack := .ref T.heap.size :: rest, locked := none }) _
  jvm_step X₁.here [X₁.here.top, hexec, d3', Value.category]
  exact X₁.ldcString hexec (own := own) (text := text) (index := is) (a := sa) hown' hstr'.1 hstr'.2
    (g := { method := m, pc := pc + 4, locals := ls, stack := .ref T.heap.size :: .ref T.heap.size :: rest, locked := none }) rfl d4' _ hsteps
/-- 'throw new E("text")', the text by a wide index -/
theorem vx_throwSW {cc : ByteArray} {pc : Nat} (hexec : p.tables.exec = Jvm.exec) (hb : c.code = cc) (hl : l.stackTraces = false) {own cls text : String} {names : List String} {ik is ic mc ms sa : Nat} {A : Nat → Prop}
    (hown : s.vm.findClass own = some m.cls) (hcls : Bundle.fit cls = true) (hnames : ∀ n ∈ names, Bundle.fit n = true)
    (hk : (Cond.classLink own ik cls).before args s = true) (hini : (Cond.initialized cls).before args s = true) (hstr : vk_R own is text sa s) (hat : ∀ w ∈ vx_atS own ic cls names, w.before args s = true)
    (hgood : ∀ w ∈ Cond.classLink own ik cls :: Cond.initialized cls :: vx_atS own ic cls names, vx_ot w = true)
    (hU : vx_Zq Bundle.tN "UNASSIGNED_STACK" Bundle.steD A s s.heap) (hN : vx_Zq Bundle.tN "SUPPRESSED_SENTINEL" Bundle.listD A s s.heap) (hS : va_S A s.heap H locs) (hsize : ls.size = c.maxLocals)
    (d0 : decode cc pc = .ok (.new ik, 3)) (d3 : decode cc (pc + 3) = .ok (.dup, 1)) (d4 : decode cc (pc + 4) = .ok (.ldc_w is, 3)) (d7 : decode cc (pc + 7) = .ok (.invokespecial ic, 3)) (d10 : decode cc (pc + 10) = .ok (.athrow, 1))
    (hout : ∀ x ∈ c.exceptionTable.toList, covers x (pc + 10) = false)
    (hRframes : names.length + 3 < R.frames) (hRlocals : (rest.map fun v => v.category).sum + (13 * (names.length + 1) + 43) ≤ R.locals) (hRcells : cells + 1 ≤ R.cells) (hRslots : slots + 6 ≤ R.slots) (hlocks : meth.locks = false)
    (hx : ∀ t : State, s.vm.Alike t.vm → H.size ≤ t.heap.size → (∀ q : Nat, q < H.size → t.heap[q]? = H[q]?) → XC cls s t)
    (hf : ∀ z ∈ locs, free z.base) (hc : cells + 1 ≤ mc) (hs : slots + 6 ≤ ms) :
    W p l e R s m args below meth c H locs cells slots (vx_MQ below Qc XC args s mc ms free) (F0 m pc ls rest) := by
  intro T hT X
  have htr : e.platform.stackTraces = false := (show e.platform.stackTraces = l.stackTraces by rw [X.admits.platform]).trans hl
  have Y := vx_rebase X (R' := { frames := R.frames, locals := R.locals, cells := 1, slots := 6 }) (Nat.le_refl _) (Nat.le_refl _) hRcells hRslots
  obtain ⟨s', hA⟩ : ∃ z, z = (T.setVm s.vm).setFrames (.invoking m args :: below) := ⟨_, rfl⟩
  rw [← hA] at Y
  have hvm : s'.vm = s.vm := by rw [hA]; rfl
  have hhp : s'.heap = H := by rw [hA]; exact hT
  have hW0 : s.WarmedH s'.vm := by rw [hvm]; exact State.WarmedH.refl s
  have hat' : ∀ w ∈ vx_atS own ic cls names, w.before args s' = true := fun w hw => vx_ot_at hW0 hvm.symm (hgood w (List.mem_cons_of_mem _ (List.mem_cons_of_mem _ hw))) (hat w hw)
  have hk' : (Cond.classLink own ik cls).before args s' = true := vx_ot_at hW0 hvm.symm (hgood _ List.mem_cons_self) hk
  have hini' : (Cond.initialized cls).before args s' = true := vx_ot_at hW0 hvm.symm (hgood _ (List.mem_cons_of_mem _ List.mem_cons_self)) hini
  have hU' : vx_Zq Bundle.tN "UNASSIGNED_STACK" Bundle.steD A s' s'.heap := by rw [hhp]; exact vx_Zq.moved hW0.alike (hU.kept hS.2.1)
  have hN' : vx_Zq Bundle.tN "SUPPRESSED_SENTINEL" Bundle.listD A s' s'.heap := by rw [hhp]; exact vx_Zq.moved hW0.alike (hN.kept hS.2.1)
  have h : ∀ w ∈ Bundle.ownAtoms own ic cls names, w.before args s' = true := vx_own hat' (vx_isRefq hU'.1) (vx_isRefq hN'.1) hU'.2.word hN'.2.word
  have hown' : s'.vm.findClass own = some m.cls := by rw [hvm]; exact hown
  have hins : (Cond.instantiable cls 6).before args s' = true := h _ (by simp [Bundle.ownAtoms])
  obtain ⟨vm₁, cX, kX, hfX, hkX, -, -, X₁, st1⟩ := Y.newCold hexec (own := own) (C := cls) (index := ik) (n := 6) hown' hk' hins hini'
    (g := F0 m pc ls rest) rfl (by rw [hb]; exact d0) (Nat.le_refl _) (Nat.le_refl _)
  generalize hT1 : (T.setVm vm₁).pushCell { cls := cX, slots := kX.instanceTypes.map defaultValue, vm := .none } = T1 at X₁ st1
  have hcat : (Value.ref T.heap.size).category = 1 := rfl
  have hcellA : T1.heap[T.heap.size]? = some (freshCell cX kX) := by rw [← hT1]; exact State.heap_pushCell_size _ _
  have d3' : decode c.code (pc + 3) = .ok (.dup, 1) := by rw [hb]; exact d3
  have d4' : decode c.code (pc + 4) = .ok (.ldc_w is, 3) := by rw [hb]; exact d4
  have hstr' : vk_R own is text sa s' := vk_R.warm hW0 hstr
  obtain ⟨U, hsteps, hrun, hend, hW, hsame, ce, hce, hO⟩ := X₁.ctorThrowS hexec htr (own := own) (cls := cls) (names := names) (ic := ic) hown' hcls hnames h (fun x hx => nomatch hx) hfX hkX hcellA (by rw [hhp, hT]; exact Nat.le_refl _) (msg := .ref sa) rfl
    (g := { method := m, pc := pc + 7, locals := ls, stack := .ref sa :: .ref T.heap.size :: .ref T.heap.size :: rest, locked := none }) rfl hsize rfl rfl (rest := rest) rfl
    (by rw [hb]; exact d7) (by rw [hb]; exact d10) hout hRframes (by simp only [List.map_cons, List.sum_cons, hcat]; omega) hlocks
  obtain ⟨f1, f2⟩ := vx_frame hsame
  rw [hhp] at f1 f2
  have hWs : s.WarmedH U.vm := State.WarmedH.trans hW0 hW
  have hcl : s.vm.findClass cls = some ce.cls := by
    have h9 := hO.cls
    rw [hvm] at h9
    exact h9
  have hall : s.sameButNew ({ U with vm := s.vm } : State) locs mc ms := by
    subst hA
    obtain ⟨e1, e2⟩ := hsame
    rw [State.setFrames_setFrames] at e1
    have h2 : (T.setVm s.vm).sameButNew ({ U with vm := s.vm } : State) [] (0 + 1) (0 + 6) := ⟨e1, e2⟩
    have h3 := X.same.trans h2
    rw [List.append_nil] at h3
    exact h3.mono hc hs
  refine ⟨U, ?_, .threw T.heap.size, hrun, hend, Or.inr ⟨T.heap.size, rfl, cls, ce, locs, hx U hWs.alike f1 (fun q hq => f2 q hq (fun z hz => nomatch hz)), hce, hO.vm, hcl, hWs, hall, hf⟩⟩
  refine st1 _ ?_
  show Steps p.tables e below (T1.setTop { method := m, pc := pc + 3, locals := ls, stack := .ref T.heap.size :: rest, locked := none }) _
  jvm_step X₁.here [X₁.here.top, hexec, d3', Value.category]
  exact X₁.ldcStringW hexec (own := own) (text := text) (index := is) (a := sa) hown' hstr'.1 hstr'.2
    (g := { method := m, pc := pc + 4, locals := ls, stack := .ref T.heap.size :: .ref T.heap.size :: rest, locked := none }) rfl d4' _ hsteps
end Ends
section Bodies
variable {l : Launch}
theorem vx_ofW {y : MethodName} {ws ws' : List Cond} {rm : Room} {Pc : Array Value → State → Prop} {Qc : Array Value → State → Outcome → State → Prop} {XC : String → State → State → Prop} {mc ms : Nat} {free : Addr → Prop} {cc : ByteArray} {maxL : Nat} {ret : Option FieldType}
    (hy : plainName y.cls = true) (hw : ws = Cond.code y cc maxL ret :: ws')
    (body : ∀ p e s m args below meth c s₁, BodyLoose p l y (headSpec ws rm) cc maxL ret e s m args below meth c s₁ → c.maxLocals = maxL → (∀ x ∈ c.exceptionTable.toList, False) → Pc args s →
      W p l e (headSpec ws rm).room s m args below meth c s.heap [] 0 0 (vx_MQ below Qc XC args s mc ms free) (entryFrame m args maxL)) : vx_Met l y ws rm Pc Qc XC mc ms free := by
  refine MetFree.of_bodyS (code := cc) (maxLocals := maxL) (ret := ret) hy ?_ ?_
  · intro args s m h hn
    obtain ⟨meth, c, h1, h2, h3, h4, h5, h6, -, -⟩ := Cond.code_spec hn (atoms_spec (ws := ws) h _ (by rw [hw]; exact List.mem_cons_self))
    exact ⟨meth, c, h1, h2, h3, h4, h5, h6⟩
  · intro p e s m args below meth c s₁ B hml hP _
    have hh0 : s₁.heap = s.heap := by rw [B.state]; rfl
    have ht : ∀ x ∈ c.exceptionTable.toList, False := by
      obtain ⟨meth9, c9, h1, h2, -, -, -, -, h7, -⟩ := Cond.code_spec B.named (atoms_spec (ws := ws) B.pre _ (by rw [hw]; exact List.mem_cons_self))
      cases Option.some.inj (h1.symm.trans B.method)
      cases Option.some.inj (h2.symm.trans (Stand.of_body B).code)
      intro x hx
      rw [Array.isEmpty_iff.mp h7] at hx
      cases hx
    obtain ⟨t, a1, o, b1, b2, b3⟩ := body p e s m args below meth c s₁ B hml ht hP s₁ hh0 (Stand.of_body B)
    exact ⟨t, o, a1, b1, b2, b3⟩
/-- the table of a body with handlers -/
theorem vx_table {p : Program} {x y : MethodName} {S : Spec} {cc bytes : ByteArray} {maxL maxL' : Nat} {ret ret' : Option FieldType} {e : Env} {s s₁ : State} {m : MethodId} {args : Array Value} {below : List Frame} {meth : Method} {c : Code} {hh : List (Nat × Nat × Nat × Nat)}
    (B : BodyLoose p l y S cc maxL ret e s m args below meth c s₁) (h : (Cond.codeWith y bytes maxL' ret' hh).before args s = true) : c.exceptionTable.toList = tableOf hh := by
  obtain ⟨m9, meth9, c9, hn9, h1, h2, -, -, h6, -⟩ := Cond.codeWith_spec h
  cases Option.some.inj (hn9.symm.trans B.named)
  cases Option.some.inj (h1.symm.trans B.method)
  cases Option.some.inj (h2.symm.trans (Stand.of_body B).code)
  rw [← h6, table_eq]
end Bodies
end VXA
/-! ===== END ===== -/
/-! ===== BEGIN a static call of a method with an exception table ===== -/
section VXS
variable {p : Program} {l : Launch} {e : Env} {R : Room} {s : State} {m : MethodId} {args : Array Value} {below : List Frame} {meth : Method} {c : Code} {T : State} {H : Heap} {locs : List Loc} {cells slots : Nat}
abbrev vx_CSW (R : Room) (s : State) (args : Array Value) (own : String) (index : Nat) (y : MethodName) (bytes : ByteArray) (maxL : Nat) (ret : Option FieldType) (hh : List (Nat × Nat × Nat × Nat)) (ws : List Cond) (rm : Room) (mc ms n : Nat) : Prop :=
  (rm.cells = mc ∧ rm.slots = ms ∧ rm.frames + 1 ≤ R.frames ∧ 8 + (maxL + 11) + rm.locals ≤ R.locals ∧ (∀ w ∈ ws, ∀ (a' : Array Value) (U : State), s.WarmedH U.vm → w.before a' U = true) ∧ Cond.codeWith y bytes maxL ret hh ∈ ws) ∧
  (Cond.codeWith y bytes maxL ret hh).before args s = true ∧ (Cond.initialized y.cls).before args s = true ∧ (y.cls ≠ "java/lang/invoke/MethodHandle" ∧ y.cls ≠ "java/lang/invoke/VarHandle") ∧
  (∀ sig, parseMethodDescriptor y.desc = some sig → n = sig.parameters.length) ∧ (Cond.methodLink own index y).before args s = true ∧ (Cond.static y).before args s = true
theorem vx_cwSW {own : String} {index maxL mc ms : Nat} {y : MethodName} {bytes : ByteArray} {ret : Option FieldType} {hh : List (Nat × Nat × Nat × Nat)} {Ts ws ws' : List Cond} {rm : Room} (n : Nat) (ht : ∀ w ∈ Ts, w.before args s = true) (hT : GoodIn Ts (va_wsS own index y ws)) (hw : ws = Cond.codeWith y bytes maxL ret hh :: ws') (hrc : rm.cells = mc) (hrs : rm.slots = ms)
    (hd : y.cls ≠ "java/lang/invoke/MethodHandle" ∧ y.cls ≠ "java/lang/invoke/VarHandle" ∧ (parseMethodDescriptor y.desc).map (fun d => d.parameters.length) = some n) (hR : rm.frames + 1 ≤ R.frames ∧ 8 + (maxL + 11) + rm.locals ≤ R.locals) :
    vx_CSW R s args own index y bytes maxL ret hh ws rm mc ms n := by
  have ok : ∀ w ∈ va_wsS own index y ws, w.before args s = true := fun w h => ht w (hT w h).1
  have hG : GoodIn Ts ws := fun w h => hT w (by unfold va_wsS; exact List.mem_append_right _ h)
  have hc : Cond.codeWith y bytes maxL ret hh ∈ ws := by rw [hw]; exact List.mem_cons_self
  refine ⟨⟨hrc, hrs, hR.1, hR.2, pay_in ht hG, hc⟩, ht _ (hG _ hc).1, ok _ (by simp [va_wsS]), ⟨hd.1, hd.2.1⟩, fun sig h => ?_, ok _ (by simp [va_wsS]), ok _ (by simp [va_wsS])⟩
  have h2 := hd.2.2
  rw [h] at h2
  exact (Option.some.inj h2).symm
theorem vx_callSW (X : Stand p l e R s m args below meth c T locs cells slots) (hexec : p.tables.exec = Jvm.exec) {own : String} {index : Nat} {y : MethodName} {bytes : ByteArray} {maxL : Nat} {ret : Option FieldType} {hh : List (Nat × Nat × Nat × Nat)}
    (hown : s.vm.findClass own = some m.cls) (hlink : (Cond.methodLink own index y).before args s = true) (hstat : (Cond.static y).before args s = true) (hinit : (Cond.initialized y.cls).before args s = true)
    (hcode : (Cond.codeWith y bytes maxL ret hh).before args s = true) (hy : y.cls ≠ "java/lang/invoke/MethodHandle" ∧ y.cls ≠ "java/lang/invoke/VarHandle")
    {W9 : Nat} {Pre : Pt → Array Value → Prop} {Post : Pt → Array Value → Option Value → Pt → Prop} (hK : Back l R p e below s args y 3 W9 Pre Post)
    {g : JFrame} (hg : g.method = m) (hsize : g.locals.size = c.maxLocals) {argsL rest : List Value} (hlen : ∀ sig, parseMethodDescriptor y.desc = some sig → argsL.length = sig.parameters.length)
    (hstack : g.stack = argsL.reverse ++ rest) (hW : 2 * g.monitorRoom + (rest.map fun v => v.category).sum ≤ W9) (hdg : decode c.code g.pc = .ok (.invokestatic index, 3))
    (hpre : ∀ vm₁, s.WarmedH vm₁ → Pre ⟨T.setVm vm₁, locs, cells, slots⟩ argsL.toArray) :
    ∃ (v : Option Value) (vm₁ : Vm) (B : Pt), s.WarmedH vm₁ ∧ Stand p l e R s m args below meth c B.U B.locs B.cells B.slots ∧ Post ⟨T.setVm vm₁, locs, cells, slots⟩ argsL.toArray v B ∧
      ∀ target, Steps p.tables e below (B.U.setTop { g with pc := g.pc + 3, stack := v.toList ++ rest }) target → Steps p.tables e below (T.setTop g) target := by
  obtain ⟨mk, methM, cM, hnamed, hmethM, -, -, -, -, -, -, hsigM⟩ := Cond.codeWith_spec hcode
  have hstatic : methM.isStatic = true := Cond.static_spec hnamed hmethM hstat
  obtain ⟨kP, hkP, -⟩ := className_of_methodNamed hnamed
  have hinitP : kP.init = .initialized := Cond.initialized_spec (findClass_of_methodNamed hnamed) hkP hinit
  obtain ⟨vm₁, X₁, hstep₁⟩ := X.invokestatic hexec hown hlink hnamed hmethM hstatic hkP hinitP hy (g := g) hg (argsL := argsL) (rest := rest) (hlen _ hsigM) hstack hdg
  obtain ⟨v, B, X', hpost, hsteps⟩ := hK m meth c ⟨T.setVm vm₁, locs, cells, slots⟩ { g with stack := rest } (.invokestatic index) mk argsL.toArray X₁ hg hsize hdg hW (X₁.named hnamed) (hpre vm₁ X₁.warmed)
  exact ⟨v, vm₁, B, X₁.warmed, X', hpost, fun target h => hstep₁ _ fun acts => by rw [doInvoke_state]; exact hsteps.trans h⟩
theorem vx_runSW {y : MethodName} {bytes cc : ByteArray} {maxL nL mc ms n index : Nat} {ret : Option FieldType} {hh : List (Nat × Nat × Nat × Nat)} {ws : List Cond} {rm : Room} {Pc : Array Value → State → Prop} {Qc : Array Value → State → Outcome → State → Prop} {free : Addr → Prop} {Ts : List Cond} {own : String} {As rest : List Value} {g : JFrame}
    (S : CallFix p m c cc nL s args Ts own) (hM : Met l y ws rm Pc Qc mc ms free) (cw : vx_CSW R s args own index y bytes maxL ret hh ws rm mc ms n) (hp : PreS s H Pc As)
    (hg : g.method = m) (hn : As.length = n) (hsize : g.locals.size = nL) (hstack : g.stack = As.reverse ++ rest) (hW : 2 * g.monitorRoom + (rest.map fun v => v.category).sum ≤ 8) (hdg : decode cc g.pc = .ok (.invokestatic index, 3)) (hf : cells + mc ≤ R.cells ∧ slots + ms ≤ R.slots) :
    va_Run p l e R s m args below meth c H locs cells slots mc ms g rest (Qc As.toArray) (free) := by
  obtain ⟨⟨hrc, hrs, hfr, hlo, hws, hcw⟩, hcode, hini, hy, hlen, hl, hstt⟩ := cw
  have hK : Back l R p e below s args y 3 8 (PreOf R mc ms Pc) (PostOf Qc mc ms free) := va_backW (hh := hh) (bytes := bytes) (maxL := maxL) (ret := ret) hM hp.1 hrc hrs hfr hlo hws hcw (fun a' U hW => word_at hW (Or.inl (by first | rfl | simp [Cond.onTables, Cond.keeps, Cond.steady])) hini)
  obtain ⟨hx, hb, hml, ho, -⟩ := S
  intro T hT X
  obtain ⟨v, vm₁, ⟨U', l2, c2, s2⟩, hW₁, X', ⟨g', mk, t, L, e1, e2, hq, h1, hL, h2, h3⟩, st⟩ := vx_callSW X hx (hh := hh) (bytes := bytes) (maxL := maxL) (ret := ret) ho hl hstt hini hcode hy hK hg (hsize.trans hml.symm) (argsL := As) (rest := rest) (fun sig h => hn.trans (hlen sig h)) hstack hW (by rw [hb]; exact hdg)
    (fun vm₁ hW₁ => ⟨hf.1, hf.2, hp.2 (T.setVm vm₁) hT hW₁⟩)
  dsimp only [Pt.U, Pt.locs, Pt.cells, Pt.slots] at X' e1 e2 h1 h2 h3 st
  subst h1; subst h2; subst h3
  exact ⟨v, (T.setVm vm₁).calling g' mk As.toArray, t, U', L, hT, X', hL, e1, e2, hq, st⟩
/-- not caught here, past rows that name other classes: it goes on to the caller -/
theorem vx_outP {p : Program} {l : Launch} {e : Env} {R : Room} {s : State} {m : MethodId} {args : Array Value} {below : List Frame} {meth : Method} {c : Code} {H : Heap} {locs : List Loc} {cells slots : Nat} {free : Addr → Prop} {ls : Array Slot} {rest : List Value} {Qc : Array Value → State → Outcome → State → Prop} {XC : String → State → State → Prop}
    {pc : Nat} {own E : String} {ce : Cell} {q : Addr} {mc ms : Nat} (hown : s.vm.findClass own = some m.cls) (hlocks : meth.locks = false)
    (hpass : ∀ z ∈ c.exceptionTable.toList, covers z pc = false ∨ (z.catchType ≠ 0 ∧ ∃ nm : String, (Cond.classLink own z.catchType nm).before args s = true ∧ va_Nc E nm s)) (hcell : H[q]? = some ce) (hv : ce.vm = .none) (hcl : s.vm.findClass E = some ce.cls)
    (hx : ∀ t : State, t.heap = H → s.vm.Alike t.vm → XC E s t) (hf : ∀ z ∈ locs, free z.base) (hc : cells ≤ mc) (hs : slots ≤ ms) :
    vx_W p l e R s m args below meth c H locs cells slots (vx_MQ below Qc XC args s mc ms free) (F0 m pc ls rest) q := by
  intro T hT X
  have hpl : e.platform.magicAccessors = ({} : Platform).magicAccessors := by rw [X.admits.platform]
  obtain ⟨vm', hW', X', st⟩ := X.outThrough hlocks q (g := F0 m pc ls rest) rfl rfl rfl (cell := ce) (by rw [hT]; exact hcell) (by rw [hv]; rfl)
    (by obtain ⟨k9, h9, -⟩ := Vm.findClass_spec hcl; exact ⟨k9, h9⟩) (fun z hz => by
      rcases hpass z hz with h | ⟨hz0, nm, hl1, hn1⟩
      · exact Or.inl h
      · obtain ⟨c6, hc6, hcl6⟩ := Cond.classLink_spec hown hl1 e.platform hpl
        obtain ⟨a8, b8, h1, h2, h3⟩ := hn1
        cases Option.some.inj (h1.symm.trans hcl)
        cases Option.some.inj (h2.symm.trans hc6)
        exact Or.inr ⟨hz0, _, hcl6, h3⟩)
  obtain ⟨g₀, hfr⟩ := X'.frames_eq
  have hcell9 : ((T.setVm vm').setFrames (.throwing q :: below)).heap[q]? = some ce := by
    show T.heap[q]? = some ce
    rw [hT]; exact hcell
  have hend : Ended ((T.setVm vm').setFrames (.throwing q :: below)) below (.threw q) := State.frames_setFrames _ (State.cur_lt_of_frames hfr)
  refine ⟨(T.setVm vm').setFrames (.throwing q :: below), ?_, .threw q, X'.here.running, hend, Or.inr ⟨q, rfl, E, ce, locs, hx _ hT (X'.ends _).1.alike, hcell9, hv, hcl, (X'.ends _).1, (X'.ends _).2.mono hc hs, hf⟩⟩
  rw [X.pushThrowing_eq]
  exact st
/-- a thing of a world lies in the heap -/
theorem vx_lt {D : va_G} {cl : List vw_C} {ws : va_W} {H1 : Heap} (h : va_P D cl ws H1) {k : Nat} {q : Nat × va_E} (hk : ws[k]? = some q) : q.1 < H1.size := (h k q hk).lt
end VXS
/-! ===== END ===== -/
/-! ===== BEGIN methods with a table of their own: called by a name, returning or throwing ===== -/
section VXH
/-! vx_backW, vx_callVX, vx_callSX, vx_callVW, vx_runVW, vx_runVX, vx_runSX, vx_ofWH follow the same proofs as their sisters above (Free/Laws.lean, Shelf42/LK1.lean); vx_outP calls Shelf42/NT130.lean (outThrough). -/
section
variable {l : Launch} {R : Room} {p : Program} {e : Env} {below : List Frame} {s : State} {sargs : Array Value} {y : MethodName} {len W9 : Nat}
theorem vx_backW {ws : List Cond} {rm : Room} {Pc : Array Value → State → Prop} {Qc : Array Value → State → Outcome → State → Prop} {XC : String → State → State → Prop} {mc ms : Nat} {free : Addr → Prop} {bytes : ByteArray} {maxL : Nat} {ret : Option FieldType} {hh : List (Nat × Nat × Nat × Nat)}
    (hM : vx_Met l y ws rm Pc Qc XC mc ms free) (hblind : FrameBlind Pc) (hrc : rm.cells = mc) (hrs : rm.slots = ms)
    (hframes : rm.frames + 1 ≤ R.frames) (hlocals : W9 + (maxL + 11) + rm.locals ≤ R.locals)
    (hws : ∀ w ∈ ws, ∀ a' U, s.WarmedH U.vm → w.before a' U = true) (hcode : Cond.codeWith y bytes maxL ret hh ∈ ws) (hinit : ∀ a' U, s.WarmedH U.vm → (Cond.initialized y.cls).before a' U = true) :
    vx_Back l R p e below s sargs y len W9 (PreOf R mc ms Pc) (PostOf Qc mc ms free) (vx_Post XC mc ms free) := by
  intro m meth c A g ig mk a X hg hsize hdg hW hn hp
  have h1 : (headSpec ws rm).pre.before a A.U = true := atoms_intro fun w hw => hws w hw _ _ X.warmed
  have h2 : (Cond.codeWith y bytes maxL ret hh).before a A.U = true := hws _ hcode _ _ X.warmed
  have h3 : (Cond.initialized y.cls).before a A.U = true := hinit _ _ X.warmed
  have h4 : A.cells + (headSpec ws rm).room.cells ≤ R.cells := by rw [show (headSpec ws rm).room.cells = mc from hrc]; exact hp.1
  have h5 : A.slots + (headSpec ws rm).room.slots ≤ R.slots := by rw [show (headSpec ws rm).room.slots = ms from hrs]; exact hp.2.1
  have hPc : Pc a (A.U.calling g mk a) := hblind _ _ _ _ hp.2.2
  obtain ⟨U, Ls, c0, s0⟩ := A
  dsimp only [Pt.U, Pt.locs, Pt.cells, Pt.slots] at h1 h2 h3 h4 h5 X hn hPc ⊢
  obtain ⟨m9, methY, cY, hn9, hmY, hcY, -, hlY, -⟩ := Cond.codeWith_spec h2
  cases Option.some.inj (hn9.symm.trans hn)
  obtain ⟨kY, hkY, -⟩ := className_of_methodNamed hn
  have hinitY : kY.init = .initialized := Cond.initialized_spec (findClass_of_methodNamed hn) hkY h3
  have h : At U g.method c below := by rw [hg]; exact X.here
  have hlocals9 : W9 + (maxL + 11) + (headSpec ws rm).room.locals ≤ R.locals := hlocals
  have happ : (headSpec ws rm).appliesLoose y e.platform (U.calling g mk a) = true :=
    Spec.appliesLoose_calling (g := g) h hdg hn hkY hinitY
      (X.room_calling (g := g) (R' := (headSpec ws rm).room) hsize hmY hcY hframes (by rw [hlY]; omega) h4 h5) h1
  obtain ⟨mid, hmid⟩ := h.above
  have hfr : (U.setTop g).frames = (.java g :: mid) ++ below := by rw [State.frames_setTop' g h.top, hmid]; rfl
  obtain ⟨o, s₂, hsteps, -, hend, hq⟩ := Steps.callFree hM p X.admits X.cas X.clock (acts := []) hfr happ hPc trivial
  have hq' : vx_Q Qc XC mc ms free a (U.calling g mk a) o s₂ := hq
  rw [State.frames_setTop' g h.top] at hend
  obtain ⟨g₀, hg0⟩ := Option.isSome_iff_exists.mp h.top
  obtain ⟨r, hr⟩ := State.topJava?_eq_some.mp hg0
  have hr' : (({ U with heap := s₂.heap, slotsUsed := s₂.slotsUsed } : State).setVm s₂.vm).frames = .java g₀ :: r := hr
  rcases hq' with ⟨hqc, L, hfe, hL⟩ | ⟨q, rfl, E, ce, L, hx, hce, hcv, hcl, hW₂, hsm, hL⟩
  · obtain ⟨⟨v, rfl⟩, hW₂, e2, q2, q3, q4, q5, q6⟩ := id hfe
    have e3 : s₂ = ({ (U.calling g mk a).setFrames s₂.frames with heap := s₂.heap, slotsUsed := s₂.slotsUsed } : State).setVm s₂.vm := by
      have : s₂ = ({ s₂ with vm := (U.calling g mk a).vm } : State).setVm s₂.vm := rfl
      rw [e2] at this
      exact this
    obtain ⟨c₂, i₂, len₂, hc₂, hd₂, hf₂⟩ := hend
    have hW' : U.WarmedH s₂.vm := hW₂
    have hcc : c₂ = c := by
      have h1 : s₂.code? g.method = U.code? g.method := by
        rw [State.code?_eq, State.code?_eq, hW'.alike.method?]
      exact Option.some.inj (hc₂.symm.trans (h1.trans h.code))
    subst hcc
    have hlen : len₂ = len := by rw [hdg] at hd₂; cases hd₂; rfl
    subst hlen
    have hs₂ : s₂ = (({ U with heap := s₂.heap, slotsUsed := s₂.slotsUsed } : State).setVm s₂.vm).setTop { g with pc := g.pc + len₂, stack := v.toList ++ g.stack } := by
      refine e3.trans ?_
      rw [hf₂, State.calling_eq h.top, State.setFrames_setFrames, State.setTop_of_frames _ hr', hr]
      rfl
    have hsame : U.sameButNew ({ U with heap := s₂.heap, slotsUsed := s₂.slotsUsed } : State) L mc ms := by
      refine ⟨?_, q2, q3, q4, q5, q6⟩
      obtain ⟨t, ht, -⟩ := State.frames_cons hr
      show ({ U with heap := s₂.heap, slotsUsed := s₂.slotsUsed } : State) = { U.setFrames U.frames with heap := s₂.heap, slotsUsed := s₂.slotsUsed }
      rw [State.setFrames_self ht]
    subst hg
    refine Or.inl ⟨v, ⟨(({ U with heap := s₂.heap, slotsUsed := s₂.slotsUsed } : State).setVm s₂.vm), Ls ++ L, c0 + mc, s0 + ms⟩,
      ⟨X.admits, X.cas, X.clock, X.frames, X.room, X.hears, X.method, X.code, (X.here.setHeapUsed s₂.heap s₂.slotsUsed).setVm hW'.alike, X.tail, State.WarmedH.trans X.warmed hW', X.limits, X.bytes, X.same.trans (hsame.setVm s.vm)⟩,
      ⟨g, mk, s₂, L, rfl, rfl, hqc, rfl, hL, rfl, rfl⟩, ?_⟩
    show Steps p.tables e below _ ((({ U with heap := s₂.heap, slotsUsed := s₂.slotsUsed } : State).setVm s₂.vm).setTop { g with pc := g.pc + len₂, stack := v.toList ++ g.stack })
    rw [← hs₂]
    exact hsteps
  · obtain ⟨e2, q2, q3, q4, q5, q6⟩ := id hsm
    have e3 : s₂ = ({ (U.calling g mk a).setFrames s₂.frames with heap := s₂.heap, slotsUsed := s₂.slotsUsed } : State).setVm s₂.vm := by
      have : s₂ = ({ s₂ with vm := (U.calling g mk a).vm } : State).setVm s₂.vm := rfl
      rw [e2] at this
      exact this
    have hf₂ : s₂.frames = .throwing q :: .java g :: U.frames.tail := hend
    have hW' : U.WarmedH s₂.vm := hW₂
    have hs₂ : s₂ = ((({ U with heap := s₂.heap, slotsUsed := s₂.slotsUsed } : State).setVm s₂.vm).setTop g).pushFrame (.throwing q) := by
      refine e3.trans ?_
      rw [hf₂, State.calling_eq h.top, State.setFrames_setFrames, State.pushFrame, State.frames_setTop _ hr', State.setTop_of_frames _ hr', State.setFrames_setFrames, hr]
      rfl
    have hsame : U.sameButNew ({ U with heap := s₂.heap, slotsUsed := s₂.slotsUsed } : State) L mc ms := by
      refine ⟨?_, q2, q3, q4, q5, q6⟩
      obtain ⟨t, ht, -⟩ := State.frames_cons hr
      show ({ U with heap := s₂.heap, slotsUsed := s₂.slotsUsed } : State) = { U.setFrames U.frames with heap := s₂.heap, slotsUsed := s₂.slotsUsed }
      rw [State.setFrames_self ht]
    subst hg
    refine Or.inr ⟨q, ⟨(({ U with heap := s₂.heap, slotsUsed := s₂.slotsUsed } : State).setVm s₂.vm), Ls ++ L, c0 + mc, s0 + ms⟩,
      ⟨X.admits, X.cas, X.clock, X.frames, X.room, X.hears, X.method, X.code, (X.here.setHeapUsed s₂.heap s₂.slotsUsed).setVm hW'.alike, X.tail, State.WarmedH.trans X.warmed hW', X.limits, X.bytes, X.same.trans (hsame.setVm s.vm)⟩,
      ⟨g, mk, s₂, L, E, ce, rfl, rfl, hx, hce, hcv, hcl, rfl, hL, rfl, rfl⟩, ?_⟩
    show Steps p.tables e below _ (((({ U with heap := s₂.heap, slotsUsed := s₂.slotsUsed } : State).setVm s₂.vm).setTop g).pushFrame (.throwing q))
    rw [← hs₂]
    exact hsteps
end
variable {p : Program} {l : Launch} {e : Env} {R : Room} {s : State} {m : MethodId} {args : Array Value} {below : List Frame} {meth : Method} {c : Code} {T : State} {H : Heap} {locs : List Loc} {cells slots : Nat}
theorem vx_callVX (X : Stand p l e R s m args below meth c T locs cells slots) (hexec : p.tables.exec = Jvm.exec) {own C : String} {index : Nat} {y : MethodName} {bytes : ByteArray} {maxL : Nat} {ret : Option FieldType} {hh : List (Nat × Nat × Nat × Nat)}
    (hown : s.vm.findClass own = some m.cls) (hlink : (Cond.methodLink own index y).before args s = true) (hinst : (Cond.instanceMethod y).before args s = true) (hsel : (Cond.selects C y y).before args s = true)
    (hcode : (Cond.codeWith y bytes maxL ret hh).before args s = true) (hy : y.cls ≠ "java/lang/invoke/MethodHandle" ∧ y.cls ≠ "java/lang/invoke/VarHandle")
    {W9 : Nat} {Pre : Pt → Array Value → Prop} {Post : Pt → Array Value → Option Value → Pt → Prop} {PostX : Pt → Array Value → Addr → Pt → Prop} (hK : vx_Back l R p e below s args y 3 W9 Pre Post PostX)
    {b : Addr} {cellB : Cell} (hcell : T.heap[b]? = some cellB) (hobj : cellB.vm.isStatics = false) (hcls : s.vm.findClass C = some cellB.cls)
    {g : JFrame} (hg : g.method = m) (hsize : g.locals.size = c.maxLocals) {argsL rest : List Value} (hlen : ∀ sig, parseMethodDescriptor y.desc = some sig → argsL.length = sig.parameters.length)
    (hstack : g.stack = argsL.reverse ++ .ref b :: rest) (hW : 2 * g.monitorRoom + (rest.map fun v => v.category).sum ≤ W9) (hdg : decode c.code g.pc = .ok (.invokevirtual index, 3))
    (hpre : ∀ vm₁, s.WarmedH vm₁ → Pre ⟨T.setVm vm₁, locs, cells, slots⟩ (Value.ref b :: argsL).toArray) :
    (∃ (v : Option Value) (vm₁ : Vm) (B : Pt), s.WarmedH vm₁ ∧ Stand p l e R s m args below meth c B.U B.locs B.cells B.slots ∧ Post ⟨T.setVm vm₁, locs, cells, slots⟩ (Value.ref b :: argsL).toArray v B ∧
      ∀ target, Steps p.tables e below (B.U.setTop { g with pc := g.pc + 3, stack := v.toList ++ rest }) target → Steps p.tables e below (T.setTop g) target) ∨
    (∃ (q : Addr) (vm₁ : Vm) (B : Pt), s.WarmedH vm₁ ∧ Stand p l e R s m args below meth c B.U B.locs B.cells B.slots ∧ PostX ⟨T.setVm vm₁, locs, cells, slots⟩ (Value.ref b :: argsL).toArray q B ∧
      Steps p.tables e below (T.setTop g) ((B.U.setTop { g with stack := rest }).pushFrame (.throwing q))) := by
  obtain ⟨mk, methM, hnamed, hmethM, hstM, habM⟩ := Cond.instanceMethod_spec hinst
  obtain ⟨m8, methM', cM, hn8, hmethM', -, -, -, -, -, -, hsigM⟩ := Cond.codeWith_spec hcode
  cases Option.some.inj (hn8.symm.trans hnamed)
  cases hmethM.symm.trans hmethM'
  obtain ⟨c2, r2, m2, q1, q2, q3, q4, kP, hkP, hkPi⟩ := Cond.selects_spec hsel
  cases hcls.symm.trans q1
  cases (State.methodFound?_of_named hnamed hy).symm.trans q2
  cases hnamed.symm.trans q3
  have hselP : selectMethod e.platform s.vm cellB.cls mk = .method mk := by rw [Launch.admits_selectMethod X.admits]; exact q4
  obtain ⟨vm₁, X₁, hstep₁⟩ := X.invokevirtual hexec hown hlink hnamed hmethM hstM hkP hkPi hy (a := b) (cell := cellB) hcell
    (fun z h => by rw [h] at hobj; cases hobj) hselP hmethM habM hkP hkPi (g := g) hg (argsL := argsL) (rest := rest) (hlen _ hsigM) hstack hdg
  rcases hK m meth c ⟨T.setVm vm₁, locs, cells, slots⟩ { g with stack := rest } (.invokevirtual index) mk (Value.ref b :: argsL).toArray X₁ hg hsize hdg hW (X₁.named hnamed) (hpre vm₁ X₁.warmed) with ⟨v, B, X', hpost, hsteps⟩ | ⟨q, B, X', hpost, hsteps⟩
  · exact Or.inl ⟨v, vm₁, B, X₁.warmed, X', hpost, fun target h => hstep₁ _ fun acts => by rw [doInvoke_state]; exact hsteps.trans h⟩
  · exact Or.inr ⟨q, vm₁, B, X₁.warmed, X', hpost, hstep₁ _ fun acts => by rw [doInvoke_state]; exact hsteps⟩
theorem vx_callSX (X : Stand p l e R s m args below meth c T locs cells slots) (hexec : p.tables.exec = Jvm.exec) {own : String} {index : Nat} {y : MethodName} {bytes : ByteArray} {maxL : Nat} {ret : Option FieldType} {hh : List (Nat × Nat × Nat × Nat)}
    (hown : s.vm.findClass own = some m.cls) (hlink : (Cond.methodLink own index y).before args s = true) (hstat : (Cond.static y).before args s = true) (hinit : (Cond.initialized y.cls).before args s = true)
    (hcode : (Cond.codeWith y bytes maxL ret hh).before args s = true) (hy : y.cls ≠ "java/lang/invoke/MethodHandle" ∧ y.cls ≠ "java/lang/invoke/VarHandle")
    {W9 : Nat} {Pre : Pt → Array Value → Prop} {Post : Pt → Array Value → Option Value → Pt → Prop} {PostX : Pt → Array Value → Addr → Pt → Prop} (hK : vx_Back l R p e below s args y 3 W9 Pre Post PostX)
    {g : JFrame} (hg : g.method = m) (hsize : g.locals.size = c.maxLocals) {argsL rest : List Value} (hlen : ∀ sig, parseMethodDescriptor y.desc = some sig → argsL.length = sig.parameters.length)
    (hstack : g.stack = argsL.reverse ++ rest) (hW : 2 * g.monitorRoom + (rest.map fun v => v.category).sum ≤ W9) (hdg : decode c.code g.pc = .ok (.invokestatic index, 3))
    (hpre : ∀ vm₁, s.WarmedH vm₁ → Pre ⟨T.setVm vm₁, locs, cells, slots⟩ argsL.toArray) :
    (∃ (v : Option Value) (vm₁ : Vm) (B : Pt), s.WarmedH vm₁ ∧ Stand p l e R s m args below meth c B.U B.locs B.cells B.slots ∧ Post ⟨T.setVm vm₁, locs, cells, slots⟩ argsL.toArray v B ∧
      ∀ target, Steps p.tables e below (B.U.setTop { g with pc := g.pc + 3, stack := v.toList ++ rest }) target → Steps p.tables e below (T.setTop g) target) ∨
    (∃ (q : Addr) (vm₁ : Vm) (B : Pt), s.WarmedH vm₁ ∧ Stand p l e R s m args below meth c B.U B.locs B.cells B.slots ∧ PostX ⟨T.setVm vm₁, locs, cells, slots⟩ argsL.toArray q B ∧
      Steps p.tables e below (T.setTop g) ((B.U.setTop { g with stack := rest }).pushFrame (.throwing q))) := by
  obtain ⟨mk, methM, cM, hnamed, hmethM, -, -, -, -, -, -, hsigM⟩ := Cond.codeWith_spec hcode
  have hstatic : methM.isStatic = true := Cond.static_spec hnamed hmethM hstat
  obtain ⟨kP, hkP, -⟩ := className_of_methodNamed hnamed
  have hinitP : kP.init = .initialized := Cond.initialized_spec (findClass_of_methodNamed hnamed) hkP hinit
  obtain ⟨vm₁, X₁, hstep₁⟩ := X.invokestatic hexec hown hlink hnamed hmethM hstatic hkP hinitP hy (g := g) hg (argsL := argsL) (rest := rest) (hlen _ hsigM) hstack hdg
  rcases hK m meth c ⟨T.setVm vm₁, locs, cells, slots⟩ { g with stack := rest } (.invokestatic index) mk argsL.toArray X₁ hg hsize hdg hW (X₁.named hnamed) (hpre vm₁ X₁.warmed) with ⟨v, B, X', hpost, hsteps⟩ | ⟨q, B, X', hpost, hsteps⟩
  · exact Or.inl ⟨v, vm₁, B, X₁.warmed, X', hpost, fun target h => hstep₁ _ fun acts => by rw [doInvoke_state]; exact hsteps.trans h⟩
  · exact Or.inr ⟨q, vm₁, B, X₁.warmed, X', hpost, hstep₁ _ fun acts => by rw [doInvoke_state]; exact hsteps⟩
theorem vx_callVW (X : Stand p l e R s m args below meth c T locs cells slots) (hexec : p.tables.exec = Jvm.exec) {own C : String} {index : Nat} {y : MethodName} {bytes : ByteArray} {maxL : Nat} {ret : Option FieldType} {hh : List (Nat × Nat × Nat × Nat)}
    (hown : s.vm.findClass own = some m.cls) (hlink : (Cond.methodLink own index y).before args s = true) (hinst : (Cond.instanceMethod y).before args s = true) (hsel : (Cond.selects C y y).before args s = true)
    (hcode : (Cond.codeWith y bytes maxL ret hh).before args s = true) (hy : y.cls ≠ "java/lang/invoke/MethodHandle" ∧ y.cls ≠ "java/lang/invoke/VarHandle")
    {W9 : Nat} {Pre : Pt → Array Value → Prop} {Post : Pt → Array Value → Option Value → Pt → Prop} (hK : Back l R p e below s args y 3 W9 Pre Post)
    {b : Addr} {cellB : Cell} (hcell : T.heap[b]? = some cellB) (hobj : cellB.vm.isStatics = false) (hcls : s.vm.findClass C = some cellB.cls)
    {g : JFrame} (hg : g.method = m) (hsize : g.locals.size = c.maxLocals) {argsL rest : List Value} (hlen : ∀ sig, parseMethodDescriptor y.desc = some sig → argsL.length = sig.parameters.length)
    (hstack : g.stack = argsL.reverse ++ .ref b :: rest) (hW : 2 * g.monitorRoom + (rest.map fun v => v.category).sum ≤ W9) (hdg : decode c.code g.pc = .ok (.invokevirtual index, 3))
    (hpre : ∀ vm₁, s.WarmedH vm₁ → Pre ⟨T.setVm vm₁, locs, cells, slots⟩ (Value.ref b :: argsL).toArray) :
    ∃ (v : Option Value) (vm₁ : Vm) (B : Pt), s.WarmedH vm₁ ∧ Stand p l e R s m args below meth c B.U B.locs B.cells B.slots ∧ Post ⟨T.setVm vm₁, locs, cells, slots⟩ (Value.ref b :: argsL).toArray v B ∧
      ∀ target, Steps p.tables e below (B.U.setTop { g with pc := g.pc + 3, stack := v.toList ++ rest }) target → Steps p.tables e below (T.setTop g) target := by
  obtain ⟨mk, methM, hnamed, hmethM, hstM, habM⟩ := Cond.instanceMethod_spec hinst
  obtain ⟨m8, methM', cM, hn8, hmethM', -, -, -, -, -, -, hsigM⟩ := Cond.codeWith_spec hcode
  cases Option.some.inj (hn8.symm.trans hnamed)
  cases hmethM.symm.trans hmethM'
  obtain ⟨c2, r2, m2, q1, q2, q3, q4, kP, hkP, hkPi⟩ := Cond.selects_spec hsel
  cases hcls.symm.trans q1
  cases (State.methodFound?_of_named hnamed hy).symm.trans q2
  cases hnamed.symm.trans q3
  have hselP : selectMethod e.platform s.vm cellB.cls mk = .method mk := by rw [Launch.admits_selectMethod X.admits]; exact q4
  obtain ⟨vm₁, X₁, hstep₁⟩ := X.invokevirtual hexec hown hlink hnamed hmethM hstM hkP hkPi hy (a := b) (cell := cellB) hcell
    (fun z h => by rw [h] at hobj; cases hobj) hselP hmethM habM hkP hkPi (g := g) hg (argsL := argsL) (rest := rest) (hlen _ hsigM) hstack hdg
  obtain ⟨v, B, X', hpost, hsteps⟩ := hK m meth c ⟨T.setVm vm₁, locs, cells, slots⟩ { g with stack := rest } (.invokevirtual index) mk (Value.ref b :: argsL).toArray X₁ hg hsize hdg hW (X₁.named hnamed) (hpre vm₁ X₁.warmed)
  exact ⟨v, vm₁, B, X₁.warmed, X', hpost, fun target h => hstep₁ _ fun acts => by rw [doInvoke_state]; exact hsteps.trans h⟩
abbrev vx_CVW (R : Room) (s : State) (args : Array Value) (own C : String) (index : Nat) (y : MethodName) (bytes : ByteArray) (maxL : Nat) (ret : Option FieldType) (hh : List (Nat × Nat × Nat × Nat)) (ws : List Cond) (rm : Room) (mc ms n : Nat) : Prop :=
  (rm.cells = mc ∧ rm.slots = ms ∧ rm.frames + 1 ≤ R.frames ∧ 8 + (maxL + 11) + rm.locals ≤ R.locals ∧ (∀ w ∈ ws, ∀ (a' : Array Value) (U : State), s.WarmedH U.vm → w.before a' U = true) ∧ Cond.codeWith y bytes maxL ret hh ∈ ws) ∧
  (Cond.codeWith y bytes maxL ret hh).before args s = true ∧ (Cond.initialized y.cls).before args s = true ∧ (y.cls ≠ "java/lang/invoke/MethodHandle" ∧ y.cls ≠ "java/lang/invoke/VarHandle") ∧
  (∀ sig, parseMethodDescriptor y.desc = some sig → n = sig.parameters.length) ∧ (Cond.methodLink own index y).before args s = true ∧ (Cond.instanceMethod y).before args s = true ∧ (Cond.selects C y y).before args s = true
theorem vx_cwVW {own C : String} {index maxL mc ms : Nat} {y : MethodName} {bytes : ByteArray} {ret : Option FieldType} {hh : List (Nat × Nat × Nat × Nat)} {Ts ws ws' : List Cond} {rm : Room} (n : Nat) (ht : ∀ w ∈ Ts, w.before args s = true) (hT : GoodIn Ts (wsV own index C y ws)) (hw : ws = Cond.codeWith y bytes maxL ret hh :: ws') (hrc : rm.cells = mc) (hrs : rm.slots = ms)
    (hd : y.cls = C ∧ y.cls ≠ "java/lang/invoke/MethodHandle" ∧ y.cls ≠ "java/lang/invoke/VarHandle" ∧ (parseMethodDescriptor y.desc).map (fun d => d.parameters.length) = some n) (hR : rm.frames + 1 ≤ R.frames ∧ 8 + (maxL + 11) + rm.locals ≤ R.locals) :
    vx_CVW R s args own C index y bytes maxL ret hh ws rm mc ms n := by
  obtain ⟨hC, hd⟩ := hd
  subst hC
  have ok : ∀ w ∈ wsV own index y.cls y ws, w.before args s = true := fun w h => ht w (hT w h).1
  have hG : GoodIn Ts ws := fun w h => hT w (by unfold wsV; exact List.mem_append_right _ h)
  have hc : Cond.codeWith y bytes maxL ret hh ∈ ws := by rw [hw]; exact List.mem_cons_self
  refine ⟨⟨hrc, hrs, hR.1, hR.2, pay_in ht hG, hc⟩, ht _ (hG _ hc).1, ok _ (by simp [wsV]), ⟨hd.1, hd.2.1⟩, fun sig h => ?_, ok _ (by simp [wsV]), ok _ (by simp [wsV]), ok _ (by simp [wsV])⟩
  have h2 := hd.2.2
  rw [h] at h2
  exact (Option.some.inj h2).symm
theorem vx_runVW {y : MethodName} {bytes cc : ByteArray} {maxL nL mc ms n index : Nat} {ret : Option FieldType} {hh : List (Nat × Nat × Nat × Nat)} {ws : List Cond} {rm : Room} {Pc : Array Value → State → Prop} {Qc : Array Value → State → Outcome → State → Prop} {free : Addr → Prop} {Ts : List Cond} {own C : String} {b : Addr} {As rest : List Value} {g : JFrame}
    (S : CallFix p m c cc nL s args Ts own) (hM : Met l y ws rm Pc Qc mc ms free) (cw : vx_CVW R s args own C index y bytes maxL ret hh ws rm mc ms n) (hp : PreV s H C b Pc As)
    (hg : g.method = m) (hn : As.length = n) (hsize : g.locals.size = nL) (hstack : g.stack = As.reverse ++ .ref b :: rest) (hW : 2 * g.monitorRoom + (rest.map fun v => v.category).sum ≤ 8) (hdg : decode cc g.pc = .ok (.invokevirtual index, 3)) (hf : cells + mc ≤ R.cells ∧ slots + ms ≤ R.slots) :
    va_Run p l e R s m args below meth c H locs cells slots mc ms g rest (Qc (Value.ref b :: As).toArray) free := by
  obtain ⟨⟨hrc, hrs, hfr, hlo, hws, hcw⟩, hcode, hini, hy, hlen, hl, hin, hse⟩ := cw
  have hK : Back l R p e below s args y 3 8 (PreOf R mc ms Pc) (PostOf Qc mc ms free) := va_backW (hh := hh) (bytes := bytes) (maxL := maxL) (ret := ret) hM hp.1 hrc hrs hfr hlo hws hcw (fun a' U hW => word_at hW (Or.inl (by first | rfl | simp [Cond.onTables, Cond.keeps, Cond.steady])) hini)
  obtain ⟨hx, hb, hml, ho, -⟩ := S
  obtain ⟨-, ⟨cellB, hcB, hoB, hclB⟩, hPc⟩ := hp
  intro T hT X
  obtain ⟨v, vm₁, ⟨U', l2, c2, s2⟩, hW₁, X', ⟨g', mk, t, L, e1, e2, hq, h1, hL, h2, h3⟩, st⟩ := vx_callVW X hx (C := C) (hh := hh) (bytes := bytes) (maxL := maxL) (ret := ret) ho hl hin hse hcode hy hK (by rw [hT]; exact hcB) hoB hclB hg (hsize.trans hml.symm) (argsL := As) (rest := rest) (fun sig h => hn.trans (hlen sig h)) hstack hW (by rw [hb]; exact hdg)
    (fun vm₁ hW₁ => ⟨hf.1, hf.2, hPc (T.setVm vm₁) hT hW₁⟩)
  dsimp only [Pt.U, Pt.locs, Pt.cells, Pt.slots] at X' e1 e2 h1 h2 h3 st
  subst h1; subst h2; subst h3
  exact ⟨v, (T.setVm vm₁).calling g' mk (Value.ref b :: As).toArray, t, U', L, hT, X', hL, e1, e2, hq, st⟩
section
variable {y : MethodName} {bytes cc : ByteArray} {maxL nL mc ms n index : Nat} {ret : Option FieldType} {ws : List Cond} {rm : Room} {Pc : Array Value → State → Prop} {Qc : Array Value → State → Outcome → State → Prop} {XC : String → State → State → Prop} {free : Addr → Prop} {Ts : List Cond} {own C : String} {b : Addr} {As rest : List Value} {g : JFrame}
theorem vx_runVX {hh : List (Nat × Nat × Nat × Nat)} (S : CallFix p m c cc nL s args Ts own) (hM : vx_Met l y ws rm Pc Qc XC mc ms free) (cw : vx_CVW R s args own C index y bytes maxL ret hh ws rm mc ms n) (hp : PreV s H C b Pc As)
    (hg : g.method = m) (hn : As.length = n) (hsize : g.locals.size = nL) (hstack : g.stack = As.reverse ++ .ref b :: rest) (hW : 2 * g.monitorRoom + (rest.map fun v => v.category).sum ≤ 8) (hdg : decode cc g.pc = .ok (.invokevirtual index, 3)) (hf : cells + mc ≤ R.cells ∧ slots + ms ≤ R.slots) :
    vx_Run p l e R s m args below meth c H locs cells slots mc ms g rest (Qc (Value.ref b :: As).toArray) XC free := by
  obtain ⟨⟨hrc, hrs, hfr, hlo, hws, hcw⟩, hcode, hini, hy, hlen, hl, hin, hse⟩ := cw
  have hK : vx_Back l R p e below s args y 3 8 (PreOf R mc ms Pc) (PostOf Qc mc ms free) (vx_Post XC mc ms free) := vx_backW (hh := hh) (bytes := bytes) (maxL := maxL) (ret := ret) hM hp.1 hrc hrs hfr hlo hws hcw (fun a' U hW => word_at hW (Or.inl (by first | rfl | simp [Cond.onTables, Cond.keeps, Cond.steady])) hini)
  obtain ⟨hx, hb, hml, ho, -⟩ := S
  obtain ⟨-, ⟨cellB, hcB, hoB, hclB⟩, hPc⟩ := hp
  intro T hT X
  rcases vx_callVX X hx (C := C) (hh := hh) (bytes := bytes) (maxL := maxL) (ret := ret) ho hl hin hse hcode hy hK (by rw [hT]; exact hcB) hoB hclB hg (hsize.trans hml.symm) (argsL := As) (rest := rest) (fun sig h => hn.trans (hlen sig h)) hstack hW (by rw [hb]; exact hdg)
    (fun vm₁ hW₁ => ⟨hf.1, hf.2, hPc (T.setVm vm₁) hT hW₁⟩) with ⟨v, vm₁, ⟨U', l2, c2, s2⟩, hW₁, X', ⟨g', mk, t, L, e1, e2, hq, h1, hL, h2, h3⟩, st⟩ | ⟨q, vm₁, ⟨U', l2, c2, s2⟩, hW₁, X', ⟨g', mk, t, L, E, ce, e1, e2, hq, hce, hcv, hcl, h1, hL, h2, h3⟩, st⟩
  · dsimp only [Pt.U, Pt.locs, Pt.cells, Pt.slots] at X' e1 e2 h1 h2 h3 st
    subst h1; subst h2; subst h3
    exact Or.inl ⟨v, (T.setVm vm₁).calling g' mk (Value.ref b :: As).toArray, t, U', L, hT, X', hL, e1, e2, hq, st⟩
  · dsimp only [Pt.U, Pt.locs, Pt.cells, Pt.slots] at X' e1 e2 h1 h2 h3 st hcl
    subst h1; subst h2; subst h3
    exact Or.inr ⟨q, (T.setVm vm₁).calling g' mk (Value.ref b :: As).toArray, t, U', L, E, ce, hT, X', hL, e1, e2, hq, hce, hcv, vx_cls hW₁ hcl, st⟩
theorem vx_runSX {hh : List (Nat × Nat × Nat × Nat)} (S : CallFix p m c cc nL s args Ts own) (hM : vx_Met l y ws rm Pc Qc XC mc ms free) (cw : vx_CSW R s args own index y bytes maxL ret hh ws rm mc ms n) (hp : PreS s H Pc As)
    (hg : g.method = m) (hn : As.length = n) (hsize : g.locals.size = nL) (hstack : g.stack = As.reverse ++ rest) (hW : 2 * g.monitorRoom + (rest.map fun v => v.category).sum ≤ 8) (hdg : decode cc g.pc = .ok (.invokestatic index, 3)) (hf : cells + mc ≤ R.cells ∧ slots + ms ≤ R.slots) :
    vx_Run p l e R s m args below meth c H locs cells slots mc ms g rest (Qc As.toArray) XC free := by
  obtain ⟨⟨hrc, hrs, hfr, hlo, hws, hcw⟩, hcode, hini, hy, hlen, hl, hstt⟩ := cw
  have hK : vx_Back l R p e below s args y 3 8 (PreOf R mc ms Pc) (PostOf Qc mc ms free) (vx_Post XC mc ms free) := vx_backW (hh := hh) (bytes := bytes) (maxL := maxL) (ret := ret) hM hp.1 hrc hrs hfr hlo hws hcw (fun a' U hW => word_at hW (Or.inl (by first | rfl | simp [Cond.onTables, Cond.keeps, Cond.steady])) hini)
  obtain ⟨hx, hb, hml, ho, -⟩ := S
  intro T hT X
  rcases vx_callSX X hx (hh := hh) (bytes := bytes) (maxL := maxL) (ret := ret) ho hl hstt hini hcode hy hK hg (hsize.trans hml.symm) (argsL := As) (rest := rest) (fun sig h => hn.trans (hlen sig h)) hstack hW (by rw [hb]; exact hdg)
    (fun vm₁ hW₁ => ⟨hf.1, hf.2, hp.2 (T.setVm vm₁) hT hW₁⟩) with ⟨v, vm₁, ⟨U', l2, c2, s2⟩, hW₁, X', ⟨g', mk, t, L, e1, e2, hq, h1, hL, h2, h3⟩, st⟩ | ⟨q, vm₁, ⟨U', l2, c2, s2⟩, hW₁, X', ⟨g', mk, t, L, E, ce, e1, e2, hq, hce, hcv, hcl, h1, hL, h2, h3⟩, st⟩
  · dsimp only [Pt.U, Pt.locs, Pt.cells, Pt.slots] at X' e1 e2 h1 h2 h3 st
    subst h1; subst h2; subst h3
    exact Or.inl ⟨v, (T.setVm vm₁).calling g' mk As.toArray, t, U', L, hT, X', hL, e1, e2, hq, st⟩
  · dsimp only [Pt.U, Pt.locs, Pt.cells, Pt.slots] at X' e1 e2 h1 h2 h3 st hcl
    subst h1; subst h2; subst h3
    exact Or.inr ⟨q, (T.setVm vm₁).calling g' mk As.toArray, t, U', L, E, ce, hT, X', hL, e1, e2, hq, hce, hcv, vx_cls hW₁ hcl, st⟩
end
end VXH
theorem vx_ofWH {l : Launch} {y : MethodName} {ws ws' : List Cond} {rm : Room} {Pc : Array Value → State → Prop} {Qc : Array Value → State → Outcome → State → Prop} {XC : String → State → State → Prop} {mc ms : Nat} {free : Addr → Prop} {cc : ByteArray} {maxL : Nat} {ret : Option FieldType} {hh : List (Nat × Nat × Nat × Nat)}
    (hy : plainName y.cls = true) (hw : ws = Cond.codeWith y cc maxL ret hh :: ws')
    (body : ∀ p e s m args below meth c s₁, BodyLoose p l y (headSpec ws rm) cc maxL ret e s m args below meth c s₁ → c.maxLocals = maxL → Pc args s →
      W p l e (headSpec ws rm).room s m args below meth c s.heap [] 0 0 (vx_MQ below Qc XC args s mc ms free) (entryFrame m args maxL)) : vx_Met l y ws rm Pc Qc XC mc ms free := by
  refine MetFree.of_bodyS (code := cc) (maxLocals := maxL) (ret := ret) hy ?_ ?_
  · intro args s m h hn
    obtain ⟨m9, meth, c, hn9, h1, h2, h3, h4, -, h5, h6, -⟩ := Cond.codeWith_spec (atoms_spec (ws := ws) h _ (by rw [hw]; exact List.mem_cons_self))
    cases hn.symm.trans hn9
    exact ⟨meth, c, h1, h2, h3, h4, h5, h6⟩
  · intro p e s m args below meth c s₁ B hml hP _
    have hh0 : s₁.heap = s.heap := by rw [B.state]; rfl
    obtain ⟨t, a1, o, b1, b2, b3⟩ := body p e s m args below meth c s₁ B hml hP s₁ hh0 (Stand.of_body B)
    exact ⟨t, o, a1, b1, b2, b3⟩
/-! ===== END ===== -/
end
section
/-! ===== BEGIN printed: names, fields, word lists, decode rows ===== -/
def RX0 : String := "RiddleMill$1"
def TX0 : u_T := fun k => match k with
  | _ => ("", "", "", false)
def tyX0 : Nat → FieldType := fun k => match k with
  | _ => .int
abbrev wsX00 : List Cond := u_ws RX0 TX0 0
theorem nmX0 : ∀ a, a < 0 → ∀ b, b < 0 → a ≠ b → (TX0 a).2.1 ≠ (TX0 b).2.1 := by decide +kernel
theorem tyX0_ok : ∀ k, k < 0 → parseFieldDescriptor (TX0 k).2.2.1 = some (tyX0 k) := by decide +kernel
def RX1 : String := "RiddleMill$Kind"
def TX1 : u_T := fun k => match k with
  | _ => ("", "", "", false)
def tyX1 : Nat → FieldType := fun k => match k with
  | _ => .int
abbrev wsX10 : List Cond := u_ws RX1 TX1 0
theorem nmX1 : ∀ a, a < 0 → ∀ b, b < 0 → a ≠ b → (TX1 a).2.1 ≠ (TX1 b).2.1 := by decide +kernel
theorem tyX1_ok : ∀ k, k < 0 → parseFieldDescriptor (TX1 k).2.2.1 = some (tyX1 k) := by decide +kernel
def RX2 : String := "RiddleMill$Maker"
def TX2 : u_T := fun k => match k with
  | 0 => ("RiddleMill$Maker", "firstValues", "[I", true)
  | _ => ("RiddleMill$Maker", "seed", "I", false)
def tyX2 : Nat → FieldType := fun k => match k with
  | 0 => .array .int
  | _ => .int
abbrev wsX20 : List Cond := u_ws RX2 TX2 2
theorem nmX2 : ∀ a, a < 2 → ∀ b, b < 2 → a ≠ b → (TX2 a).2.1 ≠ (TX2 b).2.1 := by decide +kernel
theorem tyX2_ok : ∀ k, k < 2 → parseFieldDescriptor (TX2 k).2.2.1 = some (tyX2 k) := by decide +kernel
abbrev cX2_init : ByteArray := prog_4_method_1_code
def yX2_init : MethodName := ⟨RX2, "<init>", "()V"⟩
abbrev cX2_giveAll : ByteArray := prog_4_method_2_code
def yX2_giveAll : MethodName := ⟨RX2, "giveAll", "(LRiddleMill$Puzzle;LRiddleMill$Puzzle;LRiddleMill$Search;I)Z"⟩
abbrev cX2_dropGivens : ByteArray := prog_4_method_3_code
def yX2_dropGivens : MethodName := ⟨RX2, "dropGivens", "(LRiddleMill$Puzzle;LRiddleMill$Search;)V"⟩
abbrev cX2_draw : ByteArray := prog_4_method_4_code
def yX2_draw : MethodName := ⟨RX2, "draw", "()I"⟩
def RX3 : String := "RiddleMill$Paper"
def TX3 : u_T := fun k => match k with
  | 0 => ("RiddleMill$Paper", "bytes", "[I", true)
  | _ => ("RiddleMill$Paper", "length", "I", false)
def tyX3 : Nat → FieldType := fun k => match k with
  | 0 => .array .int
  | _ => .int
abbrev wsX30 : List Cond := u_ws RX3 TX3 2
theorem nmX3 : ∀ a, a < 2 → ∀ b, b < 2 → a ≠ b → (TX3 a).2.1 ≠ (TX3 b).2.1 := by decide +kernel
theorem tyX3_ok : ∀ k, k < 2 → parseFieldDescriptor (TX3 k).2.2.1 = some (tyX3 k) := by decide +kernel
abbrev cX3_init : ByteArray := prog_5_method_1_code
def yX3_init : MethodName := ⟨RX3, "<init>", "()V"⟩
abbrev cX3_show : ByteArray := prog_5_method_2_code
def yX3_show : MethodName := ⟨RX3, "show", "(LRiddleMill$Puzzle;)V"⟩
abbrev cX3_addRule : ByteArray := prog_5_method_3_code
def yX3_addRule : MethodName := ⟨RX3, "addRule", "(LRiddleMill$Rule;I)V"⟩
abbrev cX3_addWord : ByteArray := prog_5_method_4_code
def yX3_addWord : MethodName := ⟨RX3, "addWord", "(Ljava/lang/String;)V"⟩
abbrev cX3_addNumber : ByteArray := prog_5_method_5_code
def yX3_addNumber : MethodName := ⟨RX3, "addNumber", "(I)V"⟩
abbrev cX3_addCell : ByteArray := prog_5_method_6_code
def yX3_addCell : MethodName := ⟨RX3, "addCell", "(II)V"⟩
abbrev cX3_add : ByteArray := prog_5_method_7_code
def yX3_add : MethodName := ⟨RX3, "add", "(I)V"⟩
def RX4 : String := "RiddleMill$Puzzle"
def TX4 : u_T := fun k => match k with
  | 0 => ("RiddleMill$Puzzle", "columns", "I", false)
  | 1 => ("RiddleMill$Puzzle", "rows", "I", false)
  | 2 => ("RiddleMill$Puzzle", "highest", "I", false)
  | 3 => ("RiddleMill$Puzzle", "grid", "[I", true)
  | 4 => ("RiddleMill$Puzzle", "rules", "[LRiddleMill$Rule;", true)
  | 5 => ("RiddleMill$Puzzle", "ruleCount", "I", false)
  | _ => ("RiddleMill$Puzzle", "places", "[I", true)
def tyX4 : Nat → FieldType := fun k => match k with
  | 0 => .int
  | 1 => .int
  | 2 => .int
  | 3 => .array .int
  | 4 => .array (.object "RiddleMill$Rule")
  | 5 => .int
  | _ => .array .int
abbrev wsX40 : List Cond := u_ws RX4 TX4 7
theorem nmX4 : ∀ a, a < 7 → ∀ b, b < 7 → a ≠ b → (TX4 a).2.1 ≠ (TX4 b).2.1 := by decide +kernel
theorem tyX4_ok : ∀ k, k < 7 → parseFieldDescriptor (TX4 k).2.2.1 = some (tyX4 k) := by decide +kernel
abbrev cX4_init : ByteArray := prog_6_method_1_code
def yX4_init : MethodName := ⟨RX4, "<init>", "()V"⟩
abbrev cX4_begin : ByteArray := prog_6_method_2_code
def yX4_begin : MethodName := ⟨RX4, "begin", "(III)V"⟩
abbrev cX4_isThere : ByteArray := prog_6_method_3_code
def yX4_isThere : MethodName := ⟨RX4, "isThere", "()Z"⟩
abbrev cX4_cellCount : ByteArray := prog_6_method_4_code
def yX4_cellCount : MethodName := ⟨RX4, "cellCount", "()I"⟩
abbrev cX4_emptyGrid : ByteArray := prog_6_method_5_code
def yX4_emptyGrid : MethodName := ⟨RX4, "emptyGrid", "()V"⟩
abbrev cX4_addRule : ByteArray := prog_6_method_6_code
def yX4_addRule : MethodName := ⟨RX4, "addRule", "(LRiddleMill$Kind;)LRiddleMill$Rule;"⟩
abbrev cX4_addRowRules : ByteArray := prog_6_method_7_code
def yX4_addRowRules : MethodName := ⟨RX4, "addRowRules", "()V"⟩
abbrev cX4_addColumnRules : ByteArray := prog_6_method_8_code
def yX4_addColumnRules : MethodName := ⟨RX4, "addColumnRules", "()V"⟩
abbrev cX4_addGiven : ByteArray := prog_6_method_9_code
def yX4_addGiven : MethodName := ⟨RX4, "addGiven", "(II)V"⟩
abbrev cX4_removeRule : ByteArray := prog_6_method_10_code
def yX4_removeRule : MethodName := ⟨RX4, "removeRule", "(I)V"⟩
abbrev cX4_findGiven : ByteArray := prog_6_method_11_code
def yX4_findGiven : MethodName := ⟨RX4, "findGiven", "(I)I"⟩
abbrev cX4_countGivens : ByteArray := prog_6_method_12_code
def yX4_countGivens : MethodName := ⟨RX4, "countGivens", "()I"⟩
abbrev cX4_countFilled : ByteArray := prog_6_method_13_code
def yX4_countFilled : MethodName := ⟨RX4, "countFilled", "()I"⟩
abbrev cX4_countBroken : ByteArray := prog_6_method_14_code
def yX4_countBroken : MethodName := ⟨RX4, "countBroken", "()I"⟩
abbrev cX4_isBrokenAt : ByteArray := prog_6_method_15_code
def yX4_isBrokenAt : MethodName := ⟨RX4, "isBrokenAt", "(I[II)Z"⟩
abbrev cX4_becomeCopyWithoutGivens : ByteArray := prog_6_method_16_code
def yX4_becomeCopyWithoutGivens : MethodName := ⟨RX4, "becomeCopyWithoutGivens", "(LRiddleMill$Puzzle;)V"⟩
abbrev cX4_becomeMoved : ByteArray := prog_6_method_17_code
def yX4_becomeMoved : MethodName := ⟨RX4, "becomeMoved", "(LRiddleMill$Puzzle;Z)V"⟩
def RX5 : String := "RiddleMill$PuzzleReader"
def TX5 : u_T := fun k => match k with
  | 0 => ("RiddleMill$PuzzleReader", "error", "I", false)
  | 1 => ("RiddleMill$PuzzleReader", "errorAt", "I", false)
  | 2 => ("RiddleMill$PuzzleReader", "tokens", "LRiddleMill$Tokens;", true)
  | _ => ("RiddleMill$PuzzleReader", "place", "I", false)
def tyX5 : Nat → FieldType := fun k => match k with
  | 0 => .int
  | 1 => .int
  | 2 => .object "RiddleMill$Tokens"
  | _ => .int
abbrev wsX50 : List Cond := u_ws RX5 TX5 4
theorem nmX5 : ∀ a, a < 4 → ∀ b, b < 4 → a ≠ b → (TX5 a).2.1 ≠ (TX5 b).2.1 := by decide +kernel
theorem tyX5_ok : ∀ k, k < 4 → parseFieldDescriptor (TX5 k).2.2.1 = some (tyX5 k) := by decide +kernel
abbrev cX5_init : ByteArray := prog_7_method_1_code
def yX5_init : MethodName := ⟨RX5, "<init>", "()V"⟩
abbrev cX5_readInto : ByteArray := prog_7_method_2_code
def yX5_readInto : MethodName := ⟨RX5, "readInto", "(LRiddleMill$Puzzle;LRiddleMill$Tape;)Z"⟩
abbrev cX5_fail : ByteArray := prog_7_method_3_code
def yX5_fail : MethodName := ⟨RX5, "fail", "(I)Z"⟩
abbrev cX5_hasForm : ByteArray := prog_7_method_4_code
def yX5_hasForm : MethodName := ⟨RX5, "hasForm", "()Z"⟩
abbrev cX5_passes : ByteArray := prog_7_method_5_code
def yX5_passes : MethodName := ⟨RX5, "passes", "(II)Z"⟩
abbrev cX5_passesRule : ByteArray := prog_7_method_6_code
def yX5_passesRule : MethodName := ⟨RX5, "passesRule", "()Z"⟩
abbrev cX5_passesCells : ByteArray := prog_7_method_7_code
def yX5_passesCells : MethodName := ⟨RX5, "passesCells", "(I)Z"⟩
abbrev cX5_readSizes : ByteArray := prog_7_method_8_code
def yX5_readSizes : MethodName := ⟨RX5, "readSizes", "(LRiddleMill$Puzzle;)Z"⟩
abbrev cX5_readRules : ByteArray := prog_7_method_9_code
def yX5_readRules : MethodName := ⟨RX5, "readRules", "(LRiddleMill$Puzzle;)Z"⟩
abbrev cX5_readRule : ByteArray := prog_7_method_10_code
def yX5_readRule : MethodName := ⟨RX5, "readRule", "(LRiddleMill$Puzzle;)Z"⟩
abbrev cX5_rulesOf : ByteArray := prog_7_method_11_code
def yX5_rulesOf : MethodName := ⟨RX5, "rulesOf", "(ILRiddleMill$Puzzle;)I"⟩
abbrev cX5_readNumber : ByteArray := prog_7_method_12_code
def yX5_readNumber : MethodName := ⟨RX5, "readNumber", "(LRiddleMill$Puzzle;LRiddleMill$Rule;)Z"⟩
abbrev cX5_isAllowed : ByteArray := prog_7_method_13_code
def yX5_isAllowed : MethodName := ⟨RX5, "isAllowed", "(LRiddleMill$Kind;II)Z"⟩
abbrev cX5_readTimes : ByteArray := prog_7_method_14_code
def yX5_readTimes : MethodName := ⟨RX5, "readTimes", "(LRiddleMill$Rule;)Z"⟩
abbrev cX5_readCells : ByteArray := prog_7_method_15_code
def yX5_readCells : MethodName := ⟨RX5, "readCells", "(LRiddleMill$Puzzle;LRiddleMill$Rule;)Z"⟩
def RX6 : String := "RiddleMill$Reasoner"
def TX6 : u_T := fun k => match k with
  | 0 => ("RiddleMill$Reasoner", "sets", "[I", true)
  | 1 => ("RiddleMill$Reasoner", "passes", "I", false)
  | 2 => ("RiddleMill$Reasoner", "greatestGrade", "I", false)
  | 3 => ("RiddleMill$Reasoner", "firstRule", "I", false)
  | 4 => ("RiddleMill$Reasoner", "firstCell", "I", false)
  | 5 => ("RiddleMill$Reasoner", "firstValue", "I", false)
  | 6 => ("RiddleMill$Reasoner", "firstGrade", "I", false)
  | _ => ("RiddleMill$Reasoner", "values", "[I", true)
def tyX6 : Nat → FieldType := fun k => match k with
  | 0 => .array .int
  | 1 => .int
  | 2 => .int
  | 3 => .int
  | 4 => .int
  | 5 => .int
  | 6 => .int
  | _ => .array .int
abbrev wsX60 : List Cond := u_ws RX6 TX6 8
theorem nmX6 : ∀ a, a < 8 → ∀ b, b < 8 → a ≠ b → (TX6 a).2.1 ≠ (TX6 b).2.1 := by decide +kernel
theorem tyX6_ok : ∀ k, k < 8 → parseFieldDescriptor (TX6 k).2.2.1 = some (tyX6 k) := by decide +kernel
abbrev cX6_init : ByteArray := prog_8_method_1_code
def yX6_init : MethodName := ⟨RX6, "<init>", "()V"⟩
abbrev cX6_begin : ByteArray := prog_8_method_2_code
def yX6_begin : MethodName := ⟨RX6, "begin", "(LRiddleMill$Puzzle;)V"⟩
abbrev cX6_countValues : ByteArray := prog_8_method_3_code
def yX6_countValues : MethodName := ⟨RX6, "countValues", "(LRiddleMill$Puzzle;)I"⟩
abbrev cX6_countCellsWith : ByteArray := prog_8_method_4_code
def yX6_countCellsWith : MethodName := ⟨RX6, "countCellsWith", "(LRiddleMill$Puzzle;I)I"⟩
abbrev cX6_takeOut : ByteArray := prog_8_method_5_code
def yX6_takeOut : MethodName := ⟨RX6, "takeOut", "(II)V"⟩
abbrev cX6_findFirst : ByteArray := prog_8_method_6_code
def yX6_findFirst : MethodName := ⟨RX6, "findFirst", "(LRiddleMill$Puzzle;)Z"⟩
abbrev cX6_findFirstBy : ByteArray := prog_8_method_7_code
def yX6_findFirstBy : MethodName := ⟨RX6, "findFirstBy", "(LRiddleMill$Rule;I)Z"⟩
abbrev cX6_doPasses : ByteArray := prog_8_method_8_code
def yX6_doPasses : MethodName := ⟨RX6, "doPasses", "(LRiddleMill$Puzzle;)I"⟩
abbrev cX6_deduceBy : ByteArray := prog_8_method_9_code
def yX6_deduceBy : MethodName := ⟨RX6, "deduceBy", "(LRiddleMill$Rule;I)I"⟩
abbrev cX6_hasValue : ByteArray := prog_8_method_10_code
def yX6_hasValue : MethodName := ⟨RX6, "hasValue", "(II)Z"⟩
abbrev cX6_gradeOf : ByteArray := prog_8_method_11_code
def yX6_gradeOf : MethodName := ⟨RX6, "gradeOf", "(LRiddleMill$Rule;)I"⟩
abbrev cX6_isRefuted : ByteArray := prog_8_method_12_code
def yX6_isRefuted : MethodName := ⟨RX6, "isRefuted", "(LRiddleMill$Rule;III)Z"⟩
abbrev cX6_holdsFrom : ByteArray := prog_8_method_13_code
def yX6_holdsFrom : MethodName := ⟨RX6, "holdsFrom", "(LRiddleMill$Reasoner;LRiddleMill$Rule;III)Z"⟩
def RX7 : String := "RiddleMill$Rule"
def TX7 : u_T := fun k => match k with
  | 0 => ("RiddleMill$Rule", "kind", "LRiddleMill$Kind;", false)
  | 1 => ("RiddleMill$Rule", "number", "I", false)
  | 2 => ("RiddleMill$Rule", "times", "I", false)
  | 3 => ("RiddleMill$Rule", "size", "I", false)
  | 4 => ("RiddleMill$Rule", "cells", "[I", true)
  | _ => ("RiddleMill$Rule", "mask", "I", false)
def tyX7 : Nat → FieldType := fun k => match k with
  | 0 => .object "RiddleMill$Kind"
  | 1 => .int
  | 2 => .int
  | 3 => .int
  | 4 => .array .int
  | _ => .int
abbrev wsX70 : List Cond := u_ws RX7 TX7 6
theorem nmX7 : ∀ a, a < 6 → ∀ b, b < 6 → a ≠ b → (TX7 a).2.1 ≠ (TX7 b).2.1 := by decide +kernel
theorem tyX7_ok : ∀ k, k < 6 → parseFieldDescriptor (TX7 k).2.2.1 = some (tyX7 k) := by decide +kernel
abbrev cX7_init : ByteArray := prog_9_method_1_code
def yX7_init : MethodName := ⟨RX7, "<init>", "()V"⟩
abbrev cX7_begin : ByteArray := prog_9_method_2_code
def yX7_begin : MethodName := ⟨RX7, "begin", "(LRiddleMill$Kind;)V"⟩
abbrev cX7_addCell : ByteArray := prog_9_method_3_code
def yX7_addCell : MethodName := ⟨RX7, "addCell", "(I)V"⟩
abbrev cX7_hasCell : ByteArray := prog_9_method_4_code
def yX7_hasCell : MethodName := ⟨RX7, "hasCell", "(I)Z"⟩
abbrev cX7_isGivenOf : ByteArray := prog_9_method_5_code
def yX7_isGivenOf : MethodName := ⟨RX7, "isGivenOf", "(I)Z"⟩
abbrev cX7_cellOrNone : ByteArray := prog_9_method_6_code
def yX7_cellOrNone : MethodName := ⟨RX7, "cellOrNone", "(I)I"⟩
abbrev cX7_takeParts : ByteArray := prog_9_method_7_code
def yX7_takeParts : MethodName := ⟨RX7, "takeParts", "(LRiddleMill$Rule;)V"⟩
abbrev cX7_moveCells : ByteArray := prog_9_method_8_code
def yX7_moveCells : MethodName := ⟨RX7, "moveCells", "([I)V"⟩
abbrev cX7_isBroken : ByteArray := prog_9_method_9_code
def yX7_isBroken : MethodName := ⟨RX7, "isBroken", "([II)Z"⟩
abbrev cX7_hasPair : ByteArray := prog_9_method_10_code
def yX7_hasPair : MethodName := ⟨RX7, "hasPair", "([IZ)Z"⟩
abbrev cX7_breaksSum : ByteArray := prog_9_method_11_code
def yX7_breaksSum : MethodName := ⟨RX7, "breaksSum", "([II)Z"⟩
abbrev cX7_breaksProduct : ByteArray := prog_9_method_12_code
def yX7_breaksProduct : MethodName := ⟨RX7, "breaksProduct", "([I)Z"⟩
abbrev cX7_breaksOrder : ByteArray := prog_9_method_13_code
def yX7_breaksOrder : MethodName := ⟨RX7, "breaksOrder", "([I)Z"⟩
abbrev cX7_breaksSight : ByteArray := prog_9_method_14_code
def yX7_breaksSight : MethodName := ⟨RX7, "breaksSight", "([I)Z"⟩
abbrev cX7_hasRemainder : ByteArray := prog_9_method_15_code
def yX7_hasRemainder : MethodName := ⟨RX7, "hasRemainder", "([II)Z"⟩
abbrev cX7_breaksCount : ByteArray := prog_9_method_16_code
def yX7_breaksCount : MethodName := ⟨RX7, "breaksCount", "([I)Z"⟩
abbrev cX7_breaksIs : ByteArray := prog_9_method_17_code
def yX7_breaksIs : MethodName := ⟨RX7, "breaksIs", "([I)Z"⟩
abbrev cX7_breaksApart : ByteArray := prog_9_method_18_code
def yX7_breaksApart : MethodName := ⟨RX7, "breaksApart", "([I)Z"⟩
def RX8 : String := "RiddleMill$Search"
def TX8 : u_T := fun k => match k with
  | 0 => ("RiddleMill$Search", "solutions", "[[I", true)
  | 1 => ("RiddleMill$Search", "found", "I", false)
  | 2 => ("RiddleMill$Search", "tries", "I", false)
  | 3 => ("RiddleMill$Search", "values", "[I", true)
  | 4 => ("RiddleMill$Search", "only", "[I", true)
  | 5 => ("RiddleMill$Search", "first", "[I", true)
  | 6 => ("RiddleMill$Search", "without", "I", false)
  | 7 => ("RiddleMill$Search", "most", "I", false)
  | _ => ("RiddleMill$Search", "hasGivenUp", "Z", false)
def tyX8 : Nat → FieldType := fun k => match k with
  | 0 => .array (.array .int)
  | 1 => .int
  | 2 => .int
  | 3 => .array .int
  | 4 => .array .int
  | 5 => .array .int
  | 6 => .int
  | 7 => .int
  | _ => .boolean
abbrev wsX80 : List Cond := u_ws RX8 TX8 9
theorem nmX8 : ∀ a, a < 9 → ∀ b, b < 9 → a ≠ b → (TX8 a).2.1 ≠ (TX8 b).2.1 := by decide +kernel
theorem tyX8_ok : ∀ k, k < 9 → parseFieldDescriptor (TX8 k).2.2.1 = some (tyX8 k) := by decide +kernel
abbrev cX8_init : ByteArray := prog_10_method_1_code
def yX8_init : MethodName := ⟨RX8, "<init>", "()V"⟩
abbrev cX8_findInGrid : ByteArray := prog_10_method_2_code
def yX8_findInGrid : MethodName := ⟨RX8, "findInGrid", "(LRiddleMill$Puzzle;I)I"⟩
abbrev cX8_findsJustOne : ByteArray := prog_10_method_3_code
def yX8_findsJustOne : MethodName := ⟨RX8, "findsJustOne", "(LRiddleMill$Puzzle;I)Z"⟩
abbrev cX8_findsOneFrom : ByteArray := prog_10_method_4_code
def yX8_findsOneFrom : MethodName := ⟨RX8, "findsOneFrom", "(LRiddleMill$Puzzle;[I)Z"⟩
abbrev cX8_begin : ByteArray := prog_10_method_5_code
def yX8_begin : MethodName := ⟨RX8, "begin", "(II)V"⟩
abbrev cX8_endsFrom : ByteArray := prog_10_method_6_code
def yX8_endsFrom : MethodName := ⟨RX8, "endsFrom", "(LRiddleMill$Search;LRiddleMill$Puzzle;I)Z"⟩
abbrev cX8_choice : ByteArray := prog_10_method_7_code
def yX8_choice : MethodName := ⟨RX8, "choice", "(III)I"⟩
abbrev cX8_giveUp : ByteArray := prog_10_method_8_code
def yX8_giveUp : MethodName := ⟨RX8, "giveUp", "()V"⟩
abbrev cX8_keep : ByteArray := prog_10_method_9_code
def yX8_keep : MethodName := ⟨RX8, "keep", "()V"⟩
def RX9 : String := "RiddleMill$Tape"
def TX9 : u_T := fun k => match k with
  | 0 => ("RiddleMill$Tape", "length", "I", false)
  | _ => ("RiddleMill$Tape", "bytes", "[I", true)
def tyX9 : Nat → FieldType := fun k => match k with
  | 0 => .int
  | _ => .array .int
abbrev wsX90 : List Cond := u_ws RX9 TX9 2
theorem nmX9 : ∀ a, a < 2 → ∀ b, b < 2 → a ≠ b → (TX9 a).2.1 ≠ (TX9 b).2.1 := by decide +kernel
theorem tyX9_ok : ∀ k, k < 2 → parseFieldDescriptor (TX9 k).2.2.1 = some (tyX9 k) := by decide +kernel
abbrev cX9_init : ByteArray := prog_11_method_1_code
def yX9_init : MethodName := ⟨RX9, "<init>", "()V"⟩
abbrev cX9_appendFour : ByteArray := prog_11_method_2_code
def yX9_appendFour : MethodName := ⟨RX9, "appendFour", "(I)V"⟩
abbrev cX9_byteOrNone : ByteArray := prog_11_method_3_code
def yX9_byteOrNone : MethodName := ⟨RX9, "byteOrNone", "(I)I"⟩
def RX10 : String := "RiddleMill$Tokens"
def TX10 : u_T := fun k => match k with
  | 0 => ("RiddleMill$Tokens", "count", "I", false)
  | 1 => ("RiddleMill$Tokens", "types", "[I", true)
  | 2 => ("RiddleMill$Tokens", "starts", "[I", true)
  | _ => ("RiddleMill$Tokens", "numbers", "[I", true)
def tyX10 : Nat → FieldType := fun k => match k with
  | 0 => .int
  | 1 => .array .int
  | 2 => .array .int
  | _ => .array .int
abbrev wsX100 : List Cond := u_ws RX10 TX10 4
theorem nmX10 : ∀ a, a < 4 → ∀ b, b < 4 → a ≠ b → (TX10 a).2.1 ≠ (TX10 b).2.1 := by decide +kernel
theorem tyX10_ok : ∀ k, k < 4 → parseFieldDescriptor (TX10 k).2.2.1 = some (tyX10 k) := by decide +kernel
abbrev cX10_init : ByteArray := prog_12_method_1_code
def yX10_init : MethodName := ⟨RX10, "<init>", "()V"⟩
abbrev cX10_typeAt : ByteArray := prog_12_method_2_code
def yX10_typeAt : MethodName := ⟨RX10, "typeAt", "(I)I"⟩
abbrev cX10_startAt : ByteArray := prog_12_method_3_code
def yX10_startAt : MethodName := ⟨RX10, "startAt", "(I)I"⟩
abbrev cX10_numberAt : ByteArray := prog_12_method_4_code
def yX10_numberAt : MethodName := ⟨RX10, "numberAt", "(I)I"⟩
abbrev cX10_split : ByteArray := prog_12_method_5_code
def yX10_split : MethodName := ⟨RX10, "split", "(LRiddleMill$Tape;)V"⟩
abbrev cX10_add : ByteArray := prog_12_method_6_code
def yX10_add : MethodName := ⟨RX10, "add", "(III)V"⟩
abbrev cX10_addNumber : ByteArray := prog_12_method_7_code
def yX10_addNumber : MethodName := ⟨RX10, "addNumber", "(LRiddleMill$Tape;I)I"⟩
abbrev cX10_addWord : ByteArray := prog_12_method_8_code
def yX10_addWord : MethodName := ⟨RX10, "addWord", "(LRiddleMill$Tape;I)I"⟩
abbrev cX10_wordNumber : ByteArray := prog_12_method_9_code
def yX10_wordNumber : MethodName := ⟨RX10, "wordNumber", "(LRiddleMill$Tape;II)I"⟩
abbrev cX10_isWord : ByteArray := prog_12_method_10_code
def yX10_isWord : MethodName := ⟨RX10, "isWord", "(LRiddleMill$Tape;IILjava/lang/String;)Z"⟩
abbrev cX10_skipBlanks : ByteArray := prog_12_method_11_code
def yX10_skipBlanks : MethodName := ⟨RX10, "skipBlanks", "(LRiddleMill$Tape;I)I"⟩
abbrev cX10_isBlank : ByteArray := prog_12_method_12_code
def yX10_isBlank : MethodName := ⟨RX10, "isBlank", "(I)Z"⟩
abbrev cX10_isDigit : ByteArray := prog_12_method_13_code
def yX10_isDigit : MethodName := ⟨RX10, "isDigit", "(I)Z"⟩
abbrev cX10_isLetter : ByteArray := prog_12_method_14_code
def yX10_isLetter : MethodName := ⟨RX10, "isLetter", "(I)Z"⟩
def RX11 : String := "RiddleMill"
def TX11 : u_T := fun k => match k with
  | 0 => ("RiddleMill", "tape", "LRiddleMill$Tape;", true)
  | 1 => ("RiddleMill", "reader", "LRiddleMill$PuzzleReader;", true)
  | 2 => ("RiddleMill", "paper", "LRiddleMill$Paper;", true)
  | 3 => ("RiddleMill", "kept", "LRiddleMill$Search;", true)
  | 4 => ("RiddleMill", "probe", "LRiddleMill$Search;", true)
  | 5 => ("RiddleMill", "reasoner", "LRiddleMill$Reasoner;", true)
  | 6 => ("RiddleMill", "maker", "LRiddleMill$Maker;", true)
  | 7 => ("RiddleMill", "puzzle", "LRiddleMill$Puzzle;", false)
  | _ => ("RiddleMill", "draft", "LRiddleMill$Puzzle;", false)
def tyX11 : Nat → FieldType := fun k => match k with
  | 0 => .object "RiddleMill$Tape"
  | 1 => .object "RiddleMill$PuzzleReader"
  | 2 => .object "RiddleMill$Paper"
  | 3 => .object "RiddleMill$Search"
  | 4 => .object "RiddleMill$Search"
  | 5 => .object "RiddleMill$Reasoner"
  | 6 => .object "RiddleMill$Maker"
  | 7 => .object "RiddleMill$Puzzle"
  | _ => .object "RiddleMill$Puzzle"
abbrev wsX110 : List Cond := u_ws RX11 TX11 9
theorem nmX11 : ∀ a, a < 9 → ∀ b, b < 9 → a ≠ b → (TX11 a).2.1 ≠ (TX11 b).2.1 := by decide +kernel
theorem tyX11_ok : ∀ k, k < 9 → parseFieldDescriptor (TX11 k).2.2.1 = some (tyX11 k) := by decide +kernel
abbrev cX11_init : ByteArray := prog_1_method_1_code
def yX11_init : MethodName := ⟨RX11, "<init>", "()V"⟩
abbrev cX11_feed : ByteArray := prog_1_method_2_code
def yX11_feed : MethodName := ⟨RX11, "feed", "(IIIII)I"⟩
abbrev cX11_trim : ByteArray := prog_1_method_3_code
def yX11_trim : MethodName := ⟨RX11, "trim", "(I)I"⟩
abbrev cX11_compile : ByteArray := prog_1_method_4_code
def yX11_compile : MethodName := ⟨RX11, "compile", "()I"⟩
abbrev cX11_count : ByteArray := prog_1_method_6_code
def yX11_count : MethodName := ⟨RX11, "count", "(I)I"⟩
abbrev cX11_rule : ByteArray := prog_1_method_7_code
def yX11_rule : MethodName := ⟨RX11, "rule", "(II)I"⟩
abbrev cX11_drop : ByteArray := prog_1_method_8_code
def yX11_drop : MethodName := ⟨RX11, "drop", "(I)I"⟩
abbrev cX11_write : ByteArray := prog_1_method_9_code
def yX11_write : MethodName := ⟨RX11, "write", "()I"⟩
abbrev cX11_byteAt : ByteArray := prog_1_method_10_code
def yX11_byteAt : MethodName := ⟨RX11, "byteAt", "(I)I"⟩
abbrev cX11_put : ByteArray := prog_1_method_11_code
def yX11_put : MethodName := ⟨RX11, "put", "(II)I"⟩
abbrev cX11_value : ByteArray := prog_1_method_12_code
def yX11_value : MethodName := ⟨RX11, "value", "(I)I"⟩
abbrev cX11_search : ByteArray := prog_1_method_14_code
def yX11_search : MethodName := ⟨RX11, "search", "(I)I"⟩
abbrev cX11_solution : ByteArray := prog_1_method_15_code
def yX11_solution : MethodName := ⟨RX11, "solution", "(II)I"⟩
abbrev cX11_isNeeded : ByteArray := prog_1_method_16_code
def yX11_isNeeded : MethodName := ⟨RX11, "isNeeded", "(I)Z"⟩
abbrev cX11_look : ByteArray := prog_1_method_17_code
def yX11_look : MethodName := ⟨RX11, "look", "()I"⟩
abbrev cX11_possible : ByteArray := prog_1_method_18_code
def yX11_possible : MethodName := ⟨RX11, "possible", "(I)I"⟩
abbrev cX11_hint : ByteArray := prog_1_method_19_code
def yX11_hint : MethodName := ⟨RX11, "hint", "(I)I"⟩
abbrev cX11_reason : ByteArray := prog_1_method_21_code
def yX11_reason : MethodName := ⟨RX11, "reason", "()I"⟩
abbrev cX11_reasoned : ByteArray := prog_1_method_22_code
def yX11_reasoned : MethodName := ⟨RX11, "reasoned", "(I)I"⟩
abbrev cX11_make : ByteArray := prog_1_method_23_code
def yX11_make : MethodName := ⟨RX11, "make", "(I)I"⟩
abbrev cX11_change : ByteArray := prog_1_method_24_code
def yX11_change : MethodName := ⟨RX11, "change", "(I)I"⟩
abbrev cX11_doubt : ByteArray := prog_1_method_25_code
def yX11_doubt : MethodName := ⟨RX11, "doubt", "()D"⟩
abbrev cX11_digest : ByteArray := prog_1_method_26_code
def yX11_digest : MethodName := ⟨RX11, "digest", "()J"⟩
abbrev cX11_requirePuzzle : ByteArray := prog_1_method_27_code
def yX11_requirePuzzle : MethodName := ⟨RX11, "requirePuzzle", "()V"⟩
abbrev cX11_requireRule : ByteArray := prog_1_method_28_code
def yX11_requireRule : MethodName := ⟨RX11, "requireRule", "(I)V"⟩
abbrev cX11_requireCell : ByteArray := prog_1_method_29_code
def yX11_requireCell : MethodName := ⟨RX11, "requireCell", "(I)V"⟩
abbrev cX11_takeDraft : ByteArray := prog_1_method_30_code
def yX11_takeDraft : MethodName := ⟨RX11, "takeDraft", "()V"⟩
def RX12 : String := "RiddleMillModel"
def TX12 : u_T := fun k => match k with
  | _ => ("", "", "", false)
def tyX12 : Nat → FieldType := fun k => match k with
  | _ => .int
abbrev wsX120 : List Cond := u_ws RX12 TX12 0
theorem nmX12 : ∀ a, a < 0 → ∀ b, b < 0 → a ≠ b → (TX12 a).2.1 ≠ (TX12 b).2.1 := by decide +kernel
theorem tyX12_ok : ∀ k, k < 0 → parseFieldDescriptor (TX12 k).2.2.1 = some (tyX12 k) := by decide +kernel
def RJx29ce0 : String := "java/lang/Enum"
def TJx29ce0 : u_T := fun k => match k with
  | _ => ("", "", "", false)
def tyJx29ce0 : Nat → FieldType := fun k => match k with
  | _ => .int
abbrev wsJx29ce00 : List Cond := u_ws RJx29ce0 TJx29ce0 0
theorem nmJx29ce0 : ∀ a, a < 0 → ∀ b, b < 0 → a ≠ b → (TJx29ce0 a).2.1 ≠ (TJx29ce0 b).2.1 := by decide +kernel
theorem tyJx29ce0_ok : ∀ k, k < 0 → parseFieldDescriptor (TJx29ce0 k).2.2.1 = some (tyJx29ce0 k) := by decide +kernel
abbrev cJx29ce0_ordinal_8abf5 : ByteArray := prog_15_method_2_code
def yJx29ce0_ordinal_8abf5 : MethodName := ⟨RJx29ce0, "ordinal", "()I"⟩
def RJ6 : String := "java/lang/Integer"
def TJ6 : u_T := fun k => match k with
  | _ => ("", "", "", false)
def tyJ6 : Nat → FieldType := fun k => match k with
  | _ => .int
abbrev wsJ60 : List Cond := u_ws RJ6 TJ6 0
theorem nmJ6 : ∀ a, a < 0 → ∀ b, b < 0 → a ≠ b → (TJ6 a).2.1 ≠ (TJ6 b).2.1 := by decide +kernel
theorem tyJ6_ok : ∀ k, k < 0 → parseFieldDescriptor (TJ6 k).2.2.1 = some (tyJ6 k) := by decide +kernel
abbrev cJ6_bitCount_0f7a4 : ByteArray := prog_20_method_49_code
def yJ6_bitCount_0f7a4 : MethodName := ⟨RJ6, "bitCount", "(I)I"⟩
def RJ9 : String := "java/lang/Math"
def TJ9 : u_T := fun k => match k with
  | _ => ("", "", "", false)
def tyJ9 : Nat → FieldType := fun k => match k with
  | _ => .int
abbrev wsJ90 : List Cond := u_ws RJ9 TJ9 0
theorem nmJ9 : ∀ a, a < 0 → ∀ b, b < 0 → a ≠ b → (TJ9 a).2.1 ≠ (TJ9 b).2.1 := by decide +kernel
theorem tyJ9_ok : ∀ k, k < 0 → parseFieldDescriptor (TJ9 k).2.2.1 = some (tyJ9 k) := by decide +kernel
abbrev cJ9_abs_0f7a4 : ByteArray := prog_21_method_59_code
def yJ9_abs_0f7a4 : MethodName := ⟨RJ9, "abs", "(I)I"⟩
abbrev cJ9_max_7cf53 : ByteArray := prog_21_method_65_code
def yJ9_max_7cf53 : MethodName := ⟨RJ9, "max", "(II)I"⟩
def RJ0 : String := "java/lang/String"
def TJ0 : u_T := fun k => match k with
  | _ => ("", "", "", false)
def tyJ0 : Nat → FieldType := fun k => match k with
  | _ => .int
abbrev wsJ00 : List Cond := u_ws RJ0 TJ0 0
theorem nmJ0 : ∀ a, a < 0 → ∀ b, b < 0 → a ≠ b → (TJ0 a).2.1 ≠ (TJ0 b).2.1 := by decide +kernel
theorem tyJ0_ok : ∀ k, k < 0 → parseFieldDescriptor (TJ0 k).2.2.1 = some (tyJ0 k) := by decide +kernel
abbrev cJ0_length_8abf5 : ByteArray := prog_23_method_54_code
def yJ0_length_8abf5 : MethodName := ⟨RJ0, "length", "()I"⟩
abbrev cJ0_charAt_5068e : ByteArray := prog_23_method_56_code
def yJ0_charAt_5068e : MethodName := ⟨RJ0, "charAt", "(I)C"⟩
abbrev cJ0_coder_7d493 : ByteArray := prog_23_method_152_code
def yJ0_coder_7d493 : MethodName := ⟨RJ0, "coder", "()B"⟩
abbrev cJ0_isLatin1_aae02 : ByteArray := prog_23_method_154_code
def yJ0_isLatin1_aae02 : MethodName := ⟨RJ0, "isLatin1", "()Z"⟩
abbrev cJ0_checkIndex_df160 : ByteArray := prog_23_method_155_code
def yJ0_checkIndex_df160 : MethodName := ⟨RJ0, "checkIndex", "(II)V"⟩
def RJ1 : String := "java/lang/StringLatin1"
def TJ1 : u_T := fun k => match k with
  | _ => ("", "", "", false)
def tyJ1 : Nat → FieldType := fun k => match k with
  | _ => .int
abbrev wsJ10 : List Cond := u_ws RJ1 TJ1 0
theorem nmJ1 : ∀ a, a < 0 → ∀ b, b < 0 → a ≠ b → (TJ1 a).2.1 ≠ (TJ1 b).2.1 := by decide +kernel
theorem tyJ1_ok : ∀ k, k < 0 → parseFieldDescriptor (TJ1 k).2.2.1 = some (tyJ1 k) := by decide +kernel
abbrev cJ1_charAt_3b067 : ByteArray := prog_24_method_2_code
def yJ1_charAt_3b067 : MethodName := ⟨RJ1, "charAt", "([BI)C"⟩
def RJ2 : String := "java/lang/StringUTF16"
def TJ2 : u_T := fun k => match k with
  | _ => ("", "", "", false)
def tyJ2 : Nat → FieldType := fun k => match k with
  | _ => .int
abbrev wsJ20 : List Cond := u_ws RJ2 TJ2 0
theorem nmJ2 : ∀ a, a < 0 → ∀ b, b < 0 → a ≠ b → (TJ2 a).2.1 ≠ (TJ2 b).2.1 := by decide +kernel
theorem tyJ2_ok : ∀ k, k < 0 → parseFieldDescriptor (TJ2 k).2.2.1 = some (tyJ2 k) := by decide +kernel
abbrev cJ2_getChar_3b067 : ByteArray := prog_25_method_5_code
def yJ2_getChar_3b067 : MethodName := ⟨RJ2, "getChar", "([BI)C"⟩
abbrev cJ2_length_9d52b : ByteArray := prog_25_method_6_code
def yJ2_length_9d52b : MethodName := ⟨RJ2, "length", "([B)I"⟩
abbrev cJ2_charAt_3b067 : ByteArray := prog_25_method_83_code
def yJ2_charAt_3b067 : MethodName := ⟨RJ2, "charAt", "([BI)C"⟩
abbrev cJ2_checkIndex_2214a : ByteArray := prog_25_method_91_code
def yJ2_checkIndex_2214a : MethodName := ⟨RJ2, "checkIndex", "(I[B)V"⟩
def RJ3 : String := "jdk/internal/util/Preconditions"
def TJ3 : u_T := fun k => match k with
  | _ => ("", "", "", false)
def tyJ3 : Nat → FieldType := fun k => match k with
  | _ => .int
abbrev wsJ30 : List Cond := u_ws RJ3 TJ3 0
theorem nmJ3 : ∀ a, a < 0 → ∀ b, b < 0 → a ≠ b → (TJ3 a).2.1 ≠ (TJ3 b).2.1 := by decide +kernel
theorem tyJ3_ok : ∀ k, k < 0 → parseFieldDescriptor (TJ3 k).2.2.1 = some (tyJ3 k) := by decide +kernel
abbrev cJ3_checkIndex_8e157 : ByteArray := prog_27_method_11_code
def yJ3_checkIndex_8e157 : MethodName := ⟨RJ3, "checkIndex", "(IILjava/util/function/BiFunction;)I"⟩
def RL : String := "RiddleMillLaw"
abbrev cL_below : ByteArray := method_2_code
def yL_below : MethodName := ⟨RL, "below", "(II)I"⟩
abbrev cL_cell : ByteArray := method_3_code
def yL_cell : MethodName := ⟨RL, "cell", "([II)I"⟩
abbrev cL_put : ByteArray := method_4_code
def yL_put : MethodName := ⟨RL, "put", "([ILjava/lang/String;)V"⟩
abbrev cL_lay : ByteArray := method_6_code
def yL_lay : MethodName := ⟨RL, "lay", "(LRiddleMill;[I)Z"⟩
abbrev cL_holds : ByteArray := method_8_code
def yL_holds : MethodName := ⟨RL, "holds", "(LRiddleMill;I[I)Z"⟩
abbrev cL_law : ByteArray := code
def yL_law : MethodName := ⟨RL, "law", "([I)Z"⟩
abbrev cL_noneBroken : ByteArray := method_10_code
def yL_noneBroken : MethodName := ⟨RL, "noneBroken", "(LRiddleMill;)Z"⟩
abbrev vwCl : List vw_C := [(RX2, TX2, 2), (RX3, TX3, 2), (RX4, TX4, 7), (RX5, TX5, 4), (RX6, TX6, 8), (RX7, TX7, 6), (RX8, TX8, 9), (RX9, TX9, 2), (RX10, TX10, 4), (RX11, TX11, 9)]
end
section
theorem dX2_init_0 : decode cX2_init 0 = .ok (.aload_n 0, 1) := by decide +kernel
theorem dX2_init_1 : decode cX2_init 1 = .ok (.invokespecial 3, 3) := by decide +kernel
theorem dX2_init_4 : decode cX2_init 4 = .ok (.aload_n 0, 1) := by decide +kernel
theorem dX2_init_5 : decode cX2_init 5 = .ok (.bipush 25, 2) := by decide +kernel
theorem dX2_init_7 : decode cX2_init 7 = .ok (.newarray .int, 2) := by decide +kernel
theorem dX2_init_9 : decode cX2_init 9 = .ok (.putfield 9, 3) := by decide +kernel
theorem dX2_init_12 : decode cX2_init 12 = .ok (.return_, 1) := by decide +kernel
theorem dX2_giveAll_0 : decode cX2_giveAll 0 = .ok (.aload_n 0, 1) := by decide +kernel
theorem dX2_giveAll_1 : decode cX2_giveAll 1 = .ok (.iload 4, 2) := by decide +kernel
theorem dX2_giveAll_3 : decode cX2_giveAll 3 = .ok (.putfield 15, 3) := by decide +kernel
theorem dX2_giveAll_6 : decode cX2_giveAll 6 = .ok (.aload_n 1, 1) := by decide +kernel
theorem dX2_giveAll_7 : decode cX2_giveAll 7 = .ok (.aload_n 2, 1) := by decide +kernel
theorem dX2_giveAll_8 : decode cX2_giveAll 8 = .ok (.invokevirtual 19, 3) := by decide +kernel
theorem dX2_giveAll_11 : decode cX2_giveAll 11 = .ok (.aload_n 1, 1) := by decide +kernel
theorem dX2_giveAll_12 : decode cX2_giveAll 12 = .ok (.getfield 25, 3) := by decide +kernel
theorem dX2_giveAll_15 : decode cX2_giveAll 15 = .ok (.iconst 1, 1) := by decide +kernel
theorem dX2_giveAll_16 : decode cX2_giveAll 16 = .ok (.if_icmp .ge 5, 3) := by decide +kernel
theorem dX2_giveAll_19 : decode cX2_giveAll 19 = .ok (.iconst 0, 1) := by decide +kernel
theorem dX2_giveAll_20 : decode cX2_giveAll 20 = .ok (.ireturn, 1) := by decide +kernel
theorem dX2_giveAll_21 : decode cX2_giveAll 21 = .ok (.iconst 0, 1) := by decide +kernel
theorem dX2_giveAll_22 : decode cX2_giveAll 22 = .ok (.istore 5, 2) := by decide +kernel
theorem dX2_giveAll_24 : decode cX2_giveAll 24 = .ok (.iload 5, 2) := by decide +kernel
theorem dX2_giveAll_26 : decode cX2_giveAll 26 = .ok (.aload_n 1, 1) := by decide +kernel
theorem dX2_giveAll_27 : decode cX2_giveAll 27 = .ok (.invokevirtual 28, 3) := by decide +kernel
theorem dX2_giveAll_30 : decode cX2_giveAll 30 = .ok (.if_icmp .ge 27, 3) := by decide +kernel
theorem dX2_giveAll_33 : decode cX2_giveAll 33 = .ok (.aload_n 0, 1) := by decide +kernel
theorem dX2_giveAll_34 : decode cX2_giveAll 34 = .ok (.getfield 9, 3) := by decide +kernel
theorem dX2_giveAll_37 : decode cX2_giveAll 37 = .ok (.iload 5, 2) := by decide +kernel
theorem dX2_giveAll_39 : decode cX2_giveAll 39 = .ok (.iconst 1, 1) := by decide +kernel
theorem dX2_giveAll_40 : decode cX2_giveAll 40 = .ok (.aload_n 0, 1) := by decide +kernel
theorem dX2_giveAll_41 : decode cX2_giveAll 41 = .ok (.invokevirtual 32, 3) := by decide +kernel
theorem dX2_giveAll_44 : decode cX2_giveAll 44 = .ok (.aload_n 1, 1) := by decide +kernel
theorem dX2_giveAll_45 : decode cX2_giveAll 45 = .ok (.getfield 25, 3) := by decide +kernel
theorem dX2_giveAll_48 : decode cX2_giveAll 48 = .ok (.irem, 1) := by decide +kernel
theorem dX2_giveAll_49 : decode cX2_giveAll 49 = .ok (.iadd, 1) := by decide +kernel
theorem dX2_giveAll_50 : decode cX2_giveAll 50 = .ok (.iastore, 1) := by decide +kernel
theorem dX2_giveAll_51 : decode cX2_giveAll 51 = .ok (.iinc 5 1, 3) := by decide +kernel
theorem dX2_giveAll_54 : decode cX2_giveAll 54 = .ok (.goto (-30), 3) := by decide +kernel
theorem dX2_giveAll_57 : decode cX2_giveAll 57 = .ok (.aload_n 3, 1) := by decide +kernel
theorem dX2_giveAll_58 : decode cX2_giveAll 58 = .ok (.aload_n 1, 1) := by decide +kernel
theorem dX2_giveAll_59 : decode cX2_giveAll 59 = .ok (.aload_n 0, 1) := by decide +kernel
theorem dX2_giveAll_60 : decode cX2_giveAll 60 = .ok (.getfield 9, 3) := by decide +kernel
theorem dX2_giveAll_63 : decode cX2_giveAll 63 = .ok (.invokevirtual 35, 3) := by decide +kernel
theorem dX2_giveAll_66 : decode cX2_giveAll 66 = .ok (.ifCond .ne 5, 3) := by decide +kernel
theorem dX2_giveAll_69 : decode cX2_giveAll 69 = .ok (.iconst 0, 1) := by decide +kernel
theorem dX2_giveAll_70 : decode cX2_giveAll 70 = .ok (.ireturn, 1) := by decide +kernel
theorem dX2_giveAll_71 : decode cX2_giveAll 71 = .ok (.iconst 0, 1) := by decide +kernel
theorem dX2_giveAll_72 : decode cX2_giveAll 72 = .ok (.istore 5, 2) := by decide +kernel
theorem dX2_giveAll_74 : decode cX2_giveAll 74 = .ok (.iload 5, 2) := by decide +kernel
theorem dX2_giveAll_76 : decode cX2_giveAll 76 = .ok (.aload_n 1, 1) := by decide +kernel
theorem dX2_giveAll_77 : decode cX2_giveAll 77 = .ok (.invokevirtual 28, 3) := by decide +kernel
theorem dX2_giveAll_80 : decode cX2_giveAll 80 = .ok (.if_icmp .ge 24, 3) := by decide +kernel
theorem dX2_giveAll_83 : decode cX2_giveAll 83 = .ok (.aload_n 1, 1) := by decide +kernel
theorem dX2_giveAll_84 : decode cX2_giveAll 84 = .ok (.iload 5, 2) := by decide +kernel
theorem dX2_giveAll_86 : decode cX2_giveAll 86 = .ok (.aload_n 3, 1) := by decide +kernel
theorem dX2_giveAll_87 : decode cX2_giveAll 87 = .ok (.getfield 41, 3) := by decide +kernel
theorem dX2_giveAll_90 : decode cX2_giveAll 90 = .ok (.iconst 0, 1) := by decide +kernel
theorem dX2_giveAll_91 : decode cX2_giveAll 91 = .ok (.aaload, 1) := by decide +kernel
theorem dX2_giveAll_92 : decode cX2_giveAll 92 = .ok (.iload 5, 2) := by decide +kernel
theorem dX2_giveAll_94 : decode cX2_giveAll 94 = .ok (.iaload, 1) := by decide +kernel
theorem dX2_giveAll_95 : decode cX2_giveAll 95 = .ok (.invokevirtual 45, 3) := by decide +kernel
theorem dX2_giveAll_98 : decode cX2_giveAll 98 = .ok (.iinc 5 1, 3) := by decide +kernel
theorem dX2_giveAll_101 : decode cX2_giveAll 101 = .ok (.goto (-27), 3) := by decide +kernel
theorem dX2_giveAll_104 : decode cX2_giveAll 104 = .ok (.iconst 1, 1) := by decide +kernel
theorem dX2_giveAll_105 : decode cX2_giveAll 105 = .ok (.ireturn, 1) := by decide +kernel
theorem dX2_dropGivens_0 : decode cX2_dropGivens 0 = .ok (.aload_n 1, 1) := by decide +kernel
theorem dX2_dropGivens_1 : decode cX2_dropGivens 1 = .ok (.invokevirtual 28, 3) := by decide +kernel
theorem dX2_dropGivens_4 : decode cX2_dropGivens 4 = .ok (.istore_n 3, 1) := by decide +kernel
theorem dX2_dropGivens_5 : decode cX2_dropGivens 5 = .ok (.iload_n 3, 1) := by decide +kernel
theorem dX2_dropGivens_6 : decode cX2_dropGivens 6 = .ok (.iconst 1, 1) := by decide +kernel
theorem dX2_dropGivens_7 : decode cX2_dropGivens 7 = .ok (.if_icmp .ge 4, 3) := by decide +kernel
theorem dX2_dropGivens_10 : decode cX2_dropGivens 10 = .ok (.return_, 1) := by decide +kernel
theorem dX2_dropGivens_11 : decode cX2_dropGivens 11 = .ok (.aload_n 0, 1) := by decide +kernel
theorem dX2_dropGivens_12 : decode cX2_dropGivens 12 = .ok (.invokevirtual 32, 3) := by decide +kernel
theorem dX2_dropGivens_15 : decode cX2_dropGivens 15 = .ok (.iload_n 3, 1) := by decide +kernel
theorem dX2_dropGivens_16 : decode cX2_dropGivens 16 = .ok (.irem, 1) := by decide +kernel
theorem dX2_dropGivens_17 : decode cX2_dropGivens 17 = .ok (.istore 4, 2) := by decide +kernel
theorem dX2_dropGivens_19 : decode cX2_dropGivens 19 = .ok (.iconst 0, 1) := by decide +kernel
theorem dX2_dropGivens_20 : decode cX2_dropGivens 20 = .ok (.istore 5, 2) := by decide +kernel
theorem dX2_dropGivens_22 : decode cX2_dropGivens 22 = .ok (.iload 5, 2) := by decide +kernel
theorem dX2_dropGivens_24 : decode cX2_dropGivens 24 = .ok (.iload_n 3, 1) := by decide +kernel
theorem dX2_dropGivens_25 : decode cX2_dropGivens 25 = .ok (.if_icmp .ge 48, 3) := by decide +kernel
theorem dX2_dropGivens_28 : decode cX2_dropGivens 28 = .ok (.aload_n 1, 1) := by decide +kernel
theorem dX2_dropGivens_29 : decode cX2_dropGivens 29 = .ok (.iload 4, 2) := by decide +kernel
theorem dX2_dropGivens_31 : decode cX2_dropGivens 31 = .ok (.invokevirtual 49, 3) := by decide +kernel
theorem dX2_dropGivens_34 : decode cX2_dropGivens 34 = .ok (.istore 6, 2) := by decide +kernel
theorem dX2_dropGivens_36 : decode cX2_dropGivens 36 = .ok (.iload 6, 2) := by decide +kernel
theorem dX2_dropGivens_38 : decode cX2_dropGivens 38 = .ok (.iconst (-1), 1) := by decide +kernel
theorem dX2_dropGivens_39 : decode cX2_dropGivens 39 = .ok (.if_icmp .eq 19, 3) := by decide +kernel
theorem dX2_dropGivens_42 : decode cX2_dropGivens 42 = .ok (.aload_n 2, 1) := by decide +kernel
theorem dX2_dropGivens_43 : decode cX2_dropGivens 43 = .ok (.aload_n 1, 1) := by decide +kernel
theorem dX2_dropGivens_44 : decode cX2_dropGivens 44 = .ok (.iload 6, 2) := by decide +kernel
theorem dX2_dropGivens_46 : decode cX2_dropGivens 46 = .ok (.invokevirtual 53, 3) := by decide +kernel
theorem dX2_dropGivens_49 : decode cX2_dropGivens 49 = .ok (.ifCond .eq 9, 3) := by decide +kernel
theorem dX2_dropGivens_52 : decode cX2_dropGivens 52 = .ok (.aload_n 1, 1) := by decide +kernel
theorem dX2_dropGivens_53 : decode cX2_dropGivens 53 = .ok (.iload 6, 2) := by decide +kernel
theorem dX2_dropGivens_55 : decode cX2_dropGivens 55 = .ok (.invokevirtual 57, 3) := by decide +kernel
theorem dX2_dropGivens_58 : decode cX2_dropGivens 58 = .ok (.iload 4, 2) := by decide +kernel
theorem dX2_dropGivens_60 : decode cX2_dropGivens 60 = .ok (.bipush 7, 2) := by decide +kernel
theorem dX2_dropGivens_62 : decode cX2_dropGivens 62 = .ok (.iadd, 1) := by decide +kernel
theorem dX2_dropGivens_63 : decode cX2_dropGivens 63 = .ok (.iload_n 3, 1) := by decide +kernel
theorem dX2_dropGivens_64 : decode cX2_dropGivens 64 = .ok (.irem, 1) := by decide +kernel
theorem dX2_dropGivens_65 : decode cX2_dropGivens 65 = .ok (.istore 4, 2) := by decide +kernel
theorem dX2_dropGivens_67 : decode cX2_dropGivens 67 = .ok (.iinc 5 1, 3) := by decide +kernel
theorem dX2_dropGivens_70 : decode cX2_dropGivens 70 = .ok (.goto (-48), 3) := by decide +kernel
theorem dX2_dropGivens_73 : decode cX2_dropGivens 73 = .ok (.return_, 1) := by decide +kernel
theorem dX2_draw_0 : decode cX2_draw 0 = .ok (.aload_n 0, 1) := by decide +kernel
theorem dX2_draw_1 : decode cX2_draw 1 = .ok (.aload_n 0, 1) := by decide +kernel
theorem dX2_draw_2 : decode cX2_draw 2 = .ok (.getfield 15, 3) := by decide +kernel
theorem dX2_draw_5 : decode cX2_draw 5 = .ok (.sipush 1103, 3) := by decide +kernel
theorem dX2_draw_8 : decode cX2_draw 8 = .ok (.imul, 1) := by decide +kernel
theorem dX2_draw_9 : decode cX2_draw 9 = .ok (.sipush 12345, 3) := by decide +kernel
theorem dX2_draw_12 : decode cX2_draw 12 = .ok (.iadd, 1) := by decide +kernel
theorem dX2_draw_13 : decode cX2_draw 13 = .ok (.ldc 61, 2) := by decide +kernel
theorem dX2_draw_15 : decode cX2_draw 15 = .ok (.irem, 1) := by decide +kernel
theorem dX2_draw_16 : decode cX2_draw 16 = .ok (.putfield 15, 3) := by decide +kernel
theorem dX2_draw_19 : decode cX2_draw 19 = .ok (.aload_n 0, 1) := by decide +kernel
theorem dX2_draw_20 : decode cX2_draw 20 = .ok (.getfield 15, 3) := by decide +kernel
theorem dX2_draw_23 : decode cX2_draw 23 = .ok (.bipush 16, 2) := by decide +kernel
theorem dX2_draw_25 : decode cX2_draw 25 = .ok (.idiv, 1) := by decide +kernel
theorem dX2_draw_26 : decode cX2_draw 26 = .ok (.ireturn, 1) := by decide +kernel
theorem dX3_init_0 : decode cX3_init 0 = .ok (.aload_n 0, 1) := by decide +kernel
theorem dX3_init_1 : decode cX3_init 1 = .ok (.invokespecial 3, 3) := by decide +kernel
theorem dX3_init_4 : decode cX3_init 4 = .ok (.aload_n 0, 1) := by decide +kernel
theorem dX3_init_5 : decode cX3_init 5 = .ok (.sipush 1980, 3) := by decide +kernel
theorem dX3_init_8 : decode cX3_init 8 = .ok (.newarray .int, 2) := by decide +kernel
theorem dX3_init_10 : decode cX3_init 10 = .ok (.putfield 9, 3) := by decide +kernel
theorem dX3_init_13 : decode cX3_init 13 = .ok (.return_, 1) := by decide +kernel
theorem dX3_show_0 : decode cX3_show 0 = .ok (.aload_n 0, 1) := by decide +kernel
theorem dX3_show_1 : decode cX3_show 1 = .ok (.iconst 0, 1) := by decide +kernel
theorem dX3_show_2 : decode cX3_show 2 = .ok (.putfield 15, 3) := by decide +kernel
theorem dX3_show_5 : decode cX3_show 5 = .ok (.aload_n 0, 1) := by decide +kernel
theorem dX3_show_6 : decode cX3_show 6 = .ok (.ldc 19, 2) := by decide +kernel
theorem dX3_show_8 : decode cX3_show 8 = .ok (.invokevirtual 21, 3) := by decide +kernel
theorem dX3_show_11 : decode cX3_show 11 = .ok (.aload_n 0, 1) := by decide +kernel
theorem dX3_show_12 : decode cX3_show 12 = .ok (.aload_n 1, 1) := by decide +kernel
theorem dX3_show_13 : decode cX3_show 13 = .ok (.getfield 25, 3) := by decide +kernel
theorem dX3_show_16 : decode cX3_show 16 = .ok (.invokevirtual 30, 3) := by decide +kernel
theorem dX3_show_19 : decode cX3_show 19 = .ok (.aload_n 0, 1) := by decide +kernel
theorem dX3_show_20 : decode cX3_show 20 = .ok (.aload_n 1, 1) := by decide +kernel
theorem dX3_show_21 : decode cX3_show 21 = .ok (.getfield 34, 3) := by decide +kernel
theorem dX3_show_24 : decode cX3_show 24 = .ok (.invokevirtual 30, 3) := by decide +kernel
theorem dX3_show_27 : decode cX3_show 27 = .ok (.aload_n 0, 1) := by decide +kernel
theorem dX3_show_28 : decode cX3_show 28 = .ok (.aload_n 1, 1) := by decide +kernel
theorem dX3_show_29 : decode cX3_show 29 = .ok (.getfield 37, 3) := by decide +kernel
theorem dX3_show_32 : decode cX3_show 32 = .ok (.invokevirtual 30, 3) := by decide +kernel
theorem dX3_show_35 : decode cX3_show 35 = .ok (.aload_n 0, 1) := by decide +kernel
theorem dX3_show_36 : decode cX3_show 36 = .ok (.bipush 59, 2) := by decide +kernel
theorem dX3_show_38 : decode cX3_show 38 = .ok (.invokevirtual 40, 3) := by decide +kernel
theorem dX3_show_41 : decode cX3_show 41 = .ok (.iconst 0, 1) := by decide +kernel
theorem dX3_show_42 : decode cX3_show 42 = .ok (.istore_n 2, 1) := by decide +kernel
theorem dX3_show_43 : decode cX3_show 43 = .ok (.iload_n 2, 1) := by decide +kernel
theorem dX3_show_44 : decode cX3_show 44 = .ok (.aload_n 1, 1) := by decide +kernel
theorem dX3_show_45 : decode cX3_show 45 = .ok (.getfield 43, 3) := by decide +kernel
theorem dX3_show_48 : decode cX3_show 48 = .ok (.if_icmp .ge 29, 3) := by decide +kernel
theorem dX3_show_51 : decode cX3_show 51 = .ok (.aload_n 0, 1) := by decide +kernel
theorem dX3_show_52 : decode cX3_show 52 = .ok (.aload_n 1, 1) := by decide +kernel
theorem dX3_show_53 : decode cX3_show 53 = .ok (.getfield 46, 3) := by decide +kernel
theorem dX3_show_56 : decode cX3_show 56 = .ok (.iload_n 2, 1) := by decide +kernel
theorem dX3_show_57 : decode cX3_show 57 = .ok (.aaload, 1) := by decide +kernel
theorem dX3_show_58 : decode cX3_show 58 = .ok (.aload_n 1, 1) := by decide +kernel
theorem dX3_show_59 : decode cX3_show 59 = .ok (.getfield 25, 3) := by decide +kernel
theorem dX3_show_62 : decode cX3_show 62 = .ok (.invokevirtual 50, 3) := by decide +kernel
theorem dX3_show_65 : decode cX3_show 65 = .ok (.aload_n 0, 1) := by decide +kernel
theorem dX3_show_66 : decode cX3_show 66 = .ok (.bipush 59, 2) := by decide +kernel
theorem dX3_show_68 : decode cX3_show 68 = .ok (.invokevirtual 40, 3) := by decide +kernel
theorem dX3_show_71 : decode cX3_show 71 = .ok (.iinc 2 1, 3) := by decide +kernel
theorem dX3_show_74 : decode cX3_show 74 = .ok (.goto (-31), 3) := by decide +kernel
theorem dX3_show_77 : decode cX3_show 77 = .ok (.return_, 1) := by decide +kernel
theorem dX3_addRule_0 : decode cX3_addRule 0 = .ok (.aload_n 0, 1) := by decide +kernel
theorem dX3_addRule_1 : decode cX3_addRule 1 = .ok (.aload_n 1, 1) := by decide +kernel
theorem dX3_addRule_2 : decode cX3_addRule 2 = .ok (.getfield 54, 3) := by decide +kernel
theorem dX3_addRule_5 : decode cX3_addRule 5 = .ok (.getfield 60, 3) := by decide +kernel
theorem dX3_addRule_8 : decode cX3_addRule 8 = .ok (.invokevirtual 21, 3) := by decide +kernel
theorem dX3_addRule_11 : decode cX3_addRule 11 = .ok (.aload_n 1, 1) := by decide +kernel
theorem dX3_addRule_12 : decode cX3_addRule 12 = .ok (.getfield 54, 3) := by decide +kernel
theorem dX3_addRule_15 : decode cX3_addRule 15 = .ok (.getfield 66, 3) := by decide +kernel
theorem dX3_addRule_18 : decode cX3_addRule 18 = .ok (.ifCond .le 11, 3) := by decide +kernel
theorem dX3_addRule_21 : decode cX3_addRule 21 = .ok (.aload_n 0, 1) := by decide +kernel
theorem dX3_addRule_22 : decode cX3_addRule 22 = .ok (.aload_n 1, 1) := by decide +kernel
theorem dX3_addRule_23 : decode cX3_addRule 23 = .ok (.getfield 69, 3) := by decide +kernel
theorem dX3_addRule_26 : decode cX3_addRule 26 = .ok (.invokevirtual 30, 3) := by decide +kernel
theorem dX3_addRule_29 : decode cX3_addRule 29 = .ok (.aload_n 1, 1) := by decide +kernel
theorem dX3_addRule_30 : decode cX3_addRule 30 = .ok (.getfield 54, 3) := by decide +kernel
theorem dX3_addRule_33 : decode cX3_addRule 33 = .ok (.getfield 66, 3) := by decide +kernel
theorem dX3_addRule_36 : decode cX3_addRule 36 = .ok (.iconst 1, 1) := by decide +kernel
theorem dX3_addRule_37 : decode cX3_addRule 37 = .ok (.if_icmp .le 11, 3) := by decide +kernel
theorem dX3_addRule_40 : decode cX3_addRule 40 = .ok (.aload_n 0, 1) := by decide +kernel
theorem dX3_addRule_41 : decode cX3_addRule 41 = .ok (.aload_n 1, 1) := by decide +kernel
theorem dX3_addRule_42 : decode cX3_addRule 42 = .ok (.getfield 72, 3) := by decide +kernel
theorem dX3_addRule_45 : decode cX3_addRule 45 = .ok (.invokevirtual 30, 3) := by decide +kernel
theorem dX3_addRule_48 : decode cX3_addRule 48 = .ok (.iconst 0, 1) := by decide +kernel
theorem dX3_addRule_49 : decode cX3_addRule 49 = .ok (.istore_n 3, 1) := by decide +kernel
theorem dX3_addRule_50 : decode cX3_addRule 50 = .ok (.iload_n 3, 1) := by decide +kernel
theorem dX3_addRule_51 : decode cX3_addRule 51 = .ok (.aload_n 1, 1) := by decide +kernel
theorem dX3_addRule_52 : decode cX3_addRule 52 = .ok (.getfield 75, 3) := by decide +kernel
theorem dX3_addRule_55 : decode cX3_addRule 55 = .ok (.if_icmp .ge 20, 3) := by decide +kernel
theorem dX3_addRule_58 : decode cX3_addRule 58 = .ok (.aload_n 0, 1) := by decide +kernel
theorem dX3_addRule_59 : decode cX3_addRule 59 = .ok (.aload_n 1, 1) := by decide +kernel
theorem dX3_addRule_60 : decode cX3_addRule 60 = .ok (.getfield 78, 3) := by decide +kernel
theorem dX3_addRule_63 : decode cX3_addRule 63 = .ok (.iload_n 3, 1) := by decide +kernel
theorem dX3_addRule_64 : decode cX3_addRule 64 = .ok (.iaload, 1) := by decide +kernel
theorem dX3_addRule_65 : decode cX3_addRule 65 = .ok (.iload_n 2, 1) := by decide +kernel
theorem dX3_addRule_66 : decode cX3_addRule 66 = .ok (.invokevirtual 81, 3) := by decide +kernel
theorem dX3_addRule_69 : decode cX3_addRule 69 = .ok (.iinc 3 1, 3) := by decide +kernel
theorem dX3_addRule_72 : decode cX3_addRule 72 = .ok (.goto (-22), 3) := by decide +kernel
theorem dX3_addRule_75 : decode cX3_addRule 75 = .ok (.aload_n 1, 1) := by decide +kernel
theorem dX3_addRule_76 : decode cX3_addRule 76 = .ok (.getfield 54, 3) := by decide +kernel
theorem dX3_addRule_79 : decode cX3_addRule 79 = .ok (.getstatic 85, 3) := by decide +kernel
theorem dX3_addRule_82 : decode cX3_addRule 82 = .ok (.if_acmp .ne 11, 3) := by decide +kernel
theorem dX3_addRule_85 : decode cX3_addRule 85 = .ok (.aload_n 0, 1) := by decide +kernel
theorem dX3_addRule_86 : decode cX3_addRule 86 = .ok (.aload_n 1, 1) := by decide +kernel
theorem dX3_addRule_87 : decode cX3_addRule 87 = .ok (.getfield 69, 3) := by decide +kernel
theorem dX3_addRule_90 : decode cX3_addRule 90 = .ok (.invokevirtual 30, 3) := by decide +kernel
theorem dX3_addRule_93 : decode cX3_addRule 93 = .ok (.return_, 1) := by decide +kernel
theorem dX3_addWord_0 : decode cX3_addWord 0 = .ok (.iconst 0, 1) := by decide +kernel
theorem dX3_addWord_1 : decode cX3_addWord 1 = .ok (.istore_n 2, 1) := by decide +kernel
theorem dX3_addWord_2 : decode cX3_addWord 2 = .ok (.iload_n 2, 1) := by decide +kernel
theorem dX3_addWord_3 : decode cX3_addWord 3 = .ok (.aload_n 1, 1) := by decide +kernel
theorem dX3_addWord_4 : decode cX3_addWord 4 = .ok (.invokevirtual 88, 3) := by decide +kernel
theorem dX3_addWord_7 : decode cX3_addWord 7 = .ok (.if_icmp .ge 18, 3) := by decide +kernel
theorem dX3_addWord_10 : decode cX3_addWord 10 = .ok (.aload_n 0, 1) := by decide +kernel
theorem dX3_addWord_11 : decode cX3_addWord 11 = .ok (.aload_n 1, 1) := by decide +kernel
theorem dX3_addWord_12 : decode cX3_addWord 12 = .ok (.iload_n 2, 1) := by decide +kernel
theorem dX3_addWord_13 : decode cX3_addWord 13 = .ok (.invokevirtual 93, 3) := by decide +kernel
theorem dX3_addWord_16 : decode cX3_addWord 16 = .ok (.invokevirtual 40, 3) := by decide +kernel
theorem dX3_addWord_19 : decode cX3_addWord 19 = .ok (.iinc 2 1, 3) := by decide +kernel
theorem dX3_addWord_22 : decode cX3_addWord 22 = .ok (.goto (-20), 3) := by decide +kernel
theorem dX3_addWord_25 : decode cX3_addWord 25 = .ok (.return_, 1) := by decide +kernel
theorem dX3_addNumber_0 : decode cX3_addNumber 0 = .ok (.aload_n 0, 1) := by decide +kernel
theorem dX3_addNumber_1 : decode cX3_addNumber 1 = .ok (.bipush 32, 2) := by decide +kernel
theorem dX3_addNumber_3 : decode cX3_addNumber 3 = .ok (.invokevirtual 40, 3) := by decide +kernel
theorem dX3_addNumber_6 : decode cX3_addNumber 6 = .ok (.sipush 1000, 3) := by decide +kernel
theorem dX3_addNumber_9 : decode cX3_addNumber 9 = .ok (.istore_n 2, 1) := by decide +kernel
theorem dX3_addNumber_10 : decode cX3_addNumber 10 = .ok (.iload_n 2, 1) := by decide +kernel
theorem dX3_addNumber_11 : decode cX3_addNumber 11 = .ok (.iconst 1, 1) := by decide +kernel
theorem dX3_addNumber_12 : decode cX3_addNumber 12 = .ok (.if_icmp .lt 34, 3) := by decide +kernel
theorem dX3_addNumber_15 : decode cX3_addNumber 15 = .ok (.iload_n 1, 1) := by decide +kernel
theorem dX3_addNumber_16 : decode cX3_addNumber 16 = .ok (.iload_n 2, 1) := by decide +kernel
theorem dX3_addNumber_17 : decode cX3_addNumber 17 = .ok (.if_icmp .ge 8, 3) := by decide +kernel
theorem dX3_addNumber_20 : decode cX3_addNumber 20 = .ok (.iload_n 2, 1) := by decide +kernel
theorem dX3_addNumber_21 : decode cX3_addNumber 21 = .ok (.iconst 1, 1) := by decide +kernel
theorem dX3_addNumber_22 : decode cX3_addNumber 22 = .ok (.if_icmp .ne 16, 3) := by decide +kernel
theorem dX3_addNumber_25 : decode cX3_addNumber 25 = .ok (.aload_n 0, 1) := by decide +kernel
theorem dX3_addNumber_26 : decode cX3_addNumber 26 = .ok (.bipush 48, 2) := by decide +kernel
theorem dX3_addNumber_28 : decode cX3_addNumber 28 = .ok (.iload_n 1, 1) := by decide +kernel
theorem dX3_addNumber_29 : decode cX3_addNumber 29 = .ok (.iload_n 2, 1) := by decide +kernel
theorem dX3_addNumber_30 : decode cX3_addNumber 30 = .ok (.idiv, 1) := by decide +kernel
theorem dX3_addNumber_31 : decode cX3_addNumber 31 = .ok (.bipush 10, 2) := by decide +kernel
theorem dX3_addNumber_33 : decode cX3_addNumber 33 = .ok (.irem, 1) := by decide +kernel
theorem dX3_addNumber_34 : decode cX3_addNumber 34 = .ok (.iadd, 1) := by decide +kernel
theorem dX3_addNumber_35 : decode cX3_addNumber 35 = .ok (.invokevirtual 40, 3) := by decide +kernel
theorem dX3_addNumber_38 : decode cX3_addNumber 38 = .ok (.iload_n 2, 1) := by decide +kernel
theorem dX3_addNumber_39 : decode cX3_addNumber 39 = .ok (.bipush 10, 2) := by decide +kernel
theorem dX3_addNumber_41 : decode cX3_addNumber 41 = .ok (.idiv, 1) := by decide +kernel
theorem dX3_addNumber_42 : decode cX3_addNumber 42 = .ok (.istore_n 2, 1) := by decide +kernel
theorem dX3_addNumber_43 : decode cX3_addNumber 43 = .ok (.goto (-33), 3) := by decide +kernel
theorem dX3_addNumber_46 : decode cX3_addNumber 46 = .ok (.return_, 1) := by decide +kernel
theorem dX3_addCell_0 : decode cX3_addCell 0 = .ok (.iload_n 2, 1) := by decide +kernel
theorem dX3_addCell_1 : decode cX3_addCell 1 = .ok (.ifCond .le 29, 3) := by decide +kernel
theorem dX3_addCell_4 : decode cX3_addCell 4 = .ok (.aload_n 0, 1) := by decide +kernel
theorem dX3_addCell_5 : decode cX3_addCell 5 = .ok (.bipush 32, 2) := by decide +kernel
theorem dX3_addCell_7 : decode cX3_addCell 7 = .ok (.invokevirtual 40, 3) := by decide +kernel
theorem dX3_addCell_10 : decode cX3_addCell 10 = .ok (.aload_n 0, 1) := by decide +kernel
theorem dX3_addCell_11 : decode cX3_addCell 11 = .ok (.bipush 97, 2) := by decide +kernel
theorem dX3_addCell_13 : decode cX3_addCell 13 = .ok (.iload_n 1, 1) := by decide +kernel
theorem dX3_addCell_14 : decode cX3_addCell 14 = .ok (.iload_n 2, 1) := by decide +kernel
theorem dX3_addCell_15 : decode cX3_addCell 15 = .ok (.irem, 1) := by decide +kernel
theorem dX3_addCell_16 : decode cX3_addCell 16 = .ok (.iadd, 1) := by decide +kernel
theorem dX3_addCell_17 : decode cX3_addCell 17 = .ok (.invokevirtual 40, 3) := by decide +kernel
theorem dX3_addCell_20 : decode cX3_addCell 20 = .ok (.aload_n 0, 1) := by decide +kernel
theorem dX3_addCell_21 : decode cX3_addCell 21 = .ok (.bipush 49, 2) := by decide +kernel
theorem dX3_addCell_23 : decode cX3_addCell 23 = .ok (.iload_n 1, 1) := by decide +kernel
theorem dX3_addCell_24 : decode cX3_addCell 24 = .ok (.iload_n 2, 1) := by decide +kernel
theorem dX3_addCell_25 : decode cX3_addCell 25 = .ok (.idiv, 1) := by decide +kernel
theorem dX3_addCell_26 : decode cX3_addCell 26 = .ok (.iadd, 1) := by decide +kernel
theorem dX3_addCell_27 : decode cX3_addCell 27 = .ok (.invokevirtual 40, 3) := by decide +kernel
theorem dX3_addCell_30 : decode cX3_addCell 30 = .ok (.return_, 1) := by decide +kernel
theorem dX3_add_0 : decode cX3_add 0 = .ok (.aload_n 0, 1) := by decide +kernel
theorem dX3_add_1 : decode cX3_add 1 = .ok (.getfield 15, 3) := by decide +kernel
theorem dX3_add_4 : decode cX3_add 4 = .ok (.aload_n 0, 1) := by decide +kernel
theorem dX3_add_5 : decode cX3_add 5 = .ok (.getfield 9, 3) := by decide +kernel
theorem dX3_add_8 : decode cX3_add 8 = .ok (.arraylength, 1) := by decide +kernel
theorem dX3_add_9 : decode cX3_add 9 = .ok (.if_icmp .ge 23, 3) := by decide +kernel
theorem dX3_add_12 : decode cX3_add 12 = .ok (.aload_n 0, 1) := by decide +kernel
theorem dX3_add_13 : decode cX3_add 13 = .ok (.getfield 9, 3) := by decide +kernel
theorem dX3_add_16 : decode cX3_add 16 = .ok (.aload_n 0, 1) := by decide +kernel
theorem dX3_add_17 : decode cX3_add 17 = .ok (.getfield 15, 3) := by decide +kernel
theorem dX3_add_20 : decode cX3_add 20 = .ok (.iload_n 1, 1) := by decide +kernel
theorem dX3_add_21 : decode cX3_add 21 = .ok (.iastore, 1) := by decide +kernel
theorem dX3_add_22 : decode cX3_add 22 = .ok (.aload_n 0, 1) := by decide +kernel
theorem dX3_add_23 : decode cX3_add 23 = .ok (.dup, 1) := by decide +kernel
theorem dX3_add_24 : decode cX3_add 24 = .ok (.getfield 15, 3) := by decide +kernel
theorem dX3_add_27 : decode cX3_add 27 = .ok (.iconst 1, 1) := by decide +kernel
theorem dX3_add_28 : decode cX3_add 28 = .ok (.iadd, 1) := by decide +kernel
theorem dX3_add_29 : decode cX3_add 29 = .ok (.putfield 15, 3) := by decide +kernel
theorem dX3_add_32 : decode cX3_add 32 = .ok (.return_, 1) := by decide +kernel
theorem dX4_init_0 : decode cX4_init 0 = .ok (.aload_n 0, 1) := by decide +kernel
theorem dX4_init_1 : decode cX4_init 1 = .ok (.invokespecial 3, 3) := by decide +kernel
theorem dX4_init_4 : decode cX4_init 4 = .ok (.aload_n 0, 1) := by decide +kernel
theorem dX4_init_5 : decode cX4_init 5 = .ok (.bipush 25, 2) := by decide +kernel
theorem dX4_init_7 : decode cX4_init 7 = .ok (.newarray .int, 2) := by decide +kernel
theorem dX4_init_9 : decode cX4_init 9 = .ok (.putfield 9, 3) := by decide +kernel
theorem dX4_init_12 : decode cX4_init 12 = .ok (.aload_n 0, 1) := by decide +kernel
theorem dX4_init_13 : decode cX4_init 13 = .ok (.bipush 65, 2) := by decide +kernel
theorem dX4_init_15 : decode cX4_init 15 = .ok (.anewarray 15, 3) := by decide +kernel
theorem dX4_init_18 : decode cX4_init 18 = .ok (.putfield 17, 3) := by decide +kernel
theorem dX4_init_21 : decode cX4_init 21 = .ok (.aload_n 0, 1) := by decide +kernel
theorem dX4_init_22 : decode cX4_init 22 = .ok (.bipush 25, 2) := by decide +kernel
theorem dX4_init_24 : decode cX4_init 24 = .ok (.newarray .int, 2) := by decide +kernel
theorem dX4_init_26 : decode cX4_init 26 = .ok (.putfield 21, 3) := by decide +kernel
theorem dX4_init_29 : decode cX4_init 29 = .ok (.iconst 0, 1) := by decide +kernel
theorem dX4_init_30 : decode cX4_init 30 = .ok (.istore_n 1, 1) := by decide +kernel
theorem dX4_init_31 : decode cX4_init 31 = .ok (.iload_n 1, 1) := by decide +kernel
theorem dX4_init_32 : decode cX4_init 32 = .ok (.aload_n 0, 1) := by decide +kernel
theorem dX4_init_33 : decode cX4_init 33 = .ok (.getfield 17, 3) := by decide +kernel
theorem dX4_init_36 : decode cX4_init 36 = .ok (.arraylength, 1) := by decide +kernel
theorem dX4_init_37 : decode cX4_init 37 = .ok (.if_icmp .ge 22, 3) := by decide +kernel
theorem dX4_init_40 : decode cX4_init 40 = .ok (.aload_n 0, 1) := by decide +kernel
theorem dX4_init_41 : decode cX4_init 41 = .ok (.getfield 17, 3) := by decide +kernel
theorem dX4_init_44 : decode cX4_init 44 = .ok (.iload_n 1, 1) := by decide +kernel
theorem dX4_init_45 : decode cX4_init 45 = .ok (.new 15, 3) := by decide +kernel
theorem dX4_init_48 : decode cX4_init 48 = .ok (.dup, 1) := by decide +kernel
theorem dX4_init_49 : decode cX4_init 49 = .ok (.invokespecial 24, 3) := by decide +kernel
theorem dX4_init_52 : decode cX4_init 52 = .ok (.aastore, 1) := by decide +kernel
theorem dX4_init_53 : decode cX4_init 53 = .ok (.iinc 1 1, 3) := by decide +kernel
theorem dX4_init_56 : decode cX4_init 56 = .ok (.goto (-25), 3) := by decide +kernel
theorem dX4_init_59 : decode cX4_init 59 = .ok (.return_, 1) := by decide +kernel
theorem dX4_begin_0 : decode cX4_begin 0 = .ok (.aload_n 0, 1) := by decide +kernel
theorem dX4_begin_1 : decode cX4_begin 1 = .ok (.iload_n 1, 1) := by decide +kernel
theorem dX4_begin_2 : decode cX4_begin 2 = .ok (.putfield 25, 3) := by decide +kernel
theorem dX4_begin_5 : decode cX4_begin 5 = .ok (.aload_n 0, 1) := by decide +kernel
theorem dX4_begin_6 : decode cX4_begin 6 = .ok (.iload_n 2, 1) := by decide +kernel
theorem dX4_begin_7 : decode cX4_begin 7 = .ok (.putfield 29, 3) := by decide +kernel
theorem dX4_begin_10 : decode cX4_begin 10 = .ok (.aload_n 0, 1) := by decide +kernel
theorem dX4_begin_11 : decode cX4_begin 11 = .ok (.iload_n 3, 1) := by decide +kernel
theorem dX4_begin_12 : decode cX4_begin 12 = .ok (.putfield 32, 3) := by decide +kernel
theorem dX4_begin_15 : decode cX4_begin 15 = .ok (.aload_n 0, 1) := by decide +kernel
theorem dX4_begin_16 : decode cX4_begin 16 = .ok (.iconst 0, 1) := by decide +kernel
theorem dX4_begin_17 : decode cX4_begin 17 = .ok (.putfield 35, 3) := by decide +kernel
theorem dX4_begin_20 : decode cX4_begin 20 = .ok (.aload_n 0, 1) := by decide +kernel
theorem dX4_begin_21 : decode cX4_begin 21 = .ok (.invokevirtual 38, 3) := by decide +kernel
theorem dX4_begin_24 : decode cX4_begin 24 = .ok (.return_, 1) := by decide +kernel
theorem dX4_isThere_0 : decode cX4_isThere 0 = .ok (.aload_n 0, 1) := by decide +kernel
theorem dX4_isThere_1 : decode cX4_isThere 1 = .ok (.getfield 25, 3) := by decide +kernel
theorem dX4_isThere_4 : decode cX4_isThere 4 = .ok (.ifCond .le 7, 3) := by decide +kernel
theorem dX4_isThere_7 : decode cX4_isThere 7 = .ok (.iconst 1, 1) := by decide +kernel
theorem dX4_isThere_8 : decode cX4_isThere 8 = .ok (.goto 4, 3) := by decide +kernel
theorem dX4_isThere_11 : decode cX4_isThere 11 = .ok (.iconst 0, 1) := by decide +kernel
theorem dX4_isThere_12 : decode cX4_isThere 12 = .ok (.ireturn, 1) := by decide +kernel
theorem dX4_cellCount_0 : decode cX4_cellCount 0 = .ok (.aload_n 0, 1) := by decide +kernel
theorem dX4_cellCount_1 : decode cX4_cellCount 1 = .ok (.getfield 25, 3) := by decide +kernel
theorem dX4_cellCount_4 : decode cX4_cellCount 4 = .ok (.aload_n 0, 1) := by decide +kernel
theorem dX4_cellCount_5 : decode cX4_cellCount 5 = .ok (.getfield 29, 3) := by decide +kernel
theorem dX4_cellCount_8 : decode cX4_cellCount 8 = .ok (.imul, 1) := by decide +kernel
theorem dX4_cellCount_9 : decode cX4_cellCount 9 = .ok (.ireturn, 1) := by decide +kernel
theorem dX4_emptyGrid_0 : decode cX4_emptyGrid 0 = .ok (.iconst 0, 1) := by decide +kernel
theorem dX4_emptyGrid_1 : decode cX4_emptyGrid 1 = .ok (.istore_n 1, 1) := by decide +kernel
theorem dX4_emptyGrid_2 : decode cX4_emptyGrid 2 = .ok (.iload_n 1, 1) := by decide +kernel
theorem dX4_emptyGrid_3 : decode cX4_emptyGrid 3 = .ok (.aload_n 0, 1) := by decide +kernel
theorem dX4_emptyGrid_4 : decode cX4_emptyGrid 4 = .ok (.getfield 9, 3) := by decide +kernel
theorem dX4_emptyGrid_7 : decode cX4_emptyGrid 7 = .ok (.arraylength, 1) := by decide +kernel
theorem dX4_emptyGrid_8 : decode cX4_emptyGrid 8 = .ok (.if_icmp .ge 16, 3) := by decide +kernel
theorem dX4_emptyGrid_11 : decode cX4_emptyGrid 11 = .ok (.aload_n 0, 1) := by decide +kernel
theorem dX4_emptyGrid_12 : decode cX4_emptyGrid 12 = .ok (.getfield 9, 3) := by decide +kernel
theorem dX4_emptyGrid_15 : decode cX4_emptyGrid 15 = .ok (.iload_n 1, 1) := by decide +kernel
theorem dX4_emptyGrid_16 : decode cX4_emptyGrid 16 = .ok (.iconst 0, 1) := by decide +kernel
theorem dX4_emptyGrid_17 : decode cX4_emptyGrid 17 = .ok (.iastore, 1) := by decide +kernel
theorem dX4_emptyGrid_18 : decode cX4_emptyGrid 18 = .ok (.iinc 1 1, 3) := by decide +kernel
theorem dX4_emptyGrid_21 : decode cX4_emptyGrid 21 = .ok (.goto (-19), 3) := by decide +kernel
theorem dX4_emptyGrid_24 : decode cX4_emptyGrid 24 = .ok (.return_, 1) := by decide +kernel
theorem dX4_addRule_0 : decode cX4_addRule 0 = .ok (.aload_n 0, 1) := by decide +kernel
theorem dX4_addRule_1 : decode cX4_addRule 1 = .ok (.getfield 35, 3) := by decide +kernel
theorem dX4_addRule_4 : decode cX4_addRule 4 = .ok (.aload_n 0, 1) := by decide +kernel
theorem dX4_addRule_5 : decode cX4_addRule 5 = .ok (.getfield 17, 3) := by decide +kernel
theorem dX4_addRule_8 : decode cX4_addRule 8 = .ok (.arraylength, 1) := by decide +kernel
theorem dX4_addRule_9 : decode cX4_addRule 9 = .ok (.if_icmp .ge 10, 3) := by decide +kernel
theorem dX4_addRule_12 : decode cX4_addRule 12 = .ok (.aload_n 0, 1) := by decide +kernel
theorem dX4_addRule_13 : decode cX4_addRule 13 = .ok (.getfield 35, 3) := by decide +kernel
theorem dX4_addRule_16 : decode cX4_addRule 16 = .ok (.goto 10, 3) := by decide +kernel
theorem dX4_addRule_19 : decode cX4_addRule 19 = .ok (.aload_n 0, 1) := by decide +kernel
theorem dX4_addRule_20 : decode cX4_addRule 20 = .ok (.getfield 17, 3) := by decide +kernel
theorem dX4_addRule_23 : decode cX4_addRule 23 = .ok (.arraylength, 1) := by decide +kernel
theorem dX4_addRule_24 : decode cX4_addRule 24 = .ok (.iconst 1, 1) := by decide +kernel
theorem dX4_addRule_25 : decode cX4_addRule 25 = .ok (.isub, 1) := by decide +kernel
theorem dX4_addRule_26 : decode cX4_addRule 26 = .ok (.istore_n 2, 1) := by decide +kernel
theorem dX4_addRule_27 : decode cX4_addRule 27 = .ok (.aload_n 0, 1) := by decide +kernel
theorem dX4_addRule_28 : decode cX4_addRule 28 = .ok (.iload_n 2, 1) := by decide +kernel
theorem dX4_addRule_29 : decode cX4_addRule 29 = .ok (.iconst 1, 1) := by decide +kernel
theorem dX4_addRule_30 : decode cX4_addRule 30 = .ok (.iadd, 1) := by decide +kernel
theorem dX4_addRule_31 : decode cX4_addRule 31 = .ok (.putfield 35, 3) := by decide +kernel
theorem dX4_addRule_34 : decode cX4_addRule 34 = .ok (.aload_n 0, 1) := by decide +kernel
theorem dX4_addRule_35 : decode cX4_addRule 35 = .ok (.getfield 17, 3) := by decide +kernel
theorem dX4_addRule_38 : decode cX4_addRule 38 = .ok (.iload_n 2, 1) := by decide +kernel
theorem dX4_addRule_39 : decode cX4_addRule 39 = .ok (.aaload, 1) := by decide +kernel
theorem dX4_addRule_40 : decode cX4_addRule 40 = .ok (.aload_n 1, 1) := by decide +kernel
theorem dX4_addRule_41 : decode cX4_addRule 41 = .ok (.invokevirtual 41, 3) := by decide +kernel
theorem dX4_addRule_44 : decode cX4_addRule 44 = .ok (.aload_n 0, 1) := by decide +kernel
theorem dX4_addRule_45 : decode cX4_addRule 45 = .ok (.getfield 17, 3) := by decide +kernel
theorem dX4_addRule_48 : decode cX4_addRule 48 = .ok (.iload_n 2, 1) := by decide +kernel
theorem dX4_addRule_49 : decode cX4_addRule 49 = .ok (.aaload, 1) := by decide +kernel
theorem dX4_addRule_50 : decode cX4_addRule 50 = .ok (.areturn, 1) := by decide +kernel
theorem dX4_addRowRules_0 : decode cX4_addRowRules 0 = .ok (.iconst 0, 1) := by decide +kernel
theorem dX4_addRowRules_1 : decode cX4_addRowRules 1 = .ok (.istore_n 1, 1) := by decide +kernel
theorem dX4_addRowRules_2 : decode cX4_addRowRules 2 = .ok (.iload_n 1, 1) := by decide +kernel
theorem dX4_addRowRules_3 : decode cX4_addRowRules 3 = .ok (.aload_n 0, 1) := by decide +kernel
theorem dX4_addRowRules_4 : decode cX4_addRowRules 4 = .ok (.getfield 29, 3) := by decide +kernel
theorem dX4_addRowRules_7 : decode cX4_addRowRules 7 = .ok (.if_icmp .ge 45, 3) := by decide +kernel
theorem dX4_addRowRules_10 : decode cX4_addRowRules 10 = .ok (.aload_n 0, 1) := by decide +kernel
theorem dX4_addRowRules_11 : decode cX4_addRowRules 11 = .ok (.getstatic 45, 3) := by decide +kernel
theorem dX4_addRowRules_14 : decode cX4_addRowRules 14 = .ok (.invokevirtual 51, 3) := by decide +kernel
theorem dX4_addRowRules_17 : decode cX4_addRowRules 17 = .ok (.astore_n 2, 1) := by decide +kernel
theorem dX4_addRowRules_18 : decode cX4_addRowRules 18 = .ok (.iconst 0, 1) := by decide +kernel
theorem dX4_addRowRules_19 : decode cX4_addRowRules 19 = .ok (.istore_n 3, 1) := by decide +kernel
theorem dX4_addRowRules_20 : decode cX4_addRowRules 20 = .ok (.iload_n 3, 1) := by decide +kernel
theorem dX4_addRowRules_21 : decode cX4_addRowRules 21 = .ok (.aload_n 0, 1) := by decide +kernel
theorem dX4_addRowRules_22 : decode cX4_addRowRules 22 = .ok (.getfield 25, 3) := by decide +kernel
theorem dX4_addRowRules_25 : decode cX4_addRowRules 25 = .ok (.if_icmp .ge 21, 3) := by decide +kernel
theorem dX4_addRowRules_28 : decode cX4_addRowRules 28 = .ok (.aload_n 2, 1) := by decide +kernel
theorem dX4_addRowRules_29 : decode cX4_addRowRules 29 = .ok (.iload_n 3, 1) := by decide +kernel
theorem dX4_addRowRules_30 : decode cX4_addRowRules 30 = .ok (.aload_n 0, 1) := by decide +kernel
theorem dX4_addRowRules_31 : decode cX4_addRowRules 31 = .ok (.getfield 25, 3) := by decide +kernel
theorem dX4_addRowRules_34 : decode cX4_addRowRules 34 = .ok (.iload_n 1, 1) := by decide +kernel
theorem dX4_addRowRules_35 : decode cX4_addRowRules 35 = .ok (.imul, 1) := by decide +kernel
theorem dX4_addRowRules_36 : decode cX4_addRowRules 36 = .ok (.iadd, 1) := by decide +kernel
theorem dX4_addRowRules_37 : decode cX4_addRowRules 37 = .ok (.invokevirtual 55, 3) := by decide +kernel
theorem dX4_addRowRules_40 : decode cX4_addRowRules 40 = .ok (.iinc 3 1, 3) := by decide +kernel
theorem dX4_addRowRules_43 : decode cX4_addRowRules 43 = .ok (.goto (-23), 3) := by decide +kernel
theorem dX4_addRowRules_46 : decode cX4_addRowRules 46 = .ok (.iinc 1 1, 3) := by decide +kernel
theorem dX4_addRowRules_49 : decode cX4_addRowRules 49 = .ok (.goto (-47), 3) := by decide +kernel
theorem dX4_addRowRules_52 : decode cX4_addRowRules 52 = .ok (.return_, 1) := by decide +kernel
theorem dX4_addColumnRules_0 : decode cX4_addColumnRules 0 = .ok (.iconst 0, 1) := by decide +kernel
theorem dX4_addColumnRules_1 : decode cX4_addColumnRules 1 = .ok (.istore_n 1, 1) := by decide +kernel
theorem dX4_addColumnRules_2 : decode cX4_addColumnRules 2 = .ok (.iload_n 1, 1) := by decide +kernel
theorem dX4_addColumnRules_3 : decode cX4_addColumnRules 3 = .ok (.aload_n 0, 1) := by decide +kernel
theorem dX4_addColumnRules_4 : decode cX4_addColumnRules 4 = .ok (.getfield 25, 3) := by decide +kernel
theorem dX4_addColumnRules_7 : decode cX4_addColumnRules 7 = .ok (.if_icmp .ge 45, 3) := by decide +kernel
theorem dX4_addColumnRules_10 : decode cX4_addColumnRules 10 = .ok (.aload_n 0, 1) := by decide +kernel
theorem dX4_addColumnRules_11 : decode cX4_addColumnRules 11 = .ok (.getstatic 45, 3) := by decide +kernel
theorem dX4_addColumnRules_14 : decode cX4_addColumnRules 14 = .ok (.invokevirtual 51, 3) := by decide +kernel
theorem dX4_addColumnRules_17 : decode cX4_addColumnRules 17 = .ok (.astore_n 2, 1) := by decide +kernel
theorem dX4_addColumnRules_18 : decode cX4_addColumnRules 18 = .ok (.iconst 0, 1) := by decide +kernel
theorem dX4_addColumnRules_19 : decode cX4_addColumnRules 19 = .ok (.istore_n 3, 1) := by decide +kernel
theorem dX4_addColumnRules_20 : decode cX4_addColumnRules 20 = .ok (.iload_n 3, 1) := by decide +kernel
theorem dX4_addColumnRules_21 : decode cX4_addColumnRules 21 = .ok (.aload_n 0, 1) := by decide +kernel
theorem dX4_addColumnRules_22 : decode cX4_addColumnRules 22 = .ok (.getfield 29, 3) := by decide +kernel
theorem dX4_addColumnRules_25 : decode cX4_addColumnRules 25 = .ok (.if_icmp .ge 21, 3) := by decide +kernel
theorem dX4_addColumnRules_28 : decode cX4_addColumnRules 28 = .ok (.aload_n 2, 1) := by decide +kernel
theorem dX4_addColumnRules_29 : decode cX4_addColumnRules 29 = .ok (.iload_n 1, 1) := by decide +kernel
theorem dX4_addColumnRules_30 : decode cX4_addColumnRules 30 = .ok (.aload_n 0, 1) := by decide +kernel
theorem dX4_addColumnRules_31 : decode cX4_addColumnRules 31 = .ok (.getfield 25, 3) := by decide +kernel
theorem dX4_addColumnRules_34 : decode cX4_addColumnRules 34 = .ok (.iload_n 3, 1) := by decide +kernel
theorem dX4_addColumnRules_35 : decode cX4_addColumnRules 35 = .ok (.imul, 1) := by decide +kernel
theorem dX4_addColumnRules_36 : decode cX4_addColumnRules 36 = .ok (.iadd, 1) := by decide +kernel
theorem dX4_addColumnRules_37 : decode cX4_addColumnRules 37 = .ok (.invokevirtual 55, 3) := by decide +kernel
theorem dX4_addColumnRules_40 : decode cX4_addColumnRules 40 = .ok (.iinc 3 1, 3) := by decide +kernel
theorem dX4_addColumnRules_43 : decode cX4_addColumnRules 43 = .ok (.goto (-23), 3) := by decide +kernel
theorem dX4_addColumnRules_46 : decode cX4_addColumnRules 46 = .ok (.iinc 1 1, 3) := by decide +kernel
theorem dX4_addColumnRules_49 : decode cX4_addColumnRules 49 = .ok (.goto (-47), 3) := by decide +kernel
theorem dX4_addColumnRules_52 : decode cX4_addColumnRules 52 = .ok (.return_, 1) := by decide +kernel
theorem dX4_addGiven_0 : decode cX4_addGiven 0 = .ok (.aload_n 0, 1) := by decide +kernel
theorem dX4_addGiven_1 : decode cX4_addGiven 1 = .ok (.getstatic 59, 3) := by decide +kernel
theorem dX4_addGiven_4 : decode cX4_addGiven 4 = .ok (.invokevirtual 51, 3) := by decide +kernel
theorem dX4_addGiven_7 : decode cX4_addGiven 7 = .ok (.astore_n 3, 1) := by decide +kernel
theorem dX4_addGiven_8 : decode cX4_addGiven 8 = .ok (.aload_n 3, 1) := by decide +kernel
theorem dX4_addGiven_9 : decode cX4_addGiven 9 = .ok (.iload_n 2, 1) := by decide +kernel
theorem dX4_addGiven_10 : decode cX4_addGiven 10 = .ok (.putfield 62, 3) := by decide +kernel
theorem dX4_addGiven_13 : decode cX4_addGiven 13 = .ok (.aload_n 3, 1) := by decide +kernel
theorem dX4_addGiven_14 : decode cX4_addGiven 14 = .ok (.iload_n 1, 1) := by decide +kernel
theorem dX4_addGiven_15 : decode cX4_addGiven 15 = .ok (.invokevirtual 55, 3) := by decide +kernel
theorem dX4_addGiven_18 : decode cX4_addGiven 18 = .ok (.return_, 1) := by decide +kernel
theorem dX4_removeRule_0 : decode cX4_removeRule 0 = .ok (.aload_n 0, 1) := by decide +kernel
theorem dX4_removeRule_1 : decode cX4_removeRule 1 = .ok (.getfield 17, 3) := by decide +kernel
theorem dX4_removeRule_4 : decode cX4_removeRule 4 = .ok (.iload_n 1, 1) := by decide +kernel
theorem dX4_removeRule_5 : decode cX4_removeRule 5 = .ok (.aaload, 1) := by decide +kernel
theorem dX4_removeRule_6 : decode cX4_removeRule 6 = .ok (.astore_n 2, 1) := by decide +kernel
theorem dX4_removeRule_7 : decode cX4_removeRule 7 = .ok (.aload_n 0, 1) := by decide +kernel
theorem dX4_removeRule_8 : decode cX4_removeRule 8 = .ok (.dup, 1) := by decide +kernel
theorem dX4_removeRule_9 : decode cX4_removeRule 9 = .ok (.getfield 35, 3) := by decide +kernel
theorem dX4_removeRule_12 : decode cX4_removeRule 12 = .ok (.iconst 1, 1) := by decide +kernel
theorem dX4_removeRule_13 : decode cX4_removeRule 13 = .ok (.isub, 1) := by decide +kernel
theorem dX4_removeRule_14 : decode cX4_removeRule 14 = .ok (.putfield 35, 3) := by decide +kernel
theorem dX4_removeRule_17 : decode cX4_removeRule 17 = .ok (.iload_n 1, 1) := by decide +kernel
theorem dX4_removeRule_18 : decode cX4_removeRule 18 = .ok (.istore_n 3, 1) := by decide +kernel
theorem dX4_removeRule_19 : decode cX4_removeRule 19 = .ok (.iload_n 3, 1) := by decide +kernel
theorem dX4_removeRule_20 : decode cX4_removeRule 20 = .ok (.aload_n 0, 1) := by decide +kernel
theorem dX4_removeRule_21 : decode cX4_removeRule 21 = .ok (.getfield 35, 3) := by decide +kernel
theorem dX4_removeRule_24 : decode cX4_removeRule 24 = .ok (.if_icmp .ge 23, 3) := by decide +kernel
theorem dX4_removeRule_27 : decode cX4_removeRule 27 = .ok (.aload_n 0, 1) := by decide +kernel
theorem dX4_removeRule_28 : decode cX4_removeRule 28 = .ok (.getfield 17, 3) := by decide +kernel
theorem dX4_removeRule_31 : decode cX4_removeRule 31 = .ok (.iload_n 3, 1) := by decide +kernel
theorem dX4_removeRule_32 : decode cX4_removeRule 32 = .ok (.aload_n 0, 1) := by decide +kernel
theorem dX4_removeRule_33 : decode cX4_removeRule 33 = .ok (.getfield 17, 3) := by decide +kernel
theorem dX4_removeRule_36 : decode cX4_removeRule 36 = .ok (.iload_n 3, 1) := by decide +kernel
theorem dX4_removeRule_37 : decode cX4_removeRule 37 = .ok (.iconst 1, 1) := by decide +kernel
theorem dX4_removeRule_38 : decode cX4_removeRule 38 = .ok (.iadd, 1) := by decide +kernel
theorem dX4_removeRule_39 : decode cX4_removeRule 39 = .ok (.aaload, 1) := by decide +kernel
theorem dX4_removeRule_40 : decode cX4_removeRule 40 = .ok (.aastore, 1) := by decide +kernel
theorem dX4_removeRule_41 : decode cX4_removeRule 41 = .ok (.iinc 3 1, 3) := by decide +kernel
theorem dX4_removeRule_44 : decode cX4_removeRule 44 = .ok (.goto (-25), 3) := by decide +kernel
theorem dX4_removeRule_47 : decode cX4_removeRule 47 = .ok (.aload_n 0, 1) := by decide +kernel
theorem dX4_removeRule_48 : decode cX4_removeRule 48 = .ok (.getfield 17, 3) := by decide +kernel
theorem dX4_removeRule_51 : decode cX4_removeRule 51 = .ok (.aload_n 0, 1) := by decide +kernel
theorem dX4_removeRule_52 : decode cX4_removeRule 52 = .ok (.getfield 35, 3) := by decide +kernel
theorem dX4_removeRule_55 : decode cX4_removeRule 55 = .ok (.aload_n 2, 1) := by decide +kernel
theorem dX4_removeRule_56 : decode cX4_removeRule 56 = .ok (.aastore, 1) := by decide +kernel
theorem dX4_removeRule_57 : decode cX4_removeRule 57 = .ok (.return_, 1) := by decide +kernel
theorem dX4_findGiven_0 : decode cX4_findGiven 0 = .ok (.iconst 0, 1) := by decide +kernel
theorem dX4_findGiven_1 : decode cX4_findGiven 1 = .ok (.istore_n 2, 1) := by decide +kernel
theorem dX4_findGiven_2 : decode cX4_findGiven 2 = .ok (.iload_n 2, 1) := by decide +kernel
theorem dX4_findGiven_3 : decode cX4_findGiven 3 = .ok (.aload_n 0, 1) := by decide +kernel
theorem dX4_findGiven_4 : decode cX4_findGiven 4 = .ok (.getfield 35, 3) := by decide +kernel
theorem dX4_findGiven_7 : decode cX4_findGiven 7 = .ok (.if_icmp .ge 24, 3) := by decide +kernel
theorem dX4_findGiven_10 : decode cX4_findGiven 10 = .ok (.aload_n 0, 1) := by decide +kernel
theorem dX4_findGiven_11 : decode cX4_findGiven 11 = .ok (.getfield 17, 3) := by decide +kernel
theorem dX4_findGiven_14 : decode cX4_findGiven 14 = .ok (.iload_n 2, 1) := by decide +kernel
theorem dX4_findGiven_15 : decode cX4_findGiven 15 = .ok (.aaload, 1) := by decide +kernel
theorem dX4_findGiven_16 : decode cX4_findGiven 16 = .ok (.iload_n 1, 1) := by decide +kernel
theorem dX4_findGiven_17 : decode cX4_findGiven 17 = .ok (.invokevirtual 65, 3) := by decide +kernel
theorem dX4_findGiven_20 : decode cX4_findGiven 20 = .ok (.ifCond .eq 5, 3) := by decide +kernel
theorem dX4_findGiven_23 : decode cX4_findGiven 23 = .ok (.iload_n 2, 1) := by decide +kernel
theorem dX4_findGiven_24 : decode cX4_findGiven 24 = .ok (.ireturn, 1) := by decide +kernel
theorem dX4_findGiven_25 : decode cX4_findGiven 25 = .ok (.iinc 2 1, 3) := by decide +kernel
theorem dX4_findGiven_28 : decode cX4_findGiven 28 = .ok (.goto (-26), 3) := by decide +kernel
theorem dX4_findGiven_31 : decode cX4_findGiven 31 = .ok (.iconst (-1), 1) := by decide +kernel
theorem dX4_findGiven_32 : decode cX4_findGiven 32 = .ok (.ireturn, 1) := by decide +kernel
theorem dX4_countGivens_0 : decode cX4_countGivens 0 = .ok (.iconst 0, 1) := by decide +kernel
theorem dX4_countGivens_1 : decode cX4_countGivens 1 = .ok (.istore_n 1, 1) := by decide +kernel
theorem dX4_countGivens_2 : decode cX4_countGivens 2 = .ok (.iconst 0, 1) := by decide +kernel
theorem dX4_countGivens_3 : decode cX4_countGivens 3 = .ok (.istore_n 2, 1) := by decide +kernel
theorem dX4_countGivens_4 : decode cX4_countGivens 4 = .ok (.iload_n 2, 1) := by decide +kernel
theorem dX4_countGivens_5 : decode cX4_countGivens 5 = .ok (.aload_n 0, 1) := by decide +kernel
theorem dX4_countGivens_6 : decode cX4_countGivens 6 = .ok (.getfield 35, 3) := by decide +kernel
theorem dX4_countGivens_9 : decode cX4_countGivens 9 = .ok (.if_icmp .ge 27, 3) := by decide +kernel
theorem dX4_countGivens_12 : decode cX4_countGivens 12 = .ok (.aload_n 0, 1) := by decide +kernel
theorem dX4_countGivens_13 : decode cX4_countGivens 13 = .ok (.getfield 17, 3) := by decide +kernel
theorem dX4_countGivens_16 : decode cX4_countGivens 16 = .ok (.iload_n 2, 1) := by decide +kernel
theorem dX4_countGivens_17 : decode cX4_countGivens 17 = .ok (.aaload, 1) := by decide +kernel
theorem dX4_countGivens_18 : decode cX4_countGivens 18 = .ok (.getfield 69, 3) := by decide +kernel
theorem dX4_countGivens_21 : decode cX4_countGivens 21 = .ok (.getstatic 59, 3) := by decide +kernel
theorem dX4_countGivens_24 : decode cX4_countGivens 24 = .ok (.if_acmp .ne 6, 3) := by decide +kernel
theorem dX4_countGivens_27 : decode cX4_countGivens 27 = .ok (.iinc 1 1, 3) := by decide +kernel
theorem dX4_countGivens_30 : decode cX4_countGivens 30 = .ok (.iinc 2 1, 3) := by decide +kernel
theorem dX4_countGivens_33 : decode cX4_countGivens 33 = .ok (.goto (-29), 3) := by decide +kernel
theorem dX4_countGivens_36 : decode cX4_countGivens 36 = .ok (.iload_n 1, 1) := by decide +kernel
theorem dX4_countGivens_37 : decode cX4_countGivens 37 = .ok (.ireturn, 1) := by decide +kernel
theorem dX4_countFilled_0 : decode cX4_countFilled 0 = .ok (.iconst 0, 1) := by decide +kernel
theorem dX4_countFilled_1 : decode cX4_countFilled 1 = .ok (.istore_n 1, 1) := by decide +kernel
theorem dX4_countFilled_2 : decode cX4_countFilled 2 = .ok (.iconst 0, 1) := by decide +kernel
theorem dX4_countFilled_3 : decode cX4_countFilled 3 = .ok (.istore_n 2, 1) := by decide +kernel
theorem dX4_countFilled_4 : decode cX4_countFilled 4 = .ok (.iload_n 2, 1) := by decide +kernel
theorem dX4_countFilled_5 : decode cX4_countFilled 5 = .ok (.aload_n 0, 1) := by decide +kernel
theorem dX4_countFilled_6 : decode cX4_countFilled 6 = .ok (.invokevirtual 72, 3) := by decide +kernel
theorem dX4_countFilled_9 : decode cX4_countFilled 9 = .ok (.if_icmp .ge 21, 3) := by decide +kernel
theorem dX4_countFilled_12 : decode cX4_countFilled 12 = .ok (.aload_n 0, 1) := by decide +kernel
theorem dX4_countFilled_13 : decode cX4_countFilled 13 = .ok (.getfield 9, 3) := by decide +kernel
theorem dX4_countFilled_16 : decode cX4_countFilled 16 = .ok (.iload_n 2, 1) := by decide +kernel
theorem dX4_countFilled_17 : decode cX4_countFilled 17 = .ok (.iaload, 1) := by decide +kernel
theorem dX4_countFilled_18 : decode cX4_countFilled 18 = .ok (.ifCond .eq 6, 3) := by decide +kernel
theorem dX4_countFilled_21 : decode cX4_countFilled 21 = .ok (.iinc 1 1, 3) := by decide +kernel
theorem dX4_countFilled_24 : decode cX4_countFilled 24 = .ok (.iinc 2 1, 3) := by decide +kernel
theorem dX4_countFilled_27 : decode cX4_countFilled 27 = .ok (.goto (-23), 3) := by decide +kernel
theorem dX4_countFilled_30 : decode cX4_countFilled 30 = .ok (.iload_n 1, 1) := by decide +kernel
theorem dX4_countFilled_31 : decode cX4_countFilled 31 = .ok (.ireturn, 1) := by decide +kernel
theorem dX4_countBroken_0 : decode cX4_countBroken 0 = .ok (.iconst 0, 1) := by decide +kernel
theorem dX4_countBroken_1 : decode cX4_countBroken 1 = .ok (.istore_n 1, 1) := by decide +kernel
theorem dX4_countBroken_2 : decode cX4_countBroken 2 = .ok (.iconst 0, 1) := by decide +kernel
theorem dX4_countBroken_3 : decode cX4_countBroken 3 = .ok (.istore_n 2, 1) := by decide +kernel
theorem dX4_countBroken_4 : decode cX4_countBroken 4 = .ok (.iload_n 2, 1) := by decide +kernel
theorem dX4_countBroken_5 : decode cX4_countBroken 5 = .ok (.aload_n 0, 1) := by decide +kernel
theorem dX4_countBroken_6 : decode cX4_countBroken 6 = .ok (.getfield 35, 3) := by decide +kernel
theorem dX4_countBroken_9 : decode cX4_countBroken 9 = .ok (.if_icmp .ge 32, 3) := by decide +kernel
theorem dX4_countBroken_12 : decode cX4_countBroken 12 = .ok (.aload_n 0, 1) := by decide +kernel
theorem dX4_countBroken_13 : decode cX4_countBroken 13 = .ok (.getfield 17, 3) := by decide +kernel
theorem dX4_countBroken_16 : decode cX4_countBroken 16 = .ok (.iload_n 2, 1) := by decide +kernel
theorem dX4_countBroken_17 : decode cX4_countBroken 17 = .ok (.aaload, 1) := by decide +kernel
theorem dX4_countBroken_18 : decode cX4_countBroken 18 = .ok (.aload_n 0, 1) := by decide +kernel
theorem dX4_countBroken_19 : decode cX4_countBroken 19 = .ok (.getfield 9, 3) := by decide +kernel
theorem dX4_countBroken_22 : decode cX4_countBroken 22 = .ok (.aload_n 0, 1) := by decide +kernel
theorem dX4_countBroken_23 : decode cX4_countBroken 23 = .ok (.getfield 32, 3) := by decide +kernel
theorem dX4_countBroken_26 : decode cX4_countBroken 26 = .ok (.invokevirtual 76, 3) := by decide +kernel
theorem dX4_countBroken_29 : decode cX4_countBroken 29 = .ok (.ifCond .eq 6, 3) := by decide +kernel
theorem dX4_countBroken_32 : decode cX4_countBroken 32 = .ok (.iinc 1 1, 3) := by decide +kernel
theorem dX4_countBroken_35 : decode cX4_countBroken 35 = .ok (.iinc 2 1, 3) := by decide +kernel
theorem dX4_countBroken_38 : decode cX4_countBroken 38 = .ok (.goto (-34), 3) := by decide +kernel
theorem dX4_countBroken_41 : decode cX4_countBroken 41 = .ok (.iload_n 1, 1) := by decide +kernel
theorem dX4_countBroken_42 : decode cX4_countBroken 42 = .ok (.ireturn, 1) := by decide +kernel
theorem dX4_isBrokenAt_0 : decode cX4_isBrokenAt 0 = .ok (.iconst 0, 1) := by decide +kernel
theorem dX4_isBrokenAt_1 : decode cX4_isBrokenAt 1 = .ok (.istore 4, 2) := by decide +kernel
theorem dX4_isBrokenAt_3 : decode cX4_isBrokenAt 3 = .ok (.iload 4, 2) := by decide +kernel
theorem dX4_isBrokenAt_5 : decode cX4_isBrokenAt 5 = .ok (.aload_n 0, 1) := by decide +kernel
theorem dX4_isBrokenAt_6 : decode cX4_isBrokenAt 6 = .ok (.getfield 35, 3) := by decide +kernel
theorem dX4_isBrokenAt_9 : decode cX4_isBrokenAt 9 = .ok (.if_icmp .ge 49, 3) := by decide +kernel
theorem dX4_isBrokenAt_12 : decode cX4_isBrokenAt 12 = .ok (.iload 4, 2) := by decide +kernel
theorem dX4_isBrokenAt_14 : decode cX4_isBrokenAt 14 = .ok (.iload_n 3, 1) := by decide +kernel
theorem dX4_isBrokenAt_15 : decode cX4_isBrokenAt 15 = .ok (.if_icmp .eq 37, 3) := by decide +kernel
theorem dX4_isBrokenAt_18 : decode cX4_isBrokenAt 18 = .ok (.aload_n 0, 1) := by decide +kernel
theorem dX4_isBrokenAt_19 : decode cX4_isBrokenAt 19 = .ok (.getfield 17, 3) := by decide +kernel
theorem dX4_isBrokenAt_22 : decode cX4_isBrokenAt 22 = .ok (.iload 4, 2) := by decide +kernel
theorem dX4_isBrokenAt_24 : decode cX4_isBrokenAt 24 = .ok (.aaload, 1) := by decide +kernel
theorem dX4_isBrokenAt_25 : decode cX4_isBrokenAt 25 = .ok (.iload_n 1, 1) := by decide +kernel
theorem dX4_isBrokenAt_26 : decode cX4_isBrokenAt 26 = .ok (.invokevirtual 80, 3) := by decide +kernel
theorem dX4_isBrokenAt_29 : decode cX4_isBrokenAt 29 = .ok (.ifCond .eq 23, 3) := by decide +kernel
theorem dX4_isBrokenAt_32 : decode cX4_isBrokenAt 32 = .ok (.aload_n 0, 1) := by decide +kernel
theorem dX4_isBrokenAt_33 : decode cX4_isBrokenAt 33 = .ok (.getfield 17, 3) := by decide +kernel
theorem dX4_isBrokenAt_36 : decode cX4_isBrokenAt 36 = .ok (.iload 4, 2) := by decide +kernel
theorem dX4_isBrokenAt_38 : decode cX4_isBrokenAt 38 = .ok (.aaload, 1) := by decide +kernel
theorem dX4_isBrokenAt_39 : decode cX4_isBrokenAt 39 = .ok (.aload_n 2, 1) := by decide +kernel
theorem dX4_isBrokenAt_40 : decode cX4_isBrokenAt 40 = .ok (.aload_n 0, 1) := by decide +kernel
theorem dX4_isBrokenAt_41 : decode cX4_isBrokenAt 41 = .ok (.getfield 32, 3) := by decide +kernel
theorem dX4_isBrokenAt_44 : decode cX4_isBrokenAt 44 = .ok (.invokevirtual 76, 3) := by decide +kernel
theorem dX4_isBrokenAt_47 : decode cX4_isBrokenAt 47 = .ok (.ifCond .eq 5, 3) := by decide +kernel
theorem dX4_isBrokenAt_50 : decode cX4_isBrokenAt 50 = .ok (.iconst 1, 1) := by decide +kernel
theorem dX4_isBrokenAt_51 : decode cX4_isBrokenAt 51 = .ok (.ireturn, 1) := by decide +kernel
theorem dX4_isBrokenAt_52 : decode cX4_isBrokenAt 52 = .ok (.iinc 4 1, 3) := by decide +kernel
theorem dX4_isBrokenAt_55 : decode cX4_isBrokenAt 55 = .ok (.goto (-52), 3) := by decide +kernel
theorem dX4_isBrokenAt_58 : decode cX4_isBrokenAt 58 = .ok (.iconst 0, 1) := by decide +kernel
theorem dX4_isBrokenAt_59 : decode cX4_isBrokenAt 59 = .ok (.ireturn, 1) := by decide +kernel
theorem dX4_becomeCopyWithoutGivens_0 : decode cX4_becomeCopyWithoutGivens 0 = .ok (.aload_n 0, 1) := by decide +kernel
theorem dX4_becomeCopyWithoutGivens_1 : decode cX4_becomeCopyWithoutGivens 1 = .ok (.aload_n 1, 1) := by decide +kernel
theorem dX4_becomeCopyWithoutGivens_2 : decode cX4_becomeCopyWithoutGivens 2 = .ok (.getfield 25, 3) := by decide +kernel
theorem dX4_becomeCopyWithoutGivens_5 : decode cX4_becomeCopyWithoutGivens 5 = .ok (.aload_n 1, 1) := by decide +kernel
theorem dX4_becomeCopyWithoutGivens_6 : decode cX4_becomeCopyWithoutGivens 6 = .ok (.getfield 29, 3) := by decide +kernel
theorem dX4_becomeCopyWithoutGivens_9 : decode cX4_becomeCopyWithoutGivens 9 = .ok (.aload_n 1, 1) := by decide +kernel
theorem dX4_becomeCopyWithoutGivens_10 : decode cX4_becomeCopyWithoutGivens 10 = .ok (.getfield 32, 3) := by decide +kernel
theorem dX4_becomeCopyWithoutGivens_13 : decode cX4_becomeCopyWithoutGivens 13 = .ok (.invokevirtual 83, 3) := by decide +kernel
theorem dX4_becomeCopyWithoutGivens_16 : decode cX4_becomeCopyWithoutGivens 16 = .ok (.iconst 0, 1) := by decide +kernel
theorem dX4_becomeCopyWithoutGivens_17 : decode cX4_becomeCopyWithoutGivens 17 = .ok (.istore_n 2, 1) := by decide +kernel
theorem dX4_becomeCopyWithoutGivens_18 : decode cX4_becomeCopyWithoutGivens 18 = .ok (.iload_n 2, 1) := by decide +kernel
theorem dX4_becomeCopyWithoutGivens_19 : decode cX4_becomeCopyWithoutGivens 19 = .ok (.aload_n 1, 1) := by decide +kernel
theorem dX4_becomeCopyWithoutGivens_20 : decode cX4_becomeCopyWithoutGivens 20 = .ok (.getfield 35, 3) := by decide +kernel
theorem dX4_becomeCopyWithoutGivens_23 : decode cX4_becomeCopyWithoutGivens 23 = .ok (.if_icmp .ge 38, 3) := by decide +kernel
theorem dX4_becomeCopyWithoutGivens_26 : decode cX4_becomeCopyWithoutGivens 26 = .ok (.aload_n 1, 1) := by decide +kernel
theorem dX4_becomeCopyWithoutGivens_27 : decode cX4_becomeCopyWithoutGivens 27 = .ok (.getfield 17, 3) := by decide +kernel
theorem dX4_becomeCopyWithoutGivens_30 : decode cX4_becomeCopyWithoutGivens 30 = .ok (.iload_n 2, 1) := by decide +kernel
theorem dX4_becomeCopyWithoutGivens_31 : decode cX4_becomeCopyWithoutGivens 31 = .ok (.aaload, 1) := by decide +kernel
theorem dX4_becomeCopyWithoutGivens_32 : decode cX4_becomeCopyWithoutGivens 32 = .ok (.astore_n 3, 1) := by decide +kernel
theorem dX4_becomeCopyWithoutGivens_33 : decode cX4_becomeCopyWithoutGivens 33 = .ok (.aload_n 3, 1) := by decide +kernel
theorem dX4_becomeCopyWithoutGivens_34 : decode cX4_becomeCopyWithoutGivens 34 = .ok (.getfield 69, 3) := by decide +kernel
theorem dX4_becomeCopyWithoutGivens_37 : decode cX4_becomeCopyWithoutGivens 37 = .ok (.getstatic 59, 3) := by decide +kernel
theorem dX4_becomeCopyWithoutGivens_40 : decode cX4_becomeCopyWithoutGivens 40 = .ok (.if_acmp .eq 15, 3) := by decide +kernel
theorem dX4_becomeCopyWithoutGivens_43 : decode cX4_becomeCopyWithoutGivens 43 = .ok (.aload_n 0, 1) := by decide +kernel
theorem dX4_becomeCopyWithoutGivens_44 : decode cX4_becomeCopyWithoutGivens 44 = .ok (.aload_n 3, 1) := by decide +kernel
theorem dX4_becomeCopyWithoutGivens_45 : decode cX4_becomeCopyWithoutGivens 45 = .ok (.getfield 69, 3) := by decide +kernel
theorem dX4_becomeCopyWithoutGivens_48 : decode cX4_becomeCopyWithoutGivens 48 = .ok (.invokevirtual 51, 3) := by decide +kernel
theorem dX4_becomeCopyWithoutGivens_51 : decode cX4_becomeCopyWithoutGivens 51 = .ok (.aload_n 3, 1) := by decide +kernel
theorem dX4_becomeCopyWithoutGivens_52 : decode cX4_becomeCopyWithoutGivens 52 = .ok (.invokevirtual 86, 3) := by decide +kernel
theorem dX4_becomeCopyWithoutGivens_55 : decode cX4_becomeCopyWithoutGivens 55 = .ok (.iinc 2 1, 3) := by decide +kernel
theorem dX4_becomeCopyWithoutGivens_58 : decode cX4_becomeCopyWithoutGivens 58 = .ok (.goto (-40), 3) := by decide +kernel
theorem dX4_becomeCopyWithoutGivens_61 : decode cX4_becomeCopyWithoutGivens 61 = .ok (.return_, 1) := by decide +kernel
theorem dX4_becomeMoved_0 : decode cX4_becomeMoved 0 = .ok (.iload_n 2, 1) := by decide +kernel
theorem dX4_becomeMoved_1 : decode cX4_becomeMoved 1 = .ok (.ifCond .eq 22, 3) := by decide +kernel
theorem dX4_becomeMoved_4 : decode cX4_becomeMoved 4 = .ok (.aload_n 0, 1) := by decide +kernel
theorem dX4_becomeMoved_5 : decode cX4_becomeMoved 5 = .ok (.aload_n 1, 1) := by decide +kernel
theorem dX4_becomeMoved_6 : decode cX4_becomeMoved 6 = .ok (.getfield 29, 3) := by decide +kernel
theorem dX4_becomeMoved_9 : decode cX4_becomeMoved 9 = .ok (.aload_n 1, 1) := by decide +kernel
theorem dX4_becomeMoved_10 : decode cX4_becomeMoved 10 = .ok (.getfield 25, 3) := by decide +kernel
theorem dX4_becomeMoved_13 : decode cX4_becomeMoved 13 = .ok (.aload_n 1, 1) := by decide +kernel
theorem dX4_becomeMoved_14 : decode cX4_becomeMoved 14 = .ok (.getfield 32, 3) := by decide +kernel
theorem dX4_becomeMoved_17 : decode cX4_becomeMoved 17 = .ok (.invokevirtual 83, 3) := by decide +kernel
theorem dX4_becomeMoved_20 : decode cX4_becomeMoved 20 = .ok (.goto 19, 3) := by decide +kernel
theorem dX4_becomeMoved_23 : decode cX4_becomeMoved 23 = .ok (.aload_n 0, 1) := by decide +kernel
theorem dX4_becomeMoved_24 : decode cX4_becomeMoved 24 = .ok (.aload_n 1, 1) := by decide +kernel
theorem dX4_becomeMoved_25 : decode cX4_becomeMoved 25 = .ok (.getfield 25, 3) := by decide +kernel
theorem dX4_becomeMoved_28 : decode cX4_becomeMoved 28 = .ok (.aload_n 1, 1) := by decide +kernel
theorem dX4_becomeMoved_29 : decode cX4_becomeMoved 29 = .ok (.getfield 29, 3) := by decide +kernel
theorem dX4_becomeMoved_32 : decode cX4_becomeMoved 32 = .ok (.aload_n 1, 1) := by decide +kernel
theorem dX4_becomeMoved_33 : decode cX4_becomeMoved 33 = .ok (.getfield 32, 3) := by decide +kernel
theorem dX4_becomeMoved_36 : decode cX4_becomeMoved 36 = .ok (.invokevirtual 83, 3) := by decide +kernel
theorem dX4_becomeMoved_39 : decode cX4_becomeMoved 39 = .ok (.iconst 0, 1) := by decide +kernel
theorem dX4_becomeMoved_40 : decode cX4_becomeMoved 40 = .ok (.istore_n 3, 1) := by decide +kernel
theorem dX4_becomeMoved_41 : decode cX4_becomeMoved 41 = .ok (.iload_n 3, 1) := by decide +kernel
theorem dX4_becomeMoved_42 : decode cX4_becomeMoved 42 = .ok (.aload_n 1, 1) := by decide +kernel
theorem dX4_becomeMoved_43 : decode cX4_becomeMoved 43 = .ok (.getfield 29, 3) := by decide +kernel
theorem dX4_becomeMoved_46 : decode cX4_becomeMoved 46 = .ok (.if_icmp .ge 112, 3) := by decide +kernel
theorem dX4_becomeMoved_49 : decode cX4_becomeMoved 49 = .ok (.iconst 0, 1) := by decide +kernel
theorem dX4_becomeMoved_50 : decode cX4_becomeMoved 50 = .ok (.istore 4, 2) := by decide +kernel
theorem dX4_becomeMoved_52 : decode cX4_becomeMoved 52 = .ok (.iload 4, 2) := by decide +kernel
theorem dX4_becomeMoved_54 : decode cX4_becomeMoved 54 = .ok (.aload_n 1, 1) := by decide +kernel
theorem dX4_becomeMoved_55 : decode cX4_becomeMoved 55 = .ok (.getfield 25, 3) := by decide +kernel
theorem dX4_becomeMoved_58 : decode cX4_becomeMoved 58 = .ok (.if_icmp .ge 94, 3) := by decide +kernel
theorem dX4_becomeMoved_61 : decode cX4_becomeMoved 61 = .ok (.iload_n 2, 1) := by decide +kernel
theorem dX4_becomeMoved_62 : decode cX4_becomeMoved 62 = .ok (.ifCond .eq 14, 3) := by decide +kernel
theorem dX4_becomeMoved_65 : decode cX4_becomeMoved 65 = .ok (.aload_n 1, 1) := by decide +kernel
theorem dX4_becomeMoved_66 : decode cX4_becomeMoved 66 = .ok (.getfield 29, 3) := by decide +kernel
theorem dX4_becomeMoved_69 : decode cX4_becomeMoved 69 = .ok (.iconst 1, 1) := by decide +kernel
theorem dX4_becomeMoved_70 : decode cX4_becomeMoved 70 = .ok (.isub, 1) := by decide +kernel
theorem dX4_becomeMoved_71 : decode cX4_becomeMoved 71 = .ok (.iload_n 3, 1) := by decide +kernel
theorem dX4_becomeMoved_72 : decode cX4_becomeMoved 72 = .ok (.isub, 1) := by decide +kernel
theorem dX4_becomeMoved_73 : decode cX4_becomeMoved 73 = .ok (.goto 12, 3) := by decide +kernel
theorem dX4_becomeMoved_76 : decode cX4_becomeMoved 76 = .ok (.aload_n 1, 1) := by decide +kernel
theorem dX4_becomeMoved_77 : decode cX4_becomeMoved 77 = .ok (.getfield 25, 3) := by decide +kernel
theorem dX4_becomeMoved_80 : decode cX4_becomeMoved 80 = .ok (.iconst 1, 1) := by decide +kernel
theorem dX4_becomeMoved_81 : decode cX4_becomeMoved 81 = .ok (.isub, 1) := by decide +kernel
theorem dX4_becomeMoved_82 : decode cX4_becomeMoved 82 = .ok (.iload 4, 2) := by decide +kernel
theorem dX4_becomeMoved_84 : decode cX4_becomeMoved 84 = .ok (.isub, 1) := by decide +kernel
theorem dX4_becomeMoved_85 : decode cX4_becomeMoved 85 = .ok (.istore 5, 2) := by decide +kernel
theorem dX4_becomeMoved_87 : decode cX4_becomeMoved 87 = .ok (.iload_n 2, 1) := by decide +kernel
theorem dX4_becomeMoved_88 : decode cX4_becomeMoved 88 = .ok (.ifCond .eq 8, 3) := by decide +kernel
theorem dX4_becomeMoved_91 : decode cX4_becomeMoved 91 = .ok (.iload 4, 2) := by decide +kernel
theorem dX4_becomeMoved_93 : decode cX4_becomeMoved 93 = .ok (.goto 4, 3) := by decide +kernel
theorem dX4_becomeMoved_96 : decode cX4_becomeMoved 96 = .ok (.iload_n 3, 1) := by decide +kernel
theorem dX4_becomeMoved_97 : decode cX4_becomeMoved 97 = .ok (.istore 6, 2) := by decide +kernel
theorem dX4_becomeMoved_99 : decode cX4_becomeMoved 99 = .ok (.iload 4, 2) := by decide +kernel
theorem dX4_becomeMoved_101 : decode cX4_becomeMoved 101 = .ok (.aload_n 1, 1) := by decide +kernel
theorem dX4_becomeMoved_102 : decode cX4_becomeMoved 102 = .ok (.getfield 25, 3) := by decide +kernel
theorem dX4_becomeMoved_105 : decode cX4_becomeMoved 105 = .ok (.iload_n 3, 1) := by decide +kernel
theorem dX4_becomeMoved_106 : decode cX4_becomeMoved 106 = .ok (.imul, 1) := by decide +kernel
theorem dX4_becomeMoved_107 : decode cX4_becomeMoved 107 = .ok (.iadd, 1) := by decide +kernel
theorem dX4_becomeMoved_108 : decode cX4_becomeMoved 108 = .ok (.istore 7, 2) := by decide +kernel
theorem dX4_becomeMoved_110 : decode cX4_becomeMoved 110 = .ok (.aload_n 0, 1) := by decide +kernel
theorem dX4_becomeMoved_111 : decode cX4_becomeMoved 111 = .ok (.getfield 21, 3) := by decide +kernel
theorem dX4_becomeMoved_114 : decode cX4_becomeMoved 114 = .ok (.iload 7, 2) := by decide +kernel
theorem dX4_becomeMoved_116 : decode cX4_becomeMoved 116 = .ok (.iload 5, 2) := by decide +kernel
theorem dX4_becomeMoved_118 : decode cX4_becomeMoved 118 = .ok (.aload_n 0, 1) := by decide +kernel
theorem dX4_becomeMoved_119 : decode cX4_becomeMoved 119 = .ok (.getfield 25, 3) := by decide +kernel
theorem dX4_becomeMoved_122 : decode cX4_becomeMoved 122 = .ok (.iload 6, 2) := by decide +kernel
theorem dX4_becomeMoved_124 : decode cX4_becomeMoved 124 = .ok (.imul, 1) := by decide +kernel
theorem dX4_becomeMoved_125 : decode cX4_becomeMoved 125 = .ok (.iadd, 1) := by decide +kernel
theorem dX4_becomeMoved_126 : decode cX4_becomeMoved 126 = .ok (.iastore, 1) := by decide +kernel
theorem dX4_becomeMoved_127 : decode cX4_becomeMoved 127 = .ok (.aload_n 0, 1) := by decide +kernel
theorem dX4_becomeMoved_128 : decode cX4_becomeMoved 128 = .ok (.getfield 9, 3) := by decide +kernel
theorem dX4_becomeMoved_131 : decode cX4_becomeMoved 131 = .ok (.aload_n 0, 1) := by decide +kernel
theorem dX4_becomeMoved_132 : decode cX4_becomeMoved 132 = .ok (.getfield 21, 3) := by decide +kernel
theorem dX4_becomeMoved_135 : decode cX4_becomeMoved 135 = .ok (.iload 7, 2) := by decide +kernel
theorem dX4_becomeMoved_137 : decode cX4_becomeMoved 137 = .ok (.iaload, 1) := by decide +kernel
theorem dX4_becomeMoved_138 : decode cX4_becomeMoved 138 = .ok (.aload_n 1, 1) := by decide +kernel
theorem dX4_becomeMoved_139 : decode cX4_becomeMoved 139 = .ok (.getfield 9, 3) := by decide +kernel
theorem dX4_becomeMoved_142 : decode cX4_becomeMoved 142 = .ok (.iload 7, 2) := by decide +kernel
theorem dX4_becomeMoved_144 : decode cX4_becomeMoved 144 = .ok (.iaload, 1) := by decide +kernel
theorem dX4_becomeMoved_145 : decode cX4_becomeMoved 145 = .ok (.iastore, 1) := by decide +kernel
theorem dX4_becomeMoved_146 : decode cX4_becomeMoved 146 = .ok (.iinc 4 1, 3) := by decide +kernel
theorem dX4_becomeMoved_149 : decode cX4_becomeMoved 149 = .ok (.goto (-97), 3) := by decide +kernel
theorem dX4_becomeMoved_152 : decode cX4_becomeMoved 152 = .ok (.iinc 3 1, 3) := by decide +kernel
theorem dX4_becomeMoved_155 : decode cX4_becomeMoved 155 = .ok (.goto (-114), 3) := by decide +kernel
theorem dX4_becomeMoved_158 : decode cX4_becomeMoved 158 = .ok (.iconst 0, 1) := by decide +kernel
theorem dX4_becomeMoved_159 : decode cX4_becomeMoved 159 = .ok (.istore_n 3, 1) := by decide +kernel
theorem dX4_becomeMoved_160 : decode cX4_becomeMoved 160 = .ok (.iload_n 3, 1) := by decide +kernel
theorem dX4_becomeMoved_161 : decode cX4_becomeMoved 161 = .ok (.aload_n 1, 1) := by decide +kernel
theorem dX4_becomeMoved_162 : decode cX4_becomeMoved 162 = .ok (.getfield 35, 3) := by decide +kernel
theorem dX4_becomeMoved_165 : decode cX4_becomeMoved 165 = .ok (.if_icmp .ge 44, 3) := by decide +kernel
theorem dX4_becomeMoved_168 : decode cX4_becomeMoved 168 = .ok (.aload_n 0, 1) := by decide +kernel
theorem dX4_becomeMoved_169 : decode cX4_becomeMoved 169 = .ok (.aload_n 1, 1) := by decide +kernel
theorem dX4_becomeMoved_170 : decode cX4_becomeMoved 170 = .ok (.getfield 17, 3) := by decide +kernel
theorem dX4_becomeMoved_173 : decode cX4_becomeMoved 173 = .ok (.iload_n 3, 1) := by decide +kernel
theorem dX4_becomeMoved_174 : decode cX4_becomeMoved 174 = .ok (.aaload, 1) := by decide +kernel
theorem dX4_becomeMoved_175 : decode cX4_becomeMoved 175 = .ok (.getfield 69, 3) := by decide +kernel
theorem dX4_becomeMoved_178 : decode cX4_becomeMoved 178 = .ok (.invokevirtual 51, 3) := by decide +kernel
theorem dX4_becomeMoved_181 : decode cX4_becomeMoved 181 = .ok (.astore 4, 2) := by decide +kernel
theorem dX4_becomeMoved_183 : decode cX4_becomeMoved 183 = .ok (.aload 4, 2) := by decide +kernel
theorem dX4_becomeMoved_185 : decode cX4_becomeMoved 185 = .ok (.aload_n 1, 1) := by decide +kernel
theorem dX4_becomeMoved_186 : decode cX4_becomeMoved 186 = .ok (.getfield 17, 3) := by decide +kernel
theorem dX4_becomeMoved_189 : decode cX4_becomeMoved 189 = .ok (.iload_n 3, 1) := by decide +kernel
theorem dX4_becomeMoved_190 : decode cX4_becomeMoved 190 = .ok (.aaload, 1) := by decide +kernel
theorem dX4_becomeMoved_191 : decode cX4_becomeMoved 191 = .ok (.invokevirtual 86, 3) := by decide +kernel
theorem dX4_becomeMoved_194 : decode cX4_becomeMoved 194 = .ok (.aload 4, 2) := by decide +kernel
theorem dX4_becomeMoved_196 : decode cX4_becomeMoved 196 = .ok (.aload_n 0, 1) := by decide +kernel
theorem dX4_becomeMoved_197 : decode cX4_becomeMoved 197 = .ok (.getfield 21, 3) := by decide +kernel
theorem dX4_becomeMoved_200 : decode cX4_becomeMoved 200 = .ok (.invokevirtual 90, 3) := by decide +kernel
theorem dX4_becomeMoved_203 : decode cX4_becomeMoved 203 = .ok (.iinc 3 1, 3) := by decide +kernel
theorem dX4_becomeMoved_206 : decode cX4_becomeMoved 206 = .ok (.goto (-46), 3) := by decide +kernel
theorem dX4_becomeMoved_209 : decode cX4_becomeMoved 209 = .ok (.return_, 1) := by decide +kernel
theorem dX5_init_0 : decode cX5_init 0 = .ok (.aload_n 0, 1) := by decide +kernel
theorem dX5_init_1 : decode cX5_init 1 = .ok (.invokespecial 3, 3) := by decide +kernel
theorem dX5_init_4 : decode cX5_init 4 = .ok (.aload_n 0, 1) := by decide +kernel
theorem dX5_init_5 : decode cX5_init 5 = .ok (.iconst (-1), 1) := by decide +kernel
theorem dX5_init_6 : decode cX5_init 6 = .ok (.putfield 9, 3) := by decide +kernel
theorem dX5_init_9 : decode cX5_init 9 = .ok (.aload_n 0, 1) := by decide +kernel
theorem dX5_init_10 : decode cX5_init 10 = .ok (.new 15, 3) := by decide +kernel
theorem dX5_init_13 : decode cX5_init 13 = .ok (.dup, 1) := by decide +kernel
theorem dX5_init_14 : decode cX5_init 14 = .ok (.invokespecial 17, 3) := by decide +kernel
theorem dX5_init_17 : decode cX5_init 17 = .ok (.putfield 18, 3) := by decide +kernel
theorem dX5_init_20 : decode cX5_init 20 = .ok (.return_, 1) := by decide +kernel
theorem dX5_readInto_0 : decode cX5_readInto 0 = .ok (.aload_n 0, 1) := by decide +kernel
theorem dX5_readInto_1 : decode cX5_readInto 1 = .ok (.iconst 0, 1) := by decide +kernel
theorem dX5_readInto_2 : decode cX5_readInto 2 = .ok (.putfield 22, 3) := by decide +kernel
theorem dX5_readInto_5 : decode cX5_readInto 5 = .ok (.aload_n 0, 1) := by decide +kernel
theorem dX5_readInto_6 : decode cX5_readInto 6 = .ok (.iconst (-1), 1) := by decide +kernel
theorem dX5_readInto_7 : decode cX5_readInto 7 = .ok (.putfield 9, 3) := by decide +kernel
theorem dX5_readInto_10 : decode cX5_readInto 10 = .ok (.aload_n 0, 1) := by decide +kernel
theorem dX5_readInto_11 : decode cX5_readInto 11 = .ok (.getfield 18, 3) := by decide +kernel
theorem dX5_readInto_14 : decode cX5_readInto 14 = .ok (.aload_n 2, 1) := by decide +kernel
theorem dX5_readInto_15 : decode cX5_readInto 15 = .ok (.invokevirtual 25, 3) := by decide +kernel
theorem dX5_readInto_18 : decode cX5_readInto 18 = .ok (.aload_n 0, 1) := by decide +kernel
theorem dX5_readInto_19 : decode cX5_readInto 19 = .ok (.invokevirtual 29, 3) := by decide +kernel
theorem dX5_readInto_22 : decode cX5_readInto 22 = .ok (.ifCond .ne 9, 3) := by decide +kernel
theorem dX5_readInto_25 : decode cX5_readInto 25 = .ok (.aload_n 0, 1) := by decide +kernel
theorem dX5_readInto_26 : decode cX5_readInto 26 = .ok (.iconst 1, 1) := by decide +kernel
theorem dX5_readInto_27 : decode cX5_readInto 27 = .ok (.invokevirtual 33, 3) := by decide +kernel
theorem dX5_readInto_30 : decode cX5_readInto 30 = .ok (.ireturn, 1) := by decide +kernel
theorem dX5_readInto_31 : decode cX5_readInto 31 = .ok (.aload_n 0, 1) := by decide +kernel
theorem dX5_readInto_32 : decode cX5_readInto 32 = .ok (.aload_n 1, 1) := by decide +kernel
theorem dX5_readInto_33 : decode cX5_readInto 33 = .ok (.invokevirtual 37, 3) := by decide +kernel
theorem dX5_readInto_36 : decode cX5_readInto 36 = .ok (.ifCond .eq 15, 3) := by decide +kernel
theorem dX5_readInto_39 : decode cX5_readInto 39 = .ok (.aload_n 0, 1) := by decide +kernel
theorem dX5_readInto_40 : decode cX5_readInto 40 = .ok (.aload_n 1, 1) := by decide +kernel
theorem dX5_readInto_41 : decode cX5_readInto 41 = .ok (.invokevirtual 41, 3) := by decide +kernel
theorem dX5_readInto_44 : decode cX5_readInto 44 = .ok (.ifCond .eq 7, 3) := by decide +kernel
theorem dX5_readInto_47 : decode cX5_readInto 47 = .ok (.iconst 1, 1) := by decide +kernel
theorem dX5_readInto_48 : decode cX5_readInto 48 = .ok (.goto 4, 3) := by decide +kernel
theorem dX5_readInto_51 : decode cX5_readInto 51 = .ok (.iconst 0, 1) := by decide +kernel
theorem dX5_readInto_52 : decode cX5_readInto 52 = .ok (.ireturn, 1) := by decide +kernel
theorem dX5_fail_0 : decode cX5_fail 0 = .ok (.aload_n 0, 1) := by decide +kernel
theorem dX5_fail_1 : decode cX5_fail 1 = .ok (.iload_n 1, 1) := by decide +kernel
theorem dX5_fail_2 : decode cX5_fail 2 = .ok (.putfield 22, 3) := by decide +kernel
theorem dX5_fail_5 : decode cX5_fail 5 = .ok (.aload_n 0, 1) := by decide +kernel
theorem dX5_fail_6 : decode cX5_fail 6 = .ok (.aload_n 0, 1) := by decide +kernel
theorem dX5_fail_7 : decode cX5_fail 7 = .ok (.getfield 18, 3) := by decide +kernel
theorem dX5_fail_10 : decode cX5_fail 10 = .ok (.aload_n 0, 1) := by decide +kernel
theorem dX5_fail_11 : decode cX5_fail 11 = .ok (.getfield 44, 3) := by decide +kernel
theorem dX5_fail_14 : decode cX5_fail 14 = .ok (.invokevirtual 47, 3) := by decide +kernel
theorem dX5_fail_17 : decode cX5_fail 17 = .ok (.putfield 9, 3) := by decide +kernel
theorem dX5_fail_20 : decode cX5_fail 20 = .ok (.iconst 0, 1) := by decide +kernel
theorem dX5_fail_21 : decode cX5_fail 21 = .ok (.ireturn, 1) := by decide +kernel
theorem dX5_hasForm_0 : decode cX5_hasForm 0 = .ok (.aload_n 0, 1) := by decide +kernel
theorem dX5_hasForm_1 : decode cX5_hasForm 1 = .ok (.iconst 0, 1) := by decide +kernel
theorem dX5_hasForm_2 : decode cX5_hasForm 2 = .ok (.putfield 44, 3) := by decide +kernel
theorem dX5_hasForm_5 : decode cX5_hasForm 5 = .ok (.aload_n 0, 1) := by decide +kernel
theorem dX5_hasForm_6 : decode cX5_hasForm 6 = .ok (.getfield 18, 3) := by decide +kernel
theorem dX5_hasForm_9 : decode cX5_hasForm 9 = .ok (.aload_n 0, 1) := by decide +kernel
theorem dX5_hasForm_10 : decode cX5_hasForm 10 = .ok (.getfield 44, 3) := by decide +kernel
theorem dX5_hasForm_13 : decode cX5_hasForm 13 = .ok (.invokevirtual 51, 3) := by decide +kernel
theorem dX5_hasForm_16 : decode cX5_hasForm 16 = .ok (.bipush 14, 2) := by decide +kernel
theorem dX5_hasForm_18 : decode cX5_hasForm 18 = .ok (.if_icmp .ne 12, 3) := by decide +kernel
theorem dX5_hasForm_21 : decode cX5_hasForm 21 = .ok (.aload_n 0, 1) := by decide +kernel
theorem dX5_hasForm_22 : decode cX5_hasForm 22 = .ok (.iconst 1, 1) := by decide +kernel
theorem dX5_hasForm_23 : decode cX5_hasForm 23 = .ok (.iconst 1, 1) := by decide +kernel
theorem dX5_hasForm_24 : decode cX5_hasForm 24 = .ok (.invokevirtual 54, 3) := by decide +kernel
theorem dX5_hasForm_27 : decode cX5_hasForm 27 = .ok (.ifCond .ne 5, 3) := by decide +kernel
theorem dX5_hasForm_30 : decode cX5_hasForm 30 = .ok (.iconst 0, 1) := by decide +kernel
theorem dX5_hasForm_31 : decode cX5_hasForm 31 = .ok (.ireturn, 1) := by decide +kernel
theorem dX5_hasForm_32 : decode cX5_hasForm 32 = .ok (.aload_n 0, 1) := by decide +kernel
theorem dX5_hasForm_33 : decode cX5_hasForm 33 = .ok (.iconst 2, 1) := by decide +kernel
theorem dX5_hasForm_34 : decode cX5_hasForm 34 = .ok (.iconst 3, 1) := by decide +kernel
theorem dX5_hasForm_35 : decode cX5_hasForm 35 = .ok (.invokevirtual 54, 3) := by decide +kernel
theorem dX5_hasForm_38 : decode cX5_hasForm 38 = .ok (.ifCond .eq 12, 3) := by decide +kernel
theorem dX5_hasForm_41 : decode cX5_hasForm 41 = .ok (.aload_n 0, 1) := by decide +kernel
theorem dX5_hasForm_42 : decode cX5_hasForm 42 = .ok (.iconst 4, 1) := by decide +kernel
theorem dX5_hasForm_43 : decode cX5_hasForm 43 = .ok (.iconst 1, 1) := by decide +kernel
theorem dX5_hasForm_44 : decode cX5_hasForm 44 = .ok (.invokevirtual 54, 3) := by decide +kernel
theorem dX5_hasForm_47 : decode cX5_hasForm 47 = .ok (.ifCond .ne 5, 3) := by decide +kernel
theorem dX5_hasForm_50 : decode cX5_hasForm 50 = .ok (.iconst 0, 1) := by decide +kernel
theorem dX5_hasForm_51 : decode cX5_hasForm 51 = .ok (.ireturn, 1) := by decide +kernel
theorem dX5_hasForm_52 : decode cX5_hasForm 52 = .ok (.iconst 0, 1) := by decide +kernel
theorem dX5_hasForm_53 : decode cX5_hasForm 53 = .ok (.istore_n 1, 1) := by decide +kernel
theorem dX5_hasForm_54 : decode cX5_hasForm 54 = .ok (.iload_n 1, 1) := by decide +kernel
theorem dX5_hasForm_55 : decode cX5_hasForm 55 = .ok (.aload_n 0, 1) := by decide +kernel
theorem dX5_hasForm_56 : decode cX5_hasForm 56 = .ok (.getfield 18, 3) := by decide +kernel
theorem dX5_hasForm_59 : decode cX5_hasForm 59 = .ok (.getfield 58, 3) := by decide +kernel
theorem dX5_hasForm_62 : decode cX5_hasForm 62 = .ok (.if_icmp .ge 41, 3) := by decide +kernel
theorem dX5_hasForm_65 : decode cX5_hasForm 65 = .ok (.aload_n 0, 1) := by decide +kernel
theorem dX5_hasForm_66 : decode cX5_hasForm 66 = .ok (.getfield 18, 3) := by decide +kernel
theorem dX5_hasForm_69 : decode cX5_hasForm 69 = .ok (.aload_n 0, 1) := by decide +kernel
theorem dX5_hasForm_70 : decode cX5_hasForm 70 = .ok (.getfield 44, 3) := by decide +kernel
theorem dX5_hasForm_73 : decode cX5_hasForm 73 = .ok (.invokevirtual 61, 3) := by decide +kernel
theorem dX5_hasForm_76 : decode cX5_hasForm 76 = .ok (.ifCond .eq 27, 3) := by decide +kernel
theorem dX5_hasForm_79 : decode cX5_hasForm 79 = .ok (.aload_n 0, 1) := by decide +kernel
theorem dX5_hasForm_80 : decode cX5_hasForm 80 = .ok (.invokevirtual 64, 3) := by decide +kernel
theorem dX5_hasForm_83 : decode cX5_hasForm 83 = .ok (.ifCond .eq 12, 3) := by decide +kernel
theorem dX5_hasForm_86 : decode cX5_hasForm 86 = .ok (.aload_n 0, 1) := by decide +kernel
theorem dX5_hasForm_87 : decode cX5_hasForm 87 = .ok (.iconst 4, 1) := by decide +kernel
theorem dX5_hasForm_88 : decode cX5_hasForm 88 = .ok (.iconst 1, 1) := by decide +kernel
theorem dX5_hasForm_89 : decode cX5_hasForm 89 = .ok (.invokevirtual 54, 3) := by decide +kernel
theorem dX5_hasForm_92 : decode cX5_hasForm 92 = .ok (.ifCond .ne 5, 3) := by decide +kernel
theorem dX5_hasForm_95 : decode cX5_hasForm 95 = .ok (.iconst 0, 1) := by decide +kernel
theorem dX5_hasForm_96 : decode cX5_hasForm 96 = .ok (.ireturn, 1) := by decide +kernel
theorem dX5_hasForm_97 : decode cX5_hasForm 97 = .ok (.iinc 1 1, 3) := by decide +kernel
theorem dX5_hasForm_100 : decode cX5_hasForm 100 = .ok (.goto (-46), 3) := by decide +kernel
theorem dX5_hasForm_103 : decode cX5_hasForm 103 = .ok (.iconst 1, 1) := by decide +kernel
theorem dX5_hasForm_104 : decode cX5_hasForm 104 = .ok (.ireturn, 1) := by decide +kernel
theorem dX5_passes_0 : decode cX5_passes 0 = .ok (.iconst 0, 1) := by decide +kernel
theorem dX5_passes_1 : decode cX5_passes 1 = .ok (.istore_n 3, 1) := by decide +kernel
theorem dX5_passes_2 : decode cX5_passes 2 = .ok (.iload_n 3, 1) := by decide +kernel
theorem dX5_passes_3 : decode cX5_passes 3 = .ok (.iload_n 2, 1) := by decide +kernel
theorem dX5_passes_4 : decode cX5_passes 4 = .ok (.if_icmp .ge 36, 3) := by decide +kernel
theorem dX5_passes_7 : decode cX5_passes 7 = .ok (.aload_n 0, 1) := by decide +kernel
theorem dX5_passes_8 : decode cX5_passes 8 = .ok (.getfield 18, 3) := by decide +kernel
theorem dX5_passes_11 : decode cX5_passes 11 = .ok (.aload_n 0, 1) := by decide +kernel
theorem dX5_passes_12 : decode cX5_passes 12 = .ok (.getfield 44, 3) := by decide +kernel
theorem dX5_passes_15 : decode cX5_passes 15 = .ok (.invokevirtual 61, 3) := by decide +kernel
theorem dX5_passes_18 : decode cX5_passes 18 = .ok (.iload_n 1, 1) := by decide +kernel
theorem dX5_passes_19 : decode cX5_passes 19 = .ok (.if_icmp .eq 5, 3) := by decide +kernel
theorem dX5_passes_22 : decode cX5_passes 22 = .ok (.iconst 0, 1) := by decide +kernel
theorem dX5_passes_23 : decode cX5_passes 23 = .ok (.ireturn, 1) := by decide +kernel
theorem dX5_passes_24 : decode cX5_passes 24 = .ok (.aload_n 0, 1) := by decide +kernel
theorem dX5_passes_25 : decode cX5_passes 25 = .ok (.dup, 1) := by decide +kernel
theorem dX5_passes_26 : decode cX5_passes 26 = .ok (.getfield 44, 3) := by decide +kernel
theorem dX5_passes_29 : decode cX5_passes 29 = .ok (.iconst 1, 1) := by decide +kernel
theorem dX5_passes_30 : decode cX5_passes 30 = .ok (.iadd, 1) := by decide +kernel
theorem dX5_passes_31 : decode cX5_passes 31 = .ok (.putfield 44, 3) := by decide +kernel
theorem dX5_passes_34 : decode cX5_passes 34 = .ok (.iinc 3 1, 3) := by decide +kernel
theorem dX5_passes_37 : decode cX5_passes 37 = .ok (.goto (-35), 3) := by decide +kernel
theorem dX5_passes_40 : decode cX5_passes 40 = .ok (.iconst 1, 1) := by decide +kernel
theorem dX5_passes_41 : decode cX5_passes 41 = .ok (.ireturn, 1) := by decide +kernel
theorem dX5_passesRule_0 : decode cX5_passesRule 0 = .ok (.aload_n 0, 1) := by decide +kernel
theorem dX5_passesRule_1 : decode cX5_passesRule 1 = .ok (.getfield 18, 3) := by decide +kernel
theorem dX5_passesRule_4 : decode cX5_passesRule 4 = .ok (.aload_n 0, 1) := by decide +kernel
theorem dX5_passesRule_5 : decode cX5_passesRule 5 = .ok (.getfield 44, 3) := by decide +kernel
theorem dX5_passesRule_8 : decode cX5_passesRule 8 = .ok (.invokevirtual 51, 3) := by decide +kernel
theorem dX5_passesRule_11 : decode cX5_passesRule 11 = .ok (.istore_n 1, 1) := by decide +kernel
theorem dX5_passesRule_12 : decode cX5_passesRule 12 = .ok (.aload_n 0, 1) := by decide +kernel
theorem dX5_passesRule_13 : decode cX5_passesRule 13 = .ok (.getfield 18, 3) := by decide +kernel
theorem dX5_passesRule_16 : decode cX5_passesRule 16 = .ok (.aload_n 0, 1) := by decide +kernel
theorem dX5_passesRule_17 : decode cX5_passesRule 17 = .ok (.getfield 44, 3) := by decide +kernel
theorem dX5_passesRule_20 : decode cX5_passesRule 20 = .ok (.invokevirtual 61, 3) := by decide +kernel
theorem dX5_passesRule_23 : decode cX5_passesRule 23 = .ok (.iconst 1, 1) := by decide +kernel
theorem dX5_passesRule_24 : decode cX5_passesRule 24 = .ok (.if_icmp .ne 9, 3) := by decide +kernel
theorem dX5_passesRule_27 : decode cX5_passesRule 27 = .ok (.iload_n 1, 1) := by decide +kernel
theorem dX5_passesRule_28 : decode cX5_passesRule 28 = .ok (.bipush 14, 2) := by decide +kernel
theorem dX5_passesRule_30 : decode cX5_passesRule 30 = .ok (.if_icmp .ne 5, 3) := by decide +kernel
theorem dX5_passesRule_33 : decode cX5_passesRule 33 = .ok (.iconst 0, 1) := by decide +kernel
theorem dX5_passesRule_34 : decode cX5_passesRule 34 = .ok (.ireturn, 1) := by decide +kernel
theorem dX5_passesRule_35 : decode cX5_passesRule 35 = .ok (.aload_n 0, 1) := by decide +kernel
theorem dX5_passesRule_36 : decode cX5_passesRule 36 = .ok (.dup, 1) := by decide +kernel
theorem dX5_passesRule_37 : decode cX5_passesRule 37 = .ok (.getfield 44, 3) := by decide +kernel
theorem dX5_passesRule_40 : decode cX5_passesRule 40 = .ok (.iconst 1, 1) := by decide +kernel
theorem dX5_passesRule_41 : decode cX5_passesRule 41 = .ok (.iadd, 1) := by decide +kernel
theorem dX5_passesRule_42 : decode cX5_passesRule 42 = .ok (.putfield 44, 3) := by decide +kernel
theorem dX5_passesRule_45 : decode cX5_passesRule 45 = .ok (.iload_n 1, 1) := by decide +kernel
theorem dX5_passesRule_46 : decode cX5_passesRule 46 = .ok (.ifCond .lt 11, 3) := by decide +kernel
theorem dX5_passesRule_49 : decode cX5_passesRule 49 = .ok (.iload_n 1, 1) := by decide +kernel
theorem dX5_passesRule_50 : decode cX5_passesRule 50 = .ok (.getstatic 67, 3) := by decide +kernel
theorem dX5_passesRule_53 : decode cX5_passesRule 53 = .ok (.arraylength, 1) := by decide +kernel
theorem dX5_passesRule_54 : decode cX5_passesRule 54 = .ok (.if_icmp .lt 5, 3) := by decide +kernel
theorem dX5_passesRule_57 : decode cX5_passesRule 57 = .ok (.iconst 1, 1) := by decide +kernel
theorem dX5_passesRule_58 : decode cX5_passesRule 58 = .ok (.ireturn, 1) := by decide +kernel
theorem dX5_passesRule_59 : decode cX5_passesRule 59 = .ok (.getstatic 67, 3) := by decide +kernel
theorem dX5_passesRule_62 : decode cX5_passesRule 62 = .ok (.iload_n 1, 1) := by decide +kernel
theorem dX5_passesRule_63 : decode cX5_passesRule 63 = .ok (.aaload, 1) := by decide +kernel
theorem dX5_passesRule_64 : decode cX5_passesRule 64 = .ok (.astore_n 2, 1) := by decide +kernel
theorem dX5_passesRule_65 : decode cX5_passesRule 65 = .ok (.aload_n 0, 1) := by decide +kernel
theorem dX5_passesRule_66 : decode cX5_passesRule 66 = .ok (.iconst 2, 1) := by decide +kernel
theorem dX5_passesRule_67 : decode cX5_passesRule 67 = .ok (.aload_n 2, 1) := by decide +kernel
theorem dX5_passesRule_68 : decode cX5_passesRule 68 = .ok (.getfield 73, 3) := by decide +kernel
theorem dX5_passesRule_71 : decode cX5_passesRule 71 = .ok (.invokevirtual 54, 3) := by decide +kernel
theorem dX5_passesRule_74 : decode cX5_passesRule 74 = .ok (.ifCond .eq 38, 3) := by decide +kernel
theorem dX5_passesRule_77 : decode cX5_passesRule 77 = .ok (.aload_n 0, 1) := by decide +kernel
theorem dX5_passesRule_78 : decode cX5_passesRule 78 = .ok (.aload_n 2, 1) := by decide +kernel
theorem dX5_passesRule_79 : decode cX5_passesRule 79 = .ok (.getfield 76, 3) := by decide +kernel
theorem dX5_passesRule_82 : decode cX5_passesRule 82 = .ok (.invokevirtual 79, 3) := by decide +kernel
theorem dX5_passesRule_85 : decode cX5_passesRule 85 = .ok (.ifCond .eq 27, 3) := by decide +kernel
theorem dX5_passesRule_88 : decode cX5_passesRule 88 = .ok (.aload_n 0, 1) := by decide +kernel
theorem dX5_passesRule_89 : decode cX5_passesRule 89 = .ok (.iconst 2, 1) := by decide +kernel
theorem dX5_passesRule_90 : decode cX5_passesRule 90 = .ok (.aload_n 2, 1) := by decide +kernel
theorem dX5_passesRule_91 : decode cX5_passesRule 91 = .ok (.getstatic 82, 3) := by decide +kernel
theorem dX5_passesRule_94 : decode cX5_passesRule 94 = .ok (.if_acmp .ne 7, 3) := by decide +kernel
theorem dX5_passesRule_97 : decode cX5_passesRule 97 = .ok (.iconst 1, 1) := by decide +kernel
theorem dX5_passesRule_98 : decode cX5_passesRule 98 = .ok (.goto 4, 3) := by decide +kernel
theorem dX5_passesRule_101 : decode cX5_passesRule 101 = .ok (.iconst 0, 1) := by decide +kernel
theorem dX5_passesRule_102 : decode cX5_passesRule 102 = .ok (.invokevirtual 54, 3) := by decide +kernel
theorem dX5_passesRule_105 : decode cX5_passesRule 105 = .ok (.ifCond .eq 7, 3) := by decide +kernel
theorem dX5_passesRule_108 : decode cX5_passesRule 108 = .ok (.iconst 1, 1) := by decide +kernel
theorem dX5_passesRule_109 : decode cX5_passesRule 109 = .ok (.goto 4, 3) := by decide +kernel
theorem dX5_passesRule_112 : decode cX5_passesRule 112 = .ok (.iconst 0, 1) := by decide +kernel
theorem dX5_passesRule_113 : decode cX5_passesRule 113 = .ok (.ireturn, 1) := by decide +kernel
theorem dX5_passesCells_0 : decode cX5_passesCells 0 = .ok (.iload_n 1, 1) := by decide +kernel
theorem dX5_passesCells_1 : decode cX5_passesCells 1 = .ok (.ifCond .le 10, 3) := by decide +kernel
theorem dX5_passesCells_4 : decode cX5_passesCells 4 = .ok (.aload_n 0, 1) := by decide +kernel
theorem dX5_passesCells_5 : decode cX5_passesCells 5 = .ok (.iconst 3, 1) := by decide +kernel
theorem dX5_passesCells_6 : decode cX5_passesCells 6 = .ok (.iload_n 1, 1) := by decide +kernel
theorem dX5_passesCells_7 : decode cX5_passesCells 7 = .ok (.invokevirtual 54, 3) := by decide +kernel
theorem dX5_passesCells_10 : decode cX5_passesCells 10 = .ok (.ireturn, 1) := by decide +kernel
theorem dX5_passesCells_11 : decode cX5_passesCells 11 = .ok (.aload_n 0, 1) := by decide +kernel
theorem dX5_passesCells_12 : decode cX5_passesCells 12 = .ok (.iconst 3, 1) := by decide +kernel
theorem dX5_passesCells_13 : decode cX5_passesCells 13 = .ok (.iconst 1, 1) := by decide +kernel
theorem dX5_passesCells_14 : decode cX5_passesCells 14 = .ok (.invokevirtual 54, 3) := by decide +kernel
theorem dX5_passesCells_17 : decode cX5_passesCells 17 = .ok (.ifCond .ne 5, 3) := by decide +kernel
theorem dX5_passesCells_20 : decode cX5_passesCells 20 = .ok (.iconst 0, 1) := by decide +kernel
theorem dX5_passesCells_21 : decode cX5_passesCells 21 = .ok (.ireturn, 1) := by decide +kernel
theorem dX5_passesCells_22 : decode cX5_passesCells 22 = .ok (.iconst 0, 1) := by decide +kernel
theorem dX5_passesCells_23 : decode cX5_passesCells 23 = .ok (.istore_n 2, 1) := by decide +kernel
theorem dX5_passesCells_24 : decode cX5_passesCells 24 = .ok (.iload_n 2, 1) := by decide +kernel
theorem dX5_passesCells_25 : decode cX5_passesCells 25 = .ok (.aload_n 0, 1) := by decide +kernel
theorem dX5_passesCells_26 : decode cX5_passesCells 26 = .ok (.getfield 18, 3) := by decide +kernel
theorem dX5_passesCells_29 : decode cX5_passesCells 29 = .ok (.getfield 58, 3) := by decide +kernel
theorem dX5_passesCells_32 : decode cX5_passesCells 32 = .ok (.if_icmp .ge 34, 3) := by decide +kernel
theorem dX5_passesCells_35 : decode cX5_passesCells 35 = .ok (.aload_n 0, 1) := by decide +kernel
theorem dX5_passesCells_36 : decode cX5_passesCells 36 = .ok (.getfield 18, 3) := by decide +kernel
theorem dX5_passesCells_39 : decode cX5_passesCells 39 = .ok (.aload_n 0, 1) := by decide +kernel
theorem dX5_passesCells_40 : decode cX5_passesCells 40 = .ok (.getfield 44, 3) := by decide +kernel
theorem dX5_passesCells_43 : decode cX5_passesCells 43 = .ok (.invokevirtual 61, 3) := by decide +kernel
theorem dX5_passesCells_46 : decode cX5_passesCells 46 = .ok (.iconst 3, 1) := by decide +kernel
theorem dX5_passesCells_47 : decode cX5_passesCells 47 = .ok (.if_icmp .ne 19, 3) := by decide +kernel
theorem dX5_passesCells_50 : decode cX5_passesCells 50 = .ok (.aload_n 0, 1) := by decide +kernel
theorem dX5_passesCells_51 : decode cX5_passesCells 51 = .ok (.dup, 1) := by decide +kernel
theorem dX5_passesCells_52 : decode cX5_passesCells 52 = .ok (.getfield 44, 3) := by decide +kernel
theorem dX5_passesCells_55 : decode cX5_passesCells 55 = .ok (.iconst 1, 1) := by decide +kernel
theorem dX5_passesCells_56 : decode cX5_passesCells 56 = .ok (.iadd, 1) := by decide +kernel
theorem dX5_passesCells_57 : decode cX5_passesCells 57 = .ok (.putfield 44, 3) := by decide +kernel
theorem dX5_passesCells_60 : decode cX5_passesCells 60 = .ok (.iinc 2 1, 3) := by decide +kernel
theorem dX5_passesCells_63 : decode cX5_passesCells 63 = .ok (.goto (-39), 3) := by decide +kernel
theorem dX5_passesCells_66 : decode cX5_passesCells 66 = .ok (.iconst 1, 1) := by decide +kernel
theorem dX5_passesCells_67 : decode cX5_passesCells 67 = .ok (.ireturn, 1) := by decide +kernel
theorem dX5_readSizes_0 : decode cX5_readSizes 0 = .ok (.aload_n 0, 1) := by decide +kernel
theorem dX5_readSizes_1 : decode cX5_readSizes 1 = .ok (.iconst 1, 1) := by decide +kernel
theorem dX5_readSizes_2 : decode cX5_readSizes 2 = .ok (.putfield 44, 3) := by decide +kernel
theorem dX5_readSizes_5 : decode cX5_readSizes 5 = .ok (.aload_n 0, 1) := by decide +kernel
theorem dX5_readSizes_6 : decode cX5_readSizes 6 = .ok (.getfield 44, 3) := by decide +kernel
theorem dX5_readSizes_9 : decode cX5_readSizes 9 = .ok (.iconst 3, 1) := by decide +kernel
theorem dX5_readSizes_10 : decode cX5_readSizes 10 = .ok (.if_icmp .gt 44, 3) := by decide +kernel
theorem dX5_readSizes_13 : decode cX5_readSizes 13 = .ok (.aload_n 0, 1) := by decide +kernel
theorem dX5_readSizes_14 : decode cX5_readSizes 14 = .ok (.getfield 18, 3) := by decide +kernel
theorem dX5_readSizes_17 : decode cX5_readSizes 17 = .ok (.aload_n 0, 1) := by decide +kernel
theorem dX5_readSizes_18 : decode cX5_readSizes 18 = .ok (.getfield 44, 3) := by decide +kernel
theorem dX5_readSizes_21 : decode cX5_readSizes 21 = .ok (.invokevirtual 51, 3) := by decide +kernel
theorem dX5_readSizes_24 : decode cX5_readSizes 24 = .ok (.istore_n 2, 1) := by decide +kernel
theorem dX5_readSizes_25 : decode cX5_readSizes 25 = .ok (.iload_n 2, 1) := by decide +kernel
theorem dX5_readSizes_26 : decode cX5_readSizes 26 = .ok (.iconst 2, 1) := by decide +kernel
theorem dX5_readSizes_27 : decode cX5_readSizes 27 = .ok (.if_icmp .lt 8, 3) := by decide +kernel
theorem dX5_readSizes_30 : decode cX5_readSizes 30 = .ok (.iload_n 2, 1) := by decide +kernel
theorem dX5_readSizes_31 : decode cX5_readSizes 31 = .ok (.iconst 5, 1) := by decide +kernel
theorem dX5_readSizes_32 : decode cX5_readSizes 32 = .ok (.if_icmp .le 9, 3) := by decide +kernel
theorem dX5_readSizes_35 : decode cX5_readSizes 35 = .ok (.aload_n 0, 1) := by decide +kernel
theorem dX5_readSizes_36 : decode cX5_readSizes 36 = .ok (.iconst 2, 1) := by decide +kernel
theorem dX5_readSizes_37 : decode cX5_readSizes 37 = .ok (.invokevirtual 33, 3) := by decide +kernel
theorem dX5_readSizes_40 : decode cX5_readSizes 40 = .ok (.ireturn, 1) := by decide +kernel
theorem dX5_readSizes_41 : decode cX5_readSizes 41 = .ok (.aload_n 0, 1) := by decide +kernel
theorem dX5_readSizes_42 : decode cX5_readSizes 42 = .ok (.dup, 1) := by decide +kernel
theorem dX5_readSizes_43 : decode cX5_readSizes 43 = .ok (.getfield 44, 3) := by decide +kernel
theorem dX5_readSizes_46 : decode cX5_readSizes 46 = .ok (.iconst 1, 1) := by decide +kernel
theorem dX5_readSizes_47 : decode cX5_readSizes 47 = .ok (.iadd, 1) := by decide +kernel
theorem dX5_readSizes_48 : decode cX5_readSizes 48 = .ok (.putfield 44, 3) := by decide +kernel
theorem dX5_readSizes_51 : decode cX5_readSizes 51 = .ok (.goto (-46), 3) := by decide +kernel
theorem dX5_readSizes_54 : decode cX5_readSizes 54 = .ok (.aload_n 1, 1) := by decide +kernel
theorem dX5_readSizes_55 : decode cX5_readSizes 55 = .ok (.aload_n 0, 1) := by decide +kernel
theorem dX5_readSizes_56 : decode cX5_readSizes 56 = .ok (.getfield 18, 3) := by decide +kernel
theorem dX5_readSizes_59 : decode cX5_readSizes 59 = .ok (.iconst 1, 1) := by decide +kernel
theorem dX5_readSizes_60 : decode cX5_readSizes 60 = .ok (.invokevirtual 51, 3) := by decide +kernel
theorem dX5_readSizes_63 : decode cX5_readSizes 63 = .ok (.aload_n 0, 1) := by decide +kernel
theorem dX5_readSizes_64 : decode cX5_readSizes 64 = .ok (.getfield 18, 3) := by decide +kernel
theorem dX5_readSizes_67 : decode cX5_readSizes 67 = .ok (.iconst 2, 1) := by decide +kernel
theorem dX5_readSizes_68 : decode cX5_readSizes 68 = .ok (.invokevirtual 51, 3) := by decide +kernel
theorem dX5_readSizes_71 : decode cX5_readSizes 71 = .ok (.aload_n 0, 1) := by decide +kernel
theorem dX5_readSizes_72 : decode cX5_readSizes 72 = .ok (.getfield 18, 3) := by decide +kernel
theorem dX5_readSizes_75 : decode cX5_readSizes 75 = .ok (.iconst 3, 1) := by decide +kernel
theorem dX5_readSizes_76 : decode cX5_readSizes 76 = .ok (.invokevirtual 51, 3) := by decide +kernel
theorem dX5_readSizes_79 : decode cX5_readSizes 79 = .ok (.invokevirtual 86, 3) := by decide +kernel
theorem dX5_readSizes_82 : decode cX5_readSizes 82 = .ok (.iconst 1, 1) := by decide +kernel
theorem dX5_readSizes_83 : decode cX5_readSizes 83 = .ok (.ireturn, 1) := by decide +kernel
theorem dX5_readRules_0 : decode cX5_readRules 0 = .ok (.aload_n 0, 1) := by decide +kernel
theorem dX5_readRules_1 : decode cX5_readRules 1 = .ok (.iconst 5, 1) := by decide +kernel
theorem dX5_readRules_2 : decode cX5_readRules 2 = .ok (.putfield 44, 3) := by decide +kernel
theorem dX5_readRules_5 : decode cX5_readRules 5 = .ok (.iconst 0, 1) := by decide +kernel
theorem dX5_readRules_6 : decode cX5_readRules 6 = .ok (.istore_n 2, 1) := by decide +kernel
theorem dX5_readRules_7 : decode cX5_readRules 7 = .ok (.iload_n 2, 1) := by decide +kernel
theorem dX5_readRules_8 : decode cX5_readRules 8 = .ok (.aload_n 0, 1) := by decide +kernel
theorem dX5_readRules_9 : decode cX5_readRules 9 = .ok (.getfield 18, 3) := by decide +kernel
theorem dX5_readRules_12 : decode cX5_readRules 12 = .ok (.getfield 58, 3) := by decide +kernel
theorem dX5_readRules_15 : decode cX5_readRules 15 = .ok (.if_icmp .ge 44, 3) := by decide +kernel
theorem dX5_readRules_18 : decode cX5_readRules 18 = .ok (.aload_n 0, 1) := by decide +kernel
theorem dX5_readRules_19 : decode cX5_readRules 19 = .ok (.getfield 18, 3) := by decide +kernel
theorem dX5_readRules_22 : decode cX5_readRules 22 = .ok (.aload_n 0, 1) := by decide +kernel
theorem dX5_readRules_23 : decode cX5_readRules 23 = .ok (.getfield 44, 3) := by decide +kernel
theorem dX5_readRules_26 : decode cX5_readRules 26 = .ok (.invokevirtual 61, 3) := by decide +kernel
theorem dX5_readRules_29 : decode cX5_readRules 29 = .ok (.iconst 1, 1) := by decide +kernel
theorem dX5_readRules_30 : decode cX5_readRules 30 = .ok (.if_icmp .ne 29, 3) := by decide +kernel
theorem dX5_readRules_33 : decode cX5_readRules 33 = .ok (.aload_n 0, 1) := by decide +kernel
theorem dX5_readRules_34 : decode cX5_readRules 34 = .ok (.aload_n 1, 1) := by decide +kernel
theorem dX5_readRules_35 : decode cX5_readRules 35 = .ok (.invokevirtual 92, 3) := by decide +kernel
theorem dX5_readRules_38 : decode cX5_readRules 38 = .ok (.ifCond .ne 5, 3) := by decide +kernel
theorem dX5_readRules_41 : decode cX5_readRules 41 = .ok (.iconst 0, 1) := by decide +kernel
theorem dX5_readRules_42 : decode cX5_readRules 42 = .ok (.ireturn, 1) := by decide +kernel
theorem dX5_readRules_43 : decode cX5_readRules 43 = .ok (.aload_n 0, 1) := by decide +kernel
theorem dX5_readRules_44 : decode cX5_readRules 44 = .ok (.dup, 1) := by decide +kernel
theorem dX5_readRules_45 : decode cX5_readRules 45 = .ok (.getfield 44, 3) := by decide +kernel
theorem dX5_readRules_48 : decode cX5_readRules 48 = .ok (.iconst 1, 1) := by decide +kernel
theorem dX5_readRules_49 : decode cX5_readRules 49 = .ok (.iadd, 1) := by decide +kernel
theorem dX5_readRules_50 : decode cX5_readRules 50 = .ok (.putfield 44, 3) := by decide +kernel
theorem dX5_readRules_53 : decode cX5_readRules 53 = .ok (.iinc 2 1, 3) := by decide +kernel
theorem dX5_readRules_56 : decode cX5_readRules 56 = .ok (.goto (-49), 3) := by decide +kernel
theorem dX5_readRules_59 : decode cX5_readRules 59 = .ok (.iconst 1, 1) := by decide +kernel
theorem dX5_readRules_60 : decode cX5_readRules 60 = .ok (.ireturn, 1) := by decide +kernel
theorem dX5_readRule_0 : decode cX5_readRule 0 = .ok (.aload_n 0, 1) := by decide +kernel
theorem dX5_readRule_1 : decode cX5_readRule 1 = .ok (.getfield 18, 3) := by decide +kernel
theorem dX5_readRule_4 : decode cX5_readRule 4 = .ok (.aload_n 0, 1) := by decide +kernel
theorem dX5_readRule_5 : decode cX5_readRule 5 = .ok (.getfield 44, 3) := by decide +kernel
theorem dX5_readRule_8 : decode cX5_readRule 8 = .ok (.invokevirtual 51, 3) := by decide +kernel
theorem dX5_readRule_11 : decode cX5_readRule 11 = .ok (.istore_n 2, 1) := by decide +kernel
theorem dX5_readRule_12 : decode cX5_readRule 12 = .ok (.aload_n 1, 1) := by decide +kernel
theorem dX5_readRule_13 : decode cX5_readRule 13 = .ok (.getfield 95, 3) := by decide +kernel
theorem dX5_readRule_16 : decode cX5_readRule 16 = .ok (.iload_n 2, 1) := by decide +kernel
theorem dX5_readRule_17 : decode cX5_readRule 17 = .ok (.aload_n 1, 1) := by decide +kernel
theorem dX5_readRule_18 : decode cX5_readRule 18 = .ok (.invokestatic 98, 3) := by decide +kernel
theorem dX5_readRule_21 : decode cX5_readRule 21 = .ok (.iadd, 1) := by decide +kernel
theorem dX5_readRule_22 : decode cX5_readRule 22 = .ok (.bipush 40, 2) := by decide +kernel
theorem dX5_readRule_24 : decode cX5_readRule 24 = .ok (.if_icmp .le 9, 3) := by decide +kernel
theorem dX5_readRule_27 : decode cX5_readRule 27 = .ok (.aload_n 0, 1) := by decide +kernel
theorem dX5_readRule_28 : decode cX5_readRule 28 = .ok (.iconst 4, 1) := by decide +kernel
theorem dX5_readRule_29 : decode cX5_readRule 29 = .ok (.invokevirtual 33, 3) := by decide +kernel
theorem dX5_readRule_32 : decode cX5_readRule 32 = .ok (.ireturn, 1) := by decide +kernel
theorem dX5_readRule_33 : decode cX5_readRule 33 = .ok (.iload_n 2, 1) := by decide +kernel
theorem dX5_readRule_34 : decode cX5_readRule 34 = .ok (.bipush 12, 2) := by decide +kernel
theorem dX5_readRule_36 : decode cX5_readRule 36 = .ok (.if_icmp .ne 19, 3) := by decide +kernel
theorem dX5_readRule_39 : decode cX5_readRule 39 = .ok (.aload_n 1, 1) := by decide +kernel
theorem dX5_readRule_40 : decode cX5_readRule 40 = .ok (.invokevirtual 102, 3) := by decide +kernel
theorem dX5_readRule_43 : decode cX5_readRule 43 = .ok (.aload_n 0, 1) := by decide +kernel
theorem dX5_readRule_44 : decode cX5_readRule 44 = .ok (.dup, 1) := by decide +kernel
theorem dX5_readRule_45 : decode cX5_readRule 45 = .ok (.getfield 44, 3) := by decide +kernel
theorem dX5_readRule_48 : decode cX5_readRule 48 = .ok (.iconst 1, 1) := by decide +kernel
theorem dX5_readRule_49 : decode cX5_readRule 49 = .ok (.iadd, 1) := by decide +kernel
theorem dX5_readRule_50 : decode cX5_readRule 50 = .ok (.putfield 44, 3) := by decide +kernel
theorem dX5_readRule_53 : decode cX5_readRule 53 = .ok (.iconst 1, 1) := by decide +kernel
theorem dX5_readRule_54 : decode cX5_readRule 54 = .ok (.ireturn, 1) := by decide +kernel
theorem dX5_readRule_55 : decode cX5_readRule 55 = .ok (.iload_n 2, 1) := by decide +kernel
theorem dX5_readRule_56 : decode cX5_readRule 56 = .ok (.bipush 13, 2) := by decide +kernel
theorem dX5_readRule_58 : decode cX5_readRule 58 = .ok (.if_icmp .ne 19, 3) := by decide +kernel
theorem dX5_readRule_61 : decode cX5_readRule 61 = .ok (.aload_n 1, 1) := by decide +kernel
theorem dX5_readRule_62 : decode cX5_readRule 62 = .ok (.invokevirtual 105, 3) := by decide +kernel
theorem dX5_readRule_65 : decode cX5_readRule 65 = .ok (.aload_n 0, 1) := by decide +kernel
theorem dX5_readRule_66 : decode cX5_readRule 66 = .ok (.dup, 1) := by decide +kernel
theorem dX5_readRule_67 : decode cX5_readRule 67 = .ok (.getfield 44, 3) := by decide +kernel
theorem dX5_readRule_70 : decode cX5_readRule 70 = .ok (.iconst 1, 1) := by decide +kernel
theorem dX5_readRule_71 : decode cX5_readRule 71 = .ok (.iadd, 1) := by decide +kernel
theorem dX5_readRule_72 : decode cX5_readRule 72 = .ok (.putfield 44, 3) := by decide +kernel
theorem dX5_readRule_75 : decode cX5_readRule 75 = .ok (.iconst 1, 1) := by decide +kernel
theorem dX5_readRule_76 : decode cX5_readRule 76 = .ok (.ireturn, 1) := by decide +kernel
theorem dX5_readRule_77 : decode cX5_readRule 77 = .ok (.iload_n 2, 1) := by decide +kernel
theorem dX5_readRule_78 : decode cX5_readRule 78 = .ok (.ifCond .lt 11, 3) := by decide +kernel
theorem dX5_readRule_81 : decode cX5_readRule 81 = .ok (.iload_n 2, 1) := by decide +kernel
theorem dX5_readRule_82 : decode cX5_readRule 82 = .ok (.getstatic 67, 3) := by decide +kernel
theorem dX5_readRule_85 : decode cX5_readRule 85 = .ok (.arraylength, 1) := by decide +kernel
theorem dX5_readRule_86 : decode cX5_readRule 86 = .ok (.if_icmp .lt 9, 3) := by decide +kernel
theorem dX5_readRule_89 : decode cX5_readRule 89 = .ok (.aload_n 0, 1) := by decide +kernel
theorem dX5_readRule_90 : decode cX5_readRule 90 = .ok (.iconst 1, 1) := by decide +kernel
theorem dX5_readRule_91 : decode cX5_readRule 91 = .ok (.invokevirtual 33, 3) := by decide +kernel
theorem dX5_readRule_94 : decode cX5_readRule 94 = .ok (.ireturn, 1) := by decide +kernel
theorem dX5_readRule_95 : decode cX5_readRule 95 = .ok (.aload_n 0, 1) := by decide +kernel
theorem dX5_readRule_96 : decode cX5_readRule 96 = .ok (.dup, 1) := by decide +kernel
theorem dX5_readRule_97 : decode cX5_readRule 97 = .ok (.getfield 44, 3) := by decide +kernel
theorem dX5_readRule_100 : decode cX5_readRule 100 = .ok (.iconst 1, 1) := by decide +kernel
theorem dX5_readRule_101 : decode cX5_readRule 101 = .ok (.iadd, 1) := by decide +kernel
theorem dX5_readRule_102 : decode cX5_readRule 102 = .ok (.putfield 44, 3) := by decide +kernel
theorem dX5_readRule_105 : decode cX5_readRule 105 = .ok (.aload_n 1, 1) := by decide +kernel
theorem dX5_readRule_106 : decode cX5_readRule 106 = .ok (.getstatic 67, 3) := by decide +kernel
theorem dX5_readRule_109 : decode cX5_readRule 109 = .ok (.iload_n 2, 1) := by decide +kernel
theorem dX5_readRule_110 : decode cX5_readRule 110 = .ok (.aaload, 1) := by decide +kernel
theorem dX5_readRule_111 : decode cX5_readRule 111 = .ok (.invokevirtual 108, 3) := by decide +kernel
theorem dX5_readRule_114 : decode cX5_readRule 114 = .ok (.astore_n 3, 1) := by decide +kernel
theorem dX5_readRule_115 : decode cX5_readRule 115 = .ok (.aload_n 3, 1) := by decide +kernel
theorem dX5_readRule_116 : decode cX5_readRule 116 = .ok (.getfield 112, 3) := by decide +kernel
theorem dX5_readRule_119 : decode cX5_readRule 119 = .ok (.getfield 73, 3) := by decide +kernel
theorem dX5_readRule_122 : decode cX5_readRule 122 = .ok (.iconst 1, 1) := by decide +kernel
theorem dX5_readRule_123 : decode cX5_readRule 123 = .ok (.if_icmp .lt 12, 3) := by decide +kernel
theorem dX5_readRule_126 : decode cX5_readRule 126 = .ok (.aload_n 0, 1) := by decide +kernel
theorem dX5_readRule_127 : decode cX5_readRule 127 = .ok (.aload_n 1, 1) := by decide +kernel
theorem dX5_readRule_128 : decode cX5_readRule 128 = .ok (.aload_n 3, 1) := by decide +kernel
theorem dX5_readRule_129 : decode cX5_readRule 129 = .ok (.invokevirtual 117, 3) := by decide +kernel
theorem dX5_readRule_132 : decode cX5_readRule 132 = .ok (.ifCond .eq 54, 3) := by decide +kernel
theorem dX5_readRule_135 : decode cX5_readRule 135 = .ok (.aload_n 3, 1) := by decide +kernel
theorem dX5_readRule_136 : decode cX5_readRule 136 = .ok (.getfield 112, 3) := by decide +kernel
theorem dX5_readRule_139 : decode cX5_readRule 139 = .ok (.getfield 73, 3) := by decide +kernel
theorem dX5_readRule_142 : decode cX5_readRule 142 = .ok (.iconst 2, 1) := by decide +kernel
theorem dX5_readRule_143 : decode cX5_readRule 143 = .ok (.if_icmp .lt 11, 3) := by decide +kernel
theorem dX5_readRule_146 : decode cX5_readRule 146 = .ok (.aload_n 0, 1) := by decide +kernel
theorem dX5_readRule_147 : decode cX5_readRule 147 = .ok (.aload_n 3, 1) := by decide +kernel
theorem dX5_readRule_148 : decode cX5_readRule 148 = .ok (.invokevirtual 121, 3) := by decide +kernel
theorem dX5_readRule_151 : decode cX5_readRule 151 = .ok (.ifCond .eq 35, 3) := by decide +kernel
theorem dX5_readRule_154 : decode cX5_readRule 154 = .ok (.aload_n 0, 1) := by decide +kernel
theorem dX5_readRule_155 : decode cX5_readRule 155 = .ok (.aload_n 1, 1) := by decide +kernel
theorem dX5_readRule_156 : decode cX5_readRule 156 = .ok (.aload_n 3, 1) := by decide +kernel
theorem dX5_readRule_157 : decode cX5_readRule 157 = .ok (.invokevirtual 125, 3) := by decide +kernel
theorem dX5_readRule_160 : decode cX5_readRule 160 = .ok (.ifCond .eq 26, 3) := by decide +kernel
theorem dX5_readRule_163 : decode cX5_readRule 163 = .ok (.aload_n 3, 1) := by decide +kernel
theorem dX5_readRule_164 : decode cX5_readRule 164 = .ok (.getfield 112, 3) := by decide +kernel
theorem dX5_readRule_167 : decode cX5_readRule 167 = .ok (.getstatic 82, 3) := by decide +kernel
theorem dX5_readRule_170 : decode cX5_readRule 170 = .ok (.if_acmp .ne 12, 3) := by decide +kernel
theorem dX5_readRule_173 : decode cX5_readRule 173 = .ok (.aload_n 0, 1) := by decide +kernel
theorem dX5_readRule_174 : decode cX5_readRule 174 = .ok (.aload_n 1, 1) := by decide +kernel
theorem dX5_readRule_175 : decode cX5_readRule 175 = .ok (.aload_n 3, 1) := by decide +kernel
theorem dX5_readRule_176 : decode cX5_readRule 176 = .ok (.invokevirtual 117, 3) := by decide +kernel
theorem dX5_readRule_179 : decode cX5_readRule 179 = .ok (.ifCond .eq 7, 3) := by decide +kernel
theorem dX5_readRule_182 : decode cX5_readRule 182 = .ok (.iconst 1, 1) := by decide +kernel
theorem dX5_readRule_183 : decode cX5_readRule 183 = .ok (.goto 4, 3) := by decide +kernel
theorem dX5_readRule_186 : decode cX5_readRule 186 = .ok (.iconst 0, 1) := by decide +kernel
theorem dX5_readRule_187 : decode cX5_readRule 187 = .ok (.ireturn, 1) := by decide +kernel
theorem dX5_rulesOf_0 : decode cX5_rulesOf 0 = .ok (.iload_n 0, 1) := by decide +kernel
theorem dX5_rulesOf_1 : decode cX5_rulesOf 1 = .ok (.bipush 12, 2) := by decide +kernel
theorem dX5_rulesOf_3 : decode cX5_rulesOf 3 = .ok (.if_icmp .ne 8, 3) := by decide +kernel
theorem dX5_rulesOf_6 : decode cX5_rulesOf 6 = .ok (.aload_n 1, 1) := by decide +kernel
theorem dX5_rulesOf_7 : decode cX5_rulesOf 7 = .ok (.getfield 128, 3) := by decide +kernel
theorem dX5_rulesOf_10 : decode cX5_rulesOf 10 = .ok (.ireturn, 1) := by decide +kernel
theorem dX5_rulesOf_11 : decode cX5_rulesOf 11 = .ok (.iload_n 0, 1) := by decide +kernel
theorem dX5_rulesOf_12 : decode cX5_rulesOf 12 = .ok (.bipush 13, 2) := by decide +kernel
theorem dX5_rulesOf_14 : decode cX5_rulesOf 14 = .ok (.if_icmp .ne 10, 3) := by decide +kernel
theorem dX5_rulesOf_17 : decode cX5_rulesOf 17 = .ok (.aload_n 1, 1) := by decide +kernel
theorem dX5_rulesOf_18 : decode cX5_rulesOf 18 = .ok (.getfield 131, 3) := by decide +kernel
theorem dX5_rulesOf_21 : decode cX5_rulesOf 21 = .ok (.goto 4, 3) := by decide +kernel
theorem dX5_rulesOf_24 : decode cX5_rulesOf 24 = .ok (.iconst 1, 1) := by decide +kernel
theorem dX5_rulesOf_25 : decode cX5_rulesOf 25 = .ok (.ireturn, 1) := by decide +kernel
theorem dX5_readNumber_0 : decode cX5_readNumber 0 = .ok (.aload_n 2, 1) := by decide +kernel
theorem dX5_readNumber_1 : decode cX5_readNumber 1 = .ok (.aload_n 0, 1) := by decide +kernel
theorem dX5_readNumber_2 : decode cX5_readNumber 2 = .ok (.getfield 18, 3) := by decide +kernel
theorem dX5_readNumber_5 : decode cX5_readNumber 5 = .ok (.aload_n 0, 1) := by decide +kernel
theorem dX5_readNumber_6 : decode cX5_readNumber 6 = .ok (.getfield 44, 3) := by decide +kernel
theorem dX5_readNumber_9 : decode cX5_readNumber 9 = .ok (.invokevirtual 51, 3) := by decide +kernel
theorem dX5_readNumber_12 : decode cX5_readNumber 12 = .ok (.putfield 134, 3) := by decide +kernel
theorem dX5_readNumber_15 : decode cX5_readNumber 15 = .ok (.aload_n 2, 1) := by decide +kernel
theorem dX5_readNumber_16 : decode cX5_readNumber 16 = .ok (.getfield 112, 3) := by decide +kernel
theorem dX5_readNumber_19 : decode cX5_readNumber 19 = .ok (.aload_n 2, 1) := by decide +kernel
theorem dX5_readNumber_20 : decode cX5_readNumber 20 = .ok (.getfield 134, 3) := by decide +kernel
theorem dX5_readNumber_23 : decode cX5_readNumber 23 = .ok (.aload_n 1, 1) := by decide +kernel
theorem dX5_readNumber_24 : decode cX5_readNumber 24 = .ok (.getfield 137, 3) := by decide +kernel
theorem dX5_readNumber_27 : decode cX5_readNumber 27 = .ok (.invokestatic 140, 3) := by decide +kernel
theorem dX5_readNumber_30 : decode cX5_readNumber 30 = .ok (.ifCond .ne 9, 3) := by decide +kernel
theorem dX5_readNumber_33 : decode cX5_readNumber 33 = .ok (.aload_n 0, 1) := by decide +kernel
theorem dX5_readNumber_34 : decode cX5_readNumber 34 = .ok (.iconst 2, 1) := by decide +kernel
theorem dX5_readNumber_35 : decode cX5_readNumber 35 = .ok (.invokevirtual 33, 3) := by decide +kernel
theorem dX5_readNumber_38 : decode cX5_readNumber 38 = .ok (.ireturn, 1) := by decide +kernel
theorem dX5_readNumber_39 : decode cX5_readNumber 39 = .ok (.aload_n 0, 1) := by decide +kernel
theorem dX5_readNumber_40 : decode cX5_readNumber 40 = .ok (.dup, 1) := by decide +kernel
theorem dX5_readNumber_41 : decode cX5_readNumber 41 = .ok (.getfield 44, 3) := by decide +kernel
theorem dX5_readNumber_44 : decode cX5_readNumber 44 = .ok (.iconst 1, 1) := by decide +kernel
theorem dX5_readNumber_45 : decode cX5_readNumber 45 = .ok (.iadd, 1) := by decide +kernel
theorem dX5_readNumber_46 : decode cX5_readNumber 46 = .ok (.putfield 44, 3) := by decide +kernel
theorem dX5_readNumber_49 : decode cX5_readNumber 49 = .ok (.iconst 1, 1) := by decide +kernel
theorem dX5_readNumber_50 : decode cX5_readNumber 50 = .ok (.ireturn, 1) := by decide +kernel
theorem dX5_isAllowed_0 : decode cX5_isAllowed 0 = .ok (.getstatic 144, 3) := by decide +kernel
theorem dX5_isAllowed_3 : decode cX5_isAllowed 3 = .ok (.aload_n 0, 1) := by decide +kernel
theorem dX5_isAllowed_4 : decode cX5_isAllowed 4 = .ok (.invokevirtual 150, 3) := by decide +kernel
theorem dX5_isAllowed_7 : decode cX5_isAllowed 7 = .ok (.iaload, 1) := by decide +kernel
theorem dX5_isAllowed_8 : decode cX5_isAllowed 8 = .ok (.tableswitch 88 6 11 #[56, 88, 88, 40, 40, 72], 40) := by decide +kernel
theorem dX5_isAllowed_48 : decode cX5_isAllowed 48 = .ok (.iload_n 1, 1) := by decide +kernel
theorem dX5_isAllowed_49 : decode cX5_isAllowed 49 = .ok (.iconst 1, 1) := by decide +kernel
theorem dX5_isAllowed_50 : decode cX5_isAllowed 50 = .ok (.if_icmp .lt 12, 3) := by decide +kernel
theorem dX5_isAllowed_53 : decode cX5_isAllowed 53 = .ok (.iload_n 1, 1) := by decide +kernel
theorem dX5_isAllowed_54 : decode cX5_isAllowed 54 = .ok (.iload_n 2, 1) := by decide +kernel
theorem dX5_isAllowed_55 : decode cX5_isAllowed 55 = .ok (.if_icmp .gt 7, 3) := by decide +kernel
theorem dX5_isAllowed_58 : decode cX5_isAllowed 58 = .ok (.iconst 1, 1) := by decide +kernel
theorem dX5_isAllowed_59 : decode cX5_isAllowed 59 = .ok (.goto 4, 3) := by decide +kernel
theorem dX5_isAllowed_62 : decode cX5_isAllowed 62 = .ok (.iconst 0, 1) := by decide +kernel
theorem dX5_isAllowed_63 : decode cX5_isAllowed 63 = .ok (.ireturn, 1) := by decide +kernel
theorem dX5_isAllowed_64 : decode cX5_isAllowed 64 = .ok (.iload_n 1, 1) := by decide +kernel
theorem dX5_isAllowed_65 : decode cX5_isAllowed 65 = .ok (.iconst 1, 1) := by decide +kernel
theorem dX5_isAllowed_66 : decode cX5_isAllowed 66 = .ok (.if_icmp .lt 12, 3) := by decide +kernel
theorem dX5_isAllowed_69 : decode cX5_isAllowed 69 = .ok (.iload_n 1, 1) := by decide +kernel
theorem dX5_isAllowed_70 : decode cX5_isAllowed 70 = .ok (.iconst 5, 1) := by decide +kernel
theorem dX5_isAllowed_71 : decode cX5_isAllowed 71 = .ok (.if_icmp .gt 7, 3) := by decide +kernel
theorem dX5_isAllowed_74 : decode cX5_isAllowed 74 = .ok (.iconst 1, 1) := by decide +kernel
theorem dX5_isAllowed_75 : decode cX5_isAllowed 75 = .ok (.goto 4, 3) := by decide +kernel
theorem dX5_isAllowed_78 : decode cX5_isAllowed 78 = .ok (.iconst 0, 1) := by decide +kernel
theorem dX5_isAllowed_79 : decode cX5_isAllowed 79 = .ok (.ireturn, 1) := by decide +kernel
theorem dX5_isAllowed_80 : decode cX5_isAllowed 80 = .ok (.iload_n 1, 1) := by decide +kernel
theorem dX5_isAllowed_81 : decode cX5_isAllowed 81 = .ok (.iconst 1, 1) := by decide +kernel
theorem dX5_isAllowed_82 : decode cX5_isAllowed 82 = .ok (.if_icmp .lt 12, 3) := by decide +kernel
theorem dX5_isAllowed_85 : decode cX5_isAllowed 85 = .ok (.iload_n 1, 1) := by decide +kernel
theorem dX5_isAllowed_86 : decode cX5_isAllowed 86 = .ok (.iconst 4, 1) := by decide +kernel
theorem dX5_isAllowed_87 : decode cX5_isAllowed 87 = .ok (.if_icmp .gt 7, 3) := by decide +kernel
theorem dX5_isAllowed_90 : decode cX5_isAllowed 90 = .ok (.iconst 1, 1) := by decide +kernel
theorem dX5_isAllowed_91 : decode cX5_isAllowed 91 = .ok (.goto 4, 3) := by decide +kernel
theorem dX5_isAllowed_94 : decode cX5_isAllowed 94 = .ok (.iconst 0, 1) := by decide +kernel
theorem dX5_isAllowed_95 : decode cX5_isAllowed 95 = .ok (.ireturn, 1) := by decide +kernel
theorem dX5_isAllowed_96 : decode cX5_isAllowed 96 = .ok (.iconst 1, 1) := by decide +kernel
theorem dX5_isAllowed_97 : decode cX5_isAllowed 97 = .ok (.ireturn, 1) := by decide +kernel
theorem dX5_readTimes_0 : decode cX5_readTimes 0 = .ok (.aload_n 1, 1) := by decide +kernel
theorem dX5_readTimes_1 : decode cX5_readTimes 1 = .ok (.aload_n 0, 1) := by decide +kernel
theorem dX5_readTimes_2 : decode cX5_readTimes 2 = .ok (.getfield 18, 3) := by decide +kernel
theorem dX5_readTimes_5 : decode cX5_readTimes 5 = .ok (.aload_n 0, 1) := by decide +kernel
theorem dX5_readTimes_6 : decode cX5_readTimes 6 = .ok (.getfield 44, 3) := by decide +kernel
theorem dX5_readTimes_9 : decode cX5_readTimes 9 = .ok (.invokevirtual 51, 3) := by decide +kernel
theorem dX5_readTimes_12 : decode cX5_readTimes 12 = .ok (.putfield 154, 3) := by decide +kernel
theorem dX5_readTimes_15 : decode cX5_readTimes 15 = .ok (.aload_n 1, 1) := by decide +kernel
theorem dX5_readTimes_16 : decode cX5_readTimes 16 = .ok (.getfield 154, 3) := by decide +kernel
theorem dX5_readTimes_19 : decode cX5_readTimes 19 = .ok (.iconst 5, 1) := by decide +kernel
theorem dX5_readTimes_20 : decode cX5_readTimes 20 = .ok (.if_icmp .le 9, 3) := by decide +kernel
theorem dX5_readTimes_23 : decode cX5_readTimes 23 = .ok (.aload_n 0, 1) := by decide +kernel
theorem dX5_readTimes_24 : decode cX5_readTimes 24 = .ok (.iconst 2, 1) := by decide +kernel
theorem dX5_readTimes_25 : decode cX5_readTimes 25 = .ok (.invokevirtual 33, 3) := by decide +kernel
theorem dX5_readTimes_28 : decode cX5_readTimes 28 = .ok (.ireturn, 1) := by decide +kernel
theorem dX5_readTimes_29 : decode cX5_readTimes 29 = .ok (.aload_n 0, 1) := by decide +kernel
theorem dX5_readTimes_30 : decode cX5_readTimes 30 = .ok (.dup, 1) := by decide +kernel
theorem dX5_readTimes_31 : decode cX5_readTimes 31 = .ok (.getfield 44, 3) := by decide +kernel
theorem dX5_readTimes_34 : decode cX5_readTimes 34 = .ok (.iconst 1, 1) := by decide +kernel
theorem dX5_readTimes_35 : decode cX5_readTimes 35 = .ok (.iadd, 1) := by decide +kernel
theorem dX5_readTimes_36 : decode cX5_readTimes 36 = .ok (.putfield 44, 3) := by decide +kernel
theorem dX5_readTimes_39 : decode cX5_readTimes 39 = .ok (.iconst 1, 1) := by decide +kernel
theorem dX5_readTimes_40 : decode cX5_readTimes 40 = .ok (.ireturn, 1) := by decide +kernel
theorem dX5_readCells_0 : decode cX5_readCells 0 = .ok (.iconst 0, 1) := by decide +kernel
theorem dX5_readCells_1 : decode cX5_readCells 1 = .ok (.istore_n 3, 1) := by decide +kernel
theorem dX5_readCells_2 : decode cX5_readCells 2 = .ok (.iload_n 3, 1) := by decide +kernel
theorem dX5_readCells_3 : decode cX5_readCells 3 = .ok (.aload_n 0, 1) := by decide +kernel
theorem dX5_readCells_4 : decode cX5_readCells 4 = .ok (.getfield 18, 3) := by decide +kernel
theorem dX5_readCells_7 : decode cX5_readCells 7 = .ok (.getfield 58, 3) := by decide +kernel
theorem dX5_readCells_10 : decode cX5_readCells 10 = .ok (.if_icmp .ge 144, 3) := by decide +kernel
theorem dX5_readCells_13 : decode cX5_readCells 13 = .ok (.aload_n 0, 1) := by decide +kernel
theorem dX5_readCells_14 : decode cX5_readCells 14 = .ok (.getfield 18, 3) := by decide +kernel
theorem dX5_readCells_17 : decode cX5_readCells 17 = .ok (.aload_n 0, 1) := by decide +kernel
theorem dX5_readCells_18 : decode cX5_readCells 18 = .ok (.getfield 44, 3) := by decide +kernel
theorem dX5_readCells_21 : decode cX5_readCells 21 = .ok (.invokevirtual 61, 3) := by decide +kernel
theorem dX5_readCells_24 : decode cX5_readCells 24 = .ok (.iconst 3, 1) := by decide +kernel
theorem dX5_readCells_25 : decode cX5_readCells 25 = .ok (.if_icmp .ne 129, 3) := by decide +kernel
theorem dX5_readCells_28 : decode cX5_readCells 28 = .ok (.aload_n 0, 1) := by decide +kernel
theorem dX5_readCells_29 : decode cX5_readCells 29 = .ok (.getfield 18, 3) := by decide +kernel
theorem dX5_readCells_32 : decode cX5_readCells 32 = .ok (.aload_n 0, 1) := by decide +kernel
theorem dX5_readCells_33 : decode cX5_readCells 33 = .ok (.getfield 44, 3) := by decide +kernel
theorem dX5_readCells_36 : decode cX5_readCells 36 = .ok (.invokevirtual 51, 3) := by decide +kernel
theorem dX5_readCells_39 : decode cX5_readCells 39 = .ok (.bipush 10, 2) := by decide +kernel
theorem dX5_readCells_41 : decode cX5_readCells 41 = .ok (.idiv, 1) := by decide +kernel
theorem dX5_readCells_42 : decode cX5_readCells 42 = .ok (.istore 4, 2) := by decide +kernel
theorem dX5_readCells_44 : decode cX5_readCells 44 = .ok (.aload_n 0, 1) := by decide +kernel
theorem dX5_readCells_45 : decode cX5_readCells 45 = .ok (.getfield 18, 3) := by decide +kernel
theorem dX5_readCells_48 : decode cX5_readCells 48 = .ok (.aload_n 0, 1) := by decide +kernel
theorem dX5_readCells_49 : decode cX5_readCells 49 = .ok (.getfield 44, 3) := by decide +kernel
theorem dX5_readCells_52 : decode cX5_readCells 52 = .ok (.invokevirtual 51, 3) := by decide +kernel
theorem dX5_readCells_55 : decode cX5_readCells 55 = .ok (.bipush 10, 2) := by decide +kernel
theorem dX5_readCells_57 : decode cX5_readCells 57 = .ok (.irem, 1) := by decide +kernel
theorem dX5_readCells_58 : decode cX5_readCells 58 = .ok (.iconst 1, 1) := by decide +kernel
theorem dX5_readCells_59 : decode cX5_readCells 59 = .ok (.isub, 1) := by decide +kernel
theorem dX5_readCells_60 : decode cX5_readCells 60 = .ok (.istore 5, 2) := by decide +kernel
theorem dX5_readCells_62 : decode cX5_readCells 62 = .ok (.iload 4, 2) := by decide +kernel
theorem dX5_readCells_64 : decode cX5_readCells 64 = .ok (.aload_n 1, 1) := by decide +kernel
theorem dX5_readCells_65 : decode cX5_readCells 65 = .ok (.getfield 131, 3) := by decide +kernel
theorem dX5_readCells_68 : decode cX5_readCells 68 = .ok (.if_icmp .ge 17, 3) := by decide +kernel
theorem dX5_readCells_71 : decode cX5_readCells 71 = .ok (.iload 5, 2) := by decide +kernel
theorem dX5_readCells_73 : decode cX5_readCells 73 = .ok (.ifCond .lt 12, 3) := by decide +kernel
theorem dX5_readCells_76 : decode cX5_readCells 76 = .ok (.iload 5, 2) := by decide +kernel
theorem dX5_readCells_78 : decode cX5_readCells 78 = .ok (.aload_n 1, 1) := by decide +kernel
theorem dX5_readCells_79 : decode cX5_readCells 79 = .ok (.getfield 128, 3) := by decide +kernel
theorem dX5_readCells_82 : decode cX5_readCells 82 = .ok (.if_icmp .lt 9, 3) := by decide +kernel
theorem dX5_readCells_85 : decode cX5_readCells 85 = .ok (.aload_n 0, 1) := by decide +kernel
theorem dX5_readCells_86 : decode cX5_readCells 86 = .ok (.iconst 2, 1) := by decide +kernel
theorem dX5_readCells_87 : decode cX5_readCells 87 = .ok (.invokevirtual 33, 3) := by decide +kernel
theorem dX5_readCells_90 : decode cX5_readCells 90 = .ok (.ireturn, 1) := by decide +kernel
theorem dX5_readCells_91 : decode cX5_readCells 91 = .ok (.iload 4, 2) := by decide +kernel
theorem dX5_readCells_93 : decode cX5_readCells 93 = .ok (.aload_n 1, 1) := by decide +kernel
theorem dX5_readCells_94 : decode cX5_readCells 94 = .ok (.getfield 131, 3) := by decide +kernel
theorem dX5_readCells_97 : decode cX5_readCells 97 = .ok (.iload 5, 2) := by decide +kernel
theorem dX5_readCells_99 : decode cX5_readCells 99 = .ok (.imul, 1) := by decide +kernel
theorem dX5_readCells_100 : decode cX5_readCells 100 = .ok (.iadd, 1) := by decide +kernel
theorem dX5_readCells_101 : decode cX5_readCells 101 = .ok (.istore 6, 2) := by decide +kernel
theorem dX5_readCells_103 : decode cX5_readCells 103 = .ok (.aload_n 2, 1) := by decide +kernel
theorem dX5_readCells_104 : decode cX5_readCells 104 = .ok (.iload 6, 2) := by decide +kernel
theorem dX5_readCells_106 : decode cX5_readCells 106 = .ok (.invokevirtual 157, 3) := by decide +kernel
theorem dX5_readCells_109 : decode cX5_readCells 109 = .ok (.ifCond .eq 9, 3) := by decide +kernel
theorem dX5_readCells_112 : decode cX5_readCells 112 = .ok (.aload_n 0, 1) := by decide +kernel
theorem dX5_readCells_113 : decode cX5_readCells 113 = .ok (.iconst 3, 1) := by decide +kernel
theorem dX5_readCells_114 : decode cX5_readCells 114 = .ok (.invokevirtual 33, 3) := by decide +kernel
theorem dX5_readCells_117 : decode cX5_readCells 117 = .ok (.ireturn, 1) := by decide +kernel
theorem dX5_readCells_118 : decode cX5_readCells 118 = .ok (.aload_n 2, 1) := by decide +kernel
theorem dX5_readCells_119 : decode cX5_readCells 119 = .ok (.getfield 160, 3) := by decide +kernel
theorem dX5_readCells_122 : decode cX5_readCells 122 = .ok (.iconst 5, 1) := by decide +kernel
theorem dX5_readCells_123 : decode cX5_readCells 123 = .ok (.if_icmp .lt 9, 3) := by decide +kernel
theorem dX5_readCells_126 : decode cX5_readCells 126 = .ok (.aload_n 0, 1) := by decide +kernel
theorem dX5_readCells_127 : decode cX5_readCells 127 = .ok (.iconst 4, 1) := by decide +kernel
theorem dX5_readCells_128 : decode cX5_readCells 128 = .ok (.invokevirtual 33, 3) := by decide +kernel
theorem dX5_readCells_131 : decode cX5_readCells 131 = .ok (.ireturn, 1) := by decide +kernel
theorem dX5_readCells_132 : decode cX5_readCells 132 = .ok (.aload_n 2, 1) := by decide +kernel
theorem dX5_readCells_133 : decode cX5_readCells 133 = .ok (.iload 6, 2) := by decide +kernel
theorem dX5_readCells_135 : decode cX5_readCells 135 = .ok (.invokevirtual 163, 3) := by decide +kernel
theorem dX5_readCells_138 : decode cX5_readCells 138 = .ok (.aload_n 0, 1) := by decide +kernel
theorem dX5_readCells_139 : decode cX5_readCells 139 = .ok (.dup, 1) := by decide +kernel
theorem dX5_readCells_140 : decode cX5_readCells 140 = .ok (.getfield 44, 3) := by decide +kernel
theorem dX5_readCells_143 : decode cX5_readCells 143 = .ok (.iconst 1, 1) := by decide +kernel
theorem dX5_readCells_144 : decode cX5_readCells 144 = .ok (.iadd, 1) := by decide +kernel
theorem dX5_readCells_145 : decode cX5_readCells 145 = .ok (.putfield 44, 3) := by decide +kernel
theorem dX5_readCells_148 : decode cX5_readCells 148 = .ok (.iinc 3 1, 3) := by decide +kernel
theorem dX5_readCells_151 : decode cX5_readCells 151 = .ok (.goto (-149), 3) := by decide +kernel
theorem dX5_readCells_154 : decode cX5_readCells 154 = .ok (.iconst 1, 1) := by decide +kernel
theorem dX5_readCells_155 : decode cX5_readCells 155 = .ok (.ireturn, 1) := by decide +kernel
theorem dX6_init_0 : decode cX6_init 0 = .ok (.aload_n 0, 1) := by decide +kernel
theorem dX6_init_1 : decode cX6_init 1 = .ok (.invokespecial 3, 3) := by decide +kernel
theorem dX6_init_4 : decode cX6_init 4 = .ok (.aload_n 0, 1) := by decide +kernel
theorem dX6_init_5 : decode cX6_init 5 = .ok (.bipush 25, 2) := by decide +kernel
theorem dX6_init_7 : decode cX6_init 7 = .ok (.newarray .int, 2) := by decide +kernel
theorem dX6_init_9 : decode cX6_init 9 = .ok (.putfield 9, 3) := by decide +kernel
theorem dX6_init_12 : decode cX6_init 12 = .ok (.aload_n 0, 1) := by decide +kernel
theorem dX6_init_13 : decode cX6_init 13 = .ok (.bipush 25, 2) := by decide +kernel
theorem dX6_init_15 : decode cX6_init 15 = .ok (.newarray .int, 2) := by decide +kernel
theorem dX6_init_17 : decode cX6_init 17 = .ok (.putfield 15, 3) := by decide +kernel
theorem dX6_init_20 : decode cX6_init 20 = .ok (.return_, 1) := by decide +kernel
theorem dX6_begin_0 : decode cX6_begin 0 = .ok (.aload_n 0, 1) := by decide +kernel
theorem dX6_begin_1 : decode cX6_begin 1 = .ok (.iconst 0, 1) := by decide +kernel
theorem dX6_begin_2 : decode cX6_begin 2 = .ok (.putfield 18, 3) := by decide +kernel
theorem dX6_begin_5 : decode cX6_begin 5 = .ok (.aload_n 0, 1) := by decide +kernel
theorem dX6_begin_6 : decode cX6_begin 6 = .ok (.iconst 0, 1) := by decide +kernel
theorem dX6_begin_7 : decode cX6_begin 7 = .ok (.putfield 22, 3) := by decide +kernel
theorem dX6_begin_10 : decode cX6_begin 10 = .ok (.iconst 0, 1) := by decide +kernel
theorem dX6_begin_11 : decode cX6_begin 11 = .ok (.istore_n 2, 1) := by decide +kernel
theorem dX6_begin_12 : decode cX6_begin 12 = .ok (.iload_n 2, 1) := by decide +kernel
theorem dX6_begin_13 : decode cX6_begin 13 = .ok (.aload_n 1, 1) := by decide +kernel
theorem dX6_begin_14 : decode cX6_begin 14 = .ok (.invokevirtual 25, 3) := by decide +kernel
theorem dX6_begin_17 : decode cX6_begin 17 = .ok (.if_icmp .ge 42, 3) := by decide +kernel
theorem dX6_begin_20 : decode cX6_begin 20 = .ok (.aload_n 1, 1) := by decide +kernel
theorem dX6_begin_21 : decode cX6_begin 21 = .ok (.getfield 31, 3) := by decide +kernel
theorem dX6_begin_24 : decode cX6_begin 24 = .ok (.iload_n 2, 1) := by decide +kernel
theorem dX6_begin_25 : decode cX6_begin 25 = .ok (.iaload, 1) := by decide +kernel
theorem dX6_begin_26 : decode cX6_begin 26 = .ok (.istore_n 3, 1) := by decide +kernel
theorem dX6_begin_27 : decode cX6_begin 27 = .ok (.aload_n 0, 1) := by decide +kernel
theorem dX6_begin_28 : decode cX6_begin 28 = .ok (.getfield 9, 3) := by decide +kernel
theorem dX6_begin_31 : decode cX6_begin 31 = .ok (.iload_n 2, 1) := by decide +kernel
theorem dX6_begin_32 : decode cX6_begin 32 = .ok (.iload_n 3, 1) := by decide +kernel
theorem dX6_begin_33 : decode cX6_begin 33 = .ok (.ifCond .ne 14, 3) := by decide +kernel
theorem dX6_begin_36 : decode cX6_begin 36 = .ok (.iconst 1, 1) := by decide +kernel
theorem dX6_begin_37 : decode cX6_begin 37 = .ok (.aload_n 1, 1) := by decide +kernel
theorem dX6_begin_38 : decode cX6_begin 38 = .ok (.getfield 34, 3) := by decide +kernel
theorem dX6_begin_41 : decode cX6_begin 41 = .ok (.ishl, 1) := by decide +kernel
theorem dX6_begin_42 : decode cX6_begin 42 = .ok (.iconst 1, 1) := by decide +kernel
theorem dX6_begin_43 : decode cX6_begin 43 = .ok (.isub, 1) := by decide +kernel
theorem dX6_begin_44 : decode cX6_begin 44 = .ok (.goto 8, 3) := by decide +kernel
theorem dX6_begin_47 : decode cX6_begin 47 = .ok (.iconst 1, 1) := by decide +kernel
theorem dX6_begin_48 : decode cX6_begin 48 = .ok (.iload_n 3, 1) := by decide +kernel
theorem dX6_begin_49 : decode cX6_begin 49 = .ok (.iconst 1, 1) := by decide +kernel
theorem dX6_begin_50 : decode cX6_begin 50 = .ok (.isub, 1) := by decide +kernel
theorem dX6_begin_51 : decode cX6_begin 51 = .ok (.ishl, 1) := by decide +kernel
theorem dX6_begin_52 : decode cX6_begin 52 = .ok (.iastore, 1) := by decide +kernel
theorem dX6_begin_53 : decode cX6_begin 53 = .ok (.iinc 2 1, 3) := by decide +kernel
theorem dX6_begin_56 : decode cX6_begin 56 = .ok (.goto (-44), 3) := by decide +kernel
theorem dX6_begin_59 : decode cX6_begin 59 = .ok (.return_, 1) := by decide +kernel
theorem dX6_countValues_0 : decode cX6_countValues 0 = .ok (.iconst 0, 1) := by decide +kernel
theorem dX6_countValues_1 : decode cX6_countValues 1 = .ok (.istore_n 2, 1) := by decide +kernel
theorem dX6_countValues_2 : decode cX6_countValues 2 = .ok (.iconst 0, 1) := by decide +kernel
theorem dX6_countValues_3 : decode cX6_countValues 3 = .ok (.istore_n 3, 1) := by decide +kernel
theorem dX6_countValues_4 : decode cX6_countValues 4 = .ok (.iload_n 3, 1) := by decide +kernel
theorem dX6_countValues_5 : decode cX6_countValues 5 = .ok (.aload_n 1, 1) := by decide +kernel
theorem dX6_countValues_6 : decode cX6_countValues 6 = .ok (.invokevirtual 25, 3) := by decide +kernel
theorem dX6_countValues_9 : decode cX6_countValues 9 = .ok (.if_icmp .ge 21, 3) := by decide +kernel
theorem dX6_countValues_12 : decode cX6_countValues 12 = .ok (.iload_n 2, 1) := by decide +kernel
theorem dX6_countValues_13 : decode cX6_countValues 13 = .ok (.aload_n 0, 1) := by decide +kernel
theorem dX6_countValues_14 : decode cX6_countValues 14 = .ok (.getfield 9, 3) := by decide +kernel
theorem dX6_countValues_17 : decode cX6_countValues 17 = .ok (.iload_n 3, 1) := by decide +kernel
theorem dX6_countValues_18 : decode cX6_countValues 18 = .ok (.iaload, 1) := by decide +kernel
theorem dX6_countValues_19 : decode cX6_countValues 19 = .ok (.invokestatic 37, 3) := by decide +kernel
theorem dX6_countValues_22 : decode cX6_countValues 22 = .ok (.iadd, 1) := by decide +kernel
theorem dX6_countValues_23 : decode cX6_countValues 23 = .ok (.istore_n 2, 1) := by decide +kernel
theorem dX6_countValues_24 : decode cX6_countValues 24 = .ok (.iinc 3 1, 3) := by decide +kernel
theorem dX6_countValues_27 : decode cX6_countValues 27 = .ok (.goto (-23), 3) := by decide +kernel
theorem dX6_countValues_30 : decode cX6_countValues 30 = .ok (.iload_n 2, 1) := by decide +kernel
theorem dX6_countValues_31 : decode cX6_countValues 31 = .ok (.ireturn, 1) := by decide +kernel
theorem dX6_countCellsWith_0 : decode cX6_countCellsWith 0 = .ok (.iconst 0, 1) := by decide +kernel
theorem dX6_countCellsWith_1 : decode cX6_countCellsWith 1 = .ok (.istore_n 3, 1) := by decide +kernel
theorem dX6_countCellsWith_2 : decode cX6_countCellsWith 2 = .ok (.iconst 0, 1) := by decide +kernel
theorem dX6_countCellsWith_3 : decode cX6_countCellsWith 3 = .ok (.istore 4, 2) := by decide +kernel
theorem dX6_countCellsWith_5 : decode cX6_countCellsWith 5 = .ok (.iload 4, 2) := by decide +kernel
theorem dX6_countCellsWith_7 : decode cX6_countCellsWith 7 = .ok (.aload_n 1, 1) := by decide +kernel
theorem dX6_countCellsWith_8 : decode cX6_countCellsWith 8 = .ok (.invokevirtual 25, 3) := by decide +kernel
theorem dX6_countCellsWith_11 : decode cX6_countCellsWith 11 = .ok (.if_icmp .ge 26, 3) := by decide +kernel
theorem dX6_countCellsWith_14 : decode cX6_countCellsWith 14 = .ok (.aload_n 0, 1) := by decide +kernel
theorem dX6_countCellsWith_15 : decode cX6_countCellsWith 15 = .ok (.getfield 9, 3) := by decide +kernel
theorem dX6_countCellsWith_18 : decode cX6_countCellsWith 18 = .ok (.iload 4, 2) := by decide +kernel
theorem dX6_countCellsWith_20 : decode cX6_countCellsWith 20 = .ok (.iaload, 1) := by decide +kernel
theorem dX6_countCellsWith_21 : decode cX6_countCellsWith 21 = .ok (.invokestatic 37, 3) := by decide +kernel
theorem dX6_countCellsWith_24 : decode cX6_countCellsWith 24 = .ok (.iload_n 2, 1) := by decide +kernel
theorem dX6_countCellsWith_25 : decode cX6_countCellsWith 25 = .ok (.if_icmp .ne 6, 3) := by decide +kernel
theorem dX6_countCellsWith_28 : decode cX6_countCellsWith 28 = .ok (.iinc 3 1, 3) := by decide +kernel
theorem dX6_countCellsWith_31 : decode cX6_countCellsWith 31 = .ok (.iinc 4 1, 3) := by decide +kernel
theorem dX6_countCellsWith_34 : decode cX6_countCellsWith 34 = .ok (.goto (-29), 3) := by decide +kernel
theorem dX6_countCellsWith_37 : decode cX6_countCellsWith 37 = .ok (.iload_n 3, 1) := by decide +kernel
theorem dX6_countCellsWith_38 : decode cX6_countCellsWith 38 = .ok (.ireturn, 1) := by decide +kernel
theorem dX6_takeOut_0 : decode cX6_takeOut 0 = .ok (.aload_n 0, 1) := by decide +kernel
theorem dX6_takeOut_1 : decode cX6_takeOut 1 = .ok (.iload_n 1, 1) := by decide +kernel
theorem dX6_takeOut_2 : decode cX6_takeOut 2 = .ok (.iload_n 2, 1) := by decide +kernel
theorem dX6_takeOut_3 : decode cX6_takeOut 3 = .ok (.invokevirtual 43, 3) := by decide +kernel
theorem dX6_takeOut_6 : decode cX6_takeOut 6 = .ok (.ifCond .eq 17, 3) := by decide +kernel
theorem dX6_takeOut_9 : decode cX6_takeOut 9 = .ok (.aload_n 0, 1) := by decide +kernel
theorem dX6_takeOut_10 : decode cX6_takeOut 10 = .ok (.getfield 9, 3) := by decide +kernel
theorem dX6_takeOut_13 : decode cX6_takeOut 13 = .ok (.iload_n 1, 1) := by decide +kernel
theorem dX6_takeOut_14 : decode cX6_takeOut 14 = .ok (.dup2, 1) := by decide +kernel
theorem dX6_takeOut_15 : decode cX6_takeOut 15 = .ok (.iaload, 1) := by decide +kernel
theorem dX6_takeOut_16 : decode cX6_takeOut 16 = .ok (.iconst 1, 1) := by decide +kernel
theorem dX6_takeOut_17 : decode cX6_takeOut 17 = .ok (.iload_n 2, 1) := by decide +kernel
theorem dX6_takeOut_18 : decode cX6_takeOut 18 = .ok (.iconst 1, 1) := by decide +kernel
theorem dX6_takeOut_19 : decode cX6_takeOut 19 = .ok (.isub, 1) := by decide +kernel
theorem dX6_takeOut_20 : decode cX6_takeOut 20 = .ok (.ishl, 1) := by decide +kernel
theorem dX6_takeOut_21 : decode cX6_takeOut 21 = .ok (.isub, 1) := by decide +kernel
theorem dX6_takeOut_22 : decode cX6_takeOut 22 = .ok (.iastore, 1) := by decide +kernel
theorem dX6_takeOut_23 : decode cX6_takeOut 23 = .ok (.return_, 1) := by decide +kernel
theorem dX6_findFirst_0 : decode cX6_findFirst 0 = .ok (.iconst 0, 1) := by decide +kernel
theorem dX6_findFirst_1 : decode cX6_findFirst 1 = .ok (.istore_n 2, 1) := by decide +kernel
theorem dX6_findFirst_2 : decode cX6_findFirst 2 = .ok (.iload_n 2, 1) := by decide +kernel
theorem dX6_findFirst_3 : decode cX6_findFirst 3 = .ok (.aload_n 1, 1) := by decide +kernel
theorem dX6_findFirst_4 : decode cX6_findFirst 4 = .ok (.getfield 47, 3) := by decide +kernel
theorem dX6_findFirst_7 : decode cX6_findFirst 7 = .ok (.if_icmp .ge 33, 3) := by decide +kernel
theorem dX6_findFirst_10 : decode cX6_findFirst 10 = .ok (.aload_n 0, 1) := by decide +kernel
theorem dX6_findFirst_11 : decode cX6_findFirst 11 = .ok (.aload_n 1, 1) := by decide +kernel
theorem dX6_findFirst_12 : decode cX6_findFirst 12 = .ok (.getfield 50, 3) := by decide +kernel
theorem dX6_findFirst_15 : decode cX6_findFirst 15 = .ok (.iload_n 2, 1) := by decide +kernel
theorem dX6_findFirst_16 : decode cX6_findFirst 16 = .ok (.aaload, 1) := by decide +kernel
theorem dX6_findFirst_17 : decode cX6_findFirst 17 = .ok (.aload_n 1, 1) := by decide +kernel
theorem dX6_findFirst_18 : decode cX6_findFirst 18 = .ok (.getfield 34, 3) := by decide +kernel
theorem dX6_findFirst_21 : decode cX6_findFirst 21 = .ok (.invokevirtual 54, 3) := by decide +kernel
theorem dX6_findFirst_24 : decode cX6_findFirst 24 = .ok (.ifCond .eq 10, 3) := by decide +kernel
theorem dX6_findFirst_27 : decode cX6_findFirst 27 = .ok (.aload_n 0, 1) := by decide +kernel
theorem dX6_findFirst_28 : decode cX6_findFirst 28 = .ok (.iload_n 2, 1) := by decide +kernel
theorem dX6_findFirst_29 : decode cX6_findFirst 29 = .ok (.putfield 58, 3) := by decide +kernel
theorem dX6_findFirst_32 : decode cX6_findFirst 32 = .ok (.iconst 1, 1) := by decide +kernel
theorem dX6_findFirst_33 : decode cX6_findFirst 33 = .ok (.ireturn, 1) := by decide +kernel
theorem dX6_findFirst_34 : decode cX6_findFirst 34 = .ok (.iinc 2 1, 3) := by decide +kernel
theorem dX6_findFirst_37 : decode cX6_findFirst 37 = .ok (.goto (-35), 3) := by decide +kernel
theorem dX6_findFirst_40 : decode cX6_findFirst 40 = .ok (.iconst 0, 1) := by decide +kernel
theorem dX6_findFirst_41 : decode cX6_findFirst 41 = .ok (.ireturn, 1) := by decide +kernel
theorem dX6_findFirstBy_0 : decode cX6_findFirstBy 0 = .ok (.iconst 0, 1) := by decide +kernel
theorem dX6_findFirstBy_1 : decode cX6_findFirstBy 1 = .ok (.istore_n 3, 1) := by decide +kernel
theorem dX6_findFirstBy_2 : decode cX6_findFirstBy 2 = .ok (.iload_n 3, 1) := by decide +kernel
theorem dX6_findFirstBy_3 : decode cX6_findFirstBy 3 = .ok (.aload_n 1, 1) := by decide +kernel
theorem dX6_findFirstBy_4 : decode cX6_findFirstBy 4 = .ok (.getfield 61, 3) := by decide +kernel
theorem dX6_findFirstBy_7 : decode cX6_findFirstBy 7 = .ok (.if_icmp .ge 63, 3) := by decide +kernel
theorem dX6_findFirstBy_10 : decode cX6_findFirstBy 10 = .ok (.iconst 1, 1) := by decide +kernel
theorem dX6_findFirstBy_11 : decode cX6_findFirstBy 11 = .ok (.istore 4, 2) := by decide +kernel
theorem dX6_findFirstBy_13 : decode cX6_findFirstBy 13 = .ok (.iload 4, 2) := by decide +kernel
theorem dX6_findFirstBy_15 : decode cX6_findFirstBy 15 = .ok (.iload_n 2, 1) := by decide +kernel
theorem dX6_findFirstBy_16 : decode cX6_findFirstBy 16 = .ok (.if_icmp .gt 48, 3) := by decide +kernel
theorem dX6_findFirstBy_19 : decode cX6_findFirstBy 19 = .ok (.aload_n 0, 1) := by decide +kernel
theorem dX6_findFirstBy_20 : decode cX6_findFirstBy 20 = .ok (.aload_n 1, 1) := by decide +kernel
theorem dX6_findFirstBy_21 : decode cX6_findFirstBy 21 = .ok (.iload_n 3, 1) := by decide +kernel
theorem dX6_findFirstBy_22 : decode cX6_findFirstBy 22 = .ok (.iload 4, 2) := by decide +kernel
theorem dX6_findFirstBy_24 : decode cX6_findFirstBy 24 = .ok (.iload_n 2, 1) := by decide +kernel
theorem dX6_findFirstBy_25 : decode cX6_findFirstBy 25 = .ok (.invokevirtual 66, 3) := by decide +kernel
theorem dX6_findFirstBy_28 : decode cX6_findFirstBy 28 = .ok (.ifCond .eq 30, 3) := by decide +kernel
theorem dX6_findFirstBy_31 : decode cX6_findFirstBy 31 = .ok (.aload_n 0, 1) := by decide +kernel
theorem dX6_findFirstBy_32 : decode cX6_findFirstBy 32 = .ok (.aload_n 1, 1) := by decide +kernel
theorem dX6_findFirstBy_33 : decode cX6_findFirstBy 33 = .ok (.getfield 70, 3) := by decide +kernel
theorem dX6_findFirstBy_36 : decode cX6_findFirstBy 36 = .ok (.iload_n 3, 1) := by decide +kernel
theorem dX6_findFirstBy_37 : decode cX6_findFirstBy 37 = .ok (.iaload, 1) := by decide +kernel
theorem dX6_findFirstBy_38 : decode cX6_findFirstBy 38 = .ok (.putfield 73, 3) := by decide +kernel
theorem dX6_findFirstBy_41 : decode cX6_findFirstBy 41 = .ok (.aload_n 0, 1) := by decide +kernel
theorem dX6_findFirstBy_42 : decode cX6_findFirstBy 42 = .ok (.iload 4, 2) := by decide +kernel
theorem dX6_findFirstBy_44 : decode cX6_findFirstBy 44 = .ok (.putfield 76, 3) := by decide +kernel
theorem dX6_findFirstBy_47 : decode cX6_findFirstBy 47 = .ok (.aload_n 0, 1) := by decide +kernel
theorem dX6_findFirstBy_48 : decode cX6_findFirstBy 48 = .ok (.aload_n 0, 1) := by decide +kernel
theorem dX6_findFirstBy_49 : decode cX6_findFirstBy 49 = .ok (.aload_n 1, 1) := by decide +kernel
theorem dX6_findFirstBy_50 : decode cX6_findFirstBy 50 = .ok (.invokevirtual 79, 3) := by decide +kernel
theorem dX6_findFirstBy_53 : decode cX6_findFirstBy 53 = .ok (.putfield 83, 3) := by decide +kernel
theorem dX6_findFirstBy_56 : decode cX6_findFirstBy 56 = .ok (.iconst 1, 1) := by decide +kernel
theorem dX6_findFirstBy_57 : decode cX6_findFirstBy 57 = .ok (.ireturn, 1) := by decide +kernel
theorem dX6_findFirstBy_58 : decode cX6_findFirstBy 58 = .ok (.iinc 4 1, 3) := by decide +kernel
theorem dX6_findFirstBy_61 : decode cX6_findFirstBy 61 = .ok (.goto (-48), 3) := by decide +kernel
theorem dX6_findFirstBy_64 : decode cX6_findFirstBy 64 = .ok (.iinc 3 1, 3) := by decide +kernel
theorem dX6_findFirstBy_67 : decode cX6_findFirstBy 67 = .ok (.goto (-65), 3) := by decide +kernel
theorem dX6_findFirstBy_70 : decode cX6_findFirstBy 70 = .ok (.iconst 0, 1) := by decide +kernel
theorem dX6_findFirstBy_71 : decode cX6_findFirstBy 71 = .ok (.ireturn, 1) := by decide +kernel
theorem dX6_doPasses_0 : decode cX6_doPasses 0 = .ok (.aload_n 0, 1) := by decide +kernel
theorem dX6_doPasses_1 : decode cX6_doPasses 1 = .ok (.iconst 0, 1) := by decide +kernel
theorem dX6_doPasses_2 : decode cX6_doPasses 2 = .ok (.putfield 18, 3) := by decide +kernel
theorem dX6_doPasses_5 : decode cX6_doPasses 5 = .ok (.aload_n 0, 1) := by decide +kernel
theorem dX6_doPasses_6 : decode cX6_doPasses 6 = .ok (.iconst 0, 1) := by decide +kernel
theorem dX6_doPasses_7 : decode cX6_doPasses 7 = .ok (.putfield 22, 3) := by decide +kernel
theorem dX6_doPasses_10 : decode cX6_doPasses 10 = .ok (.iconst 0, 1) := by decide +kernel
theorem dX6_doPasses_11 : decode cX6_doPasses 11 = .ok (.istore_n 2, 1) := by decide +kernel
theorem dX6_doPasses_12 : decode cX6_doPasses 12 = .ok (.iconst 0, 1) := by decide +kernel
theorem dX6_doPasses_13 : decode cX6_doPasses 13 = .ok (.istore_n 3, 1) := by decide +kernel
theorem dX6_doPasses_14 : decode cX6_doPasses 14 = .ok (.iload_n 3, 1) := by decide +kernel
theorem dX6_doPasses_15 : decode cX6_doPasses 15 = .ok (.bipush 125, 2) := by decide +kernel
theorem dX6_doPasses_17 : decode cX6_doPasses 17 = .ok (.if_icmp .gt 73, 3) := by decide +kernel
theorem dX6_doPasses_20 : decode cX6_doPasses 20 = .ok (.iconst 0, 1) := by decide +kernel
theorem dX6_doPasses_21 : decode cX6_doPasses 21 = .ok (.istore 4, 2) := by decide +kernel
theorem dX6_doPasses_23 : decode cX6_doPasses 23 = .ok (.iconst 0, 1) := by decide +kernel
theorem dX6_doPasses_24 : decode cX6_doPasses 24 = .ok (.istore 5, 2) := by decide +kernel
theorem dX6_doPasses_26 : decode cX6_doPasses 26 = .ok (.iload 5, 2) := by decide +kernel
theorem dX6_doPasses_28 : decode cX6_doPasses 28 = .ok (.aload_n 1, 1) := by decide +kernel
theorem dX6_doPasses_29 : decode cX6_doPasses 29 = .ok (.getfield 47, 3) := by decide +kernel
theorem dX6_doPasses_32 : decode cX6_doPasses 32 = .ok (.if_icmp .ge 29, 3) := by decide +kernel
theorem dX6_doPasses_35 : decode cX6_doPasses 35 = .ok (.iload 4, 2) := by decide +kernel
theorem dX6_doPasses_37 : decode cX6_doPasses 37 = .ok (.aload_n 0, 1) := by decide +kernel
theorem dX6_doPasses_38 : decode cX6_doPasses 38 = .ok (.aload_n 1, 1) := by decide +kernel
theorem dX6_doPasses_39 : decode cX6_doPasses 39 = .ok (.getfield 50, 3) := by decide +kernel
theorem dX6_doPasses_42 : decode cX6_doPasses 42 = .ok (.iload 5, 2) := by decide +kernel
theorem dX6_doPasses_44 : decode cX6_doPasses 44 = .ok (.aaload, 1) := by decide +kernel
theorem dX6_doPasses_45 : decode cX6_doPasses 45 = .ok (.aload_n 1, 1) := by decide +kernel
theorem dX6_doPasses_46 : decode cX6_doPasses 46 = .ok (.getfield 34, 3) := by decide +kernel
theorem dX6_doPasses_49 : decode cX6_doPasses 49 = .ok (.invokevirtual 86, 3) := by decide +kernel
theorem dX6_doPasses_52 : decode cX6_doPasses 52 = .ok (.iadd, 1) := by decide +kernel
theorem dX6_doPasses_53 : decode cX6_doPasses 53 = .ok (.istore 4, 2) := by decide +kernel
theorem dX6_doPasses_55 : decode cX6_doPasses 55 = .ok (.iinc 5 1, 3) := by decide +kernel
theorem dX6_doPasses_58 : decode cX6_doPasses 58 = .ok (.goto (-32), 3) := by decide +kernel
theorem dX6_doPasses_61 : decode cX6_doPasses 61 = .ok (.aload_n 0, 1) := by decide +kernel
theorem dX6_doPasses_62 : decode cX6_doPasses 62 = .ok (.dup, 1) := by decide +kernel
theorem dX6_doPasses_63 : decode cX6_doPasses 63 = .ok (.getfield 18, 3) := by decide +kernel
theorem dX6_doPasses_66 : decode cX6_doPasses 66 = .ok (.iconst 1, 1) := by decide +kernel
theorem dX6_doPasses_67 : decode cX6_doPasses 67 = .ok (.iadd, 1) := by decide +kernel
theorem dX6_doPasses_68 : decode cX6_doPasses 68 = .ok (.putfield 18, 3) := by decide +kernel
theorem dX6_doPasses_71 : decode cX6_doPasses 71 = .ok (.iload_n 2, 1) := by decide +kernel
theorem dX6_doPasses_72 : decode cX6_doPasses 72 = .ok (.iload 4, 2) := by decide +kernel
theorem dX6_doPasses_74 : decode cX6_doPasses 74 = .ok (.iadd, 1) := by decide +kernel
theorem dX6_doPasses_75 : decode cX6_doPasses 75 = .ok (.istore_n 2, 1) := by decide +kernel
theorem dX6_doPasses_76 : decode cX6_doPasses 76 = .ok (.iload 4, 2) := by decide +kernel
theorem dX6_doPasses_78 : decode cX6_doPasses 78 = .ok (.ifCond .ne 6, 3) := by decide +kernel
theorem dX6_doPasses_81 : decode cX6_doPasses 81 = .ok (.goto 9, 3) := by decide +kernel
theorem dX6_doPasses_84 : decode cX6_doPasses 84 = .ok (.iinc 3 1, 3) := by decide +kernel
theorem dX6_doPasses_87 : decode cX6_doPasses 87 = .ok (.goto (-73), 3) := by decide +kernel
theorem dX6_doPasses_90 : decode cX6_doPasses 90 = .ok (.iload_n 2, 1) := by decide +kernel
theorem dX6_doPasses_91 : decode cX6_doPasses 91 = .ok (.ireturn, 1) := by decide +kernel
theorem dX6_deduceBy_0 : decode cX6_deduceBy 0 = .ok (.iconst 0, 1) := by decide +kernel
theorem dX6_deduceBy_1 : decode cX6_deduceBy 1 = .ok (.istore_n 3, 1) := by decide +kernel
theorem dX6_deduceBy_2 : decode cX6_deduceBy 2 = .ok (.iconst 0, 1) := by decide +kernel
theorem dX6_deduceBy_3 : decode cX6_deduceBy 3 = .ok (.istore 4, 2) := by decide +kernel
theorem dX6_deduceBy_5 : decode cX6_deduceBy 5 = .ok (.iload 4, 2) := by decide +kernel
theorem dX6_deduceBy_7 : decode cX6_deduceBy 7 = .ok (.aload_n 1, 1) := by decide +kernel
theorem dX6_deduceBy_8 : decode cX6_deduceBy 8 = .ok (.getfield 61, 3) := by decide +kernel
theorem dX6_deduceBy_11 : decode cX6_deduceBy 11 = .ok (.if_icmp .ge 69, 3) := by decide +kernel
theorem dX6_deduceBy_14 : decode cX6_deduceBy 14 = .ok (.iconst 1, 1) := by decide +kernel
theorem dX6_deduceBy_15 : decode cX6_deduceBy 15 = .ok (.istore 5, 2) := by decide +kernel
theorem dX6_deduceBy_17 : decode cX6_deduceBy 17 = .ok (.iload 5, 2) := by decide +kernel
theorem dX6_deduceBy_19 : decode cX6_deduceBy 19 = .ok (.iload_n 2, 1) := by decide +kernel
theorem dX6_deduceBy_20 : decode cX6_deduceBy 20 = .ok (.if_icmp .gt 54, 3) := by decide +kernel
theorem dX6_deduceBy_23 : decode cX6_deduceBy 23 = .ok (.aload_n 0, 1) := by decide +kernel
theorem dX6_deduceBy_24 : decode cX6_deduceBy 24 = .ok (.aload_n 1, 1) := by decide +kernel
theorem dX6_deduceBy_25 : decode cX6_deduceBy 25 = .ok (.iload 4, 2) := by decide +kernel
theorem dX6_deduceBy_27 : decode cX6_deduceBy 27 = .ok (.iload 5, 2) := by decide +kernel
theorem dX6_deduceBy_29 : decode cX6_deduceBy 29 = .ok (.iload_n 2, 1) := by decide +kernel
theorem dX6_deduceBy_30 : decode cX6_deduceBy 30 = .ok (.invokevirtual 66, 3) := by decide +kernel
theorem dX6_deduceBy_33 : decode cX6_deduceBy 33 = .ok (.ifCond .eq 35, 3) := by decide +kernel
theorem dX6_deduceBy_36 : decode cX6_deduceBy 36 = .ok (.aload_n 0, 1) := by decide +kernel
theorem dX6_deduceBy_37 : decode cX6_deduceBy 37 = .ok (.aload_n 0, 1) := by decide +kernel
theorem dX6_deduceBy_38 : decode cX6_deduceBy 38 = .ok (.getfield 22, 3) := by decide +kernel
theorem dX6_deduceBy_41 : decode cX6_deduceBy 41 = .ok (.aload_n 0, 1) := by decide +kernel
theorem dX6_deduceBy_42 : decode cX6_deduceBy 42 = .ok (.aload_n 1, 1) := by decide +kernel
theorem dX6_deduceBy_43 : decode cX6_deduceBy 43 = .ok (.invokevirtual 79, 3) := by decide +kernel
theorem dX6_deduceBy_46 : decode cX6_deduceBy 46 = .ok (.invokestatic 90, 3) := by decide +kernel
theorem dX6_deduceBy_49 : decode cX6_deduceBy 49 = .ok (.putfield 22, 3) := by decide +kernel
theorem dX6_deduceBy_52 : decode cX6_deduceBy 52 = .ok (.aload_n 0, 1) := by decide +kernel
theorem dX6_deduceBy_53 : decode cX6_deduceBy 53 = .ok (.aload_n 1, 1) := by decide +kernel
theorem dX6_deduceBy_54 : decode cX6_deduceBy 54 = .ok (.getfield 70, 3) := by decide +kernel
theorem dX6_deduceBy_57 : decode cX6_deduceBy 57 = .ok (.iload 4, 2) := by decide +kernel
theorem dX6_deduceBy_59 : decode cX6_deduceBy 59 = .ok (.iaload, 1) := by decide +kernel
theorem dX6_deduceBy_60 : decode cX6_deduceBy 60 = .ok (.iload 5, 2) := by decide +kernel
theorem dX6_deduceBy_62 : decode cX6_deduceBy 62 = .ok (.invokevirtual 96, 3) := by decide +kernel
theorem dX6_deduceBy_65 : decode cX6_deduceBy 65 = .ok (.iinc 3 1, 3) := by decide +kernel
theorem dX6_deduceBy_68 : decode cX6_deduceBy 68 = .ok (.iinc 5 1, 3) := by decide +kernel
theorem dX6_deduceBy_71 : decode cX6_deduceBy 71 = .ok (.goto (-54), 3) := by decide +kernel
theorem dX6_deduceBy_74 : decode cX6_deduceBy 74 = .ok (.iinc 4 1, 3) := by decide +kernel
theorem dX6_deduceBy_77 : decode cX6_deduceBy 77 = .ok (.goto (-72), 3) := by decide +kernel
theorem dX6_deduceBy_80 : decode cX6_deduceBy 80 = .ok (.iload_n 3, 1) := by decide +kernel
theorem dX6_deduceBy_81 : decode cX6_deduceBy 81 = .ok (.ireturn, 1) := by decide +kernel
theorem dX6_hasValue_0 : decode cX6_hasValue 0 = .ok (.aload_n 0, 1) := by decide +kernel
theorem dX6_hasValue_1 : decode cX6_hasValue 1 = .ok (.getfield 9, 3) := by decide +kernel
theorem dX6_hasValue_4 : decode cX6_hasValue 4 = .ok (.iload_n 1, 1) := by decide +kernel
theorem dX6_hasValue_5 : decode cX6_hasValue 5 = .ok (.iaload, 1) := by decide +kernel
theorem dX6_hasValue_6 : decode cX6_hasValue 6 = .ok (.iload_n 2, 1) := by decide +kernel
theorem dX6_hasValue_7 : decode cX6_hasValue 7 = .ok (.iconst 1, 1) := by decide +kernel
theorem dX6_hasValue_8 : decode cX6_hasValue 8 = .ok (.isub, 1) := by decide +kernel
theorem dX6_hasValue_9 : decode cX6_hasValue 9 = .ok (.ishr, 1) := by decide +kernel
theorem dX6_hasValue_10 : decode cX6_hasValue 10 = .ok (.iconst 1, 1) := by decide +kernel
theorem dX6_hasValue_11 : decode cX6_hasValue 11 = .ok (.iand, 1) := by decide +kernel
theorem dX6_hasValue_12 : decode cX6_hasValue 12 = .ok (.ifCond .eq 7, 3) := by decide +kernel
theorem dX6_hasValue_15 : decode cX6_hasValue 15 = .ok (.iconst 1, 1) := by decide +kernel
theorem dX6_hasValue_16 : decode cX6_hasValue 16 = .ok (.goto 4, 3) := by decide +kernel
theorem dX6_hasValue_19 : decode cX6_hasValue 19 = .ok (.iconst 0, 1) := by decide +kernel
theorem dX6_hasValue_20 : decode cX6_hasValue 20 = .ok (.ireturn, 1) := by decide +kernel
theorem dX6_gradeOf_0 : decode cX6_gradeOf 0 = .ok (.iconst 0, 1) := by decide +kernel
theorem dX6_gradeOf_1 : decode cX6_gradeOf 1 = .ok (.istore_n 2, 1) := by decide +kernel
theorem dX6_gradeOf_2 : decode cX6_gradeOf 2 = .ok (.iconst 0, 1) := by decide +kernel
theorem dX6_gradeOf_3 : decode cX6_gradeOf 3 = .ok (.istore_n 3, 1) := by decide +kernel
theorem dX6_gradeOf_4 : decode cX6_gradeOf 4 = .ok (.iload_n 3, 1) := by decide +kernel
theorem dX6_gradeOf_5 : decode cX6_gradeOf 5 = .ok (.aload_n 1, 1) := by decide +kernel
theorem dX6_gradeOf_6 : decode cX6_gradeOf 6 = .ok (.getfield 61, 3) := by decide +kernel
theorem dX6_gradeOf_9 : decode cX6_gradeOf 9 = .ok (.if_icmp .ge 30, 3) := by decide +kernel
theorem dX6_gradeOf_12 : decode cX6_gradeOf 12 = .ok (.aload_n 0, 1) := by decide +kernel
theorem dX6_gradeOf_13 : decode cX6_gradeOf 13 = .ok (.getfield 9, 3) := by decide +kernel
theorem dX6_gradeOf_16 : decode cX6_gradeOf 16 = .ok (.aload_n 1, 1) := by decide +kernel
theorem dX6_gradeOf_17 : decode cX6_gradeOf 17 = .ok (.getfield 70, 3) := by decide +kernel
theorem dX6_gradeOf_20 : decode cX6_gradeOf 20 = .ok (.iload_n 3, 1) := by decide +kernel
theorem dX6_gradeOf_21 : decode cX6_gradeOf 21 = .ok (.iaload, 1) := by decide +kernel
theorem dX6_gradeOf_22 : decode cX6_gradeOf 22 = .ok (.iaload, 1) := by decide +kernel
theorem dX6_gradeOf_23 : decode cX6_gradeOf 23 = .ok (.invokestatic 37, 3) := by decide +kernel
theorem dX6_gradeOf_26 : decode cX6_gradeOf 26 = .ok (.iconst 1, 1) := by decide +kernel
theorem dX6_gradeOf_27 : decode cX6_gradeOf 27 = .ok (.if_icmp .le 6, 3) := by decide +kernel
theorem dX6_gradeOf_30 : decode cX6_gradeOf 30 = .ok (.iinc 2 1, 3) := by decide +kernel
theorem dX6_gradeOf_33 : decode cX6_gradeOf 33 = .ok (.iinc 3 1, 3) := by decide +kernel
theorem dX6_gradeOf_36 : decode cX6_gradeOf 36 = .ok (.goto (-32), 3) := by decide +kernel
theorem dX6_gradeOf_39 : decode cX6_gradeOf 39 = .ok (.iload_n 2, 1) := by decide +kernel
theorem dX6_gradeOf_40 : decode cX6_gradeOf 40 = .ok (.ireturn, 1) := by decide +kernel
theorem dX6_isRefuted_0 : decode cX6_isRefuted 0 = .ok (.aload_n 0, 1) := by decide +kernel
theorem dX6_isRefuted_1 : decode cX6_isRefuted 1 = .ok (.aload_n 1, 1) := by decide +kernel
theorem dX6_isRefuted_2 : decode cX6_isRefuted 2 = .ok (.getfield 70, 3) := by decide +kernel
theorem dX6_isRefuted_5 : decode cX6_isRefuted 5 = .ok (.iload_n 2, 1) := by decide +kernel
theorem dX6_isRefuted_6 : decode cX6_isRefuted 6 = .ok (.iaload, 1) := by decide +kernel
theorem dX6_isRefuted_7 : decode cX6_isRefuted 7 = .ok (.iload_n 3, 1) := by decide +kernel
theorem dX6_isRefuted_8 : decode cX6_isRefuted 8 = .ok (.invokevirtual 43, 3) := by decide +kernel
theorem dX6_isRefuted_11 : decode cX6_isRefuted 11 = .ok (.ifCond .ne 5, 3) := by decide +kernel
theorem dX6_isRefuted_14 : decode cX6_isRefuted 14 = .ok (.iconst 0, 1) := by decide +kernel
theorem dX6_isRefuted_15 : decode cX6_isRefuted 15 = .ok (.ireturn, 1) := by decide +kernel
theorem dX6_isRefuted_16 : decode cX6_isRefuted 16 = .ok (.iconst 0, 1) := by decide +kernel
theorem dX6_isRefuted_17 : decode cX6_isRefuted 17 = .ok (.istore 5, 2) := by decide +kernel
theorem dX6_isRefuted_19 : decode cX6_isRefuted 19 = .ok (.iload 5, 2) := by decide +kernel
theorem dX6_isRefuted_21 : decode cX6_isRefuted 21 = .ok (.aload_n 1, 1) := by decide +kernel
theorem dX6_isRefuted_22 : decode cX6_isRefuted 22 = .ok (.getfield 61, 3) := by decide +kernel
theorem dX6_isRefuted_25 : decode cX6_isRefuted 25 = .ok (.if_icmp .ge 22, 3) := by decide +kernel
theorem dX6_isRefuted_28 : decode cX6_isRefuted 28 = .ok (.aload_n 0, 1) := by decide +kernel
theorem dX6_isRefuted_29 : decode cX6_isRefuted 29 = .ok (.getfield 15, 3) := by decide +kernel
theorem dX6_isRefuted_32 : decode cX6_isRefuted 32 = .ok (.aload_n 1, 1) := by decide +kernel
theorem dX6_isRefuted_33 : decode cX6_isRefuted 33 = .ok (.getfield 70, 3) := by decide +kernel
theorem dX6_isRefuted_36 : decode cX6_isRefuted 36 = .ok (.iload 5, 2) := by decide +kernel
theorem dX6_isRefuted_38 : decode cX6_isRefuted 38 = .ok (.iaload, 1) := by decide +kernel
theorem dX6_isRefuted_39 : decode cX6_isRefuted 39 = .ok (.iconst 0, 1) := by decide +kernel
theorem dX6_isRefuted_40 : decode cX6_isRefuted 40 = .ok (.iastore, 1) := by decide +kernel
theorem dX6_isRefuted_41 : decode cX6_isRefuted 41 = .ok (.iinc 5 1, 3) := by decide +kernel
theorem dX6_isRefuted_44 : decode cX6_isRefuted 44 = .ok (.goto (-25), 3) := by decide +kernel
theorem dX6_isRefuted_47 : decode cX6_isRefuted 47 = .ok (.aload_n 0, 1) := by decide +kernel
theorem dX6_isRefuted_48 : decode cX6_isRefuted 48 = .ok (.getfield 15, 3) := by decide +kernel
theorem dX6_isRefuted_51 : decode cX6_isRefuted 51 = .ok (.aload_n 1, 1) := by decide +kernel
theorem dX6_isRefuted_52 : decode cX6_isRefuted 52 = .ok (.getfield 70, 3) := by decide +kernel
theorem dX6_isRefuted_55 : decode cX6_isRefuted 55 = .ok (.iload_n 2, 1) := by decide +kernel
theorem dX6_isRefuted_56 : decode cX6_isRefuted 56 = .ok (.iaload, 1) := by decide +kernel
theorem dX6_isRefuted_57 : decode cX6_isRefuted 57 = .ok (.iload_n 3, 1) := by decide +kernel
theorem dX6_isRefuted_58 : decode cX6_isRefuted 58 = .ok (.iastore, 1) := by decide +kernel
theorem dX6_isRefuted_59 : decode cX6_isRefuted 59 = .ok (.aload_n 0, 1) := by decide +kernel
theorem dX6_isRefuted_60 : decode cX6_isRefuted 60 = .ok (.aload_n 1, 1) := by decide +kernel
theorem dX6_isRefuted_61 : decode cX6_isRefuted 61 = .ok (.iload_n 2, 1) := by decide +kernel
theorem dX6_isRefuted_62 : decode cX6_isRefuted 62 = .ok (.iconst 0, 1) := by decide +kernel
theorem dX6_isRefuted_63 : decode cX6_isRefuted 63 = .ok (.iload 4, 2) := by decide +kernel
theorem dX6_isRefuted_65 : decode cX6_isRefuted 65 = .ok (.invokestatic 100, 3) := by decide +kernel
theorem dX6_isRefuted_68 : decode cX6_isRefuted 68 = .ok (.ifCond .ne 7, 3) := by decide +kernel
theorem dX6_isRefuted_71 : decode cX6_isRefuted 71 = .ok (.iconst 1, 1) := by decide +kernel
theorem dX6_isRefuted_72 : decode cX6_isRefuted 72 = .ok (.goto 4, 3) := by decide +kernel
theorem dX6_isRefuted_75 : decode cX6_isRefuted 75 = .ok (.iconst 0, 1) := by decide +kernel
theorem dX6_isRefuted_76 : decode cX6_isRefuted 76 = .ok (.ireturn, 1) := by decide +kernel
theorem dX6_holdsFrom_0 : decode cX6_holdsFrom 0 = .ok (.aload_n 1, 1) := by decide +kernel
theorem dX6_holdsFrom_1 : decode cX6_holdsFrom 1 = .ok (.aload_n 0, 1) := by decide +kernel
theorem dX6_holdsFrom_2 : decode cX6_holdsFrom 2 = .ok (.getfield 15, 3) := by decide +kernel
theorem dX6_holdsFrom_5 : decode cX6_holdsFrom 5 = .ok (.iload 4, 2) := by decide +kernel
theorem dX6_holdsFrom_7 : decode cX6_holdsFrom 7 = .ok (.invokevirtual 104, 3) := by decide +kernel
theorem dX6_holdsFrom_10 : decode cX6_holdsFrom 10 = .ok (.ifCond .eq 5, 3) := by decide +kernel
theorem dX6_holdsFrom_13 : decode cX6_holdsFrom 13 = .ok (.iconst 0, 1) := by decide +kernel
theorem dX6_holdsFrom_14 : decode cX6_holdsFrom 14 = .ok (.ireturn, 1) := by decide +kernel
theorem dX6_holdsFrom_15 : decode cX6_holdsFrom 15 = .ok (.iload_n 3, 1) := by decide +kernel
theorem dX6_holdsFrom_16 : decode cX6_holdsFrom 16 = .ok (.aload_n 1, 1) := by decide +kernel
theorem dX6_holdsFrom_17 : decode cX6_holdsFrom 17 = .ok (.getfield 61, 3) := by decide +kernel
theorem dX6_holdsFrom_20 : decode cX6_holdsFrom 20 = .ok (.if_icmp .lt 5, 3) := by decide +kernel
theorem dX6_holdsFrom_23 : decode cX6_holdsFrom 23 = .ok (.iconst 1, 1) := by decide +kernel
theorem dX6_holdsFrom_24 : decode cX6_holdsFrom 24 = .ok (.ireturn, 1) := by decide +kernel
theorem dX6_holdsFrom_25 : decode cX6_holdsFrom 25 = .ok (.iload_n 3, 1) := by decide +kernel
theorem dX6_holdsFrom_26 : decode cX6_holdsFrom 26 = .ok (.iload_n 2, 1) := by decide +kernel
theorem dX6_holdsFrom_27 : decode cX6_holdsFrom 27 = .ok (.if_icmp .ne 15, 3) := by decide +kernel
theorem dX6_holdsFrom_30 : decode cX6_holdsFrom 30 = .ok (.aload_n 0, 1) := by decide +kernel
theorem dX6_holdsFrom_31 : decode cX6_holdsFrom 31 = .ok (.aload_n 1, 1) := by decide +kernel
theorem dX6_holdsFrom_32 : decode cX6_holdsFrom 32 = .ok (.iload_n 2, 1) := by decide +kernel
theorem dX6_holdsFrom_33 : decode cX6_holdsFrom 33 = .ok (.iload_n 3, 1) := by decide +kernel
theorem dX6_holdsFrom_34 : decode cX6_holdsFrom 34 = .ok (.iconst 1, 1) := by decide +kernel
theorem dX6_holdsFrom_35 : decode cX6_holdsFrom 35 = .ok (.iadd, 1) := by decide +kernel
theorem dX6_holdsFrom_36 : decode cX6_holdsFrom 36 = .ok (.iload 4, 2) := by decide +kernel
theorem dX6_holdsFrom_38 : decode cX6_holdsFrom 38 = .ok (.invokestatic 100, 3) := by decide +kernel
theorem dX6_holdsFrom_41 : decode cX6_holdsFrom 41 = .ok (.ireturn, 1) := by decide +kernel
theorem dX6_holdsFrom_42 : decode cX6_holdsFrom 42 = .ok (.aload_n 1, 1) := by decide +kernel
theorem dX6_holdsFrom_43 : decode cX6_holdsFrom 43 = .ok (.getfield 70, 3) := by decide +kernel
theorem dX6_holdsFrom_46 : decode cX6_holdsFrom 46 = .ok (.iload_n 3, 1) := by decide +kernel
theorem dX6_holdsFrom_47 : decode cX6_holdsFrom 47 = .ok (.iaload, 1) := by decide +kernel
theorem dX6_holdsFrom_48 : decode cX6_holdsFrom 48 = .ok (.istore 5, 2) := by decide +kernel
theorem dX6_holdsFrom_50 : decode cX6_holdsFrom 50 = .ok (.iconst 1, 1) := by decide +kernel
theorem dX6_holdsFrom_51 : decode cX6_holdsFrom 51 = .ok (.istore 6, 2) := by decide +kernel
theorem dX6_holdsFrom_53 : decode cX6_holdsFrom 53 = .ok (.iload 6, 2) := by decide +kernel
theorem dX6_holdsFrom_55 : decode cX6_holdsFrom 55 = .ok (.iload 4, 2) := by decide +kernel
theorem dX6_holdsFrom_57 : decode cX6_holdsFrom 57 = .ok (.if_icmp .gt 45, 3) := by decide +kernel
theorem dX6_holdsFrom_60 : decode cX6_holdsFrom 60 = .ok (.aload_n 0, 1) := by decide +kernel
theorem dX6_holdsFrom_61 : decode cX6_holdsFrom 61 = .ok (.iload 5, 2) := by decide +kernel
theorem dX6_holdsFrom_63 : decode cX6_holdsFrom 63 = .ok (.iload 6, 2) := by decide +kernel
theorem dX6_holdsFrom_65 : decode cX6_holdsFrom 65 = .ok (.invokevirtual 43, 3) := by decide +kernel
theorem dX6_holdsFrom_68 : decode cX6_holdsFrom 68 = .ok (.ifCond .eq 28, 3) := by decide +kernel
theorem dX6_holdsFrom_71 : decode cX6_holdsFrom 71 = .ok (.aload_n 0, 1) := by decide +kernel
theorem dX6_holdsFrom_72 : decode cX6_holdsFrom 72 = .ok (.getfield 15, 3) := by decide +kernel
theorem dX6_holdsFrom_75 : decode cX6_holdsFrom 75 = .ok (.iload 5, 2) := by decide +kernel
theorem dX6_holdsFrom_77 : decode cX6_holdsFrom 77 = .ok (.iload 6, 2) := by decide +kernel
theorem dX6_holdsFrom_79 : decode cX6_holdsFrom 79 = .ok (.iastore, 1) := by decide +kernel
theorem dX6_holdsFrom_80 : decode cX6_holdsFrom 80 = .ok (.aload_n 0, 1) := by decide +kernel
theorem dX6_holdsFrom_81 : decode cX6_holdsFrom 81 = .ok (.aload_n 1, 1) := by decide +kernel
theorem dX6_holdsFrom_82 : decode cX6_holdsFrom 82 = .ok (.iload_n 2, 1) := by decide +kernel
theorem dX6_holdsFrom_83 : decode cX6_holdsFrom 83 = .ok (.iload_n 3, 1) := by decide +kernel
theorem dX6_holdsFrom_84 : decode cX6_holdsFrom 84 = .ok (.iconst 1, 1) := by decide +kernel
theorem dX6_holdsFrom_85 : decode cX6_holdsFrom 85 = .ok (.iadd, 1) := by decide +kernel
theorem dX6_holdsFrom_86 : decode cX6_holdsFrom 86 = .ok (.iload 4, 2) := by decide +kernel
theorem dX6_holdsFrom_88 : decode cX6_holdsFrom 88 = .ok (.invokestatic 100, 3) := by decide +kernel
theorem dX6_holdsFrom_91 : decode cX6_holdsFrom 91 = .ok (.ifCond .eq 5, 3) := by decide +kernel
theorem dX6_holdsFrom_94 : decode cX6_holdsFrom 94 = .ok (.iconst 1, 1) := by decide +kernel
theorem dX6_holdsFrom_95 : decode cX6_holdsFrom 95 = .ok (.ireturn, 1) := by decide +kernel
theorem dX6_holdsFrom_96 : decode cX6_holdsFrom 96 = .ok (.iinc 6 1, 3) := by decide +kernel
theorem dX6_holdsFrom_99 : decode cX6_holdsFrom 99 = .ok (.goto (-46), 3) := by decide +kernel
theorem dX6_holdsFrom_102 : decode cX6_holdsFrom 102 = .ok (.aload_n 0, 1) := by decide +kernel
theorem dX6_holdsFrom_103 : decode cX6_holdsFrom 103 = .ok (.getfield 15, 3) := by decide +kernel
theorem dX6_holdsFrom_106 : decode cX6_holdsFrom 106 = .ok (.iload 5, 2) := by decide +kernel
theorem dX6_holdsFrom_108 : decode cX6_holdsFrom 108 = .ok (.iconst 0, 1) := by decide +kernel
theorem dX6_holdsFrom_109 : decode cX6_holdsFrom 109 = .ok (.iastore, 1) := by decide +kernel
theorem dX6_holdsFrom_110 : decode cX6_holdsFrom 110 = .ok (.iconst 0, 1) := by decide +kernel
theorem dX6_holdsFrom_111 : decode cX6_holdsFrom 111 = .ok (.ireturn, 1) := by decide +kernel
theorem dX7_init_0 : decode cX7_init 0 = .ok (.aload_n 0, 1) := by decide +kernel
theorem dX7_init_1 : decode cX7_init 1 = .ok (.invokespecial 3, 3) := by decide +kernel
theorem dX7_init_4 : decode cX7_init 4 = .ok (.aload_n 0, 1) := by decide +kernel
theorem dX7_init_5 : decode cX7_init 5 = .ok (.getstatic 9, 3) := by decide +kernel
theorem dX7_init_8 : decode cX7_init 8 = .ok (.putfield 15, 3) := by decide +kernel
theorem dX7_init_11 : decode cX7_init 11 = .ok (.aload_n 0, 1) := by decide +kernel
theorem dX7_init_12 : decode cX7_init 12 = .ok (.iconst 5, 1) := by decide +kernel
theorem dX7_init_13 : decode cX7_init 13 = .ok (.newarray .int, 2) := by decide +kernel
theorem dX7_init_15 : decode cX7_init 15 = .ok (.putfield 20, 3) := by decide +kernel
theorem dX7_init_18 : decode cX7_init 18 = .ok (.return_, 1) := by decide +kernel
theorem dX7_begin_0 : decode cX7_begin 0 = .ok (.aload_n 0, 1) := by decide +kernel
theorem dX7_begin_1 : decode cX7_begin 1 = .ok (.aload_n 1, 1) := by decide +kernel
theorem dX7_begin_2 : decode cX7_begin 2 = .ok (.putfield 15, 3) := by decide +kernel
theorem dX7_begin_5 : decode cX7_begin 5 = .ok (.aload_n 0, 1) := by decide +kernel
theorem dX7_begin_6 : decode cX7_begin 6 = .ok (.iconst 0, 1) := by decide +kernel
theorem dX7_begin_7 : decode cX7_begin 7 = .ok (.putfield 24, 3) := by decide +kernel
theorem dX7_begin_10 : decode cX7_begin 10 = .ok (.aload_n 0, 1) := by decide +kernel
theorem dX7_begin_11 : decode cX7_begin 11 = .ok (.iconst 0, 1) := by decide +kernel
theorem dX7_begin_12 : decode cX7_begin 12 = .ok (.putfield 28, 3) := by decide +kernel
theorem dX7_begin_15 : decode cX7_begin 15 = .ok (.aload_n 0, 1) := by decide +kernel
theorem dX7_begin_16 : decode cX7_begin 16 = .ok (.iconst 0, 1) := by decide +kernel
theorem dX7_begin_17 : decode cX7_begin 17 = .ok (.putfield 31, 3) := by decide +kernel
theorem dX7_begin_20 : decode cX7_begin 20 = .ok (.aload_n 0, 1) := by decide +kernel
theorem dX7_begin_21 : decode cX7_begin 21 = .ok (.iconst 0, 1) := by decide +kernel
theorem dX7_begin_22 : decode cX7_begin 22 = .ok (.putfield 34, 3) := by decide +kernel
theorem dX7_begin_25 : decode cX7_begin 25 = .ok (.return_, 1) := by decide +kernel
theorem dX7_addCell_0 : decode cX7_addCell 0 = .ok (.aload_n 0, 1) := by decide +kernel
theorem dX7_addCell_1 : decode cX7_addCell 1 = .ok (.getfield 31, 3) := by decide +kernel
theorem dX7_addCell_4 : decode cX7_addCell 4 = .ok (.aload_n 0, 1) := by decide +kernel
end
section
theorem dX7_addCell_5 : decode cX7_addCell 5 = .ok (.getfield 20, 3) := by decide +kernel
theorem dX7_addCell_8 : decode cX7_addCell 8 = .ok (.arraylength, 1) := by decide +kernel
theorem dX7_addCell_9 : decode cX7_addCell 9 = .ok (.if_icmp .ge 35, 3) := by decide +kernel
theorem dX7_addCell_12 : decode cX7_addCell 12 = .ok (.aload_n 0, 1) := by decide +kernel
theorem dX7_addCell_13 : decode cX7_addCell 13 = .ok (.getfield 20, 3) := by decide +kernel
theorem dX7_addCell_16 : decode cX7_addCell 16 = .ok (.aload_n 0, 1) := by decide +kernel
theorem dX7_addCell_17 : decode cX7_addCell 17 = .ok (.getfield 31, 3) := by decide +kernel
theorem dX7_addCell_20 : decode cX7_addCell 20 = .ok (.iload_n 1, 1) := by decide +kernel
theorem dX7_addCell_21 : decode cX7_addCell 21 = .ok (.iastore, 1) := by decide +kernel
theorem dX7_addCell_22 : decode cX7_addCell 22 = .ok (.aload_n 0, 1) := by decide +kernel
theorem dX7_addCell_23 : decode cX7_addCell 23 = .ok (.dup, 1) := by decide +kernel
theorem dX7_addCell_24 : decode cX7_addCell 24 = .ok (.getfield 31, 3) := by decide +kernel
theorem dX7_addCell_27 : decode cX7_addCell 27 = .ok (.iconst 1, 1) := by decide +kernel
theorem dX7_addCell_28 : decode cX7_addCell 28 = .ok (.iadd, 1) := by decide +kernel
theorem dX7_addCell_29 : decode cX7_addCell 29 = .ok (.putfield 31, 3) := by decide +kernel
theorem dX7_addCell_32 : decode cX7_addCell 32 = .ok (.aload_n 0, 1) := by decide +kernel
theorem dX7_addCell_33 : decode cX7_addCell 33 = .ok (.dup, 1) := by decide +kernel
theorem dX7_addCell_34 : decode cX7_addCell 34 = .ok (.getfield 34, 3) := by decide +kernel
theorem dX7_addCell_37 : decode cX7_addCell 37 = .ok (.iconst 1, 1) := by decide +kernel
theorem dX7_addCell_38 : decode cX7_addCell 38 = .ok (.iload_n 1, 1) := by decide +kernel
theorem dX7_addCell_39 : decode cX7_addCell 39 = .ok (.ishl, 1) := by decide +kernel
theorem dX7_addCell_40 : decode cX7_addCell 40 = .ok (.ior, 1) := by decide +kernel
theorem dX7_addCell_41 : decode cX7_addCell 41 = .ok (.putfield 34, 3) := by decide +kernel
theorem dX7_addCell_44 : decode cX7_addCell 44 = .ok (.return_, 1) := by decide +kernel
theorem dX7_hasCell_0 : decode cX7_hasCell 0 = .ok (.aload_n 0, 1) := by decide +kernel
theorem dX7_hasCell_1 : decode cX7_hasCell 1 = .ok (.getfield 34, 3) := by decide +kernel
theorem dX7_hasCell_4 : decode cX7_hasCell 4 = .ok (.iload_n 1, 1) := by decide +kernel
theorem dX7_hasCell_5 : decode cX7_hasCell 5 = .ok (.ishr, 1) := by decide +kernel
theorem dX7_hasCell_6 : decode cX7_hasCell 6 = .ok (.iconst 1, 1) := by decide +kernel
theorem dX7_hasCell_7 : decode cX7_hasCell 7 = .ok (.iand, 1) := by decide +kernel
theorem dX7_hasCell_8 : decode cX7_hasCell 8 = .ok (.ifCond .eq 7, 3) := by decide +kernel
theorem dX7_hasCell_11 : decode cX7_hasCell 11 = .ok (.iconst 1, 1) := by decide +kernel
theorem dX7_hasCell_12 : decode cX7_hasCell 12 = .ok (.goto 4, 3) := by decide +kernel
theorem dX7_hasCell_15 : decode cX7_hasCell 15 = .ok (.iconst 0, 1) := by decide +kernel
theorem dX7_hasCell_16 : decode cX7_hasCell 16 = .ok (.ireturn, 1) := by decide +kernel
theorem dX7_isGivenOf_0 : decode cX7_isGivenOf 0 = .ok (.aload_n 0, 1) := by decide +kernel
theorem dX7_isGivenOf_1 : decode cX7_isGivenOf 1 = .ok (.getfield 15, 3) := by decide +kernel
theorem dX7_isGivenOf_4 : decode cX7_isGivenOf 4 = .ok (.getstatic 37, 3) := by decide +kernel
theorem dX7_isGivenOf_7 : decode cX7_isGivenOf 7 = .ok (.if_acmp .ne 15, 3) := by decide +kernel
theorem dX7_isGivenOf_10 : decode cX7_isGivenOf 10 = .ok (.aload_n 0, 1) := by decide +kernel
theorem dX7_isGivenOf_11 : decode cX7_isGivenOf 11 = .ok (.iload_n 1, 1) := by decide +kernel
theorem dX7_isGivenOf_12 : decode cX7_isGivenOf 12 = .ok (.invokevirtual 40, 3) := by decide +kernel
theorem dX7_isGivenOf_15 : decode cX7_isGivenOf 15 = .ok (.ifCond .eq 7, 3) := by decide +kernel
theorem dX7_isGivenOf_18 : decode cX7_isGivenOf 18 = .ok (.iconst 1, 1) := by decide +kernel
theorem dX7_isGivenOf_19 : decode cX7_isGivenOf 19 = .ok (.goto 4, 3) := by decide +kernel
theorem dX7_isGivenOf_22 : decode cX7_isGivenOf 22 = .ok (.iconst 0, 1) := by decide +kernel
theorem dX7_isGivenOf_23 : decode cX7_isGivenOf 23 = .ok (.ireturn, 1) := by decide +kernel
theorem dX7_cellOrNone_0 : decode cX7_cellOrNone 0 = .ok (.iload_n 1, 1) := by decide +kernel
theorem dX7_cellOrNone_1 : decode cX7_cellOrNone 1 = .ok (.ifCond .lt 20, 3) := by decide +kernel
theorem dX7_cellOrNone_4 : decode cX7_cellOrNone 4 = .ok (.iload_n 1, 1) := by decide +kernel
theorem dX7_cellOrNone_5 : decode cX7_cellOrNone 5 = .ok (.aload_n 0, 1) := by decide +kernel
theorem dX7_cellOrNone_6 : decode cX7_cellOrNone 6 = .ok (.getfield 31, 3) := by decide +kernel
theorem dX7_cellOrNone_9 : decode cX7_cellOrNone 9 = .ok (.if_icmp .ge 12, 3) := by decide +kernel
theorem dX7_cellOrNone_12 : decode cX7_cellOrNone 12 = .ok (.aload_n 0, 1) := by decide +kernel
theorem dX7_cellOrNone_13 : decode cX7_cellOrNone 13 = .ok (.getfield 20, 3) := by decide +kernel
theorem dX7_cellOrNone_16 : decode cX7_cellOrNone 16 = .ok (.iload_n 1, 1) := by decide +kernel
theorem dX7_cellOrNone_17 : decode cX7_cellOrNone 17 = .ok (.iaload, 1) := by decide +kernel
theorem dX7_cellOrNone_18 : decode cX7_cellOrNone 18 = .ok (.goto 4, 3) := by decide +kernel
theorem dX7_cellOrNone_21 : decode cX7_cellOrNone 21 = .ok (.iconst (-1), 1) := by decide +kernel
theorem dX7_cellOrNone_22 : decode cX7_cellOrNone 22 = .ok (.ireturn, 1) := by decide +kernel
theorem dX7_takeParts_0 : decode cX7_takeParts 0 = .ok (.aload_n 0, 1) := by decide +kernel
theorem dX7_takeParts_1 : decode cX7_takeParts 1 = .ok (.aload_n 1, 1) := by decide +kernel
theorem dX7_takeParts_2 : decode cX7_takeParts 2 = .ok (.getfield 24, 3) := by decide +kernel
theorem dX7_takeParts_5 : decode cX7_takeParts 5 = .ok (.putfield 24, 3) := by decide +kernel
theorem dX7_takeParts_8 : decode cX7_takeParts 8 = .ok (.aload_n 0, 1) := by decide +kernel
theorem dX7_takeParts_9 : decode cX7_takeParts 9 = .ok (.aload_n 1, 1) := by decide +kernel
theorem dX7_takeParts_10 : decode cX7_takeParts 10 = .ok (.getfield 28, 3) := by decide +kernel
theorem dX7_takeParts_13 : decode cX7_takeParts 13 = .ok (.putfield 28, 3) := by decide +kernel
theorem dX7_takeParts_16 : decode cX7_takeParts 16 = .ok (.iconst 0, 1) := by decide +kernel
theorem dX7_takeParts_17 : decode cX7_takeParts 17 = .ok (.istore_n 2, 1) := by decide +kernel
theorem dX7_takeParts_18 : decode cX7_takeParts 18 = .ok (.iload_n 2, 1) := by decide +kernel
theorem dX7_takeParts_19 : decode cX7_takeParts 19 = .ok (.aload_n 1, 1) := by decide +kernel
theorem dX7_takeParts_20 : decode cX7_takeParts 20 = .ok (.getfield 31, 3) := by decide +kernel
theorem dX7_takeParts_23 : decode cX7_takeParts 23 = .ok (.if_icmp .ge 19, 3) := by decide +kernel
theorem dX7_takeParts_26 : decode cX7_takeParts 26 = .ok (.aload_n 0, 1) := by decide +kernel
theorem dX7_takeParts_27 : decode cX7_takeParts 27 = .ok (.aload_n 1, 1) := by decide +kernel
theorem dX7_takeParts_28 : decode cX7_takeParts 28 = .ok (.getfield 20, 3) := by decide +kernel
theorem dX7_takeParts_31 : decode cX7_takeParts 31 = .ok (.iload_n 2, 1) := by decide +kernel
theorem dX7_takeParts_32 : decode cX7_takeParts 32 = .ok (.iaload, 1) := by decide +kernel
theorem dX7_takeParts_33 : decode cX7_takeParts 33 = .ok (.invokevirtual 44, 3) := by decide +kernel
theorem dX7_takeParts_36 : decode cX7_takeParts 36 = .ok (.iinc 2 1, 3) := by decide +kernel
theorem dX7_takeParts_39 : decode cX7_takeParts 39 = .ok (.goto (-21), 3) := by decide +kernel
theorem dX7_takeParts_42 : decode cX7_takeParts 42 = .ok (.return_, 1) := by decide +kernel
theorem dX7_moveCells_0 : decode cX7_moveCells 0 = .ok (.aload_n 0, 1) := by decide +kernel
theorem dX7_moveCells_1 : decode cX7_moveCells 1 = .ok (.iconst 0, 1) := by decide +kernel
theorem dX7_moveCells_2 : decode cX7_moveCells 2 = .ok (.putfield 34, 3) := by decide +kernel
theorem dX7_moveCells_5 : decode cX7_moveCells 5 = .ok (.iconst 0, 1) := by decide +kernel
theorem dX7_moveCells_6 : decode cX7_moveCells 6 = .ok (.istore_n 2, 1) := by decide +kernel
theorem dX7_moveCells_7 : decode cX7_moveCells 7 = .ok (.iload_n 2, 1) := by decide +kernel
theorem dX7_moveCells_8 : decode cX7_moveCells 8 = .ok (.aload_n 0, 1) := by decide +kernel
theorem dX7_moveCells_9 : decode cX7_moveCells 9 = .ok (.getfield 31, 3) := by decide +kernel
theorem dX7_moveCells_12 : decode cX7_moveCells 12 = .ok (.if_icmp .ge 40, 3) := by decide +kernel
theorem dX7_moveCells_15 : decode cX7_moveCells 15 = .ok (.aload_n 0, 1) := by decide +kernel
theorem dX7_moveCells_16 : decode cX7_moveCells 16 = .ok (.getfield 20, 3) := by decide +kernel
theorem dX7_moveCells_19 : decode cX7_moveCells 19 = .ok (.iload_n 2, 1) := by decide +kernel
theorem dX7_moveCells_20 : decode cX7_moveCells 20 = .ok (.aload_n 1, 1) := by decide +kernel
theorem dX7_moveCells_21 : decode cX7_moveCells 21 = .ok (.aload_n 0, 1) := by decide +kernel
theorem dX7_moveCells_22 : decode cX7_moveCells 22 = .ok (.getfield 20, 3) := by decide +kernel
theorem dX7_moveCells_25 : decode cX7_moveCells 25 = .ok (.iload_n 2, 1) := by decide +kernel
theorem dX7_moveCells_26 : decode cX7_moveCells 26 = .ok (.iaload, 1) := by decide +kernel
theorem dX7_moveCells_27 : decode cX7_moveCells 27 = .ok (.iaload, 1) := by decide +kernel
theorem dX7_moveCells_28 : decode cX7_moveCells 28 = .ok (.iastore, 1) := by decide +kernel
theorem dX7_moveCells_29 : decode cX7_moveCells 29 = .ok (.aload_n 0, 1) := by decide +kernel
theorem dX7_moveCells_30 : decode cX7_moveCells 30 = .ok (.dup, 1) := by decide +kernel
theorem dX7_moveCells_31 : decode cX7_moveCells 31 = .ok (.getfield 34, 3) := by decide +kernel
theorem dX7_moveCells_34 : decode cX7_moveCells 34 = .ok (.iconst 1, 1) := by decide +kernel
theorem dX7_moveCells_35 : decode cX7_moveCells 35 = .ok (.aload_n 0, 1) := by decide +kernel
theorem dX7_moveCells_36 : decode cX7_moveCells 36 = .ok (.getfield 20, 3) := by decide +kernel
theorem dX7_moveCells_39 : decode cX7_moveCells 39 = .ok (.iload_n 2, 1) := by decide +kernel
theorem dX7_moveCells_40 : decode cX7_moveCells 40 = .ok (.iaload, 1) := by decide +kernel
theorem dX7_moveCells_41 : decode cX7_moveCells 41 = .ok (.ishl, 1) := by decide +kernel
theorem dX7_moveCells_42 : decode cX7_moveCells 42 = .ok (.ior, 1) := by decide +kernel
theorem dX7_moveCells_43 : decode cX7_moveCells 43 = .ok (.putfield 34, 3) := by decide +kernel
theorem dX7_moveCells_46 : decode cX7_moveCells 46 = .ok (.iinc 2 1, 3) := by decide +kernel
theorem dX7_moveCells_49 : decode cX7_moveCells 49 = .ok (.goto (-42), 3) := by decide +kernel
theorem dX7_moveCells_52 : decode cX7_moveCells 52 = .ok (.return_, 1) := by decide +kernel
theorem dX7_isBroken_0 : decode cX7_isBroken 0 = .ok (.getstatic 48, 3) := by decide +kernel
theorem dX7_isBroken_3 : decode cX7_isBroken 3 = .ok (.aload_n 0, 1) := by decide +kernel
theorem dX7_isBroken_4 : decode cX7_isBroken 4 = .ok (.getfield 15, 3) := by decide +kernel
theorem dX7_isBroken_7 : decode cX7_isBroken 7 = .ok (.invokevirtual 53, 3) := by decide +kernel
theorem dX7_isBroken_10 : decode cX7_isBroken 10 = .ok (.iaload, 1) := by decide +kernel
theorem dX7_isBroken_11 : decode cX7_isBroken 11 = .ok (.tableswitch 121 1 11 #[57, 64, 71, 77, 77, 83, 89, 96, 103, 109, 115], 57) := by decide +kernel
theorem dX7_isBroken_68 : decode cX7_isBroken 68 = .ok (.aload_n 0, 1) := by decide +kernel
theorem dX7_isBroken_69 : decode cX7_isBroken 69 = .ok (.aload_n 1, 1) := by decide +kernel
theorem dX7_isBroken_70 : decode cX7_isBroken 70 = .ok (.iconst 1, 1) := by decide +kernel
theorem dX7_isBroken_71 : decode cX7_isBroken 71 = .ok (.invokevirtual 57, 3) := by decide +kernel
theorem dX7_isBroken_74 : decode cX7_isBroken 74 = .ok (.ireturn, 1) := by decide +kernel
theorem dX7_isBroken_75 : decode cX7_isBroken 75 = .ok (.aload_n 0, 1) := by decide +kernel
theorem dX7_isBroken_76 : decode cX7_isBroken 76 = .ok (.aload_n 1, 1) := by decide +kernel
theorem dX7_isBroken_77 : decode cX7_isBroken 77 = .ok (.iload_n 2, 1) := by decide +kernel
theorem dX7_isBroken_78 : decode cX7_isBroken 78 = .ok (.invokevirtual 61, 3) := by decide +kernel
theorem dX7_isBroken_81 : decode cX7_isBroken 81 = .ok (.ireturn, 1) := by decide +kernel
theorem dX7_isBroken_82 : decode cX7_isBroken 82 = .ok (.aload_n 0, 1) := by decide +kernel
theorem dX7_isBroken_83 : decode cX7_isBroken 83 = .ok (.aload_n 1, 1) := by decide +kernel
theorem dX7_isBroken_84 : decode cX7_isBroken 84 = .ok (.invokevirtual 65, 3) := by decide +kernel
theorem dX7_isBroken_87 : decode cX7_isBroken 87 = .ok (.ireturn, 1) := by decide +kernel
theorem dX7_isBroken_88 : decode cX7_isBroken 88 = .ok (.aload_n 0, 1) := by decide +kernel
theorem dX7_isBroken_89 : decode cX7_isBroken 89 = .ok (.aload_n 1, 1) := by decide +kernel
theorem dX7_isBroken_90 : decode cX7_isBroken 90 = .ok (.invokevirtual 69, 3) := by decide +kernel
theorem dX7_isBroken_93 : decode cX7_isBroken 93 = .ok (.ireturn, 1) := by decide +kernel
theorem dX7_isBroken_94 : decode cX7_isBroken 94 = .ok (.aload_n 0, 1) := by decide +kernel
theorem dX7_isBroken_95 : decode cX7_isBroken 95 = .ok (.aload_n 1, 1) := by decide +kernel
theorem dX7_isBroken_96 : decode cX7_isBroken 96 = .ok (.invokevirtual 72, 3) := by decide +kernel
theorem dX7_isBroken_99 : decode cX7_isBroken 99 = .ok (.ireturn, 1) := by decide +kernel
theorem dX7_isBroken_100 : decode cX7_isBroken 100 = .ok (.aload_n 0, 1) := by decide +kernel
theorem dX7_isBroken_101 : decode cX7_isBroken 101 = .ok (.aload_n 1, 1) := by decide +kernel
theorem dX7_isBroken_102 : decode cX7_isBroken 102 = .ok (.iconst 0, 1) := by decide +kernel
theorem dX7_isBroken_103 : decode cX7_isBroken 103 = .ok (.invokevirtual 75, 3) := by decide +kernel
theorem dX7_isBroken_106 : decode cX7_isBroken 106 = .ok (.ireturn, 1) := by decide +kernel
theorem dX7_isBroken_107 : decode cX7_isBroken 107 = .ok (.aload_n 0, 1) := by decide +kernel
theorem dX7_isBroken_108 : decode cX7_isBroken 108 = .ok (.aload_n 1, 1) := by decide +kernel
theorem dX7_isBroken_109 : decode cX7_isBroken 109 = .ok (.iconst 1, 1) := by decide +kernel
theorem dX7_isBroken_110 : decode cX7_isBroken 110 = .ok (.invokevirtual 75, 3) := by decide +kernel
theorem dX7_isBroken_113 : decode cX7_isBroken 113 = .ok (.ireturn, 1) := by decide +kernel
theorem dX7_isBroken_114 : decode cX7_isBroken 114 = .ok (.aload_n 0, 1) := by decide +kernel
theorem dX7_isBroken_115 : decode cX7_isBroken 115 = .ok (.aload_n 1, 1) := by decide +kernel
theorem dX7_isBroken_116 : decode cX7_isBroken 116 = .ok (.invokevirtual 78, 3) := by decide +kernel
theorem dX7_isBroken_119 : decode cX7_isBroken 119 = .ok (.ireturn, 1) := by decide +kernel
theorem dX7_isBroken_120 : decode cX7_isBroken 120 = .ok (.aload_n 0, 1) := by decide +kernel
theorem dX7_isBroken_121 : decode cX7_isBroken 121 = .ok (.aload_n 1, 1) := by decide +kernel
theorem dX7_isBroken_122 : decode cX7_isBroken 122 = .ok (.invokevirtual 81, 3) := by decide +kernel
theorem dX7_isBroken_125 : decode cX7_isBroken 125 = .ok (.ireturn, 1) := by decide +kernel
theorem dX7_isBroken_126 : decode cX7_isBroken 126 = .ok (.aload_n 0, 1) := by decide +kernel
theorem dX7_isBroken_127 : decode cX7_isBroken 127 = .ok (.aload_n 1, 1) := by decide +kernel
theorem dX7_isBroken_128 : decode cX7_isBroken 128 = .ok (.invokevirtual 84, 3) := by decide +kernel
theorem dX7_isBroken_131 : decode cX7_isBroken 131 = .ok (.ireturn, 1) := by decide +kernel
theorem dX7_isBroken_132 : decode cX7_isBroken 132 = .ok (.aload_n 0, 1) := by decide +kernel
theorem dX7_isBroken_133 : decode cX7_isBroken 133 = .ok (.aload_n 1, 1) := by decide +kernel
theorem dX7_isBroken_134 : decode cX7_isBroken 134 = .ok (.iconst 0, 1) := by decide +kernel
theorem dX7_isBroken_135 : decode cX7_isBroken 135 = .ok (.invokevirtual 57, 3) := by decide +kernel
theorem dX7_isBroken_138 : decode cX7_isBroken 138 = .ok (.ireturn, 1) := by decide +kernel
theorem dX7_hasPair_0 : decode cX7_hasPair 0 = .ok (.iconst 1, 1) := by decide +kernel
theorem dX7_hasPair_1 : decode cX7_hasPair 1 = .ok (.istore_n 3, 1) := by decide +kernel
theorem dX7_hasPair_2 : decode cX7_hasPair 2 = .ok (.iload_n 3, 1) := by decide +kernel
theorem dX7_hasPair_3 : decode cX7_hasPair 3 = .ok (.aload_n 0, 1) := by decide +kernel
theorem dX7_hasPair_4 : decode cX7_hasPair 4 = .ok (.getfield 31, 3) := by decide +kernel
theorem dX7_hasPair_7 : decode cX7_hasPair 7 = .ok (.if_icmp .ge 73, 3) := by decide +kernel
theorem dX7_hasPair_10 : decode cX7_hasPair 10 = .ok (.aload_n 1, 1) := by decide +kernel
theorem dX7_hasPair_11 : decode cX7_hasPair 11 = .ok (.aload_n 0, 1) := by decide +kernel
theorem dX7_hasPair_12 : decode cX7_hasPair 12 = .ok (.getfield 20, 3) := by decide +kernel
theorem dX7_hasPair_15 : decode cX7_hasPair 15 = .ok (.iload_n 3, 1) := by decide +kernel
theorem dX7_hasPair_16 : decode cX7_hasPair 16 = .ok (.iaload, 1) := by decide +kernel
theorem dX7_hasPair_17 : decode cX7_hasPair 17 = .ok (.iaload, 1) := by decide +kernel
theorem dX7_hasPair_18 : decode cX7_hasPair 18 = .ok (.istore 4, 2) := by decide +kernel
theorem dX7_hasPair_20 : decode cX7_hasPair 20 = .ok (.iconst 0, 1) := by decide +kernel
theorem dX7_hasPair_21 : decode cX7_hasPair 21 = .ok (.istore 5, 2) := by decide +kernel
theorem dX7_hasPair_23 : decode cX7_hasPair 23 = .ok (.iload 5, 2) := by decide +kernel
theorem dX7_hasPair_25 : decode cX7_hasPair 25 = .ok (.iload_n 3, 1) := by decide +kernel
theorem dX7_hasPair_26 : decode cX7_hasPair 26 = .ok (.if_icmp .ge 48, 3) := by decide +kernel
theorem dX7_hasPair_29 : decode cX7_hasPair 29 = .ok (.iload 4, 2) := by decide +kernel
theorem dX7_hasPair_31 : decode cX7_hasPair 31 = .ok (.ifCond .eq 43, 3) := by decide +kernel
theorem dX7_hasPair_34 : decode cX7_hasPair 34 = .ok (.aload_n 1, 1) := by decide +kernel
theorem dX7_hasPair_35 : decode cX7_hasPair 35 = .ok (.aload_n 0, 1) := by decide +kernel
theorem dX7_hasPair_36 : decode cX7_hasPair 36 = .ok (.getfield 20, 3) := by decide +kernel
theorem dX7_hasPair_39 : decode cX7_hasPair 39 = .ok (.iload 5, 2) := by decide +kernel
theorem dX7_hasPair_41 : decode cX7_hasPair 41 = .ok (.iaload, 1) := by decide +kernel
theorem dX7_hasPair_42 : decode cX7_hasPair 42 = .ok (.iaload, 1) := by decide +kernel
theorem dX7_hasPair_43 : decode cX7_hasPair 43 = .ok (.istore 6, 2) := by decide +kernel
theorem dX7_hasPair_45 : decode cX7_hasPair 45 = .ok (.iload 6, 2) := by decide +kernel
theorem dX7_hasPair_47 : decode cX7_hasPair 47 = .ok (.ifCond .eq 21, 3) := by decide +kernel
theorem dX7_hasPair_50 : decode cX7_hasPair 50 = .ok (.iload 6, 2) := by decide +kernel
theorem dX7_hasPair_52 : decode cX7_hasPair 52 = .ok (.iload 4, 2) := by decide +kernel
theorem dX7_hasPair_54 : decode cX7_hasPair 54 = .ok (.if_icmp .ne 7, 3) := by decide +kernel
theorem dX7_hasPair_57 : decode cX7_hasPair 57 = .ok (.iconst 1, 1) := by decide +kernel
theorem dX7_hasPair_58 : decode cX7_hasPair 58 = .ok (.goto 4, 3) := by decide +kernel
theorem dX7_hasPair_61 : decode cX7_hasPair 61 = .ok (.iconst 0, 1) := by decide +kernel
theorem dX7_hasPair_62 : decode cX7_hasPair 62 = .ok (.iload_n 2, 1) := by decide +kernel
theorem dX7_hasPair_63 : decode cX7_hasPair 63 = .ok (.if_icmp .ne 5, 3) := by decide +kernel
theorem dX7_hasPair_66 : decode cX7_hasPair 66 = .ok (.iconst 1, 1) := by decide +kernel
theorem dX7_hasPair_67 : decode cX7_hasPair 67 = .ok (.ireturn, 1) := by decide +kernel
theorem dX7_hasPair_68 : decode cX7_hasPair 68 = .ok (.iinc 5 1, 3) := by decide +kernel
theorem dX7_hasPair_71 : decode cX7_hasPair 71 = .ok (.goto (-48), 3) := by decide +kernel
theorem dX7_hasPair_74 : decode cX7_hasPair 74 = .ok (.iinc 3 1, 3) := by decide +kernel
theorem dX7_hasPair_77 : decode cX7_hasPair 77 = .ok (.goto (-75), 3) := by decide +kernel
theorem dX7_hasPair_80 : decode cX7_hasPair 80 = .ok (.iconst 0, 1) := by decide +kernel
theorem dX7_hasPair_81 : decode cX7_hasPair 81 = .ok (.ireturn, 1) := by decide +kernel
theorem dX7_breaksSum_0 : decode cX7_breaksSum 0 = .ok (.iconst 0, 1) := by decide +kernel
theorem dX7_breaksSum_1 : decode cX7_breaksSum 1 = .ok (.istore_n 3, 1) := by decide +kernel
theorem dX7_breaksSum_2 : decode cX7_breaksSum 2 = .ok (.iconst 0, 1) := by decide +kernel
theorem dX7_breaksSum_3 : decode cX7_breaksSum 3 = .ok (.istore 4, 2) := by decide +kernel
theorem dX7_breaksSum_5 : decode cX7_breaksSum 5 = .ok (.iconst 0, 1) := by decide +kernel
theorem dX7_breaksSum_6 : decode cX7_breaksSum 6 = .ok (.istore 5, 2) := by decide +kernel
theorem dX7_breaksSum_8 : decode cX7_breaksSum 8 = .ok (.iload 5, 2) := by decide +kernel
theorem dX7_breaksSum_10 : decode cX7_breaksSum 10 = .ok (.aload_n 0, 1) := by decide +kernel
theorem dX7_breaksSum_11 : decode cX7_breaksSum 11 = .ok (.getfield 31, 3) := by decide +kernel
theorem dX7_breaksSum_14 : decode cX7_breaksSum 14 = .ok (.if_icmp .ge 33, 3) := by decide +kernel
theorem dX7_breaksSum_17 : decode cX7_breaksSum 17 = .ok (.aload_n 1, 1) := by decide +kernel
theorem dX7_breaksSum_18 : decode cX7_breaksSum 18 = .ok (.aload_n 0, 1) := by decide +kernel
theorem dX7_breaksSum_19 : decode cX7_breaksSum 19 = .ok (.getfield 20, 3) := by decide +kernel
theorem dX7_breaksSum_22 : decode cX7_breaksSum 22 = .ok (.iload 5, 2) := by decide +kernel
theorem dX7_breaksSum_24 : decode cX7_breaksSum 24 = .ok (.iaload, 1) := by decide +kernel
theorem dX7_breaksSum_25 : decode cX7_breaksSum 25 = .ok (.iaload, 1) := by decide +kernel
theorem dX7_breaksSum_26 : decode cX7_breaksSum 26 = .ok (.istore 6, 2) := by decide +kernel
theorem dX7_breaksSum_28 : decode cX7_breaksSum 28 = .ok (.iload_n 3, 1) := by decide +kernel
theorem dX7_breaksSum_29 : decode cX7_breaksSum 29 = .ok (.iload 6, 2) := by decide +kernel
theorem dX7_breaksSum_31 : decode cX7_breaksSum 31 = .ok (.iadd, 1) := by decide +kernel
theorem dX7_breaksSum_32 : decode cX7_breaksSum 32 = .ok (.istore_n 3, 1) := by decide +kernel
theorem dX7_breaksSum_33 : decode cX7_breaksSum 33 = .ok (.iload 6, 2) := by decide +kernel
theorem dX7_breaksSum_35 : decode cX7_breaksSum 35 = .ok (.ifCond .ne 6, 3) := by decide +kernel
theorem dX7_breaksSum_38 : decode cX7_breaksSum 38 = .ok (.iinc 4 1, 3) := by decide +kernel
theorem dX7_breaksSum_41 : decode cX7_breaksSum 41 = .ok (.iinc 5 1, 3) := by decide +kernel
theorem dX7_breaksSum_44 : decode cX7_breaksSum 44 = .ok (.goto (-36), 3) := by decide +kernel
theorem dX7_breaksSum_47 : decode cX7_breaksSum 47 = .ok (.iload_n 3, 1) := by decide +kernel
theorem dX7_breaksSum_48 : decode cX7_breaksSum 48 = .ok (.iload 4, 2) := by decide +kernel
theorem dX7_breaksSum_50 : decode cX7_breaksSum 50 = .ok (.iadd, 1) := by decide +kernel
theorem dX7_breaksSum_51 : decode cX7_breaksSum 51 = .ok (.aload_n 0, 1) := by decide +kernel
theorem dX7_breaksSum_52 : decode cX7_breaksSum 52 = .ok (.getfield 24, 3) := by decide +kernel
theorem dX7_breaksSum_55 : decode cX7_breaksSum 55 = .ok (.if_icmp .gt 16, 3) := by decide +kernel
theorem dX7_breaksSum_58 : decode cX7_breaksSum 58 = .ok (.iload_n 3, 1) := by decide +kernel
theorem dX7_breaksSum_59 : decode cX7_breaksSum 59 = .ok (.iload_n 2, 1) := by decide +kernel
theorem dX7_breaksSum_60 : decode cX7_breaksSum 60 = .ok (.iload 4, 2) := by decide +kernel
theorem dX7_breaksSum_62 : decode cX7_breaksSum 62 = .ok (.imul, 1) := by decide +kernel
theorem dX7_breaksSum_63 : decode cX7_breaksSum 63 = .ok (.iadd, 1) := by decide +kernel
theorem dX7_breaksSum_64 : decode cX7_breaksSum 64 = .ok (.aload_n 0, 1) := by decide +kernel
theorem dX7_breaksSum_65 : decode cX7_breaksSum 65 = .ok (.getfield 24, 3) := by decide +kernel
theorem dX7_breaksSum_68 : decode cX7_breaksSum 68 = .ok (.if_icmp .ge 7, 3) := by decide +kernel
theorem dX7_breaksSum_71 : decode cX7_breaksSum 71 = .ok (.iconst 1, 1) := by decide +kernel
theorem dX7_breaksSum_72 : decode cX7_breaksSum 72 = .ok (.goto 4, 3) := by decide +kernel
theorem dX7_breaksSum_75 : decode cX7_breaksSum 75 = .ok (.iconst 0, 1) := by decide +kernel
theorem dX7_breaksSum_76 : decode cX7_breaksSum 76 = .ok (.ireturn, 1) := by decide +kernel
theorem dX7_breaksProduct_0 : decode cX7_breaksProduct 0 = .ok (.iconst 1, 1) := by decide +kernel
theorem dX7_breaksProduct_1 : decode cX7_breaksProduct 1 = .ok (.istore_n 2, 1) := by decide +kernel
theorem dX7_breaksProduct_2 : decode cX7_breaksProduct 2 = .ok (.iconst 0, 1) := by decide +kernel
theorem dX7_breaksProduct_3 : decode cX7_breaksProduct 3 = .ok (.istore_n 3, 1) := by decide +kernel
theorem dX7_breaksProduct_4 : decode cX7_breaksProduct 4 = .ok (.iconst 0, 1) := by decide +kernel
theorem dX7_breaksProduct_5 : decode cX7_breaksProduct 5 = .ok (.istore 4, 2) := by decide +kernel
theorem dX7_breaksProduct_7 : decode cX7_breaksProduct 7 = .ok (.iload 4, 2) := by decide +kernel
theorem dX7_breaksProduct_9 : decode cX7_breaksProduct 9 = .ok (.aload_n 0, 1) := by decide +kernel
theorem dX7_breaksProduct_10 : decode cX7_breaksProduct 10 = .ok (.getfield 31, 3) := by decide +kernel
theorem dX7_breaksProduct_13 : decode cX7_breaksProduct 13 = .ok (.if_icmp .ge 35, 3) := by decide +kernel
theorem dX7_breaksProduct_16 : decode cX7_breaksProduct 16 = .ok (.aload_n 1, 1) := by decide +kernel
theorem dX7_breaksProduct_17 : decode cX7_breaksProduct 17 = .ok (.aload_n 0, 1) := by decide +kernel
theorem dX7_breaksProduct_18 : decode cX7_breaksProduct 18 = .ok (.getfield 20, 3) := by decide +kernel
theorem dX7_breaksProduct_21 : decode cX7_breaksProduct 21 = .ok (.iload 4, 2) := by decide +kernel
theorem dX7_breaksProduct_23 : decode cX7_breaksProduct 23 = .ok (.iaload, 1) := by decide +kernel
theorem dX7_breaksProduct_24 : decode cX7_breaksProduct 24 = .ok (.iaload, 1) := by decide +kernel
theorem dX7_breaksProduct_25 : decode cX7_breaksProduct 25 = .ok (.istore 5, 2) := by decide +kernel
theorem dX7_breaksProduct_27 : decode cX7_breaksProduct 27 = .ok (.iload 5, 2) := by decide +kernel
theorem dX7_breaksProduct_29 : decode cX7_breaksProduct 29 = .ok (.ifCond .le 11, 3) := by decide +kernel
theorem dX7_breaksProduct_32 : decode cX7_breaksProduct 32 = .ok (.iload_n 2, 1) := by decide +kernel
theorem dX7_breaksProduct_33 : decode cX7_breaksProduct 33 = .ok (.iload 5, 2) := by decide +kernel
theorem dX7_breaksProduct_35 : decode cX7_breaksProduct 35 = .ok (.imul, 1) := by decide +kernel
theorem dX7_breaksProduct_36 : decode cX7_breaksProduct 36 = .ok (.istore_n 2, 1) := by decide +kernel
theorem dX7_breaksProduct_37 : decode cX7_breaksProduct 37 = .ok (.goto 5, 3) := by decide +kernel
theorem dX7_breaksProduct_40 : decode cX7_breaksProduct 40 = .ok (.iconst 1, 1) := by decide +kernel
theorem dX7_breaksProduct_41 : decode cX7_breaksProduct 41 = .ok (.istore_n 3, 1) := by decide +kernel
theorem dX7_breaksProduct_42 : decode cX7_breaksProduct 42 = .ok (.iinc 4 1, 3) := by decide +kernel
theorem dX7_breaksProduct_45 : decode cX7_breaksProduct 45 = .ok (.goto (-38), 3) := by decide +kernel
theorem dX7_breaksProduct_48 : decode cX7_breaksProduct 48 = .ok (.iload_n 2, 1) := by decide +kernel
theorem dX7_breaksProduct_49 : decode cX7_breaksProduct 49 = .ok (.iconst 1, 1) := by decide +kernel
theorem dX7_breaksProduct_50 : decode cX7_breaksProduct 50 = .ok (.if_icmp .lt 12, 3) := by decide +kernel
theorem dX7_breaksProduct_53 : decode cX7_breaksProduct 53 = .ok (.aload_n 0, 1) := by decide +kernel
theorem dX7_breaksProduct_54 : decode cX7_breaksProduct 54 = .ok (.getfield 24, 3) := by decide +kernel
theorem dX7_breaksProduct_57 : decode cX7_breaksProduct 57 = .ok (.iload_n 2, 1) := by decide +kernel
theorem dX7_breaksProduct_58 : decode cX7_breaksProduct 58 = .ok (.irem, 1) := by decide +kernel
theorem dX7_breaksProduct_59 : decode cX7_breaksProduct 59 = .ok (.ifCond .eq 5, 3) := by decide +kernel
theorem dX7_breaksProduct_62 : decode cX7_breaksProduct 62 = .ok (.iconst 1, 1) := by decide +kernel
theorem dX7_breaksProduct_63 : decode cX7_breaksProduct 63 = .ok (.ireturn, 1) := by decide +kernel
theorem dX7_breaksProduct_64 : decode cX7_breaksProduct 64 = .ok (.iload_n 3, 1) := by decide +kernel
theorem dX7_breaksProduct_65 : decode cX7_breaksProduct 65 = .ok (.ifCond .ne 15, 3) := by decide +kernel
theorem dX7_breaksProduct_68 : decode cX7_breaksProduct 68 = .ok (.iload_n 2, 1) := by decide +kernel
theorem dX7_breaksProduct_69 : decode cX7_breaksProduct 69 = .ok (.aload_n 0, 1) := by decide +kernel
theorem dX7_breaksProduct_70 : decode cX7_breaksProduct 70 = .ok (.getfield 24, 3) := by decide +kernel
theorem dX7_breaksProduct_73 : decode cX7_breaksProduct 73 = .ok (.if_icmp .eq 7, 3) := by decide +kernel
theorem dX7_breaksProduct_76 : decode cX7_breaksProduct 76 = .ok (.iconst 1, 1) := by decide +kernel
theorem dX7_breaksProduct_77 : decode cX7_breaksProduct 77 = .ok (.goto 4, 3) := by decide +kernel
theorem dX7_breaksProduct_80 : decode cX7_breaksProduct 80 = .ok (.iconst 0, 1) := by decide +kernel
theorem dX7_breaksProduct_81 : decode cX7_breaksProduct 81 = .ok (.ireturn, 1) := by decide +kernel
theorem dX7_breaksOrder_0 : decode cX7_breaksOrder 0 = .ok (.iconst 1, 1) := by decide +kernel
theorem dX7_breaksOrder_1 : decode cX7_breaksOrder 1 = .ok (.istore_n 2, 1) := by decide +kernel
theorem dX7_breaksOrder_2 : decode cX7_breaksOrder 2 = .ok (.iload_n 2, 1) := by decide +kernel
theorem dX7_breaksOrder_3 : decode cX7_breaksOrder 3 = .ok (.aload_n 0, 1) := by decide +kernel
theorem dX7_breaksOrder_4 : decode cX7_breaksOrder 4 = .ok (.getfield 31, 3) := by decide +kernel
theorem dX7_breaksOrder_7 : decode cX7_breaksOrder 7 = .ok (.if_icmp .ge 66, 3) := by decide +kernel
theorem dX7_breaksOrder_10 : decode cX7_breaksOrder 10 = .ok (.aload_n 1, 1) := by decide +kernel
theorem dX7_breaksOrder_11 : decode cX7_breaksOrder 11 = .ok (.aload_n 0, 1) := by decide +kernel
theorem dX7_breaksOrder_12 : decode cX7_breaksOrder 12 = .ok (.getfield 20, 3) := by decide +kernel
theorem dX7_breaksOrder_15 : decode cX7_breaksOrder 15 = .ok (.iload_n 2, 1) := by decide +kernel
theorem dX7_breaksOrder_16 : decode cX7_breaksOrder 16 = .ok (.iaload, 1) := by decide +kernel
theorem dX7_breaksOrder_17 : decode cX7_breaksOrder 17 = .ok (.iaload, 1) := by decide +kernel
theorem dX7_breaksOrder_18 : decode cX7_breaksOrder 18 = .ok (.istore_n 3, 1) := by decide +kernel
theorem dX7_breaksOrder_19 : decode cX7_breaksOrder 19 = .ok (.iconst 0, 1) := by decide +kernel
theorem dX7_breaksOrder_20 : decode cX7_breaksOrder 20 = .ok (.istore 4, 2) := by decide +kernel
theorem dX7_breaksOrder_22 : decode cX7_breaksOrder 22 = .ok (.iload 4, 2) := by decide +kernel
theorem dX7_breaksOrder_24 : decode cX7_breaksOrder 24 = .ok (.iload_n 2, 1) := by decide +kernel
theorem dX7_breaksOrder_25 : decode cX7_breaksOrder 25 = .ok (.if_icmp .ge 42, 3) := by decide +kernel
theorem dX7_breaksOrder_28 : decode cX7_breaksOrder 28 = .ok (.iload_n 3, 1) := by decide +kernel
theorem dX7_breaksOrder_29 : decode cX7_breaksOrder 29 = .ok (.ifCond .eq 38, 3) := by decide +kernel
theorem dX7_breaksOrder_32 : decode cX7_breaksOrder 32 = .ok (.aload_n 1, 1) := by decide +kernel
theorem dX7_breaksOrder_33 : decode cX7_breaksOrder 33 = .ok (.aload_n 0, 1) := by decide +kernel
theorem dX7_breaksOrder_34 : decode cX7_breaksOrder 34 = .ok (.getfield 20, 3) := by decide +kernel
theorem dX7_breaksOrder_37 : decode cX7_breaksOrder 37 = .ok (.iload 4, 2) := by decide +kernel
theorem dX7_breaksOrder_39 : decode cX7_breaksOrder 39 = .ok (.iaload, 1) := by decide +kernel
theorem dX7_breaksOrder_40 : decode cX7_breaksOrder 40 = .ok (.iaload, 1) := by decide +kernel
theorem dX7_breaksOrder_41 : decode cX7_breaksOrder 41 = .ok (.istore 5, 2) := by decide +kernel
theorem dX7_breaksOrder_43 : decode cX7_breaksOrder 43 = .ok (.iload 5, 2) := by decide +kernel
theorem dX7_breaksOrder_45 : decode cX7_breaksOrder 45 = .ok (.ifCond .eq 16, 3) := by decide +kernel
theorem dX7_breaksOrder_48 : decode cX7_breaksOrder 48 = .ok (.iload_n 3, 1) := by decide +kernel
theorem dX7_breaksOrder_49 : decode cX7_breaksOrder 49 = .ok (.iload 5, 2) := by decide +kernel
theorem dX7_breaksOrder_51 : decode cX7_breaksOrder 51 = .ok (.isub, 1) := by decide +kernel
theorem dX7_breaksOrder_52 : decode cX7_breaksOrder 52 = .ok (.iload_n 2, 1) := by decide +kernel
theorem dX7_breaksOrder_53 : decode cX7_breaksOrder 53 = .ok (.iload 4, 2) := by decide +kernel
theorem dX7_breaksOrder_55 : decode cX7_breaksOrder 55 = .ok (.isub, 1) := by decide +kernel
theorem dX7_breaksOrder_56 : decode cX7_breaksOrder 56 = .ok (.if_icmp .ge 5, 3) := by decide +kernel
theorem dX7_breaksOrder_59 : decode cX7_breaksOrder 59 = .ok (.iconst 1, 1) := by decide +kernel
theorem dX7_breaksOrder_60 : decode cX7_breaksOrder 60 = .ok (.ireturn, 1) := by decide +kernel
theorem dX7_breaksOrder_61 : decode cX7_breaksOrder 61 = .ok (.iinc 4 1, 3) := by decide +kernel
theorem dX7_breaksOrder_64 : decode cX7_breaksOrder 64 = .ok (.goto (-42), 3) := by decide +kernel
theorem dX7_breaksOrder_67 : decode cX7_breaksOrder 67 = .ok (.iinc 2 1, 3) := by decide +kernel
theorem dX7_breaksOrder_70 : decode cX7_breaksOrder 70 = .ok (.goto (-68), 3) := by decide +kernel
theorem dX7_breaksOrder_73 : decode cX7_breaksOrder 73 = .ok (.iconst 0, 1) := by decide +kernel
theorem dX7_breaksOrder_74 : decode cX7_breaksOrder 74 = .ok (.ireturn, 1) := by decide +kernel
theorem dX7_breaksSight_0 : decode cX7_breaksSight 0 = .ok (.iconst 0, 1) := by decide +kernel
theorem dX7_breaksSight_1 : decode cX7_breaksSight 1 = .ok (.istore_n 2, 1) := by decide +kernel
theorem dX7_breaksSight_2 : decode cX7_breaksSight 2 = .ok (.iconst 0, 1) := by decide +kernel
theorem dX7_breaksSight_3 : decode cX7_breaksSight 3 = .ok (.istore_n 3, 1) := by decide +kernel
theorem dX7_breaksSight_4 : decode cX7_breaksSight 4 = .ok (.iconst 0, 1) := by decide +kernel
theorem dX7_breaksSight_5 : decode cX7_breaksSight 5 = .ok (.istore 4, 2) := by decide +kernel
theorem dX7_breaksSight_7 : decode cX7_breaksSight 7 = .ok (.iload 4, 2) := by decide +kernel
theorem dX7_breaksSight_9 : decode cX7_breaksSight 9 = .ok (.aload_n 0, 1) := by decide +kernel
theorem dX7_breaksSight_10 : decode cX7_breaksSight 10 = .ok (.getfield 31, 3) := by decide +kernel
theorem dX7_breaksSight_13 : decode cX7_breaksSight 13 = .ok (.if_icmp .ge 39, 3) := by decide +kernel
theorem dX7_breaksSight_16 : decode cX7_breaksSight 16 = .ok (.aload_n 1, 1) := by decide +kernel
theorem dX7_breaksSight_17 : decode cX7_breaksSight 17 = .ok (.aload_n 0, 1) := by decide +kernel
theorem dX7_breaksSight_18 : decode cX7_breaksSight 18 = .ok (.getfield 20, 3) := by decide +kernel
theorem dX7_breaksSight_21 : decode cX7_breaksSight 21 = .ok (.iload 4, 2) := by decide +kernel
theorem dX7_breaksSight_23 : decode cX7_breaksSight 23 = .ok (.iaload, 1) := by decide +kernel
theorem dX7_breaksSight_24 : decode cX7_breaksSight 24 = .ok (.iaload, 1) := by decide +kernel
theorem dX7_breaksSight_25 : decode cX7_breaksSight 25 = .ok (.istore 5, 2) := by decide +kernel
theorem dX7_breaksSight_27 : decode cX7_breaksSight 27 = .ok (.iload 5, 2) := by decide +kernel
theorem dX7_breaksSight_29 : decode cX7_breaksSight 29 = .ok (.ifCond .ne 5, 3) := by decide +kernel
theorem dX7_breaksSight_32 : decode cX7_breaksSight 32 = .ok (.iconst 0, 1) := by decide +kernel
theorem dX7_breaksSight_33 : decode cX7_breaksSight 33 = .ok (.ireturn, 1) := by decide +kernel
theorem dX7_breaksSight_34 : decode cX7_breaksSight 34 = .ok (.iload 5, 2) := by decide +kernel
theorem dX7_breaksSight_36 : decode cX7_breaksSight 36 = .ok (.iload_n 3, 1) := by decide +kernel
theorem dX7_breaksSight_37 : decode cX7_breaksSight 37 = .ok (.if_icmp .le 9, 3) := by decide +kernel
theorem dX7_breaksSight_40 : decode cX7_breaksSight 40 = .ok (.iload 5, 2) := by decide +kernel
theorem dX7_breaksSight_42 : decode cX7_breaksSight 42 = .ok (.istore_n 3, 1) := by decide +kernel
theorem dX7_breaksSight_43 : decode cX7_breaksSight 43 = .ok (.iinc 2 1, 3) := by decide +kernel
theorem dX7_breaksSight_46 : decode cX7_breaksSight 46 = .ok (.iinc 4 1, 3) := by decide +kernel
theorem dX7_breaksSight_49 : decode cX7_breaksSight 49 = .ok (.goto (-42), 3) := by decide +kernel
theorem dX7_breaksSight_52 : decode cX7_breaksSight 52 = .ok (.iload_n 2, 1) := by decide +kernel
theorem dX7_breaksSight_53 : decode cX7_breaksSight 53 = .ok (.aload_n 0, 1) := by decide +kernel
theorem dX7_breaksSight_54 : decode cX7_breaksSight 54 = .ok (.getfield 24, 3) := by decide +kernel
theorem dX7_breaksSight_57 : decode cX7_breaksSight 57 = .ok (.if_icmp .eq 7, 3) := by decide +kernel
theorem dX7_breaksSight_60 : decode cX7_breaksSight 60 = .ok (.iconst 1, 1) := by decide +kernel
theorem dX7_breaksSight_61 : decode cX7_breaksSight 61 = .ok (.goto 4, 3) := by decide +kernel
theorem dX7_breaksSight_64 : decode cX7_breaksSight 64 = .ok (.iconst 0, 1) := by decide +kernel
theorem dX7_breaksSight_65 : decode cX7_breaksSight 65 = .ok (.ireturn, 1) := by decide +kernel
theorem dX7_hasRemainder_0 : decode cX7_hasRemainder 0 = .ok (.iconst 0, 1) := by decide +kernel
theorem dX7_hasRemainder_1 : decode cX7_hasRemainder 1 = .ok (.istore_n 3, 1) := by decide +kernel
theorem dX7_hasRemainder_2 : decode cX7_hasRemainder 2 = .ok (.iload_n 3, 1) := by decide +kernel
theorem dX7_hasRemainder_3 : decode cX7_hasRemainder 3 = .ok (.aload_n 0, 1) := by decide +kernel
theorem dX7_hasRemainder_4 : decode cX7_hasRemainder 4 = .ok (.getfield 31, 3) := by decide +kernel
theorem dX7_hasRemainder_7 : decode cX7_hasRemainder 7 = .ok (.if_icmp .ge 34, 3) := by decide +kernel
theorem dX7_hasRemainder_10 : decode cX7_hasRemainder 10 = .ok (.aload_n 1, 1) := by decide +kernel
theorem dX7_hasRemainder_11 : decode cX7_hasRemainder 11 = .ok (.aload_n 0, 1) := by decide +kernel
theorem dX7_hasRemainder_12 : decode cX7_hasRemainder 12 = .ok (.getfield 20, 3) := by decide +kernel
theorem dX7_hasRemainder_15 : decode cX7_hasRemainder 15 = .ok (.iload_n 3, 1) := by decide +kernel
theorem dX7_hasRemainder_16 : decode cX7_hasRemainder 16 = .ok (.iaload, 1) := by decide +kernel
theorem dX7_hasRemainder_17 : decode cX7_hasRemainder 17 = .ok (.iaload, 1) := by decide +kernel
theorem dX7_hasRemainder_18 : decode cX7_hasRemainder 18 = .ok (.istore 4, 2) := by decide +kernel
theorem dX7_hasRemainder_20 : decode cX7_hasRemainder 20 = .ok (.iload 4, 2) := by decide +kernel
theorem dX7_hasRemainder_22 : decode cX7_hasRemainder 22 = .ok (.ifCond .eq 13, 3) := by decide +kernel
theorem dX7_hasRemainder_25 : decode cX7_hasRemainder 25 = .ok (.iload 4, 2) := by decide +kernel
theorem dX7_hasRemainder_27 : decode cX7_hasRemainder 27 = .ok (.iconst 1, 1) := by decide +kernel
theorem dX7_hasRemainder_28 : decode cX7_hasRemainder 28 = .ok (.iand, 1) := by decide +kernel
theorem dX7_hasRemainder_29 : decode cX7_hasRemainder 29 = .ok (.iload_n 2, 1) := by decide +kernel
theorem dX7_hasRemainder_30 : decode cX7_hasRemainder 30 = .ok (.if_icmp .ne 5, 3) := by decide +kernel
theorem dX7_hasRemainder_33 : decode cX7_hasRemainder 33 = .ok (.iconst 1, 1) := by decide +kernel
theorem dX7_hasRemainder_34 : decode cX7_hasRemainder 34 = .ok (.ireturn, 1) := by decide +kernel
theorem dX7_hasRemainder_35 : decode cX7_hasRemainder 35 = .ok (.iinc 3 1, 3) := by decide +kernel
theorem dX7_hasRemainder_38 : decode cX7_hasRemainder 38 = .ok (.goto (-36), 3) := by decide +kernel
theorem dX7_hasRemainder_41 : decode cX7_hasRemainder 41 = .ok (.iconst 0, 1) := by decide +kernel
theorem dX7_hasRemainder_42 : decode cX7_hasRemainder 42 = .ok (.ireturn, 1) := by decide +kernel
theorem dX7_breaksCount_0 : decode cX7_breaksCount 0 = .ok (.iconst 0, 1) := by decide +kernel
theorem dX7_breaksCount_1 : decode cX7_breaksCount 1 = .ok (.istore_n 2, 1) := by decide +kernel
theorem dX7_breaksCount_2 : decode cX7_breaksCount 2 = .ok (.iconst 0, 1) := by decide +kernel
theorem dX7_breaksCount_3 : decode cX7_breaksCount 3 = .ok (.istore_n 3, 1) := by decide +kernel
theorem dX7_breaksCount_4 : decode cX7_breaksCount 4 = .ok (.iconst 0, 1) := by decide +kernel
theorem dX7_breaksCount_5 : decode cX7_breaksCount 5 = .ok (.istore 4, 2) := by decide +kernel
theorem dX7_breaksCount_7 : decode cX7_breaksCount 7 = .ok (.iload 4, 2) := by decide +kernel
theorem dX7_breaksCount_9 : decode cX7_breaksCount 9 = .ok (.aload_n 0, 1) := by decide +kernel
theorem dX7_breaksCount_10 : decode cX7_breaksCount 10 = .ok (.getfield 31, 3) := by decide +kernel
theorem dX7_breaksCount_13 : decode cX7_breaksCount 13 = .ok (.if_icmp .ge 43, 3) := by decide +kernel
theorem dX7_breaksCount_16 : decode cX7_breaksCount 16 = .ok (.aload_n 1, 1) := by decide +kernel
theorem dX7_breaksCount_17 : decode cX7_breaksCount 17 = .ok (.aload_n 0, 1) := by decide +kernel
theorem dX7_breaksCount_18 : decode cX7_breaksCount 18 = .ok (.getfield 20, 3) := by decide +kernel
theorem dX7_breaksCount_21 : decode cX7_breaksCount 21 = .ok (.iload 4, 2) := by decide +kernel
theorem dX7_breaksCount_23 : decode cX7_breaksCount 23 = .ok (.iaload, 1) := by decide +kernel
theorem dX7_breaksCount_24 : decode cX7_breaksCount 24 = .ok (.iaload, 1) := by decide +kernel
theorem dX7_breaksCount_25 : decode cX7_breaksCount 25 = .ok (.istore 5, 2) := by decide +kernel
theorem dX7_breaksCount_27 : decode cX7_breaksCount 27 = .ok (.iload 5, 2) := by decide +kernel
theorem dX7_breaksCount_29 : decode cX7_breaksCount 29 = .ok (.aload_n 0, 1) := by decide +kernel
theorem dX7_breaksCount_30 : decode cX7_breaksCount 30 = .ok (.getfield 24, 3) := by decide +kernel
theorem dX7_breaksCount_33 : decode cX7_breaksCount 33 = .ok (.if_icmp .ne 9, 3) := by decide +kernel
theorem dX7_breaksCount_36 : decode cX7_breaksCount 36 = .ok (.iinc 2 1, 3) := by decide +kernel
theorem dX7_breaksCount_39 : decode cX7_breaksCount 39 = .ok (.goto 11, 3) := by decide +kernel
theorem dX7_breaksCount_42 : decode cX7_breaksCount 42 = .ok (.iload 5, 2) := by decide +kernel
theorem dX7_breaksCount_44 : decode cX7_breaksCount 44 = .ok (.ifCond .ne 6, 3) := by decide +kernel
theorem dX7_breaksCount_47 : decode cX7_breaksCount 47 = .ok (.iinc 3 1, 3) := by decide +kernel
theorem dX7_breaksCount_50 : decode cX7_breaksCount 50 = .ok (.iinc 4 1, 3) := by decide +kernel
theorem dX7_breaksCount_53 : decode cX7_breaksCount 53 = .ok (.goto (-46), 3) := by decide +kernel
theorem dX7_breaksCount_56 : decode cX7_breaksCount 56 = .ok (.iload_n 2, 1) := by decide +kernel
theorem dX7_breaksCount_57 : decode cX7_breaksCount 57 = .ok (.aload_n 0, 1) := by decide +kernel
theorem dX7_breaksCount_58 : decode cX7_breaksCount 58 = .ok (.getfield 28, 3) := by decide +kernel
theorem dX7_breaksCount_61 : decode cX7_breaksCount 61 = .ok (.if_icmp .gt 13, 3) := by decide +kernel
theorem dX7_breaksCount_64 : decode cX7_breaksCount 64 = .ok (.iload_n 2, 1) := by decide +kernel
theorem dX7_breaksCount_65 : decode cX7_breaksCount 65 = .ok (.iload_n 3, 1) := by decide +kernel
theorem dX7_breaksCount_66 : decode cX7_breaksCount 66 = .ok (.iadd, 1) := by decide +kernel
theorem dX7_breaksCount_67 : decode cX7_breaksCount 67 = .ok (.aload_n 0, 1) := by decide +kernel
theorem dX7_breaksCount_68 : decode cX7_breaksCount 68 = .ok (.getfield 28, 3) := by decide +kernel
theorem dX7_breaksCount_71 : decode cX7_breaksCount 71 = .ok (.if_icmp .ge 7, 3) := by decide +kernel
theorem dX7_breaksCount_74 : decode cX7_breaksCount 74 = .ok (.iconst 1, 1) := by decide +kernel
theorem dX7_breaksCount_75 : decode cX7_breaksCount 75 = .ok (.goto 4, 3) := by decide +kernel
theorem dX7_breaksCount_78 : decode cX7_breaksCount 78 = .ok (.iconst 0, 1) := by decide +kernel
theorem dX7_breaksCount_79 : decode cX7_breaksCount 79 = .ok (.ireturn, 1) := by decide +kernel
theorem dX7_breaksIs_0 : decode cX7_breaksIs 0 = .ok (.iconst 0, 1) := by decide +kernel
theorem dX7_breaksIs_1 : decode cX7_breaksIs 1 = .ok (.istore_n 2, 1) := by decide +kernel
theorem dX7_breaksIs_2 : decode cX7_breaksIs 2 = .ok (.iload_n 2, 1) := by decide +kernel
theorem dX7_breaksIs_3 : decode cX7_breaksIs 3 = .ok (.aload_n 0, 1) := by decide +kernel
theorem dX7_breaksIs_4 : decode cX7_breaksIs 4 = .ok (.getfield 31, 3) := by decide +kernel
theorem dX7_breaksIs_7 : decode cX7_breaksIs 7 = .ok (.if_icmp .ge 32, 3) := by decide +kernel
theorem dX7_breaksIs_10 : decode cX7_breaksIs 10 = .ok (.aload_n 1, 1) := by decide +kernel
theorem dX7_breaksIs_11 : decode cX7_breaksIs 11 = .ok (.aload_n 0, 1) := by decide +kernel
theorem dX7_breaksIs_12 : decode cX7_breaksIs 12 = .ok (.getfield 20, 3) := by decide +kernel
theorem dX7_breaksIs_15 : decode cX7_breaksIs 15 = .ok (.iload_n 2, 1) := by decide +kernel
theorem dX7_breaksIs_16 : decode cX7_breaksIs 16 = .ok (.iaload, 1) := by decide +kernel
theorem dX7_breaksIs_17 : decode cX7_breaksIs 17 = .ok (.iaload, 1) := by decide +kernel
theorem dX7_breaksIs_18 : decode cX7_breaksIs 18 = .ok (.istore_n 3, 1) := by decide +kernel
theorem dX7_breaksIs_19 : decode cX7_breaksIs 19 = .ok (.iload_n 3, 1) := by decide +kernel
theorem dX7_breaksIs_20 : decode cX7_breaksIs 20 = .ok (.ifCond .eq 13, 3) := by decide +kernel
theorem dX7_breaksIs_23 : decode cX7_breaksIs 23 = .ok (.iload_n 3, 1) := by decide +kernel
theorem dX7_breaksIs_24 : decode cX7_breaksIs 24 = .ok (.aload_n 0, 1) := by decide +kernel
theorem dX7_breaksIs_25 : decode cX7_breaksIs 25 = .ok (.getfield 24, 3) := by decide +kernel
theorem dX7_breaksIs_28 : decode cX7_breaksIs 28 = .ok (.if_icmp .eq 5, 3) := by decide +kernel
theorem dX7_breaksIs_31 : decode cX7_breaksIs 31 = .ok (.iconst 1, 1) := by decide +kernel
theorem dX7_breaksIs_32 : decode cX7_breaksIs 32 = .ok (.ireturn, 1) := by decide +kernel
theorem dX7_breaksIs_33 : decode cX7_breaksIs 33 = .ok (.iinc 2 1, 3) := by decide +kernel
theorem dX7_breaksIs_36 : decode cX7_breaksIs 36 = .ok (.goto (-34), 3) := by decide +kernel
theorem dX7_breaksIs_39 : decode cX7_breaksIs 39 = .ok (.iconst 0, 1) := by decide +kernel
theorem dX7_breaksIs_40 : decode cX7_breaksIs 40 = .ok (.ireturn, 1) := by decide +kernel
theorem dX7_breaksApart_0 : decode cX7_breaksApart 0 = .ok (.iconst 1, 1) := by decide +kernel
theorem dX7_breaksApart_1 : decode cX7_breaksApart 1 = .ok (.istore_n 2, 1) := by decide +kernel
theorem dX7_breaksApart_2 : decode cX7_breaksApart 2 = .ok (.iload_n 2, 1) := by decide +kernel
theorem dX7_breaksApart_3 : decode cX7_breaksApart 3 = .ok (.aload_n 0, 1) := by decide +kernel
theorem dX7_breaksApart_4 : decode cX7_breaksApart 4 = .ok (.getfield 31, 3) := by decide +kernel
theorem dX7_breaksApart_7 : decode cX7_breaksApart 7 = .ok (.if_icmp .ge 69, 3) := by decide +kernel
theorem dX7_breaksApart_10 : decode cX7_breaksApart 10 = .ok (.aload_n 1, 1) := by decide +kernel
theorem dX7_breaksApart_11 : decode cX7_breaksApart 11 = .ok (.aload_n 0, 1) := by decide +kernel
theorem dX7_breaksApart_12 : decode cX7_breaksApart 12 = .ok (.getfield 20, 3) := by decide +kernel
theorem dX7_breaksApart_15 : decode cX7_breaksApart 15 = .ok (.iload_n 2, 1) := by decide +kernel
theorem dX7_breaksApart_16 : decode cX7_breaksApart 16 = .ok (.iconst 1, 1) := by decide +kernel
theorem dX7_breaksApart_17 : decode cX7_breaksApart 17 = .ok (.isub, 1) := by decide +kernel
theorem dX7_breaksApart_18 : decode cX7_breaksApart 18 = .ok (.iaload, 1) := by decide +kernel
theorem dX7_breaksApart_19 : decode cX7_breaksApart 19 = .ok (.iaload, 1) := by decide +kernel
theorem dX7_breaksApart_20 : decode cX7_breaksApart 20 = .ok (.istore_n 3, 1) := by decide +kernel
theorem dX7_breaksApart_21 : decode cX7_breaksApart 21 = .ok (.aload_n 1, 1) := by decide +kernel
theorem dX7_breaksApart_22 : decode cX7_breaksApart 22 = .ok (.aload_n 0, 1) := by decide +kernel
theorem dX7_breaksApart_23 : decode cX7_breaksApart 23 = .ok (.getfield 20, 3) := by decide +kernel
theorem dX7_breaksApart_26 : decode cX7_breaksApart 26 = .ok (.iload_n 2, 1) := by decide +kernel
theorem dX7_breaksApart_27 : decode cX7_breaksApart 27 = .ok (.iaload, 1) := by decide +kernel
theorem dX7_breaksApart_28 : decode cX7_breaksApart 28 = .ok (.iaload, 1) := by decide +kernel
theorem dX7_breaksApart_29 : decode cX7_breaksApart 29 = .ok (.istore 4, 2) := by decide +kernel
theorem dX7_breaksApart_31 : decode cX7_breaksApart 31 = .ok (.iload_n 3, 1) := by decide +kernel
theorem dX7_breaksApart_32 : decode cX7_breaksApart 32 = .ok (.iload 4, 2) := by decide +kernel
theorem dX7_breaksApart_34 : decode cX7_breaksApart 34 = .ok (.if_icmp .ge 10, 3) := by decide +kernel
theorem dX7_breaksApart_37 : decode cX7_breaksApart 37 = .ok (.iload 4, 2) := by decide +kernel
theorem dX7_breaksApart_39 : decode cX7_breaksApart 39 = .ok (.iload_n 3, 1) := by decide +kernel
theorem dX7_breaksApart_40 : decode cX7_breaksApart 40 = .ok (.isub, 1) := by decide +kernel
theorem dX7_breaksApart_41 : decode cX7_breaksApart 41 = .ok (.goto 7, 3) := by decide +kernel
theorem dX7_breaksApart_44 : decode cX7_breaksApart 44 = .ok (.iload_n 3, 1) := by decide +kernel
theorem dX7_breaksApart_45 : decode cX7_breaksApart 45 = .ok (.iload 4, 2) := by decide +kernel
theorem dX7_breaksApart_47 : decode cX7_breaksApart 47 = .ok (.isub, 1) := by decide +kernel
theorem dX7_breaksApart_48 : decode cX7_breaksApart 48 = .ok (.istore 5, 2) := by decide +kernel
theorem dX7_breaksApart_50 : decode cX7_breaksApart 50 = .ok (.iload_n 3, 1) := by decide +kernel
theorem dX7_breaksApart_51 : decode cX7_breaksApart 51 = .ok (.ifCond .eq 19, 3) := by decide +kernel
theorem dX7_breaksApart_54 : decode cX7_breaksApart 54 = .ok (.iload 4, 2) := by decide +kernel
theorem dX7_breaksApart_56 : decode cX7_breaksApart 56 = .ok (.ifCond .eq 14, 3) := by decide +kernel
theorem dX7_breaksApart_59 : decode cX7_breaksApart 59 = .ok (.iload 5, 2) := by decide +kernel
theorem dX7_breaksApart_61 : decode cX7_breaksApart 61 = .ok (.aload_n 0, 1) := by decide +kernel
theorem dX7_breaksApart_62 : decode cX7_breaksApart 62 = .ok (.getfield 24, 3) := by decide +kernel
theorem dX7_breaksApart_65 : decode cX7_breaksApart 65 = .ok (.if_icmp .ge 5, 3) := by decide +kernel
theorem dX7_breaksApart_68 : decode cX7_breaksApart 68 = .ok (.iconst 1, 1) := by decide +kernel
theorem dX7_breaksApart_69 : decode cX7_breaksApart 69 = .ok (.ireturn, 1) := by decide +kernel
theorem dX7_breaksApart_70 : decode cX7_breaksApart 70 = .ok (.iinc 2 1, 3) := by decide +kernel
theorem dX7_breaksApart_73 : decode cX7_breaksApart 73 = .ok (.goto (-71), 3) := by decide +kernel
theorem dX7_breaksApart_76 : decode cX7_breaksApart 76 = .ok (.iconst 0, 1) := by decide +kernel
theorem dX7_breaksApart_77 : decode cX7_breaksApart 77 = .ok (.ireturn, 1) := by decide +kernel
theorem dX8_init_0 : decode cX8_init 0 = .ok (.aload_n 0, 1) := by decide +kernel
theorem dX8_init_1 : decode cX8_init 1 = .ok (.invokespecial 3, 3) := by decide +kernel
theorem dX8_init_4 : decode cX8_init 4 = .ok (.aload_n 0, 1) := by decide +kernel
theorem dX8_init_5 : decode cX8_init 5 = .ok (.bipush 30, 2) := by decide +kernel
theorem dX8_init_7 : decode cX8_init 7 = .ok (.bipush 25, 2) := by decide +kernel
theorem dX8_init_9 : decode cX8_init 9 = .ok (.multianewarray 9 2, 4) := by decide +kernel
theorem dX8_init_13 : decode cX8_init 13 = .ok (.putfield 11, 3) := by decide +kernel
theorem dX8_init_16 : decode cX8_init 16 = .ok (.aload_n 0, 1) := by decide +kernel
theorem dX8_init_17 : decode cX8_init 17 = .ok (.bipush 25, 2) := by decide +kernel
theorem dX8_init_19 : decode cX8_init 19 = .ok (.newarray .int, 2) := by decide +kernel
theorem dX8_init_21 : decode cX8_init 21 = .ok (.putfield 16, 3) := by decide +kernel
theorem dX8_init_24 : decode cX8_init 24 = .ok (.aload_n 0, 1) := by decide +kernel
theorem dX8_init_25 : decode cX8_init 25 = .ok (.bipush 25, 2) := by decide +kernel
theorem dX8_init_27 : decode cX8_init 27 = .ok (.newarray .int, 2) := by decide +kernel
theorem dX8_init_29 : decode cX8_init 29 = .ok (.putfield 20, 3) := by decide +kernel
theorem dX8_init_32 : decode cX8_init 32 = .ok (.aload_n 0, 1) := by decide +kernel
theorem dX8_init_33 : decode cX8_init 33 = .ok (.bipush 25, 2) := by decide +kernel
theorem dX8_init_35 : decode cX8_init 35 = .ok (.newarray .int, 2) := by decide +kernel
theorem dX8_init_37 : decode cX8_init 37 = .ok (.putfield 23, 3) := by decide +kernel
theorem dX8_init_40 : decode cX8_init 40 = .ok (.return_, 1) := by decide +kernel
theorem dX8_findInGrid_0 : decode cX8_findInGrid 0 = .ok (.aload_n 0, 1) := by decide +kernel
theorem dX8_findInGrid_1 : decode cX8_findInGrid 1 = .ok (.iload_n 2, 1) := by decide +kernel
theorem dX8_findInGrid_2 : decode cX8_findInGrid 2 = .ok (.iconst (-1), 1) := by decide +kernel
theorem dX8_findInGrid_3 : decode cX8_findInGrid 3 = .ok (.invokevirtual 26, 3) := by decide +kernel
theorem dX8_findInGrid_6 : decode cX8_findInGrid 6 = .ok (.iconst 0, 1) := by decide +kernel
theorem dX8_findInGrid_7 : decode cX8_findInGrid 7 = .ok (.istore_n 3, 1) := by decide +kernel
theorem dX8_findInGrid_8 : decode cX8_findInGrid 8 = .ok (.iload_n 3, 1) := by decide +kernel
theorem dX8_findInGrid_9 : decode cX8_findInGrid 9 = .ok (.aload_n 1, 1) := by decide +kernel
theorem dX8_findInGrid_10 : decode cX8_findInGrid 10 = .ok (.invokevirtual 30, 3) := by decide +kernel
theorem dX8_findInGrid_13 : decode cX8_findInGrid 13 = .ok (.if_icmp .ge 21, 3) := by decide +kernel
theorem dX8_findInGrid_16 : decode cX8_findInGrid 16 = .ok (.aload_n 0, 1) := by decide +kernel
theorem dX8_findInGrid_17 : decode cX8_findInGrid 17 = .ok (.getfield 20, 3) := by decide +kernel
theorem dX8_findInGrid_20 : decode cX8_findInGrid 20 = .ok (.iload_n 3, 1) := by decide +kernel
theorem dX8_findInGrid_21 : decode cX8_findInGrid 21 = .ok (.aload_n 1, 1) := by decide +kernel
theorem dX8_findInGrid_22 : decode cX8_findInGrid 22 = .ok (.getfield 36, 3) := by decide +kernel
theorem dX8_findInGrid_25 : decode cX8_findInGrid 25 = .ok (.iload_n 3, 1) := by decide +kernel
theorem dX8_findInGrid_26 : decode cX8_findInGrid 26 = .ok (.iaload, 1) := by decide +kernel
theorem dX8_findInGrid_27 : decode cX8_findInGrid 27 = .ok (.iastore, 1) := by decide +kernel
theorem dX8_findInGrid_28 : decode cX8_findInGrid 28 = .ok (.iinc 3 1, 3) := by decide +kernel
theorem dX8_findInGrid_31 : decode cX8_findInGrid 31 = .ok (.goto (-23), 3) := by decide +kernel
theorem dX8_findInGrid_34 : decode cX8_findInGrid 34 = .ok (.aload_n 0, 1) := by decide +kernel
theorem dX8_findInGrid_35 : decode cX8_findInGrid 35 = .ok (.aload_n 1, 1) := by decide +kernel
theorem dX8_findInGrid_36 : decode cX8_findInGrid 36 = .ok (.iconst 0, 1) := by decide +kernel
theorem dX8_findInGrid_37 : decode cX8_findInGrid 37 = .ok (.invokestatic 39, 3) := by decide +kernel
theorem dX8_findInGrid_40 : decode cX8_findInGrid 40 = .ok (.pop, 1) := by decide +kernel
theorem dX8_findInGrid_41 : decode cX8_findInGrid 41 = .ok (.aload_n 0, 1) := by decide +kernel
theorem dX8_findInGrid_42 : decode cX8_findInGrid 42 = .ok (.getfield 43, 3) := by decide +kernel
theorem dX8_findInGrid_45 : decode cX8_findInGrid 45 = .ok (.ifCond .eq 7, 3) := by decide +kernel
theorem dX8_findInGrid_48 : decode cX8_findInGrid 48 = .ok (.iconst (-1), 1) := by decide +kernel
theorem dX8_findInGrid_49 : decode cX8_findInGrid 49 = .ok (.goto 7, 3) := by decide +kernel
theorem dX8_findInGrid_52 : decode cX8_findInGrid 52 = .ok (.aload_n 0, 1) := by decide +kernel
theorem dX8_findInGrid_53 : decode cX8_findInGrid 53 = .ok (.getfield 47, 3) := by decide +kernel
theorem dX8_findInGrid_56 : decode cX8_findInGrid 56 = .ok (.ireturn, 1) := by decide +kernel
theorem dX8_findsJustOne_0 : decode cX8_findsJustOne 0 = .ok (.aload_n 0, 1) := by decide +kernel
theorem dX8_findsJustOne_1 : decode cX8_findsJustOne 1 = .ok (.iconst 2, 1) := by decide +kernel
theorem dX8_findsJustOne_2 : decode cX8_findsJustOne 2 = .ok (.iload_n 2, 1) := by decide +kernel
theorem dX8_findsJustOne_3 : decode cX8_findsJustOne 3 = .ok (.invokevirtual 26, 3) := by decide +kernel
theorem dX8_findsJustOne_6 : decode cX8_findsJustOne 6 = .ok (.aload_n 0, 1) := by decide +kernel
theorem dX8_findsJustOne_7 : decode cX8_findsJustOne 7 = .ok (.aload_n 1, 1) := by decide +kernel
theorem dX8_findsJustOne_8 : decode cX8_findsJustOne 8 = .ok (.iconst 0, 1) := by decide +kernel
theorem dX8_findsJustOne_9 : decode cX8_findsJustOne 9 = .ok (.invokestatic 39, 3) := by decide +kernel
theorem dX8_findsJustOne_12 : decode cX8_findsJustOne 12 = .ok (.pop, 1) := by decide +kernel
theorem dX8_findsJustOne_13 : decode cX8_findsJustOne 13 = .ok (.aload_n 0, 1) := by decide +kernel
theorem dX8_findsJustOne_14 : decode cX8_findsJustOne 14 = .ok (.getfield 47, 3) := by decide +kernel
theorem dX8_findsJustOne_17 : decode cX8_findsJustOne 17 = .ok (.iconst 1, 1) := by decide +kernel
theorem dX8_findsJustOne_18 : decode cX8_findsJustOne 18 = .ok (.if_icmp .ne 7, 3) := by decide +kernel
theorem dX8_findsJustOne_21 : decode cX8_findsJustOne 21 = .ok (.iconst 1, 1) := by decide +kernel
theorem dX8_findsJustOne_22 : decode cX8_findsJustOne 22 = .ok (.goto 4, 3) := by decide +kernel
theorem dX8_findsJustOne_25 : decode cX8_findsJustOne 25 = .ok (.iconst 0, 1) := by decide +kernel
theorem dX8_findsJustOne_26 : decode cX8_findsJustOne 26 = .ok (.ireturn, 1) := by decide +kernel
theorem dX8_findsOneFrom_0 : decode cX8_findsOneFrom 0 = .ok (.aload_n 0, 1) := by decide +kernel
theorem dX8_findsOneFrom_1 : decode cX8_findsOneFrom 1 = .ok (.iconst 1, 1) := by decide +kernel
theorem dX8_findsOneFrom_2 : decode cX8_findsOneFrom 2 = .ok (.iconst (-1), 1) := by decide +kernel
theorem dX8_findsOneFrom_3 : decode cX8_findsOneFrom 3 = .ok (.invokevirtual 26, 3) := by decide +kernel
theorem dX8_findsOneFrom_6 : decode cX8_findsOneFrom 6 = .ok (.iconst 0, 1) := by decide +kernel
theorem dX8_findsOneFrom_7 : decode cX8_findsOneFrom 7 = .ok (.istore_n 3, 1) := by decide +kernel
theorem dX8_findsOneFrom_8 : decode cX8_findsOneFrom 8 = .ok (.iload_n 3, 1) := by decide +kernel
theorem dX8_findsOneFrom_9 : decode cX8_findsOneFrom 9 = .ok (.aload_n 1, 1) := by decide +kernel
theorem dX8_findsOneFrom_10 : decode cX8_findsOneFrom 10 = .ok (.invokevirtual 30, 3) := by decide +kernel
theorem dX8_findsOneFrom_13 : decode cX8_findsOneFrom 13 = .ok (.if_icmp .ge 18, 3) := by decide +kernel
theorem dX8_findsOneFrom_16 : decode cX8_findsOneFrom 16 = .ok (.aload_n 0, 1) := by decide +kernel
theorem dX8_findsOneFrom_17 : decode cX8_findsOneFrom 17 = .ok (.getfield 23, 3) := by decide +kernel
theorem dX8_findsOneFrom_20 : decode cX8_findsOneFrom 20 = .ok (.iload_n 3, 1) := by decide +kernel
theorem dX8_findsOneFrom_21 : decode cX8_findsOneFrom 21 = .ok (.aload_n 2, 1) := by decide +kernel
theorem dX8_findsOneFrom_22 : decode cX8_findsOneFrom 22 = .ok (.iload_n 3, 1) := by decide +kernel
theorem dX8_findsOneFrom_23 : decode cX8_findsOneFrom 23 = .ok (.iaload, 1) := by decide +kernel
theorem dX8_findsOneFrom_24 : decode cX8_findsOneFrom 24 = .ok (.iastore, 1) := by decide +kernel
theorem dX8_findsOneFrom_25 : decode cX8_findsOneFrom 25 = .ok (.iinc 3 1, 3) := by decide +kernel
theorem dX8_findsOneFrom_28 : decode cX8_findsOneFrom 28 = .ok (.goto (-20), 3) := by decide +kernel
theorem dX8_findsOneFrom_31 : decode cX8_findsOneFrom 31 = .ok (.aload_n 0, 1) := by decide +kernel
theorem dX8_findsOneFrom_32 : decode cX8_findsOneFrom 32 = .ok (.aload_n 1, 1) := by decide +kernel
theorem dX8_findsOneFrom_33 : decode cX8_findsOneFrom 33 = .ok (.iconst 0, 1) := by decide +kernel
theorem dX8_findsOneFrom_34 : decode cX8_findsOneFrom 34 = .ok (.invokestatic 39, 3) := by decide +kernel
theorem dX8_findsOneFrom_37 : decode cX8_findsOneFrom 37 = .ok (.pop, 1) := by decide +kernel
theorem dX8_findsOneFrom_38 : decode cX8_findsOneFrom 38 = .ok (.aload_n 0, 1) := by decide +kernel
theorem dX8_findsOneFrom_39 : decode cX8_findsOneFrom 39 = .ok (.getfield 47, 3) := by decide +kernel
theorem dX8_findsOneFrom_42 : decode cX8_findsOneFrom 42 = .ok (.iconst 1, 1) := by decide +kernel
theorem dX8_findsOneFrom_43 : decode cX8_findsOneFrom 43 = .ok (.if_icmp .ne 7, 3) := by decide +kernel
theorem dX8_findsOneFrom_46 : decode cX8_findsOneFrom 46 = .ok (.iconst 1, 1) := by decide +kernel
theorem dX8_findsOneFrom_47 : decode cX8_findsOneFrom 47 = .ok (.goto 4, 3) := by decide +kernel
theorem dX8_findsOneFrom_50 : decode cX8_findsOneFrom 50 = .ok (.iconst 0, 1) := by decide +kernel
theorem dX8_findsOneFrom_51 : decode cX8_findsOneFrom 51 = .ok (.ireturn, 1) := by decide +kernel
theorem dX8_begin_0 : decode cX8_begin 0 = .ok (.aload_n 0, 1) := by decide +kernel
theorem dX8_begin_1 : decode cX8_begin 1 = .ok (.iload_n 1, 1) := by decide +kernel
theorem dX8_begin_2 : decode cX8_begin 2 = .ok (.putfield 51, 3) := by decide +kernel
theorem dX8_begin_5 : decode cX8_begin 5 = .ok (.aload_n 0, 1) := by decide +kernel
theorem dX8_begin_6 : decode cX8_begin 6 = .ok (.iload_n 2, 1) := by decide +kernel
theorem dX8_begin_7 : decode cX8_begin 7 = .ok (.putfield 54, 3) := by decide +kernel
theorem dX8_begin_10 : decode cX8_begin 10 = .ok (.aload_n 0, 1) := by decide +kernel
theorem dX8_begin_11 : decode cX8_begin 11 = .ok (.iconst 0, 1) := by decide +kernel
theorem dX8_begin_12 : decode cX8_begin 12 = .ok (.putfield 47, 3) := by decide +kernel
theorem dX8_begin_15 : decode cX8_begin 15 = .ok (.aload_n 0, 1) := by decide +kernel
theorem dX8_begin_16 : decode cX8_begin 16 = .ok (.iconst 0, 1) := by decide +kernel
theorem dX8_begin_17 : decode cX8_begin 17 = .ok (.putfield 57, 3) := by decide +kernel
theorem dX8_begin_20 : decode cX8_begin 20 = .ok (.aload_n 0, 1) := by decide +kernel
theorem dX8_begin_21 : decode cX8_begin 21 = .ok (.iconst 0, 1) := by decide +kernel
theorem dX8_begin_22 : decode cX8_begin 22 = .ok (.putfield 43, 3) := by decide +kernel
theorem dX8_begin_25 : decode cX8_begin 25 = .ok (.iconst 0, 1) := by decide +kernel
theorem dX8_begin_26 : decode cX8_begin 26 = .ok (.istore_n 3, 1) := by decide +kernel
theorem dX8_begin_27 : decode cX8_begin 27 = .ok (.iload_n 3, 1) := by decide +kernel
theorem dX8_begin_28 : decode cX8_begin 28 = .ok (.bipush 25, 2) := by decide +kernel
theorem dX8_begin_30 : decode cX8_begin 30 = .ok (.if_icmp .ge 30, 3) := by decide +kernel
theorem dX8_begin_33 : decode cX8_begin 33 = .ok (.aload_n 0, 1) := by decide +kernel
theorem dX8_begin_34 : decode cX8_begin 34 = .ok (.getfield 16, 3) := by decide +kernel
theorem dX8_begin_37 : decode cX8_begin 37 = .ok (.iload_n 3, 1) := by decide +kernel
theorem dX8_begin_38 : decode cX8_begin 38 = .ok (.iconst 0, 1) := by decide +kernel
theorem dX8_begin_39 : decode cX8_begin 39 = .ok (.iastore, 1) := by decide +kernel
theorem dX8_begin_40 : decode cX8_begin 40 = .ok (.aload_n 0, 1) := by decide +kernel
theorem dX8_begin_41 : decode cX8_begin 41 = .ok (.getfield 20, 3) := by decide +kernel
theorem dX8_begin_44 : decode cX8_begin 44 = .ok (.iload_n 3, 1) := by decide +kernel
theorem dX8_begin_45 : decode cX8_begin 45 = .ok (.iconst 0, 1) := by decide +kernel
theorem dX8_begin_46 : decode cX8_begin 46 = .ok (.iastore, 1) := by decide +kernel
theorem dX8_begin_47 : decode cX8_begin 47 = .ok (.aload_n 0, 1) := by decide +kernel
theorem dX8_begin_48 : decode cX8_begin 48 = .ok (.getfield 23, 3) := by decide +kernel
theorem dX8_begin_51 : decode cX8_begin 51 = .ok (.iload_n 3, 1) := by decide +kernel
theorem dX8_begin_52 : decode cX8_begin 52 = .ok (.iconst 1, 1) := by decide +kernel
theorem dX8_begin_53 : decode cX8_begin 53 = .ok (.iastore, 1) := by decide +kernel
theorem dX8_begin_54 : decode cX8_begin 54 = .ok (.iinc 3 1, 3) := by decide +kernel
theorem dX8_begin_57 : decode cX8_begin 57 = .ok (.goto (-30), 3) := by decide +kernel
theorem dX8_begin_60 : decode cX8_begin 60 = .ok (.return_, 1) := by decide +kernel
theorem dX8_endsFrom_0 : decode cX8_endsFrom 0 = .ok (.iload_n 2, 1) := by decide +kernel
theorem dX8_endsFrom_1 : decode cX8_endsFrom 1 = .ok (.aload_n 1, 1) := by decide +kernel
theorem dX8_endsFrom_2 : decode cX8_endsFrom 2 = .ok (.invokevirtual 30, 3) := by decide +kernel
theorem dX8_endsFrom_5 : decode cX8_endsFrom 5 = .ok (.if_icmp .ge 9, 3) := by decide +kernel
theorem dX8_endsFrom_8 : decode cX8_endsFrom 8 = .ok (.iload_n 2, 1) := by decide +kernel
theorem dX8_endsFrom_9 : decode cX8_endsFrom 9 = .ok (.bipush 25, 2) := by decide +kernel
theorem dX8_endsFrom_11 : decode cX8_endsFrom 11 = .ok (.if_icmp .lt 24, 3) := by decide +kernel
theorem dX8_endsFrom_14 : decode cX8_endsFrom 14 = .ok (.aload_n 0, 1) := by decide +kernel
theorem dX8_endsFrom_15 : decode cX8_endsFrom 15 = .ok (.invokevirtual 60, 3) := by decide +kernel
theorem dX8_endsFrom_18 : decode cX8_endsFrom 18 = .ok (.aload_n 0, 1) := by decide +kernel
theorem dX8_endsFrom_19 : decode cX8_endsFrom 19 = .ok (.getfield 47, 3) := by decide +kernel
theorem dX8_endsFrom_22 : decode cX8_endsFrom 22 = .ok (.aload_n 0, 1) := by decide +kernel
theorem dX8_endsFrom_23 : decode cX8_endsFrom 23 = .ok (.getfield 51, 3) := by decide +kernel
theorem dX8_endsFrom_26 : decode cX8_endsFrom 26 = .ok (.if_icmp .lt 7, 3) := by decide +kernel
theorem dX8_endsFrom_29 : decode cX8_endsFrom 29 = .ok (.iconst 1, 1) := by decide +kernel
theorem dX8_endsFrom_30 : decode cX8_endsFrom 30 = .ok (.goto 4, 3) := by decide +kernel
theorem dX8_endsFrom_33 : decode cX8_endsFrom 33 = .ok (.iconst 0, 1) := by decide +kernel
theorem dX8_endsFrom_34 : decode cX8_endsFrom 34 = .ok (.ireturn, 1) := by decide +kernel
theorem dX8_endsFrom_35 : decode cX8_endsFrom 35 = .ok (.aload_n 0, 1) := by decide +kernel
theorem dX8_endsFrom_36 : decode cX8_endsFrom 36 = .ok (.getfield 20, 3) := by decide +kernel
theorem dX8_endsFrom_39 : decode cX8_endsFrom 39 = .ok (.iload_n 2, 1) := by decide +kernel
theorem dX8_endsFrom_40 : decode cX8_endsFrom 40 = .ok (.iaload, 1) := by decide +kernel
theorem dX8_endsFrom_41 : decode cX8_endsFrom 41 = .ok (.ifCond .ne 10, 3) := by decide +kernel
theorem dX8_endsFrom_44 : decode cX8_endsFrom 44 = .ok (.aload_n 1, 1) := by decide +kernel
theorem dX8_endsFrom_45 : decode cX8_endsFrom 45 = .ok (.getfield 63, 3) := by decide +kernel
theorem dX8_endsFrom_48 : decode cX8_endsFrom 48 = .ok (.goto 4, 3) := by decide +kernel
theorem dX8_endsFrom_51 : decode cX8_endsFrom 51 = .ok (.iconst 1, 1) := by decide +kernel
theorem dX8_endsFrom_52 : decode cX8_endsFrom 52 = .ok (.istore_n 3, 1) := by decide +kernel
theorem dX8_endsFrom_53 : decode cX8_endsFrom 53 = .ok (.iconst 0, 1) := by decide +kernel
theorem dX8_endsFrom_54 : decode cX8_endsFrom 54 = .ok (.istore 4, 2) := by decide +kernel
theorem dX8_endsFrom_56 : decode cX8_endsFrom 56 = .ok (.iload 4, 2) := by decide +kernel
theorem dX8_endsFrom_58 : decode cX8_endsFrom 58 = .ok (.iload_n 3, 1) := by decide +kernel
theorem dX8_endsFrom_59 : decode cX8_endsFrom 59 = .ok (.if_icmp .ge 81, 3) := by decide +kernel
theorem dX8_endsFrom_62 : decode cX8_endsFrom 62 = .ok (.aload_n 0, 1) := by decide +kernel
theorem dX8_endsFrom_63 : decode cX8_endsFrom 63 = .ok (.getfield 57, 3) := by decide +kernel
theorem dX8_endsFrom_66 : decode cX8_endsFrom 66 = .ok (.sipush 5000, 3) := by decide +kernel
theorem dX8_endsFrom_69 : decode cX8_endsFrom 69 = .ok (.if_icmp .lt 9, 3) := by decide +kernel
theorem dX8_endsFrom_72 : decode cX8_endsFrom 72 = .ok (.aload_n 0, 1) := by decide +kernel
theorem dX8_endsFrom_73 : decode cX8_endsFrom 73 = .ok (.invokevirtual 66, 3) := by decide +kernel
theorem dX8_endsFrom_76 : decode cX8_endsFrom 76 = .ok (.iconst 1, 1) := by decide +kernel
theorem dX8_endsFrom_77 : decode cX8_endsFrom 77 = .ok (.ireturn, 1) := by decide +kernel
theorem dX8_endsFrom_78 : decode cX8_endsFrom 78 = .ok (.aload_n 0, 1) := by decide +kernel
theorem dX8_endsFrom_79 : decode cX8_endsFrom 79 = .ok (.dup, 1) := by decide +kernel
theorem dX8_endsFrom_80 : decode cX8_endsFrom 80 = .ok (.getfield 57, 3) := by decide +kernel
theorem dX8_endsFrom_83 : decode cX8_endsFrom 83 = .ok (.iconst 1, 1) := by decide +kernel
theorem dX8_endsFrom_84 : decode cX8_endsFrom 84 = .ok (.iadd, 1) := by decide +kernel
theorem dX8_endsFrom_85 : decode cX8_endsFrom 85 = .ok (.putfield 57, 3) := by decide +kernel
theorem dX8_endsFrom_88 : decode cX8_endsFrom 88 = .ok (.aload_n 0, 1) := by decide +kernel
theorem dX8_endsFrom_89 : decode cX8_endsFrom 89 = .ok (.getfield 16, 3) := by decide +kernel
theorem dX8_endsFrom_92 : decode cX8_endsFrom 92 = .ok (.iload_n 2, 1) := by decide +kernel
theorem dX8_endsFrom_93 : decode cX8_endsFrom 93 = .ok (.aload_n 0, 1) := by decide +kernel
theorem dX8_endsFrom_94 : decode cX8_endsFrom 94 = .ok (.iload_n 2, 1) := by decide +kernel
theorem dX8_endsFrom_95 : decode cX8_endsFrom 95 = .ok (.iload 4, 2) := by decide +kernel
theorem dX8_endsFrom_97 : decode cX8_endsFrom 97 = .ok (.aload_n 1, 1) := by decide +kernel
theorem dX8_endsFrom_98 : decode cX8_endsFrom 98 = .ok (.getfield 63, 3) := by decide +kernel
theorem dX8_endsFrom_101 : decode cX8_endsFrom 101 = .ok (.invokevirtual 69, 3) := by decide +kernel
theorem dX8_endsFrom_104 : decode cX8_endsFrom 104 = .ok (.iastore, 1) := by decide +kernel
theorem dX8_endsFrom_105 : decode cX8_endsFrom 105 = .ok (.aload_n 1, 1) := by decide +kernel
theorem dX8_endsFrom_106 : decode cX8_endsFrom 106 = .ok (.iload_n 2, 1) := by decide +kernel
theorem dX8_endsFrom_107 : decode cX8_endsFrom 107 = .ok (.aload_n 0, 1) := by decide +kernel
theorem dX8_endsFrom_108 : decode cX8_endsFrom 108 = .ok (.getfield 16, 3) := by decide +kernel
theorem dX8_endsFrom_111 : decode cX8_endsFrom 111 = .ok (.aload_n 0, 1) := by decide +kernel
theorem dX8_endsFrom_112 : decode cX8_endsFrom 112 = .ok (.getfield 54, 3) := by decide +kernel
theorem dX8_endsFrom_115 : decode cX8_endsFrom 115 = .ok (.invokevirtual 73, 3) := by decide +kernel
theorem dX8_endsFrom_118 : decode cX8_endsFrom 118 = .ok (.ifCond .ne 16, 3) := by decide +kernel
theorem dX8_endsFrom_121 : decode cX8_endsFrom 121 = .ok (.aload_n 0, 1) := by decide +kernel
theorem dX8_endsFrom_122 : decode cX8_endsFrom 122 = .ok (.aload_n 1, 1) := by decide +kernel
theorem dX8_endsFrom_123 : decode cX8_endsFrom 123 = .ok (.iload_n 2, 1) := by decide +kernel
theorem dX8_endsFrom_124 : decode cX8_endsFrom 124 = .ok (.iconst 1, 1) := by decide +kernel
theorem dX8_endsFrom_125 : decode cX8_endsFrom 125 = .ok (.iadd, 1) := by decide +kernel
theorem dX8_endsFrom_126 : decode cX8_endsFrom 126 = .ok (.invokestatic 39, 3) := by decide +kernel
theorem dX8_endsFrom_129 : decode cX8_endsFrom 129 = .ok (.ifCond .eq 5, 3) := by decide +kernel
theorem dX8_endsFrom_132 : decode cX8_endsFrom 132 = .ok (.iconst 1, 1) := by decide +kernel
theorem dX8_endsFrom_133 : decode cX8_endsFrom 133 = .ok (.ireturn, 1) := by decide +kernel
theorem dX8_endsFrom_134 : decode cX8_endsFrom 134 = .ok (.iinc 4 1, 3) := by decide +kernel
theorem dX8_endsFrom_137 : decode cX8_endsFrom 137 = .ok (.goto (-81), 3) := by decide +kernel
theorem dX8_endsFrom_140 : decode cX8_endsFrom 140 = .ok (.aload_n 0, 1) := by decide +kernel
theorem dX8_endsFrom_141 : decode cX8_endsFrom 141 = .ok (.getfield 16, 3) := by decide +kernel
theorem dX8_endsFrom_144 : decode cX8_endsFrom 144 = .ok (.iload_n 2, 1) := by decide +kernel
theorem dX8_endsFrom_145 : decode cX8_endsFrom 145 = .ok (.iconst 0, 1) := by decide +kernel
theorem dX8_endsFrom_146 : decode cX8_endsFrom 146 = .ok (.iastore, 1) := by decide +kernel
theorem dX8_endsFrom_147 : decode cX8_endsFrom 147 = .ok (.iconst 0, 1) := by decide +kernel
theorem dX8_endsFrom_148 : decode cX8_endsFrom 148 = .ok (.ireturn, 1) := by decide +kernel
theorem dX8_choice_0 : decode cX8_choice 0 = .ok (.aload_n 0, 1) := by decide +kernel
theorem dX8_choice_1 : decode cX8_choice 1 = .ok (.getfield 20, 3) := by decide +kernel
theorem dX8_choice_4 : decode cX8_choice 4 = .ok (.iload_n 1, 1) := by decide +kernel
theorem dX8_choice_5 : decode cX8_choice 5 = .ok (.iaload, 1) := by decide +kernel
theorem dX8_choice_6 : decode cX8_choice 6 = .ok (.ifCond .eq 10, 3) := by decide +kernel
theorem dX8_choice_9 : decode cX8_choice 9 = .ok (.aload_n 0, 1) := by decide +kernel
theorem dX8_choice_10 : decode cX8_choice 10 = .ok (.getfield 20, 3) := by decide +kernel
theorem dX8_choice_13 : decode cX8_choice 13 = .ok (.iload_n 1, 1) := by decide +kernel
theorem dX8_choice_14 : decode cX8_choice 14 = .ok (.iaload, 1) := by decide +kernel
theorem dX8_choice_15 : decode cX8_choice 15 = .ok (.ireturn, 1) := by decide +kernel
theorem dX8_choice_16 : decode cX8_choice 16 = .ok (.aload_n 0, 1) := by decide +kernel
theorem dX8_choice_17 : decode cX8_choice 17 = .ok (.getfield 23, 3) := by decide +kernel
theorem dX8_choice_20 : decode cX8_choice 20 = .ok (.iload_n 1, 1) := by decide +kernel
theorem dX8_choice_21 : decode cX8_choice 21 = .ok (.iaload, 1) := by decide +kernel
theorem dX8_choice_22 : decode cX8_choice 22 = .ok (.iload_n 2, 1) := by decide +kernel
theorem dX8_choice_23 : decode cX8_choice 23 = .ok (.iadd, 1) := by decide +kernel
theorem dX8_choice_24 : decode cX8_choice 24 = .ok (.istore 4, 2) := by decide +kernel
theorem dX8_choice_26 : decode cX8_choice 26 = .ok (.iload 4, 2) := by decide +kernel
theorem dX8_choice_28 : decode cX8_choice 28 = .ok (.iload_n 3, 1) := by decide +kernel
theorem dX8_choice_29 : decode cX8_choice 29 = .ok (.if_icmp .le 10, 3) := by decide +kernel
theorem dX8_choice_32 : decode cX8_choice 32 = .ok (.iload 4, 2) := by decide +kernel
theorem dX8_choice_34 : decode cX8_choice 34 = .ok (.iload_n 3, 1) := by decide +kernel
theorem dX8_choice_35 : decode cX8_choice 35 = .ok (.isub, 1) := by decide +kernel
theorem dX8_choice_36 : decode cX8_choice 36 = .ok (.goto 5, 3) := by decide +kernel
theorem dX8_choice_39 : decode cX8_choice 39 = .ok (.iload 4, 2) := by decide +kernel
theorem dX8_choice_41 : decode cX8_choice 41 = .ok (.ireturn, 1) := by decide +kernel
theorem dX8_giveUp_0 : decode cX8_giveUp 0 = .ok (.aload_n 0, 1) := by decide +kernel
theorem dX8_giveUp_1 : decode cX8_giveUp 1 = .ok (.iconst 1, 1) := by decide +kernel
theorem dX8_giveUp_2 : decode cX8_giveUp 2 = .ok (.putfield 43, 3) := by decide +kernel
theorem dX8_giveUp_5 : decode cX8_giveUp 5 = .ok (.aload_n 0, 1) := by decide +kernel
theorem dX8_giveUp_6 : decode cX8_giveUp 6 = .ok (.iconst 0, 1) := by decide +kernel
theorem dX8_giveUp_7 : decode cX8_giveUp 7 = .ok (.putfield 47, 3) := by decide +kernel
theorem dX8_giveUp_10 : decode cX8_giveUp 10 = .ok (.return_, 1) := by decide +kernel
theorem dX8_keep_0 : decode cX8_keep 0 = .ok (.aload_n 0, 1) := by decide +kernel
theorem dX8_keep_1 : decode cX8_keep 1 = .ok (.getfield 47, 3) := by decide +kernel
theorem dX8_keep_4 : decode cX8_keep 4 = .ok (.aload_n 0, 1) := by decide +kernel
theorem dX8_keep_5 : decode cX8_keep 5 = .ok (.getfield 11, 3) := by decide +kernel
theorem dX8_keep_8 : decode cX8_keep 8 = .ok (.arraylength, 1) := by decide +kernel
theorem dX8_keep_9 : decode cX8_keep 9 = .ok (.if_icmp .ge 44, 3) := by decide +kernel
theorem dX8_keep_12 : decode cX8_keep 12 = .ok (.iconst 0, 1) := by decide +kernel
theorem dX8_keep_13 : decode cX8_keep 13 = .ok (.istore_n 1, 1) := by decide +kernel
theorem dX8_keep_14 : decode cX8_keep 14 = .ok (.iload_n 1, 1) := by decide +kernel
theorem dX8_keep_15 : decode cX8_keep 15 = .ok (.bipush 25, 2) := by decide +kernel
theorem dX8_keep_17 : decode cX8_keep 17 = .ok (.if_icmp .ge 26, 3) := by decide +kernel
theorem dX8_keep_20 : decode cX8_keep 20 = .ok (.aload_n 0, 1) := by decide +kernel
theorem dX8_keep_21 : decode cX8_keep 21 = .ok (.getfield 11, 3) := by decide +kernel
theorem dX8_keep_24 : decode cX8_keep 24 = .ok (.aload_n 0, 1) := by decide +kernel
theorem dX8_keep_25 : decode cX8_keep 25 = .ok (.getfield 47, 3) := by decide +kernel
theorem dX8_keep_28 : decode cX8_keep 28 = .ok (.aaload, 1) := by decide +kernel
theorem dX8_keep_29 : decode cX8_keep 29 = .ok (.iload_n 1, 1) := by decide +kernel
theorem dX8_keep_30 : decode cX8_keep 30 = .ok (.aload_n 0, 1) := by decide +kernel
theorem dX8_keep_31 : decode cX8_keep 31 = .ok (.getfield 16, 3) := by decide +kernel
theorem dX8_keep_34 : decode cX8_keep 34 = .ok (.iload_n 1, 1) := by decide +kernel
theorem dX8_keep_35 : decode cX8_keep 35 = .ok (.iaload, 1) := by decide +kernel
theorem dX8_keep_36 : decode cX8_keep 36 = .ok (.iastore, 1) := by decide +kernel
theorem dX8_keep_37 : decode cX8_keep 37 = .ok (.iinc 1 1, 3) := by decide +kernel
theorem dX8_keep_40 : decode cX8_keep 40 = .ok (.goto (-26), 3) := by decide +kernel
theorem dX8_keep_43 : decode cX8_keep 43 = .ok (.aload_n 0, 1) := by decide +kernel
theorem dX8_keep_44 : decode cX8_keep 44 = .ok (.dup, 1) := by decide +kernel
theorem dX8_keep_45 : decode cX8_keep 45 = .ok (.getfield 47, 3) := by decide +kernel
theorem dX8_keep_48 : decode cX8_keep 48 = .ok (.iconst 1, 1) := by decide +kernel
theorem dX8_keep_49 : decode cX8_keep 49 = .ok (.iadd, 1) := by decide +kernel
theorem dX8_keep_50 : decode cX8_keep 50 = .ok (.putfield 47, 3) := by decide +kernel
theorem dX8_keep_53 : decode cX8_keep 53 = .ok (.return_, 1) := by decide +kernel
theorem dX9_init_0 : decode cX9_init 0 = .ok (.aload_n 0, 1) := by decide +kernel
theorem dX9_init_1 : decode cX9_init 1 = .ok (.invokespecial 3, 3) := by decide +kernel
theorem dX9_init_4 : decode cX9_init 4 = .ok (.aload_n 0, 1) := by decide +kernel
theorem dX9_init_5 : decode cX9_init 5 = .ok (.sipush 1600, 3) := by decide +kernel
theorem dX9_init_8 : decode cX9_init 8 = .ok (.newarray .int, 2) := by decide +kernel
theorem dX9_init_10 : decode cX9_init 10 = .ok (.putfield 9, 3) := by decide +kernel
theorem dX9_init_13 : decode cX9_init 13 = .ok (.return_, 1) := by decide +kernel
theorem dX9_appendFour_0 : decode cX9_appendFour 0 = .ok (.bipush 24, 2) := by decide +kernel
theorem dX9_appendFour_2 : decode cX9_appendFour 2 = .ok (.istore_n 2, 1) := by decide +kernel
theorem dX9_appendFour_3 : decode cX9_appendFour 3 = .ok (.iload_n 2, 1) := by decide +kernel
theorem dX9_appendFour_4 : decode cX9_appendFour 4 = .ok (.ifCond .lt 47, 3) := by decide +kernel
theorem dX9_appendFour_7 : decode cX9_appendFour 7 = .ok (.aload_n 0, 1) := by decide +kernel
theorem dX9_appendFour_8 : decode cX9_appendFour 8 = .ok (.getfield 15, 3) := by decide +kernel
theorem dX9_appendFour_11 : decode cX9_appendFour 11 = .ok (.aload_n 0, 1) := by decide +kernel
theorem dX9_appendFour_12 : decode cX9_appendFour 12 = .ok (.getfield 9, 3) := by decide +kernel
theorem dX9_appendFour_15 : decode cX9_appendFour 15 = .ok (.arraylength, 1) := by decide +kernel
theorem dX9_appendFour_16 : decode cX9_appendFour 16 = .ok (.if_icmp .ge 35, 3) := by decide +kernel
theorem dX9_appendFour_19 : decode cX9_appendFour 19 = .ok (.aload_n 0, 1) := by decide +kernel
theorem dX9_appendFour_20 : decode cX9_appendFour 20 = .ok (.getfield 9, 3) := by decide +kernel
theorem dX9_appendFour_23 : decode cX9_appendFour 23 = .ok (.aload_n 0, 1) := by decide +kernel
theorem dX9_appendFour_24 : decode cX9_appendFour 24 = .ok (.getfield 15, 3) := by decide +kernel
theorem dX9_appendFour_27 : decode cX9_appendFour 27 = .ok (.iload_n 1, 1) := by decide +kernel
theorem dX9_appendFour_28 : decode cX9_appendFour 28 = .ok (.iload_n 2, 1) := by decide +kernel
theorem dX9_appendFour_29 : decode cX9_appendFour 29 = .ok (.ishr, 1) := by decide +kernel
theorem dX9_appendFour_30 : decode cX9_appendFour 30 = .ok (.sipush 255, 3) := by decide +kernel
theorem dX9_appendFour_33 : decode cX9_appendFour 33 = .ok (.iand, 1) := by decide +kernel
theorem dX9_appendFour_34 : decode cX9_appendFour 34 = .ok (.iastore, 1) := by decide +kernel
theorem dX9_appendFour_35 : decode cX9_appendFour 35 = .ok (.aload_n 0, 1) := by decide +kernel
theorem dX9_appendFour_36 : decode cX9_appendFour 36 = .ok (.dup, 1) := by decide +kernel
theorem dX9_appendFour_37 : decode cX9_appendFour 37 = .ok (.getfield 15, 3) := by decide +kernel
theorem dX9_appendFour_40 : decode cX9_appendFour 40 = .ok (.iconst 1, 1) := by decide +kernel
theorem dX9_appendFour_41 : decode cX9_appendFour 41 = .ok (.iadd, 1) := by decide +kernel
theorem dX9_appendFour_42 : decode cX9_appendFour 42 = .ok (.putfield 15, 3) := by decide +kernel
theorem dX9_appendFour_45 : decode cX9_appendFour 45 = .ok (.iinc 2 (-8), 3) := by decide +kernel
theorem dX9_appendFour_48 : decode cX9_appendFour 48 = .ok (.goto (-45), 3) := by decide +kernel
theorem dX9_appendFour_51 : decode cX9_appendFour 51 = .ok (.return_, 1) := by decide +kernel
theorem dX9_byteOrNone_0 : decode cX9_byteOrNone 0 = .ok (.iload_n 1, 1) := by decide +kernel
theorem dX9_byteOrNone_1 : decode cX9_byteOrNone 1 = .ok (.ifCond .lt 29, 3) := by decide +kernel
theorem dX9_byteOrNone_4 : decode cX9_byteOrNone 4 = .ok (.iload_n 1, 1) := by decide +kernel
theorem dX9_byteOrNone_5 : decode cX9_byteOrNone 5 = .ok (.aload_n 0, 1) := by decide +kernel
theorem dX9_byteOrNone_6 : decode cX9_byteOrNone 6 = .ok (.getfield 15, 3) := by decide +kernel
theorem dX9_byteOrNone_9 : decode cX9_byteOrNone 9 = .ok (.if_icmp .ge 21, 3) := by decide +kernel
theorem dX9_byteOrNone_12 : decode cX9_byteOrNone 12 = .ok (.iload_n 1, 1) := by decide +kernel
theorem dX9_byteOrNone_13 : decode cX9_byteOrNone 13 = .ok (.aload_n 0, 1) := by decide +kernel
theorem dX9_byteOrNone_14 : decode cX9_byteOrNone 14 = .ok (.getfield 9, 3) := by decide +kernel
theorem dX9_byteOrNone_17 : decode cX9_byteOrNone 17 = .ok (.arraylength, 1) := by decide +kernel
theorem dX9_byteOrNone_18 : decode cX9_byteOrNone 18 = .ok (.if_icmp .ge 12, 3) := by decide +kernel
theorem dX9_byteOrNone_21 : decode cX9_byteOrNone 21 = .ok (.aload_n 0, 1) := by decide +kernel
theorem dX9_byteOrNone_22 : decode cX9_byteOrNone 22 = .ok (.getfield 9, 3) := by decide +kernel
theorem dX9_byteOrNone_25 : decode cX9_byteOrNone 25 = .ok (.iload_n 1, 1) := by decide +kernel
theorem dX9_byteOrNone_26 : decode cX9_byteOrNone 26 = .ok (.iaload, 1) := by decide +kernel
theorem dX9_byteOrNone_27 : decode cX9_byteOrNone 27 = .ok (.goto 4, 3) := by decide +kernel
theorem dX9_byteOrNone_30 : decode cX9_byteOrNone 30 = .ok (.iconst (-1), 1) := by decide +kernel
theorem dX9_byteOrNone_31 : decode cX9_byteOrNone 31 = .ok (.ireturn, 1) := by decide +kernel
theorem dX10_init_0 : decode cX10_init 0 = .ok (.aload_n 0, 1) := by decide +kernel
theorem dX10_init_1 : decode cX10_init 1 = .ok (.invokespecial 3, 3) := by decide +kernel
theorem dX10_init_4 : decode cX10_init 4 = .ok (.aload_n 0, 1) := by decide +kernel
theorem dX10_init_5 : decode cX10_init 5 = .ok (.sipush 1601, 3) := by decide +kernel
theorem dX10_init_8 : decode cX10_init 8 = .ok (.newarray .int, 2) := by decide +kernel
theorem dX10_init_10 : decode cX10_init 10 = .ok (.putfield 9, 3) := by decide +kernel
theorem dX10_init_13 : decode cX10_init 13 = .ok (.aload_n 0, 1) := by decide +kernel
theorem dX10_init_14 : decode cX10_init 14 = .ok (.sipush 1601, 3) := by decide +kernel
theorem dX10_init_17 : decode cX10_init 17 = .ok (.newarray .int, 2) := by decide +kernel
theorem dX10_init_19 : decode cX10_init 19 = .ok (.putfield 15, 3) := by decide +kernel
theorem dX10_init_22 : decode cX10_init 22 = .ok (.aload_n 0, 1) := by decide +kernel
theorem dX10_init_23 : decode cX10_init 23 = .ok (.sipush 1601, 3) := by decide +kernel
theorem dX10_init_26 : decode cX10_init 26 = .ok (.newarray .int, 2) := by decide +kernel
theorem dX10_init_28 : decode cX10_init 28 = .ok (.putfield 18, 3) := by decide +kernel
theorem dX10_init_31 : decode cX10_init 31 = .ok (.return_, 1) := by decide +kernel
theorem dX10_typeAt_0 : decode cX10_typeAt 0 = .ok (.iload_n 1, 1) := by decide +kernel
theorem dX10_typeAt_1 : decode cX10_typeAt 1 = .ok (.ifCond .lt 20, 3) := by decide +kernel
theorem dX10_typeAt_4 : decode cX10_typeAt 4 = .ok (.iload_n 1, 1) := by decide +kernel
theorem dX10_typeAt_5 : decode cX10_typeAt 5 = .ok (.aload_n 0, 1) := by decide +kernel
theorem dX10_typeAt_6 : decode cX10_typeAt 6 = .ok (.getfield 21, 3) := by decide +kernel
theorem dX10_typeAt_9 : decode cX10_typeAt 9 = .ok (.if_icmp .ge 12, 3) := by decide +kernel
theorem dX10_typeAt_12 : decode cX10_typeAt 12 = .ok (.aload_n 0, 1) := by decide +kernel
theorem dX10_typeAt_13 : decode cX10_typeAt 13 = .ok (.getfield 9, 3) := by decide +kernel
theorem dX10_typeAt_16 : decode cX10_typeAt 16 = .ok (.iload_n 1, 1) := by decide +kernel
theorem dX10_typeAt_17 : decode cX10_typeAt 17 = .ok (.iaload, 1) := by decide +kernel
theorem dX10_typeAt_18 : decode cX10_typeAt 18 = .ok (.goto 4, 3) := by decide +kernel
theorem dX10_typeAt_21 : decode cX10_typeAt 21 = .ok (.iconst 0, 1) := by decide +kernel
theorem dX10_typeAt_22 : decode cX10_typeAt 22 = .ok (.ireturn, 1) := by decide +kernel
theorem dX10_startAt_0 : decode cX10_startAt 0 = .ok (.iload_n 1, 1) := by decide +kernel
theorem dX10_startAt_1 : decode cX10_startAt 1 = .ok (.ifCond .lt 20, 3) := by decide +kernel
theorem dX10_startAt_4 : decode cX10_startAt 4 = .ok (.iload_n 1, 1) := by decide +kernel
theorem dX10_startAt_5 : decode cX10_startAt 5 = .ok (.aload_n 0, 1) := by decide +kernel
theorem dX10_startAt_6 : decode cX10_startAt 6 = .ok (.getfield 21, 3) := by decide +kernel
theorem dX10_startAt_9 : decode cX10_startAt 9 = .ok (.if_icmp .ge 12, 3) := by decide +kernel
theorem dX10_startAt_12 : decode cX10_startAt 12 = .ok (.aload_n 0, 1) := by decide +kernel
theorem dX10_startAt_13 : decode cX10_startAt 13 = .ok (.getfield 15, 3) := by decide +kernel
theorem dX10_startAt_16 : decode cX10_startAt 16 = .ok (.iload_n 1, 1) := by decide +kernel
theorem dX10_startAt_17 : decode cX10_startAt 17 = .ok (.iaload, 1) := by decide +kernel
theorem dX10_startAt_18 : decode cX10_startAt 18 = .ok (.goto 4, 3) := by decide +kernel
theorem dX10_startAt_21 : decode cX10_startAt 21 = .ok (.iconst (-1), 1) := by decide +kernel
theorem dX10_startAt_22 : decode cX10_startAt 22 = .ok (.ireturn, 1) := by decide +kernel
theorem dX10_numberAt_0 : decode cX10_numberAt 0 = .ok (.iload_n 1, 1) := by decide +kernel
theorem dX10_numberAt_1 : decode cX10_numberAt 1 = .ok (.ifCond .lt 20, 3) := by decide +kernel
theorem dX10_numberAt_4 : decode cX10_numberAt 4 = .ok (.iload_n 1, 1) := by decide +kernel
theorem dX10_numberAt_5 : decode cX10_numberAt 5 = .ok (.aload_n 0, 1) := by decide +kernel
theorem dX10_numberAt_6 : decode cX10_numberAt 6 = .ok (.getfield 21, 3) := by decide +kernel
theorem dX10_numberAt_9 : decode cX10_numberAt 9 = .ok (.if_icmp .ge 12, 3) := by decide +kernel
theorem dX10_numberAt_12 : decode cX10_numberAt 12 = .ok (.aload_n 0, 1) := by decide +kernel
theorem dX10_numberAt_13 : decode cX10_numberAt 13 = .ok (.getfield 18, 3) := by decide +kernel
theorem dX10_numberAt_16 : decode cX10_numberAt 16 = .ok (.iload_n 1, 1) := by decide +kernel
theorem dX10_numberAt_17 : decode cX10_numberAt 17 = .ok (.iaload, 1) := by decide +kernel
theorem dX10_numberAt_18 : decode cX10_numberAt 18 = .ok (.goto 4, 3) := by decide +kernel
theorem dX10_numberAt_21 : decode cX10_numberAt 21 = .ok (.iconst (-1), 1) := by decide +kernel
theorem dX10_numberAt_22 : decode cX10_numberAt 22 = .ok (.ireturn, 1) := by decide +kernel
theorem dX10_split_0 : decode cX10_split 0 = .ok (.aload_n 0, 1) := by decide +kernel
theorem dX10_split_1 : decode cX10_split 1 = .ok (.iconst 0, 1) := by decide +kernel
theorem dX10_split_2 : decode cX10_split 2 = .ok (.putfield 21, 3) := by decide +kernel
theorem dX10_split_5 : decode cX10_split 5 = .ok (.aload_n 1, 1) := by decide +kernel
theorem dX10_split_6 : decode cX10_split 6 = .ok (.iconst 0, 1) := by decide +kernel
theorem dX10_split_7 : decode cX10_split 7 = .ok (.invokestatic 25, 3) := by decide +kernel
theorem dX10_split_10 : decode cX10_split 10 = .ok (.istore_n 2, 1) := by decide +kernel
theorem dX10_split_11 : decode cX10_split 11 = .ok (.iconst 0, 1) := by decide +kernel
theorem dX10_split_12 : decode cX10_split 12 = .ok (.istore_n 3, 1) := by decide +kernel
theorem dX10_split_13 : decode cX10_split 13 = .ok (.iload_n 3, 1) := by decide +kernel
theorem dX10_split_14 : decode cX10_split 14 = .ok (.sipush 1600, 3) := by decide +kernel
theorem dX10_split_17 : decode cX10_split 17 = .ok (.if_icmp .ge 145, 3) := by decide +kernel
theorem dX10_split_20 : decode cX10_split 20 = .ok (.iload_n 2, 1) := by decide +kernel
theorem dX10_split_21 : decode cX10_split 21 = .ok (.aload_n 1, 1) := by decide +kernel
theorem dX10_split_22 : decode cX10_split 22 = .ok (.getfield 29, 3) := by decide +kernel
theorem dX10_split_25 : decode cX10_split 25 = .ok (.if_icmp .ge 137, 3) := by decide +kernel
theorem dX10_split_28 : decode cX10_split 28 = .ok (.aload_n 1, 1) := by decide +kernel
theorem dX10_split_29 : decode cX10_split 29 = .ok (.iload_n 2, 1) := by decide +kernel
theorem dX10_split_30 : decode cX10_split 30 = .ok (.invokevirtual 34, 3) := by decide +kernel
theorem dX10_split_33 : decode cX10_split 33 = .ok (.istore 4, 2) := by decide +kernel
theorem dX10_split_35 : decode cX10_split 35 = .ok (.aload_n 1, 1) := by decide +kernel
theorem dX10_split_36 : decode cX10_split 36 = .ok (.iload_n 2, 1) := by decide +kernel
theorem dX10_split_37 : decode cX10_split 37 = .ok (.iconst 1, 1) := by decide +kernel
theorem dX10_split_38 : decode cX10_split 38 = .ok (.iadd, 1) := by decide +kernel
theorem dX10_split_39 : decode cX10_split 39 = .ok (.invokevirtual 34, 3) := by decide +kernel
theorem dX10_split_42 : decode cX10_split 42 = .ok (.istore 5, 2) := by decide +kernel
theorem dX10_split_44 : decode cX10_split 44 = .ok (.iload_n 2, 1) := by decide +kernel
theorem dX10_split_45 : decode cX10_split 45 = .ok (.iconst 1, 1) := by decide +kernel
theorem dX10_split_46 : decode cX10_split 46 = .ok (.iadd, 1) := by decide +kernel
theorem dX10_split_47 : decode cX10_split 47 = .ok (.istore 6, 2) := by decide +kernel
theorem dX10_split_49 : decode cX10_split 49 = .ok (.iload 4, 2) := by decide +kernel
theorem dX10_split_51 : decode cX10_split 51 = .ok (.invokestatic 38, 3) := by decide +kernel
theorem dX10_split_54 : decode cX10_split 54 = .ok (.ifCond .eq 14, 3) := by decide +kernel
theorem dX10_split_57 : decode cX10_split 57 = .ok (.aload_n 0, 1) := by decide +kernel
theorem dX10_split_58 : decode cX10_split 58 = .ok (.aload_n 1, 1) := by decide +kernel
theorem dX10_split_59 : decode cX10_split 59 = .ok (.iload_n 2, 1) := by decide +kernel
theorem dX10_split_60 : decode cX10_split 60 = .ok (.invokevirtual 42, 3) := by decide +kernel
theorem dX10_split_63 : decode cX10_split 63 = .ok (.istore 6, 2) := by decide +kernel
theorem dX10_split_65 : decode cX10_split 65 = .ok (.goto 84, 3) := by decide +kernel
theorem dX10_split_68 : decode cX10_split 68 = .ok (.iload 4, 2) := by decide +kernel
theorem dX10_split_70 : decode cX10_split 70 = .ok (.invokestatic 45, 3) := by decide +kernel
theorem dX10_split_73 : decode cX10_split 73 = .ok (.ifCond .eq 39, 3) := by decide +kernel
theorem dX10_split_76 : decode cX10_split 76 = .ok (.iload 5, 2) := by decide +kernel
theorem dX10_split_78 : decode cX10_split 78 = .ok (.invokestatic 38, 3) := by decide +kernel
theorem dX10_split_81 : decode cX10_split 81 = .ok (.ifCond .eq 31, 3) := by decide +kernel
theorem dX10_split_84 : decode cX10_split 84 = .ok (.aload_n 0, 1) := by decide +kernel
theorem dX10_split_85 : decode cX10_split 85 = .ok (.iconst 3, 1) := by decide +kernel
theorem dX10_split_86 : decode cX10_split 86 = .ok (.iload_n 2, 1) := by decide +kernel
theorem dX10_split_87 : decode cX10_split 87 = .ok (.bipush 10, 2) := by decide +kernel
theorem dX10_split_89 : decode cX10_split 89 = .ok (.iload 4, 2) := by decide +kernel
theorem dX10_split_91 : decode cX10_split 91 = .ok (.bipush 97, 2) := by decide +kernel
theorem dX10_split_93 : decode cX10_split 93 = .ok (.isub, 1) := by decide +kernel
theorem dX10_split_94 : decode cX10_split 94 = .ok (.imul, 1) := by decide +kernel
theorem dX10_split_95 : decode cX10_split 95 = .ok (.iload 5, 2) := by decide +kernel
theorem dX10_split_97 : decode cX10_split 97 = .ok (.iadd, 1) := by decide +kernel
theorem dX10_split_98 : decode cX10_split 98 = .ok (.bipush 48, 2) := by decide +kernel
theorem dX10_split_100 : decode cX10_split 100 = .ok (.isub, 1) := by decide +kernel
theorem dX10_split_101 : decode cX10_split 101 = .ok (.invokevirtual 48, 3) := by decide +kernel
theorem dX10_split_104 : decode cX10_split 104 = .ok (.iload_n 2, 1) := by decide +kernel
theorem dX10_split_105 : decode cX10_split 105 = .ok (.iconst 2, 1) := by decide +kernel
theorem dX10_split_106 : decode cX10_split 106 = .ok (.iadd, 1) := by decide +kernel
theorem dX10_split_107 : decode cX10_split 107 = .ok (.istore 6, 2) := by decide +kernel
theorem dX10_split_109 : decode cX10_split 109 = .ok (.goto 40, 3) := by decide +kernel
theorem dX10_split_112 : decode cX10_split 112 = .ok (.iload 4, 2) := by decide +kernel
theorem dX10_split_114 : decode cX10_split 114 = .ok (.invokestatic 45, 3) := by decide +kernel
theorem dX10_split_117 : decode cX10_split 117 = .ok (.ifCond .eq 14, 3) := by decide +kernel
theorem dX10_split_120 : decode cX10_split 120 = .ok (.aload_n 0, 1) := by decide +kernel
theorem dX10_split_121 : decode cX10_split 121 = .ok (.aload_n 1, 1) := by decide +kernel
theorem dX10_split_122 : decode cX10_split 122 = .ok (.iload_n 2, 1) := by decide +kernel
theorem dX10_split_123 : decode cX10_split 123 = .ok (.invokevirtual 52, 3) := by decide +kernel
theorem dX10_split_126 : decode cX10_split 126 = .ok (.istore 6, 2) := by decide +kernel
theorem dX10_split_128 : decode cX10_split 128 = .ok (.goto 21, 3) := by decide +kernel
theorem dX10_split_131 : decode cX10_split 131 = .ok (.aload_n 0, 1) := by decide +kernel
theorem dX10_split_132 : decode cX10_split 132 = .ok (.iload 4, 2) := by decide +kernel
theorem dX10_split_134 : decode cX10_split 134 = .ok (.bipush 59, 2) := by decide +kernel
theorem dX10_split_136 : decode cX10_split 136 = .ok (.if_icmp .ne 7, 3) := by decide +kernel
theorem dX10_split_139 : decode cX10_split 139 = .ok (.iconst 4, 1) := by decide +kernel
theorem dX10_split_140 : decode cX10_split 140 = .ok (.goto 4, 3) := by decide +kernel
theorem dX10_split_143 : decode cX10_split 143 = .ok (.iconst 5, 1) := by decide +kernel
theorem dX10_split_144 : decode cX10_split 144 = .ok (.iload_n 2, 1) := by decide +kernel
theorem dX10_split_145 : decode cX10_split 145 = .ok (.iconst (-1), 1) := by decide +kernel
theorem dX10_split_146 : decode cX10_split 146 = .ok (.invokevirtual 48, 3) := by decide +kernel
theorem dX10_split_149 : decode cX10_split 149 = .ok (.aload_n 1, 1) := by decide +kernel
theorem dX10_split_150 : decode cX10_split 150 = .ok (.iload 6, 2) := by decide +kernel
theorem dX10_split_152 : decode cX10_split 152 = .ok (.invokestatic 25, 3) := by decide +kernel
theorem dX10_split_155 : decode cX10_split 155 = .ok (.istore_n 2, 1) := by decide +kernel
theorem dX10_split_156 : decode cX10_split 156 = .ok (.iinc 3 1, 3) := by decide +kernel
theorem dX10_split_159 : decode cX10_split 159 = .ok (.goto (-146), 3) := by decide +kernel
theorem dX10_split_162 : decode cX10_split 162 = .ok (.aload_n 0, 1) := by decide +kernel
theorem dX10_split_163 : decode cX10_split 163 = .ok (.iconst 0, 1) := by decide +kernel
theorem dX10_split_164 : decode cX10_split 164 = .ok (.aload_n 1, 1) := by decide +kernel
theorem dX10_split_165 : decode cX10_split 165 = .ok (.getfield 29, 3) := by decide +kernel
theorem dX10_split_168 : decode cX10_split 168 = .ok (.iconst (-1), 1) := by decide +kernel
theorem dX10_split_169 : decode cX10_split 169 = .ok (.invokevirtual 48, 3) := by decide +kernel
theorem dX10_split_172 : decode cX10_split 172 = .ok (.return_, 1) := by decide +kernel
theorem dX10_add_0 : decode cX10_add 0 = .ok (.aload_n 0, 1) := by decide +kernel
theorem dX10_add_1 : decode cX10_add 1 = .ok (.getfield 21, 3) := by decide +kernel
theorem dX10_add_4 : decode cX10_add 4 = .ok (.aload_n 0, 1) := by decide +kernel
theorem dX10_add_5 : decode cX10_add 5 = .ok (.getfield 9, 3) := by decide +kernel
theorem dX10_add_8 : decode cX10_add 8 = .ok (.arraylength, 1) := by decide +kernel
theorem dX10_add_9 : decode cX10_add 9 = .ok (.if_icmp .ge 43, 3) := by decide +kernel
theorem dX10_add_12 : decode cX10_add 12 = .ok (.aload_n 0, 1) := by decide +kernel
theorem dX10_add_13 : decode cX10_add 13 = .ok (.getfield 9, 3) := by decide +kernel
theorem dX10_add_16 : decode cX10_add 16 = .ok (.aload_n 0, 1) := by decide +kernel
theorem dX10_add_17 : decode cX10_add 17 = .ok (.getfield 21, 3) := by decide +kernel
theorem dX10_add_20 : decode cX10_add 20 = .ok (.iload_n 1, 1) := by decide +kernel
theorem dX10_add_21 : decode cX10_add 21 = .ok (.iastore, 1) := by decide +kernel
theorem dX10_add_22 : decode cX10_add 22 = .ok (.aload_n 0, 1) := by decide +kernel
theorem dX10_add_23 : decode cX10_add 23 = .ok (.getfield 15, 3) := by decide +kernel
theorem dX10_add_26 : decode cX10_add 26 = .ok (.aload_n 0, 1) := by decide +kernel
theorem dX10_add_27 : decode cX10_add 27 = .ok (.getfield 21, 3) := by decide +kernel
theorem dX10_add_30 : decode cX10_add 30 = .ok (.iload_n 2, 1) := by decide +kernel
theorem dX10_add_31 : decode cX10_add 31 = .ok (.iastore, 1) := by decide +kernel
theorem dX10_add_32 : decode cX10_add 32 = .ok (.aload_n 0, 1) := by decide +kernel
theorem dX10_add_33 : decode cX10_add 33 = .ok (.getfield 18, 3) := by decide +kernel
theorem dX10_add_36 : decode cX10_add 36 = .ok (.aload_n 0, 1) := by decide +kernel
theorem dX10_add_37 : decode cX10_add 37 = .ok (.getfield 21, 3) := by decide +kernel
theorem dX10_add_40 : decode cX10_add 40 = .ok (.iload_n 3, 1) := by decide +kernel
theorem dX10_add_41 : decode cX10_add 41 = .ok (.iastore, 1) := by decide +kernel
theorem dX10_add_42 : decode cX10_add 42 = .ok (.aload_n 0, 1) := by decide +kernel
theorem dX10_add_43 : decode cX10_add 43 = .ok (.dup, 1) := by decide +kernel
theorem dX10_add_44 : decode cX10_add 44 = .ok (.getfield 21, 3) := by decide +kernel
theorem dX10_add_47 : decode cX10_add 47 = .ok (.iconst 1, 1) := by decide +kernel
theorem dX10_add_48 : decode cX10_add 48 = .ok (.iadd, 1) := by decide +kernel
theorem dX10_add_49 : decode cX10_add 49 = .ok (.putfield 21, 3) := by decide +kernel
theorem dX10_add_52 : decode cX10_add 52 = .ok (.return_, 1) := by decide +kernel
theorem dX10_addNumber_0 : decode cX10_addNumber 0 = .ok (.iload_n 2, 1) := by decide +kernel
theorem dX10_addNumber_1 : decode cX10_addNumber 1 = .ok (.istore_n 3, 1) := by decide +kernel
theorem dX10_addNumber_2 : decode cX10_addNumber 2 = .ok (.iconst 0, 1) := by decide +kernel
theorem dX10_addNumber_3 : decode cX10_addNumber 3 = .ok (.istore 4, 2) := by decide +kernel
theorem dX10_addNumber_5 : decode cX10_addNumber 5 = .ok (.iload_n 3, 1) := by decide +kernel
theorem dX10_addNumber_6 : decode cX10_addNumber 6 = .ok (.aload_n 1, 1) := by decide +kernel
theorem dX10_addNumber_7 : decode cX10_addNumber 7 = .ok (.getfield 29, 3) := by decide +kernel
theorem dX10_addNumber_10 : decode cX10_addNumber 10 = .ok (.if_icmp .ge 36, 3) := by decide +kernel
theorem dX10_addNumber_13 : decode cX10_addNumber 13 = .ok (.aload_n 1, 1) := by decide +kernel
theorem dX10_addNumber_14 : decode cX10_addNumber 14 = .ok (.iload_n 3, 1) := by decide +kernel
theorem dX10_addNumber_15 : decode cX10_addNumber 15 = .ok (.invokevirtual 34, 3) := by decide +kernel
theorem dX10_addNumber_18 : decode cX10_addNumber 18 = .ok (.invokestatic 38, 3) := by decide +kernel
theorem dX10_addNumber_21 : decode cX10_addNumber 21 = .ok (.ifCond .eq 25, 3) := by decide +kernel
theorem dX10_addNumber_24 : decode cX10_addNumber 24 = .ok (.iload 4, 2) := by decide +kernel
theorem dX10_addNumber_26 : decode cX10_addNumber 26 = .ok (.bipush 10, 2) := by decide +kernel
theorem dX10_addNumber_28 : decode cX10_addNumber 28 = .ok (.imul, 1) := by decide +kernel
theorem dX10_addNumber_29 : decode cX10_addNumber 29 = .ok (.aload_n 1, 1) := by decide +kernel
theorem dX10_addNumber_30 : decode cX10_addNumber 30 = .ok (.iload_n 3, 1) := by decide +kernel
theorem dX10_addNumber_31 : decode cX10_addNumber 31 = .ok (.invokevirtual 34, 3) := by decide +kernel
theorem dX10_addNumber_34 : decode cX10_addNumber 34 = .ok (.iadd, 1) := by decide +kernel
theorem dX10_addNumber_35 : decode cX10_addNumber 35 = .ok (.bipush 48, 2) := by decide +kernel
theorem dX10_addNumber_37 : decode cX10_addNumber 37 = .ok (.isub, 1) := by decide +kernel
theorem dX10_addNumber_38 : decode cX10_addNumber 38 = .ok (.istore 4, 2) := by decide +kernel
theorem dX10_addNumber_40 : decode cX10_addNumber 40 = .ok (.iinc 3 1, 3) := by decide +kernel
theorem dX10_addNumber_43 : decode cX10_addNumber 43 = .ok (.goto (-38), 3) := by decide +kernel
theorem dX10_addNumber_46 : decode cX10_addNumber 46 = .ok (.aload_n 0, 1) := by decide +kernel
theorem dX10_addNumber_47 : decode cX10_addNumber 47 = .ok (.iload_n 3, 1) := by decide +kernel
theorem dX10_addNumber_48 : decode cX10_addNumber 48 = .ok (.iload_n 2, 1) := by decide +kernel
theorem dX10_addNumber_49 : decode cX10_addNumber 49 = .ok (.isub, 1) := by decide +kernel
theorem dX10_addNumber_50 : decode cX10_addNumber 50 = .ok (.iconst 4, 1) := by decide +kernel
theorem dX10_addNumber_51 : decode cX10_addNumber 51 = .ok (.if_icmp .gt 7, 3) := by decide +kernel
theorem dX10_addNumber_54 : decode cX10_addNumber 54 = .ok (.iconst 2, 1) := by decide +kernel
theorem dX10_addNumber_55 : decode cX10_addNumber 55 = .ok (.goto 4, 3) := by decide +kernel
theorem dX10_addNumber_58 : decode cX10_addNumber 58 = .ok (.iconst 5, 1) := by decide +kernel
theorem dX10_addNumber_59 : decode cX10_addNumber 59 = .ok (.iload_n 2, 1) := by decide +kernel
theorem dX10_addNumber_60 : decode cX10_addNumber 60 = .ok (.iload 4, 2) := by decide +kernel
theorem dX10_addNumber_62 : decode cX10_addNumber 62 = .ok (.invokevirtual 48, 3) := by decide +kernel
theorem dX10_addNumber_65 : decode cX10_addNumber 65 = .ok (.iload_n 3, 1) := by decide +kernel
theorem dX10_addNumber_66 : decode cX10_addNumber 66 = .ok (.ireturn, 1) := by decide +kernel
theorem dX10_addWord_0 : decode cX10_addWord 0 = .ok (.iload_n 2, 1) := by decide +kernel
theorem dX10_addWord_1 : decode cX10_addWord 1 = .ok (.istore_n 3, 1) := by decide +kernel
theorem dX10_addWord_2 : decode cX10_addWord 2 = .ok (.iload_n 3, 1) := by decide +kernel
theorem dX10_addWord_3 : decode cX10_addWord 3 = .ok (.aload_n 1, 1) := by decide +kernel
theorem dX10_addWord_4 : decode cX10_addWord 4 = .ok (.getfield 29, 3) := by decide +kernel
theorem dX10_addWord_7 : decode cX10_addWord 7 = .ok (.if_icmp .ge 20, 3) := by decide +kernel
theorem dX10_addWord_10 : decode cX10_addWord 10 = .ok (.aload_n 1, 1) := by decide +kernel
theorem dX10_addWord_11 : decode cX10_addWord 11 = .ok (.iload_n 3, 1) := by decide +kernel
theorem dX10_addWord_12 : decode cX10_addWord 12 = .ok (.invokevirtual 34, 3) := by decide +kernel
theorem dX10_addWord_15 : decode cX10_addWord 15 = .ok (.invokestatic 45, 3) := by decide +kernel
theorem dX10_addWord_18 : decode cX10_addWord 18 = .ok (.ifCond .eq 9, 3) := by decide +kernel
theorem dX10_addWord_21 : decode cX10_addWord 21 = .ok (.iinc 3 1, 3) := by decide +kernel
theorem dX10_addWord_24 : decode cX10_addWord 24 = .ok (.goto (-22), 3) := by decide +kernel
theorem dX10_addWord_27 : decode cX10_addWord 27 = .ok (.iload_n 3, 1) := by decide +kernel
theorem dX10_addWord_28 : decode cX10_addWord 28 = .ok (.iload_n 2, 1) := by decide +kernel
theorem dX10_addWord_29 : decode cX10_addWord 29 = .ok (.isub, 1) := by decide +kernel
theorem dX10_addWord_30 : decode cX10_addWord 30 = .ok (.bipush 8, 2) := by decide +kernel
theorem dX10_addWord_32 : decode cX10_addWord 32 = .ok (.if_icmp .gt 12, 3) := by decide +kernel
theorem dX10_addWord_35 : decode cX10_addWord 35 = .ok (.aload_n 1, 1) := by decide +kernel
theorem dX10_addWord_36 : decode cX10_addWord 36 = .ok (.iload_n 2, 1) := by decide +kernel
theorem dX10_addWord_37 : decode cX10_addWord 37 = .ok (.iload_n 3, 1) := by decide +kernel
theorem dX10_addWord_38 : decode cX10_addWord 38 = .ok (.invokestatic 55, 3) := by decide +kernel
theorem dX10_addWord_41 : decode cX10_addWord 41 = .ok (.goto 4, 3) := by decide +kernel
theorem dX10_addWord_44 : decode cX10_addWord 44 = .ok (.iconst (-1), 1) := by decide +kernel
theorem dX10_addWord_45 : decode cX10_addWord 45 = .ok (.istore 4, 2) := by decide +kernel
theorem dX10_addWord_47 : decode cX10_addWord 47 = .ok (.aload_n 0, 1) := by decide +kernel
theorem dX10_addWord_48 : decode cX10_addWord 48 = .ok (.iload 4, 2) := by decide +kernel
theorem dX10_addWord_50 : decode cX10_addWord 50 = .ok (.iconst (-1), 1) := by decide +kernel
theorem dX10_addWord_51 : decode cX10_addWord 51 = .ok (.if_icmp .ne 7, 3) := by decide +kernel
theorem dX10_addWord_54 : decode cX10_addWord 54 = .ok (.iconst 5, 1) := by decide +kernel
theorem dX10_addWord_55 : decode cX10_addWord 55 = .ok (.goto 4, 3) := by decide +kernel
theorem dX10_addWord_58 : decode cX10_addWord 58 = .ok (.iconst 1, 1) := by decide +kernel
theorem dX10_addWord_59 : decode cX10_addWord 59 = .ok (.iload_n 2, 1) := by decide +kernel
theorem dX10_addWord_60 : decode cX10_addWord 60 = .ok (.iload 4, 2) := by decide +kernel
theorem dX10_addWord_62 : decode cX10_addWord 62 = .ok (.invokevirtual 48, 3) := by decide +kernel
theorem dX10_addWord_65 : decode cX10_addWord 65 = .ok (.iload_n 3, 1) := by decide +kernel
theorem dX10_addWord_66 : decode cX10_addWord 66 = .ok (.ireturn, 1) := by decide +kernel
theorem dX10_wordNumber_0 : decode cX10_wordNumber 0 = .ok (.iconst 0, 1) := by decide +kernel
theorem dX10_wordNumber_1 : decode cX10_wordNumber 1 = .ok (.istore_n 3, 1) := by decide +kernel
theorem dX10_wordNumber_2 : decode cX10_wordNumber 2 = .ok (.iload_n 3, 1) := by decide +kernel
theorem dX10_wordNumber_3 : decode cX10_wordNumber 3 = .ok (.getstatic 59, 3) := by decide +kernel
theorem dX10_wordNumber_6 : decode cX10_wordNumber 6 = .ok (.arraylength, 1) := by decide +kernel
theorem dX10_wordNumber_7 : decode cX10_wordNumber 7 = .ok (.if_icmp .ge 35, 3) := by decide +kernel
theorem dX10_wordNumber_10 : decode cX10_wordNumber 10 = .ok (.aload_n 0, 1) := by decide +kernel
theorem dX10_wordNumber_11 : decode cX10_wordNumber 11 = .ok (.iload_n 1, 1) := by decide +kernel
theorem dX10_wordNumber_12 : decode cX10_wordNumber 12 = .ok (.iload_n 2, 1) := by decide +kernel
theorem dX10_wordNumber_13 : decode cX10_wordNumber 13 = .ok (.getstatic 59, 3) := by decide +kernel
theorem dX10_wordNumber_16 : decode cX10_wordNumber 16 = .ok (.iload_n 3, 1) := by decide +kernel
theorem dX10_wordNumber_17 : decode cX10_wordNumber 17 = .ok (.aaload, 1) := by decide +kernel
theorem dX10_wordNumber_18 : decode cX10_wordNumber 18 = .ok (.getfield 65, 3) := by decide +kernel
theorem dX10_wordNumber_21 : decode cX10_wordNumber 21 = .ok (.invokestatic 69, 3) := by decide +kernel
theorem dX10_wordNumber_24 : decode cX10_wordNumber 24 = .ok (.ifCond .eq 12, 3) := by decide +kernel
theorem dX10_wordNumber_27 : decode cX10_wordNumber 27 = .ok (.getstatic 59, 3) := by decide +kernel
theorem dX10_wordNumber_30 : decode cX10_wordNumber 30 = .ok (.iload_n 3, 1) := by decide +kernel
theorem dX10_wordNumber_31 : decode cX10_wordNumber 31 = .ok (.aaload, 1) := by decide +kernel
theorem dX10_wordNumber_32 : decode cX10_wordNumber 32 = .ok (.getfield 73, 3) := by decide +kernel
theorem dX10_wordNumber_35 : decode cX10_wordNumber 35 = .ok (.ireturn, 1) := by decide +kernel
theorem dX10_wordNumber_36 : decode cX10_wordNumber 36 = .ok (.iinc 3 1, 3) := by decide +kernel
theorem dX10_wordNumber_39 : decode cX10_wordNumber 39 = .ok (.goto (-37), 3) := by decide +kernel
theorem dX10_wordNumber_42 : decode cX10_wordNumber 42 = .ok (.aload_n 0, 1) := by decide +kernel
theorem dX10_wordNumber_43 : decode cX10_wordNumber 43 = .ok (.iload_n 1, 1) := by decide +kernel
theorem dX10_wordNumber_44 : decode cX10_wordNumber 44 = .ok (.iload_n 2, 1) := by decide +kernel
theorem dX10_wordNumber_45 : decode cX10_wordNumber 45 = .ok (.ldc 76, 2) := by decide +kernel
theorem dX10_wordNumber_47 : decode cX10_wordNumber 47 = .ok (.invokestatic 69, 3) := by decide +kernel
theorem dX10_wordNumber_50 : decode cX10_wordNumber 50 = .ok (.ifCond .eq 6, 3) := by decide +kernel
theorem dX10_wordNumber_53 : decode cX10_wordNumber 53 = .ok (.bipush 12, 2) := by decide +kernel
theorem dX10_wordNumber_55 : decode cX10_wordNumber 55 = .ok (.ireturn, 1) := by decide +kernel
theorem dX10_wordNumber_56 : decode cX10_wordNumber 56 = .ok (.aload_n 0, 1) := by decide +kernel
theorem dX10_wordNumber_57 : decode cX10_wordNumber 57 = .ok (.iload_n 1, 1) := by decide +kernel
theorem dX10_wordNumber_58 : decode cX10_wordNumber 58 = .ok (.iload_n 2, 1) := by decide +kernel
theorem dX10_wordNumber_59 : decode cX10_wordNumber 59 = .ok (.ldc 78, 2) := by decide +kernel
theorem dX10_wordNumber_61 : decode cX10_wordNumber 61 = .ok (.invokestatic 69, 3) := by decide +kernel
theorem dX10_wordNumber_64 : decode cX10_wordNumber 64 = .ok (.ifCond .eq 6, 3) := by decide +kernel
theorem dX10_wordNumber_67 : decode cX10_wordNumber 67 = .ok (.bipush 13, 2) := by decide +kernel
theorem dX10_wordNumber_69 : decode cX10_wordNumber 69 = .ok (.ireturn, 1) := by decide +kernel
theorem dX10_wordNumber_70 : decode cX10_wordNumber 70 = .ok (.aload_n 0, 1) := by decide +kernel
theorem dX10_wordNumber_71 : decode cX10_wordNumber 71 = .ok (.iload_n 1, 1) := by decide +kernel
theorem dX10_wordNumber_72 : decode cX10_wordNumber 72 = .ok (.iload_n 2, 1) := by decide +kernel
theorem dX10_wordNumber_73 : decode cX10_wordNumber 73 = .ok (.ldc 80, 2) := by decide +kernel
theorem dX10_wordNumber_75 : decode cX10_wordNumber 75 = .ok (.invokestatic 69, 3) := by decide +kernel
theorem dX10_wordNumber_78 : decode cX10_wordNumber 78 = .ok (.ifCond .eq 8, 3) := by decide +kernel
theorem dX10_wordNumber_81 : decode cX10_wordNumber 81 = .ok (.bipush 14, 2) := by decide +kernel
theorem dX10_wordNumber_83 : decode cX10_wordNumber 83 = .ok (.goto 4, 3) := by decide +kernel
theorem dX10_wordNumber_86 : decode cX10_wordNumber 86 = .ok (.iconst (-1), 1) := by decide +kernel
theorem dX10_wordNumber_87 : decode cX10_wordNumber 87 = .ok (.ireturn, 1) := by decide +kernel
theorem dX10_isWord_0 : decode cX10_isWord 0 = .ok (.iload_n 2, 1) := by decide +kernel
theorem dX10_isWord_1 : decode cX10_isWord 1 = .ok (.iload_n 1, 1) := by decide +kernel
theorem dX10_isWord_2 : decode cX10_isWord 2 = .ok (.isub, 1) := by decide +kernel
theorem dX10_isWord_3 : decode cX10_isWord 3 = .ok (.aload_n 3, 1) := by decide +kernel
theorem dX10_isWord_4 : decode cX10_isWord 4 = .ok (.invokevirtual 82, 3) := by decide +kernel
theorem dX10_isWord_7 : decode cX10_isWord 7 = .ok (.if_icmp .eq 5, 3) := by decide +kernel
theorem dX10_isWord_10 : decode cX10_isWord 10 = .ok (.iconst 0, 1) := by decide +kernel
theorem dX10_isWord_11 : decode cX10_isWord 11 = .ok (.ireturn, 1) := by decide +kernel
theorem dX10_isWord_12 : decode cX10_isWord 12 = .ok (.iconst 0, 1) := by decide +kernel
theorem dX10_isWord_13 : decode cX10_isWord 13 = .ok (.istore 4, 2) := by decide +kernel
theorem dX10_isWord_15 : decode cX10_isWord 15 = .ok (.iload 4, 2) := by decide +kernel
theorem dX10_isWord_17 : decode cX10_isWord 17 = .ok (.aload_n 3, 1) := by decide +kernel
theorem dX10_isWord_18 : decode cX10_isWord 18 = .ok (.invokevirtual 82, 3) := by decide +kernel
theorem dX10_isWord_21 : decode cX10_isWord 21 = .ok (.if_icmp .ge 28, 3) := by decide +kernel
theorem dX10_isWord_24 : decode cX10_isWord 24 = .ok (.aload_n 0, 1) := by decide +kernel
theorem dX10_isWord_25 : decode cX10_isWord 25 = .ok (.iload_n 1, 1) := by decide +kernel
theorem dX10_isWord_26 : decode cX10_isWord 26 = .ok (.iload 4, 2) := by decide +kernel
theorem dX10_isWord_28 : decode cX10_isWord 28 = .ok (.iadd, 1) := by decide +kernel
theorem dX10_isWord_29 : decode cX10_isWord 29 = .ok (.invokevirtual 34, 3) := by decide +kernel
theorem dX10_isWord_32 : decode cX10_isWord 32 = .ok (.aload_n 3, 1) := by decide +kernel
theorem dX10_isWord_33 : decode cX10_isWord 33 = .ok (.iload 4, 2) := by decide +kernel
theorem dX10_isWord_35 : decode cX10_isWord 35 = .ok (.invokevirtual 87, 3) := by decide +kernel
theorem dX10_isWord_38 : decode cX10_isWord 38 = .ok (.if_icmp .eq 5, 3) := by decide +kernel
theorem dX10_isWord_41 : decode cX10_isWord 41 = .ok (.iconst 0, 1) := by decide +kernel
theorem dX10_isWord_42 : decode cX10_isWord 42 = .ok (.ireturn, 1) := by decide +kernel
theorem dX10_isWord_43 : decode cX10_isWord 43 = .ok (.iinc 4 1, 3) := by decide +kernel
theorem dX10_isWord_46 : decode cX10_isWord 46 = .ok (.goto (-31), 3) := by decide +kernel
theorem dX10_isWord_49 : decode cX10_isWord 49 = .ok (.iconst 1, 1) := by decide +kernel
theorem dX10_isWord_50 : decode cX10_isWord 50 = .ok (.ireturn, 1) := by decide +kernel
theorem dX10_skipBlanks_0 : decode cX10_skipBlanks 0 = .ok (.iload_n 1, 1) := by decide +kernel
theorem dX10_skipBlanks_1 : decode cX10_skipBlanks 1 = .ok (.istore_n 2, 1) := by decide +kernel
theorem dX10_skipBlanks_2 : decode cX10_skipBlanks 2 = .ok (.iload_n 2, 1) := by decide +kernel
theorem dX10_skipBlanks_3 : decode cX10_skipBlanks 3 = .ok (.aload_n 0, 1) := by decide +kernel
theorem dX10_skipBlanks_4 : decode cX10_skipBlanks 4 = .ok (.getfield 29, 3) := by decide +kernel
theorem dX10_skipBlanks_7 : decode cX10_skipBlanks 7 = .ok (.if_icmp .ge 20, 3) := by decide +kernel
theorem dX10_skipBlanks_10 : decode cX10_skipBlanks 10 = .ok (.aload_n 0, 1) := by decide +kernel
theorem dX10_skipBlanks_11 : decode cX10_skipBlanks 11 = .ok (.iload_n 2, 1) := by decide +kernel
theorem dX10_skipBlanks_12 : decode cX10_skipBlanks 12 = .ok (.invokevirtual 34, 3) := by decide +kernel
theorem dX10_skipBlanks_15 : decode cX10_skipBlanks 15 = .ok (.invokestatic 91, 3) := by decide +kernel
theorem dX10_skipBlanks_18 : decode cX10_skipBlanks 18 = .ok (.ifCond .eq 9, 3) := by decide +kernel
theorem dX10_skipBlanks_21 : decode cX10_skipBlanks 21 = .ok (.iinc 2 1, 3) := by decide +kernel
theorem dX10_skipBlanks_24 : decode cX10_skipBlanks 24 = .ok (.goto (-22), 3) := by decide +kernel
theorem dX10_skipBlanks_27 : decode cX10_skipBlanks 27 = .ok (.iload_n 2, 1) := by decide +kernel
theorem dX10_skipBlanks_28 : decode cX10_skipBlanks 28 = .ok (.ireturn, 1) := by decide +kernel
theorem dX10_isBlank_0 : decode cX10_isBlank 0 = .ok (.iload_n 0, 1) := by decide +kernel
theorem dX10_isBlank_1 : decode cX10_isBlank 1 = .ok (.bipush 32, 2) := by decide +kernel
theorem dX10_isBlank_3 : decode cX10_isBlank 3 = .ok (.if_icmp .eq 9, 3) := by decide +kernel
theorem dX10_isBlank_6 : decode cX10_isBlank 6 = .ok (.iload_n 0, 1) := by decide +kernel
theorem dX10_isBlank_7 : decode cX10_isBlank 7 = .ok (.bipush 10, 2) := by decide +kernel
theorem dX10_isBlank_9 : decode cX10_isBlank 9 = .ok (.if_icmp .ne 7, 3) := by decide +kernel
theorem dX10_isBlank_12 : decode cX10_isBlank 12 = .ok (.iconst 1, 1) := by decide +kernel
theorem dX10_isBlank_13 : decode cX10_isBlank 13 = .ok (.goto 4, 3) := by decide +kernel
theorem dX10_isBlank_16 : decode cX10_isBlank 16 = .ok (.iconst 0, 1) := by decide +kernel
theorem dX10_isBlank_17 : decode cX10_isBlank 17 = .ok (.ireturn, 1) := by decide +kernel
theorem dX10_isDigit_0 : decode cX10_isDigit 0 = .ok (.iload_n 0, 1) := by decide +kernel
theorem dX10_isDigit_1 : decode cX10_isDigit 1 = .ok (.bipush 48, 2) := by decide +kernel
theorem dX10_isDigit_3 : decode cX10_isDigit 3 = .ok (.if_icmp .lt 13, 3) := by decide +kernel
theorem dX10_isDigit_6 : decode cX10_isDigit 6 = .ok (.iload_n 0, 1) := by decide +kernel
theorem dX10_isDigit_7 : decode cX10_isDigit 7 = .ok (.bipush 57, 2) := by decide +kernel
theorem dX10_isDigit_9 : decode cX10_isDigit 9 = .ok (.if_icmp .gt 7, 3) := by decide +kernel
theorem dX10_isDigit_12 : decode cX10_isDigit 12 = .ok (.iconst 1, 1) := by decide +kernel
theorem dX10_isDigit_13 : decode cX10_isDigit 13 = .ok (.goto 4, 3) := by decide +kernel
theorem dX10_isDigit_16 : decode cX10_isDigit 16 = .ok (.iconst 0, 1) := by decide +kernel
theorem dX10_isDigit_17 : decode cX10_isDigit 17 = .ok (.ireturn, 1) := by decide +kernel
theorem dX10_isLetter_0 : decode cX10_isLetter 0 = .ok (.iload_n 0, 1) := by decide +kernel
theorem dX10_isLetter_1 : decode cX10_isLetter 1 = .ok (.bipush 97, 2) := by decide +kernel
theorem dX10_isLetter_3 : decode cX10_isLetter 3 = .ok (.if_icmp .lt 13, 3) := by decide +kernel
theorem dX10_isLetter_6 : decode cX10_isLetter 6 = .ok (.iload_n 0, 1) := by decide +kernel
theorem dX10_isLetter_7 : decode cX10_isLetter 7 = .ok (.bipush 122, 2) := by decide +kernel
theorem dX10_isLetter_9 : decode cX10_isLetter 9 = .ok (.if_icmp .gt 7, 3) := by decide +kernel
theorem dX10_isLetter_12 : decode cX10_isLetter 12 = .ok (.iconst 1, 1) := by decide +kernel
theorem dX10_isLetter_13 : decode cX10_isLetter 13 = .ok (.goto 4, 3) := by decide +kernel
theorem dX10_isLetter_16 : decode cX10_isLetter 16 = .ok (.iconst 0, 1) := by decide +kernel
theorem dX10_isLetter_17 : decode cX10_isLetter 17 = .ok (.ireturn, 1) := by decide +kernel
theorem dX11_init_0 : decode cX11_init 0 = .ok (.aload_n 0, 1) := by decide +kernel
theorem dX11_init_1 : decode cX11_init 1 = .ok (.invokespecial 1, 3) := by decide +kernel
theorem dX11_init_4 : decode cX11_init 4 = .ok (.aload_n 0, 1) := by decide +kernel
theorem dX11_init_5 : decode cX11_init 5 = .ok (.new 7, 3) := by decide +kernel
theorem dX11_init_8 : decode cX11_init 8 = .ok (.dup, 1) := by decide +kernel
theorem dX11_init_9 : decode cX11_init 9 = .ok (.invokespecial 9, 3) := by decide +kernel
theorem dX11_init_12 : decode cX11_init 12 = .ok (.putfield 10, 3) := by decide +kernel
theorem dX11_init_15 : decode cX11_init 15 = .ok (.aload_n 0, 1) := by decide +kernel
theorem dX11_init_16 : decode cX11_init 16 = .ok (.new 16, 3) := by decide +kernel
theorem dX11_init_19 : decode cX11_init 19 = .ok (.dup, 1) := by decide +kernel
theorem dX11_init_20 : decode cX11_init 20 = .ok (.invokespecial 18, 3) := by decide +kernel
theorem dX11_init_23 : decode cX11_init 23 = .ok (.putfield 19, 3) := by decide +kernel
theorem dX11_init_26 : decode cX11_init 26 = .ok (.aload_n 0, 1) := by decide +kernel
theorem dX11_init_27 : decode cX11_init 27 = .ok (.new 23, 3) := by decide +kernel
theorem dX11_init_30 : decode cX11_init 30 = .ok (.dup, 1) := by decide +kernel
theorem dX11_init_31 : decode cX11_init 31 = .ok (.invokespecial 25, 3) := by decide +kernel
theorem dX11_init_34 : decode cX11_init 34 = .ok (.putfield 26, 3) := by decide +kernel
theorem dX11_init_37 : decode cX11_init 37 = .ok (.aload_n 0, 1) := by decide +kernel
theorem dX11_init_38 : decode cX11_init 38 = .ok (.new 30, 3) := by decide +kernel
theorem dX11_init_41 : decode cX11_init 41 = .ok (.dup, 1) := by decide +kernel
theorem dX11_init_42 : decode cX11_init 42 = .ok (.invokespecial 32, 3) := by decide +kernel
theorem dX11_init_45 : decode cX11_init 45 = .ok (.putfield 33, 3) := by decide +kernel
theorem dX11_init_48 : decode cX11_init 48 = .ok (.aload_n 0, 1) := by decide +kernel
theorem dX11_init_49 : decode cX11_init 49 = .ok (.new 30, 3) := by decide +kernel
theorem dX11_init_52 : decode cX11_init 52 = .ok (.dup, 1) := by decide +kernel
theorem dX11_init_53 : decode cX11_init 53 = .ok (.invokespecial 32, 3) := by decide +kernel
theorem dX11_init_56 : decode cX11_init 56 = .ok (.putfield 37, 3) := by decide +kernel
theorem dX11_init_59 : decode cX11_init 59 = .ok (.aload_n 0, 1) := by decide +kernel
theorem dX11_init_60 : decode cX11_init 60 = .ok (.new 40, 3) := by decide +kernel
theorem dX11_init_63 : decode cX11_init 63 = .ok (.dup, 1) := by decide +kernel
theorem dX11_init_64 : decode cX11_init 64 = .ok (.invokespecial 42, 3) := by decide +kernel
theorem dX11_init_67 : decode cX11_init 67 = .ok (.putfield 43, 3) := by decide +kernel
theorem dX11_init_70 : decode cX11_init 70 = .ok (.aload_n 0, 1) := by decide +kernel
theorem dX11_init_71 : decode cX11_init 71 = .ok (.new 47, 3) := by decide +kernel
theorem dX11_init_74 : decode cX11_init 74 = .ok (.dup, 1) := by decide +kernel
theorem dX11_init_75 : decode cX11_init 75 = .ok (.invokespecial 49, 3) := by decide +kernel
theorem dX11_init_78 : decode cX11_init 78 = .ok (.putfield 50, 3) := by decide +kernel
theorem dX11_init_81 : decode cX11_init 81 = .ok (.aload_n 0, 1) := by decide +kernel
theorem dX11_init_82 : decode cX11_init 82 = .ok (.new 54, 3) := by decide +kernel
theorem dX11_init_85 : decode cX11_init 85 = .ok (.dup, 1) := by decide +kernel
theorem dX11_init_86 : decode cX11_init 86 = .ok (.invokespecial 56, 3) := by decide +kernel
theorem dX11_init_89 : decode cX11_init 89 = .ok (.putfield 57, 3) := by decide +kernel
theorem dX11_init_92 : decode cX11_init 92 = .ok (.aload_n 0, 1) := by decide +kernel
theorem dX11_init_93 : decode cX11_init 93 = .ok (.new 54, 3) := by decide +kernel
theorem dX11_init_96 : decode cX11_init 96 = .ok (.dup, 1) := by decide +kernel
theorem dX11_init_97 : decode cX11_init 97 = .ok (.invokespecial 56, 3) := by decide +kernel
theorem dX11_init_100 : decode cX11_init 100 = .ok (.putfield 61, 3) := by decide +kernel
theorem dX11_init_103 : decode cX11_init 103 = .ok (.return_, 1) := by decide +kernel
theorem dX11_feed_0 : decode cX11_feed 0 = .ok (.aload_n 0, 1) := by decide +kernel
theorem dX11_feed_1 : decode cX11_feed 1 = .ok (.getfield 10, 3) := by decide +kernel
theorem dX11_feed_4 : decode cX11_feed 4 = .ok (.getfield 64, 3) := by decide +kernel
theorem dX11_feed_7 : decode cX11_feed 7 = .ok (.bipush 20, 2) := by decide +kernel
theorem dX11_feed_9 : decode cX11_feed 9 = .ok (.iadd, 1) := by decide +kernel
theorem dX11_feed_10 : decode cX11_feed 10 = .ok (.sipush 1600, 3) := by decide +kernel
theorem dX11_feed_13 : decode cX11_feed 13 = .ok (.if_icmp .le 13, 3) := by decide +kernel
theorem dX11_feed_16 : decode cX11_feed 16 = .ok (.new 68, 3) := by decide +kernel
theorem dX11_feed_19 : decode cX11_feed 19 = .ok (.dup, 1) := by decide +kernel
theorem dX11_feed_20 : decode cX11_feed 20 = .ok (.ldc 70, 2) := by decide +kernel
theorem dX11_feed_22 : decode cX11_feed 22 = .ok (.invokespecial 72, 3) := by decide +kernel
theorem dX11_feed_25 : decode cX11_feed 25 = .ok (.athrow, 1) := by decide +kernel
theorem dX11_feed_26 : decode cX11_feed 26 = .ok (.aload_n 0, 1) := by decide +kernel
theorem dX11_feed_27 : decode cX11_feed 27 = .ok (.getfield 10, 3) := by decide +kernel
theorem dX11_feed_30 : decode cX11_feed 30 = .ok (.iload_n 1, 1) := by decide +kernel
theorem dX11_feed_31 : decode cX11_feed 31 = .ok (.invokevirtual 75, 3) := by decide +kernel
theorem dX11_feed_34 : decode cX11_feed 34 = .ok (.aload_n 0, 1) := by decide +kernel
theorem dX11_feed_35 : decode cX11_feed 35 = .ok (.getfield 10, 3) := by decide +kernel
theorem dX11_feed_38 : decode cX11_feed 38 = .ok (.iload_n 2, 1) := by decide +kernel
theorem dX11_feed_39 : decode cX11_feed 39 = .ok (.invokevirtual 75, 3) := by decide +kernel
theorem dX11_feed_42 : decode cX11_feed 42 = .ok (.aload_n 0, 1) := by decide +kernel
theorem dX11_feed_43 : decode cX11_feed 43 = .ok (.getfield 10, 3) := by decide +kernel
theorem dX11_feed_46 : decode cX11_feed 46 = .ok (.iload_n 3, 1) := by decide +kernel
theorem dX11_feed_47 : decode cX11_feed 47 = .ok (.invokevirtual 75, 3) := by decide +kernel
theorem dX11_feed_50 : decode cX11_feed 50 = .ok (.aload_n 0, 1) := by decide +kernel
theorem dX11_feed_51 : decode cX11_feed 51 = .ok (.getfield 10, 3) := by decide +kernel
theorem dX11_feed_54 : decode cX11_feed 54 = .ok (.iload 4, 2) := by decide +kernel
theorem dX11_feed_56 : decode cX11_feed 56 = .ok (.invokevirtual 75, 3) := by decide +kernel
theorem dX11_feed_59 : decode cX11_feed 59 = .ok (.aload_n 0, 1) := by decide +kernel
theorem dX11_feed_60 : decode cX11_feed 60 = .ok (.getfield 10, 3) := by decide +kernel
theorem dX11_feed_63 : decode cX11_feed 63 = .ok (.iload 5, 2) := by decide +kernel
theorem dX11_feed_65 : decode cX11_feed 65 = .ok (.invokevirtual 75, 3) := by decide +kernel
theorem dX11_feed_68 : decode cX11_feed 68 = .ok (.aload_n 0, 1) := by decide +kernel
theorem dX11_feed_69 : decode cX11_feed 69 = .ok (.getfield 10, 3) := by decide +kernel
theorem dX11_feed_72 : decode cX11_feed 72 = .ok (.getfield 64, 3) := by decide +kernel
theorem dX11_feed_75 : decode cX11_feed 75 = .ok (.ireturn, 1) := by decide +kernel
theorem dX11_trim_0 : decode cX11_trim 0 = .ok (.iload_n 1, 1) := by decide +kernel
theorem dX11_trim_1 : decode cX11_trim 1 = .ok (.ifCond .lt 14, 3) := by decide +kernel
theorem dX11_trim_4 : decode cX11_trim 4 = .ok (.iload_n 1, 1) := by decide +kernel
theorem dX11_trim_5 : decode cX11_trim 5 = .ok (.aload_n 0, 1) := by decide +kernel
theorem dX11_trim_6 : decode cX11_trim 6 = .ok (.getfield 10, 3) := by decide +kernel
theorem dX11_trim_9 : decode cX11_trim 9 = .ok (.getfield 64, 3) := by decide +kernel
theorem dX11_trim_12 : decode cX11_trim 12 = .ok (.if_icmp .le 13, 3) := by decide +kernel
theorem dX11_trim_15 : decode cX11_trim 15 = .ok (.new 79, 3) := by decide +kernel
theorem dX11_trim_18 : decode cX11_trim 18 = .ok (.dup, 1) := by decide +kernel
theorem dX11_trim_19 : decode cX11_trim 19 = .ok (.ldc 81, 2) := by decide +kernel
theorem dX11_trim_21 : decode cX11_trim 21 = .ok (.invokespecial 83, 3) := by decide +kernel
theorem dX11_trim_24 : decode cX11_trim 24 = .ok (.athrow, 1) := by decide +kernel
theorem dX11_trim_25 : decode cX11_trim 25 = .ok (.aload_n 0, 1) := by decide +kernel
theorem dX11_trim_26 : decode cX11_trim 26 = .ok (.getfield 10, 3) := by decide +kernel
theorem dX11_trim_29 : decode cX11_trim 29 = .ok (.iload_n 1, 1) := by decide +kernel
theorem dX11_trim_30 : decode cX11_trim 30 = .ok (.putfield 64, 3) := by decide +kernel
theorem dX11_trim_33 : decode cX11_trim 33 = .ok (.iload_n 1, 1) := by decide +kernel
theorem dX11_trim_34 : decode cX11_trim 34 = .ok (.ireturn, 1) := by decide +kernel
theorem dX11_compile_0 : decode cX11_compile 0 = .ok (.aload_n 0, 1) := by decide +kernel
theorem dX11_compile_1 : decode cX11_compile 1 = .ok (.getfield 19, 3) := by decide +kernel
theorem dX11_compile_4 : decode cX11_compile 4 = .ok (.aload_n 0, 1) := by decide +kernel
theorem dX11_compile_5 : decode cX11_compile 5 = .ok (.getfield 61, 3) := by decide +kernel
theorem dX11_compile_8 : decode cX11_compile 8 = .ok (.aload_n 0, 1) := by decide +kernel
theorem dX11_compile_9 : decode cX11_compile 9 = .ok (.getfield 10, 3) := by decide +kernel
theorem dX11_compile_12 : decode cX11_compile 12 = .ok (.invokevirtual 84, 3) := by decide +kernel
theorem dX11_compile_15 : decode cX11_compile 15 = .ok (.ifCond .eq 7, 3) := by decide +kernel
theorem dX11_compile_18 : decode cX11_compile 18 = .ok (.aload_n 0, 1) := by decide +kernel
theorem dX11_compile_19 : decode cX11_compile 19 = .ok (.invokevirtual 88, 3) := by decide +kernel
theorem dX11_compile_22 : decode cX11_compile 22 = .ok (.aload_n 0, 1) := by decide +kernel
theorem dX11_compile_23 : decode cX11_compile 23 = .ok (.getfield 10, 3) := by decide +kernel
theorem dX11_compile_26 : decode cX11_compile 26 = .ok (.iconst 0, 1) := by decide +kernel
theorem dX11_compile_27 : decode cX11_compile 27 = .ok (.putfield 64, 3) := by decide +kernel
theorem dX11_compile_30 : decode cX11_compile 30 = .ok (.aload_n 0, 1) := by decide +kernel
theorem dX11_compile_31 : decode cX11_compile 31 = .ok (.getfield 19, 3) := by decide +kernel
theorem dX11_compile_34 : decode cX11_compile 34 = .ok (.getfield 91, 3) := by decide +kernel
theorem dX11_compile_37 : decode cX11_compile 37 = .ok (.ireturn, 1) := by decide +kernel
theorem dX11_count_0 : decode cX11_count 0 = .ok (.iload_n 1, 1) := by decide +kernel
theorem dX11_count_1 : decode cX11_count 1 = .ok (.tableswitch 147 0 10 #[59, 67, 75, 83, 91, 99, 107, 115, 123, 131, 139], 59) := by decide +kernel
theorem dX11_count_60 : decode cX11_count 60 = .ok (.aload_n 0, 1) := by decide +kernel
theorem dX11_count_61 : decode cX11_count 61 = .ok (.getfield 57, 3) := by decide +kernel
theorem dX11_count_64 : decode cX11_count 64 = .ok (.getfield 97, 3) := by decide +kernel
theorem dX11_count_67 : decode cX11_count 67 = .ok (.ireturn, 1) := by decide +kernel
theorem dX11_count_68 : decode cX11_count 68 = .ok (.aload_n 0, 1) := by decide +kernel
theorem dX11_count_69 : decode cX11_count 69 = .ok (.getfield 57, 3) := by decide +kernel
theorem dX11_count_72 : decode cX11_count 72 = .ok (.getfield 100, 3) := by decide +kernel
theorem dX11_count_75 : decode cX11_count 75 = .ok (.ireturn, 1) := by decide +kernel
theorem dX11_count_76 : decode cX11_count 76 = .ok (.aload_n 0, 1) := by decide +kernel
theorem dX11_count_77 : decode cX11_count 77 = .ok (.getfield 57, 3) := by decide +kernel
theorem dX11_count_80 : decode cX11_count 80 = .ok (.getfield 103, 3) := by decide +kernel
theorem dX11_count_83 : decode cX11_count 83 = .ok (.ireturn, 1) := by decide +kernel
theorem dX11_count_84 : decode cX11_count 84 = .ok (.aload_n 0, 1) := by decide +kernel
theorem dX11_count_85 : decode cX11_count 85 = .ok (.getfield 57, 3) := by decide +kernel
theorem dX11_count_88 : decode cX11_count 88 = .ok (.getfield 106, 3) := by decide +kernel
theorem dX11_count_91 : decode cX11_count 91 = .ok (.ireturn, 1) := by decide +kernel
theorem dX11_count_92 : decode cX11_count 92 = .ok (.aload_n 0, 1) := by decide +kernel
theorem dX11_count_93 : decode cX11_count 93 = .ok (.getfield 57, 3) := by decide +kernel
theorem dX11_count_96 : decode cX11_count 96 = .ok (.invokevirtual 109, 3) := by decide +kernel
theorem dX11_count_99 : decode cX11_count 99 = .ok (.ireturn, 1) := by decide +kernel
theorem dX11_count_100 : decode cX11_count 100 = .ok (.aload_n 0, 1) := by decide +kernel
theorem dX11_count_101 : decode cX11_count 101 = .ok (.getfield 57, 3) := by decide +kernel
theorem dX11_count_104 : decode cX11_count 104 = .ok (.invokevirtual 113, 3) := by decide +kernel
theorem dX11_count_107 : decode cX11_count 107 = .ok (.ireturn, 1) := by decide +kernel
theorem dX11_count_108 : decode cX11_count 108 = .ok (.aload_n 0, 1) := by decide +kernel
theorem dX11_count_109 : decode cX11_count 109 = .ok (.getfield 57, 3) := by decide +kernel
theorem dX11_count_112 : decode cX11_count 112 = .ok (.invokevirtual 116, 3) := by decide +kernel
theorem dX11_count_115 : decode cX11_count 115 = .ok (.ireturn, 1) := by decide +kernel
theorem dX11_count_116 : decode cX11_count 116 = .ok (.aload_n 0, 1) := by decide +kernel
theorem dX11_count_117 : decode cX11_count 117 = .ok (.getfield 33, 3) := by decide +kernel
theorem dX11_count_120 : decode cX11_count 120 = .ok (.getfield 119, 3) := by decide +kernel
theorem dX11_count_123 : decode cX11_count 123 = .ok (.ireturn, 1) := by decide +kernel
theorem dX11_count_124 : decode cX11_count 124 = .ok (.aload_n 0, 1) := by decide +kernel
theorem dX11_count_125 : decode cX11_count 125 = .ok (.getfield 33, 3) := by decide +kernel
theorem dX11_count_128 : decode cX11_count 128 = .ok (.getfield 122, 3) := by decide +kernel
theorem dX11_count_131 : decode cX11_count 131 = .ok (.ireturn, 1) := by decide +kernel
theorem dX11_count_132 : decode cX11_count 132 = .ok (.aload_n 0, 1) := by decide +kernel
theorem dX11_count_133 : decode cX11_count 133 = .ok (.getfield 10, 3) := by decide +kernel
theorem dX11_count_136 : decode cX11_count 136 = .ok (.getfield 64, 3) := by decide +kernel
theorem dX11_count_139 : decode cX11_count 139 = .ok (.ireturn, 1) := by decide +kernel
theorem dX11_count_140 : decode cX11_count 140 = .ok (.aload_n 0, 1) := by decide +kernel
theorem dX11_count_141 : decode cX11_count 141 = .ok (.getfield 26, 3) := by decide +kernel
theorem dX11_count_144 : decode cX11_count 144 = .ok (.getfield 125, 3) := by decide +kernel
theorem dX11_count_147 : decode cX11_count 147 = .ok (.ireturn, 1) := by decide +kernel
theorem dX11_count_148 : decode cX11_count 148 = .ok (.new 126, 3) := by decide +kernel
theorem dX11_count_151 : decode cX11_count 151 = .ok (.dup, 1) := by decide +kernel
theorem dX11_count_152 : decode cX11_count 152 = .ok (.ldc 128, 2) := by decide +kernel
theorem dX11_count_154 : decode cX11_count 154 = .ok (.invokespecial 130, 3) := by decide +kernel
theorem dX11_count_157 : decode cX11_count 157 = .ok (.athrow, 1) := by decide +kernel
theorem dX11_rule_0 : decode cX11_rule 0 = .ok (.aload_n 0, 1) := by decide +kernel
theorem dX11_rule_1 : decode cX11_rule 1 = .ok (.iload_n 1, 1) := by decide +kernel
theorem dX11_rule_2 : decode cX11_rule 2 = .ok (.invokevirtual 131, 3) := by decide +kernel
theorem dX11_rule_5 : decode cX11_rule 5 = .ok (.aload_n 0, 1) := by decide +kernel
theorem dX11_rule_6 : decode cX11_rule 6 = .ok (.getfield 57, 3) := by decide +kernel
theorem dX11_rule_9 : decode cX11_rule 9 = .ok (.getfield 134, 3) := by decide +kernel
theorem dX11_rule_12 : decode cX11_rule 12 = .ok (.iload_n 1, 1) := by decide +kernel
theorem dX11_rule_13 : decode cX11_rule 13 = .ok (.aaload, 1) := by decide +kernel
theorem dX11_rule_14 : decode cX11_rule 14 = .ok (.astore_n 3, 1) := by decide +kernel
theorem dX11_rule_15 : decode cX11_rule 15 = .ok (.iload_n 2, 1) := by decide +kernel
theorem dX11_rule_16 : decode cX11_rule 16 = .ok (.tableswitch 114 0 9 #[56, 64, 69, 74, 79, 79, 79, 79, 79, 87], 56) := by decide +kernel
theorem dX11_rule_72 : decode cX11_rule 72 = .ok (.aload_n 3, 1) := by decide +kernel
theorem dX11_rule_73 : decode cX11_rule 73 = .ok (.getfield 138, 3) := by decide +kernel
theorem dX11_rule_76 : decode cX11_rule 76 = .ok (.getfield 144, 3) := by decide +kernel
theorem dX11_rule_79 : decode cX11_rule 79 = .ok (.ireturn, 1) := by decide +kernel
theorem dX11_rule_80 : decode cX11_rule 80 = .ok (.aload_n 3, 1) := by decide +kernel
theorem dX11_rule_81 : decode cX11_rule 81 = .ok (.getfield 149, 3) := by decide +kernel
theorem dX11_rule_84 : decode cX11_rule 84 = .ok (.ireturn, 1) := by decide +kernel
theorem dX11_rule_85 : decode cX11_rule 85 = .ok (.aload_n 3, 1) := by decide +kernel
theorem dX11_rule_86 : decode cX11_rule 86 = .ok (.getfield 150, 3) := by decide +kernel
theorem dX11_rule_89 : decode cX11_rule 89 = .ok (.ireturn, 1) := by decide +kernel
theorem dX11_rule_90 : decode cX11_rule 90 = .ok (.aload_n 3, 1) := by decide +kernel
theorem dX11_rule_91 : decode cX11_rule 91 = .ok (.getfield 153, 3) := by decide +kernel
theorem dX11_rule_94 : decode cX11_rule 94 = .ok (.ireturn, 1) := by decide +kernel
theorem dX11_rule_95 : decode cX11_rule 95 = .ok (.aload_n 3, 1) := by decide +kernel
theorem dX11_rule_96 : decode cX11_rule 96 = .ok (.iload_n 2, 1) := by decide +kernel
theorem dX11_rule_97 : decode cX11_rule 97 = .ok (.iconst 4, 1) := by decide +kernel
theorem dX11_rule_98 : decode cX11_rule 98 = .ok (.isub, 1) := by decide +kernel
theorem dX11_rule_99 : decode cX11_rule 99 = .ok (.invokevirtual 156, 3) := by decide +kernel
theorem dX11_rule_102 : decode cX11_rule 102 = .ok (.ireturn, 1) := by decide +kernel
theorem dX11_rule_103 : decode cX11_rule 103 = .ok (.aload_n 3, 1) := by decide +kernel
theorem dX11_rule_104 : decode cX11_rule 104 = .ok (.aload_n 0, 1) := by decide +kernel
theorem dX11_rule_105 : decode cX11_rule 105 = .ok (.getfield 57, 3) := by decide +kernel
theorem dX11_rule_108 : decode cX11_rule 108 = .ok (.getfield 160, 3) := by decide +kernel
theorem dX11_rule_111 : decode cX11_rule 111 = .ok (.aload_n 0, 1) := by decide +kernel
theorem dX11_rule_112 : decode cX11_rule 112 = .ok (.getfield 57, 3) := by decide +kernel
theorem dX11_rule_115 : decode cX11_rule 115 = .ok (.getfield 103, 3) := by decide +kernel
theorem dX11_rule_118 : decode cX11_rule 118 = .ok (.invokevirtual 164, 3) := by decide +kernel
theorem dX11_rule_121 : decode cX11_rule 121 = .ok (.ifCond .eq 7, 3) := by decide +kernel
theorem dX11_rule_124 : decode cX11_rule 124 = .ok (.iconst 1, 1) := by decide +kernel
theorem dX11_rule_125 : decode cX11_rule 125 = .ok (.goto 4, 3) := by decide +kernel
theorem dX11_rule_128 : decode cX11_rule 128 = .ok (.iconst 0, 1) := by decide +kernel
theorem dX11_rule_129 : decode cX11_rule 129 = .ok (.ireturn, 1) := by decide +kernel
theorem dX11_rule_130 : decode cX11_rule 130 = .ok (.new 126, 3) := by decide +kernel
theorem dX11_rule_133 : decode cX11_rule 133 = .ok (.dup, 1) := by decide +kernel
theorem dX11_rule_134 : decode cX11_rule 134 = .ok (.ldc 168, 2) := by decide +kernel
theorem dX11_rule_136 : decode cX11_rule 136 = .ok (.invokespecial 130, 3) := by decide +kernel
theorem dX11_rule_139 : decode cX11_rule 139 = .ok (.athrow, 1) := by decide +kernel
theorem dX11_drop_0 : decode cX11_drop 0 = .ok (.aload_n 0, 1) := by decide +kernel
theorem dX11_drop_1 : decode cX11_drop 1 = .ok (.iload_n 1, 1) := by decide +kernel
theorem dX11_drop_2 : decode cX11_drop 2 = .ok (.invokevirtual 131, 3) := by decide +kernel
theorem dX11_drop_5 : decode cX11_drop 5 = .ok (.aload_n 0, 1) := by decide +kernel
theorem dX11_drop_6 : decode cX11_drop 6 = .ok (.getfield 57, 3) := by decide +kernel
theorem dX11_drop_9 : decode cX11_drop 9 = .ok (.iload_n 1, 1) := by decide +kernel
theorem dX11_drop_10 : decode cX11_drop 10 = .ok (.invokevirtual 170, 3) := by decide +kernel
theorem dX11_drop_13 : decode cX11_drop 13 = .ok (.aload_n 0, 1) := by decide +kernel
theorem dX11_drop_14 : decode cX11_drop 14 = .ok (.getfield 57, 3) := by decide +kernel
theorem dX11_drop_17 : decode cX11_drop 17 = .ok (.getfield 106, 3) := by decide +kernel
theorem dX11_drop_20 : decode cX11_drop 20 = .ok (.ireturn, 1) := by decide +kernel
theorem dX11_write_0 : decode cX11_write 0 = .ok (.aload_n 0, 1) := by decide +kernel
theorem dX11_write_1 : decode cX11_write 1 = .ok (.invokevirtual 173, 3) := by decide +kernel
theorem dX11_write_4 : decode cX11_write 4 = .ok (.aload_n 0, 1) := by decide +kernel
theorem dX11_write_5 : decode cX11_write 5 = .ok (.getfield 26, 3) := by decide +kernel
theorem dX11_write_8 : decode cX11_write 8 = .ok (.aload_n 0, 1) := by decide +kernel
theorem dX11_write_9 : decode cX11_write 9 = .ok (.getfield 57, 3) := by decide +kernel
theorem dX11_write_12 : decode cX11_write 12 = .ok (.invokevirtual 176, 3) := by decide +kernel
theorem dX11_write_15 : decode cX11_write 15 = .ok (.aload_n 0, 1) := by decide +kernel
theorem dX11_write_16 : decode cX11_write 16 = .ok (.getfield 26, 3) := by decide +kernel
theorem dX11_write_19 : decode cX11_write 19 = .ok (.getfield 125, 3) := by decide +kernel
theorem dX11_write_22 : decode cX11_write 22 = .ok (.ireturn, 1) := by decide +kernel
theorem dX11_byteAt_0 : decode cX11_byteAt 0 = .ok (.iload_n 1, 1) := by decide +kernel
theorem dX11_byteAt_1 : decode cX11_byteAt 1 = .ok (.ifCond .lt 14, 3) := by decide +kernel
theorem dX11_byteAt_4 : decode cX11_byteAt 4 = .ok (.iload_n 1, 1) := by decide +kernel
theorem dX11_byteAt_5 : decode cX11_byteAt 5 = .ok (.aload_n 0, 1) := by decide +kernel
theorem dX11_byteAt_6 : decode cX11_byteAt 6 = .ok (.getfield 26, 3) := by decide +kernel
theorem dX11_byteAt_9 : decode cX11_byteAt 9 = .ok (.getfield 125, 3) := by decide +kernel
theorem dX11_byteAt_12 : decode cX11_byteAt 12 = .ok (.if_icmp .lt 13, 3) := by decide +kernel
theorem dX11_byteAt_15 : decode cX11_byteAt 15 = .ok (.new 126, 3) := by decide +kernel
theorem dX11_byteAt_18 : decode cX11_byteAt 18 = .ok (.dup, 1) := by decide +kernel
theorem dX11_byteAt_19 : decode cX11_byteAt 19 = .ok (.ldc 180, 2) := by decide +kernel
theorem dX11_byteAt_21 : decode cX11_byteAt 21 = .ok (.invokespecial 130, 3) := by decide +kernel
theorem dX11_byteAt_24 : decode cX11_byteAt 24 = .ok (.athrow, 1) := by decide +kernel
theorem dX11_byteAt_25 : decode cX11_byteAt 25 = .ok (.aload_n 0, 1) := by decide +kernel
theorem dX11_byteAt_26 : decode cX11_byteAt 26 = .ok (.getfield 26, 3) := by decide +kernel
theorem dX11_byteAt_29 : decode cX11_byteAt 29 = .ok (.getfield 182, 3) := by decide +kernel
theorem dX11_byteAt_32 : decode cX11_byteAt 32 = .ok (.iload_n 1, 1) := by decide +kernel
theorem dX11_byteAt_33 : decode cX11_byteAt 33 = .ok (.iaload, 1) := by decide +kernel
theorem dX11_byteAt_34 : decode cX11_byteAt 34 = .ok (.ireturn, 1) := by decide +kernel
theorem dX11_put_0 : decode cX11_put 0 = .ok (.aload_n 0, 1) := by decide +kernel
theorem dX11_put_1 : decode cX11_put 1 = .ok (.iload_n 1, 1) := by decide +kernel
theorem dX11_put_2 : decode cX11_put 2 = .ok (.invokevirtual 185, 3) := by decide +kernel
theorem dX11_put_5 : decode cX11_put 5 = .ok (.iload_n 2, 1) := by decide +kernel
theorem dX11_put_6 : decode cX11_put 6 = .ok (.ifCond .lt 14, 3) := by decide +kernel
theorem dX11_put_9 : decode cX11_put 9 = .ok (.iload_n 2, 1) := by decide +kernel
theorem dX11_put_10 : decode cX11_put 10 = .ok (.aload_n 0, 1) := by decide +kernel
theorem dX11_put_11 : decode cX11_put 11 = .ok (.getfield 57, 3) := by decide +kernel
theorem dX11_put_14 : decode cX11_put 14 = .ok (.getfield 103, 3) := by decide +kernel
theorem dX11_put_17 : decode cX11_put 17 = .ok (.if_icmp .le 13, 3) := by decide +kernel
theorem dX11_put_20 : decode cX11_put 20 = .ok (.new 79, 3) := by decide +kernel
theorem dX11_put_23 : decode cX11_put 23 = .ok (.dup, 1) := by decide +kernel
theorem dX11_put_24 : decode cX11_put 24 = .ok (.ldc 188, 2) := by decide +kernel
theorem dX11_put_26 : decode cX11_put 26 = .ok (.invokespecial 83, 3) := by decide +kernel
theorem dX11_put_29 : decode cX11_put 29 = .ok (.athrow, 1) := by decide +kernel
theorem dX11_put_30 : decode cX11_put 30 = .ok (.aload_n 0, 1) := by decide +kernel
theorem dX11_put_31 : decode cX11_put 31 = .ok (.getfield 57, 3) := by decide +kernel
theorem dX11_put_34 : decode cX11_put 34 = .ok (.getfield 160, 3) := by decide +kernel
theorem dX11_put_37 : decode cX11_put 37 = .ok (.iload_n 1, 1) := by decide +kernel
theorem dX11_put_38 : decode cX11_put 38 = .ok (.iaload, 1) := by decide +kernel
theorem dX11_put_39 : decode cX11_put 39 = .ok (.istore_n 3, 1) := by decide +kernel
theorem dX11_put_40 : decode cX11_put 40 = .ok (.aload_n 0, 1) := by decide +kernel
theorem dX11_put_41 : decode cX11_put 41 = .ok (.getfield 57, 3) := by decide +kernel
theorem dX11_put_44 : decode cX11_put 44 = .ok (.getfield 160, 3) := by decide +kernel
theorem dX11_put_47 : decode cX11_put 47 = .ok (.iload_n 1, 1) := by decide +kernel
theorem dX11_put_48 : decode cX11_put 48 = .ok (.iload_n 2, 1) := by decide +kernel
theorem dX11_put_49 : decode cX11_put 49 = .ok (.iastore, 1) := by decide +kernel
theorem dX11_put_50 : decode cX11_put 50 = .ok (.iload_n 3, 1) := by decide +kernel
theorem dX11_put_51 : decode cX11_put 51 = .ok (.ireturn, 1) := by decide +kernel
theorem dX11_value_0 : decode cX11_value 0 = .ok (.aload_n 0, 1) := by decide +kernel
theorem dX11_value_1 : decode cX11_value 1 = .ok (.iload_n 1, 1) := by decide +kernel
theorem dX11_value_2 : decode cX11_value 2 = .ok (.invokevirtual 185, 3) := by decide +kernel
theorem dX11_value_5 : decode cX11_value 5 = .ok (.aload_n 0, 1) := by decide +kernel
theorem dX11_value_6 : decode cX11_value 6 = .ok (.getfield 57, 3) := by decide +kernel
theorem dX11_value_9 : decode cX11_value 9 = .ok (.getfield 160, 3) := by decide +kernel
theorem dX11_value_12 : decode cX11_value 12 = .ok (.iload_n 1, 1) := by decide +kernel
theorem dX11_value_13 : decode cX11_value 13 = .ok (.iaload, 1) := by decide +kernel
theorem dX11_value_14 : decode cX11_value 14 = .ok (.ireturn, 1) := by decide +kernel
theorem dX11_search_0 : decode cX11_search 0 = .ok (.iload_n 1, 1) := by decide +kernel
theorem dX11_search_1 : decode cX11_search 1 = .ok (.iconst 1, 1) := by decide +kernel
theorem dX11_search_2 : decode cX11_search 2 = .ok (.if_icmp .lt 9, 3) := by decide +kernel
theorem dX11_search_5 : decode cX11_search 5 = .ok (.iload_n 1, 1) := by decide +kernel
theorem dX11_search_6 : decode cX11_search 6 = .ok (.bipush 30, 2) := by decide +kernel
theorem dX11_search_8 : decode cX11_search 8 = .ok (.if_icmp .le 13, 3) := by decide +kernel
theorem dX11_search_11 : decode cX11_search 11 = .ok (.new 79, 3) := by decide +kernel
theorem dX11_search_14 : decode cX11_search 14 = .ok (.dup, 1) := by decide +kernel
theorem dX11_search_15 : decode cX11_search 15 = .ok (.ldc 193, 2) := by decide +kernel
theorem dX11_search_17 : decode cX11_search 17 = .ok (.invokespecial 83, 3) := by decide +kernel
theorem dX11_search_20 : decode cX11_search 20 = .ok (.athrow, 1) := by decide +kernel
theorem dX11_search_21 : decode cX11_search 21 = .ok (.aload_n 0, 1) := by decide +kernel
theorem dX11_search_22 : decode cX11_search 22 = .ok (.invokevirtual 173, 3) := by decide +kernel
theorem dX11_search_25 : decode cX11_search 25 = .ok (.aload_n 0, 1) := by decide +kernel
theorem dX11_search_26 : decode cX11_search 26 = .ok (.getfield 33, 3) := by decide +kernel
theorem dX11_search_29 : decode cX11_search 29 = .ok (.aload_n 0, 1) := by decide +kernel
theorem dX11_search_30 : decode cX11_search 30 = .ok (.getfield 57, 3) := by decide +kernel
theorem dX11_search_33 : decode cX11_search 33 = .ok (.iload_n 1, 1) := by decide +kernel
theorem dX11_search_34 : decode cX11_search 34 = .ok (.invokevirtual 195, 3) := by decide +kernel
theorem dX11_search_37 : decode cX11_search 37 = .ok (.ireturn, 1) := by decide +kernel
theorem dX11_solution_0 : decode cX11_solution 0 = .ok (.iload_n 1, 1) := by decide +kernel
theorem dX11_solution_1 : decode cX11_solution 1 = .ok (.ifCond .lt 14, 3) := by decide +kernel
theorem dX11_solution_4 : decode cX11_solution 4 = .ok (.iload_n 1, 1) := by decide +kernel
theorem dX11_solution_5 : decode cX11_solution 5 = .ok (.aload_n 0, 1) := by decide +kernel
theorem dX11_solution_6 : decode cX11_solution 6 = .ok (.getfield 33, 3) := by decide +kernel
theorem dX11_solution_9 : decode cX11_solution 9 = .ok (.getfield 119, 3) := by decide +kernel
theorem dX11_solution_12 : decode cX11_solution 12 = .ok (.if_icmp .lt 13, 3) := by decide +kernel
theorem dX11_solution_15 : decode cX11_solution 15 = .ok (.new 126, 3) := by decide +kernel
theorem dX11_solution_18 : decode cX11_solution 18 = .ok (.dup, 1) := by decide +kernel
theorem dX11_solution_19 : decode cX11_solution 19 = .ok (.ldc 199, 2) := by decide +kernel
theorem dX11_solution_21 : decode cX11_solution 21 = .ok (.invokespecial 130, 3) := by decide +kernel
theorem dX11_solution_24 : decode cX11_solution 24 = .ok (.athrow, 1) := by decide +kernel
theorem dX11_solution_25 : decode cX11_solution 25 = .ok (.aload_n 0, 1) := by decide +kernel
theorem dX11_solution_26 : decode cX11_solution 26 = .ok (.iload_n 2, 1) := by decide +kernel
theorem dX11_solution_27 : decode cX11_solution 27 = .ok (.invokevirtual 185, 3) := by decide +kernel
theorem dX11_solution_30 : decode cX11_solution 30 = .ok (.aload_n 0, 1) := by decide +kernel
theorem dX11_solution_31 : decode cX11_solution 31 = .ok (.getfield 33, 3) := by decide +kernel
theorem dX11_solution_34 : decode cX11_solution 34 = .ok (.getfield 201, 3) := by decide +kernel
theorem dX11_solution_37 : decode cX11_solution 37 = .ok (.iload_n 1, 1) := by decide +kernel
theorem dX11_solution_38 : decode cX11_solution 38 = .ok (.aaload, 1) := by decide +kernel
theorem dX11_solution_39 : decode cX11_solution 39 = .ok (.iload_n 2, 1) := by decide +kernel
theorem dX11_solution_40 : decode cX11_solution 40 = .ok (.iaload, 1) := by decide +kernel
theorem dX11_solution_41 : decode cX11_solution 41 = .ok (.ireturn, 1) := by decide +kernel
theorem dX11_isNeeded_0 : decode cX11_isNeeded 0 = .ok (.aload_n 0, 1) := by decide +kernel
theorem dX11_isNeeded_1 : decode cX11_isNeeded 1 = .ok (.iload_n 1, 1) := by decide +kernel
theorem dX11_isNeeded_2 : decode cX11_isNeeded 2 = .ok (.invokevirtual 131, 3) := by decide +kernel
theorem dX11_isNeeded_5 : decode cX11_isNeeded 5 = .ok (.aload_n 0, 1) := by decide +kernel
theorem dX11_isNeeded_6 : decode cX11_isNeeded 6 = .ok (.getfield 37, 3) := by decide +kernel
theorem dX11_isNeeded_9 : decode cX11_isNeeded 9 = .ok (.aload_n 0, 1) := by decide +kernel
theorem dX11_isNeeded_10 : decode cX11_isNeeded 10 = .ok (.getfield 57, 3) := by decide +kernel
theorem dX11_isNeeded_13 : decode cX11_isNeeded 13 = .ok (.iconst (-1), 1) := by decide +kernel
theorem dX11_isNeeded_14 : decode cX11_isNeeded 14 = .ok (.invokevirtual 205, 3) := by decide +kernel
theorem dX11_isNeeded_17 : decode cX11_isNeeded 17 = .ok (.ifCond .eq 18, 3) := by decide +kernel
theorem dX11_isNeeded_20 : decode cX11_isNeeded 20 = .ok (.aload_n 0, 1) := by decide +kernel
theorem dX11_isNeeded_21 : decode cX11_isNeeded 21 = .ok (.getfield 37, 3) := by decide +kernel
theorem dX11_isNeeded_24 : decode cX11_isNeeded 24 = .ok (.aload_n 0, 1) := by decide +kernel
theorem dX11_isNeeded_25 : decode cX11_isNeeded 25 = .ok (.getfield 57, 3) := by decide +kernel
theorem dX11_isNeeded_28 : decode cX11_isNeeded 28 = .ok (.iload_n 1, 1) := by decide +kernel
theorem dX11_isNeeded_29 : decode cX11_isNeeded 29 = .ok (.invokevirtual 205, 3) := by decide +kernel
theorem dX11_isNeeded_32 : decode cX11_isNeeded 32 = .ok (.ifCond .ne 7, 3) := by decide +kernel
theorem dX11_isNeeded_35 : decode cX11_isNeeded 35 = .ok (.iconst 1, 1) := by decide +kernel
theorem dX11_isNeeded_36 : decode cX11_isNeeded 36 = .ok (.goto 4, 3) := by decide +kernel
theorem dX11_isNeeded_39 : decode cX11_isNeeded 39 = .ok (.iconst 0, 1) := by decide +kernel
theorem dX11_isNeeded_40 : decode cX11_isNeeded 40 = .ok (.ireturn, 1) := by decide +kernel
theorem dX11_look_0 : decode cX11_look 0 = .ok (.aload_n 0, 1) := by decide +kernel
theorem dX11_look_1 : decode cX11_look 1 = .ok (.getfield 43, 3) := by decide +kernel
theorem dX11_look_4 : decode cX11_look 4 = .ok (.aload_n 0, 1) := by decide +kernel
theorem dX11_look_5 : decode cX11_look 5 = .ok (.getfield 57, 3) := by decide +kernel
theorem dX11_look_8 : decode cX11_look 8 = .ok (.invokevirtual 209, 3) := by decide +kernel
theorem dX11_look_11 : decode cX11_look 11 = .ok (.aload_n 0, 1) := by decide +kernel
theorem dX11_look_12 : decode cX11_look 12 = .ok (.getfield 43, 3) := by decide +kernel
theorem dX11_look_15 : decode cX11_look 15 = .ok (.aload_n 0, 1) := by decide +kernel
theorem dX11_look_16 : decode cX11_look 16 = .ok (.getfield 57, 3) := by decide +kernel
theorem dX11_look_19 : decode cX11_look 19 = .ok (.invokevirtual 212, 3) := by decide +kernel
theorem dX11_look_22 : decode cX11_look 22 = .ok (.ireturn, 1) := by decide +kernel
theorem dX11_possible_0 : decode cX11_possible 0 = .ok (.aload_n 0, 1) := by decide +kernel
theorem dX11_possible_1 : decode cX11_possible 1 = .ok (.iload_n 1, 1) := by decide +kernel
theorem dX11_possible_2 : decode cX11_possible 2 = .ok (.invokevirtual 185, 3) := by decide +kernel
theorem dX11_possible_5 : decode cX11_possible 5 = .ok (.aload_n 0, 1) := by decide +kernel
theorem dX11_possible_6 : decode cX11_possible 6 = .ok (.getfield 43, 3) := by decide +kernel
theorem dX11_possible_9 : decode cX11_possible 9 = .ok (.getfield 216, 3) := by decide +kernel
theorem dX11_possible_12 : decode cX11_possible 12 = .ok (.iload_n 1, 1) := by decide +kernel
theorem dX11_possible_13 : decode cX11_possible 13 = .ok (.iaload, 1) := by decide +kernel
theorem dX11_possible_14 : decode cX11_possible 14 = .ok (.ireturn, 1) := by decide +kernel
theorem dX11_hint_0 : decode cX11_hint 0 = .ok (.iload_n 1, 1) := by decide +kernel
theorem dX11_hint_1 : decode cX11_hint 1 = .ok (.ifCond .lt 8, 3) := by decide +kernel
theorem dX11_hint_4 : decode cX11_hint 4 = .ok (.iload_n 1, 1) := by decide +kernel
theorem dX11_hint_5 : decode cX11_hint 5 = .ok (.iconst 3, 1) := by decide +kernel
theorem dX11_hint_6 : decode cX11_hint 6 = .ok (.if_icmp .le 13, 3) := by decide +kernel
theorem dX11_hint_9 : decode cX11_hint 9 = .ok (.new 126, 3) := by decide +kernel
theorem dX11_hint_12 : decode cX11_hint 12 = .ok (.dup, 1) := by decide +kernel
theorem dX11_hint_13 : decode cX11_hint 13 = .ok (.ldc 219, 2) := by decide +kernel
theorem dX11_hint_15 : decode cX11_hint 15 = .ok (.invokespecial 130, 3) := by decide +kernel
theorem dX11_hint_18 : decode cX11_hint 18 = .ok (.athrow, 1) := by decide +kernel
theorem dX11_hint_19 : decode cX11_hint 19 = .ok (.aload_n 0, 1) := by decide +kernel
theorem dX11_hint_20 : decode cX11_hint 20 = .ok (.getfield 43, 3) := by decide +kernel
theorem dX11_hint_23 : decode cX11_hint 23 = .ok (.aload_n 0, 1) := by decide +kernel
theorem dX11_hint_24 : decode cX11_hint 24 = .ok (.getfield 57, 3) := by decide +kernel
theorem dX11_hint_27 : decode cX11_hint 27 = .ok (.invokevirtual 221, 3) := by decide +kernel
theorem dX11_hint_30 : decode cX11_hint 30 = .ok (.ifCond .ne 5, 3) := by decide +kernel
theorem dX11_hint_33 : decode cX11_hint 33 = .ok (.iconst (-1), 1) := by decide +kernel
theorem dX11_hint_34 : decode cX11_hint 34 = .ok (.ireturn, 1) := by decide +kernel
theorem dX11_hint_35 : decode cX11_hint 35 = .ok (.iload_n 1, 1) := by decide +kernel
theorem dX11_hint_36 : decode cX11_hint 36 = .ok (.tableswitch 52 0 2 #[28, 36, 44], 28) := by decide +kernel
theorem dX11_hint_64 : decode cX11_hint 64 = .ok (.aload_n 0, 1) := by decide +kernel
theorem dX11_hint_65 : decode cX11_hint 65 = .ok (.getfield 43, 3) := by decide +kernel
theorem dX11_hint_68 : decode cX11_hint 68 = .ok (.getfield 225, 3) := by decide +kernel
theorem dX11_hint_71 : decode cX11_hint 71 = .ok (.ireturn, 1) := by decide +kernel
theorem dX11_hint_72 : decode cX11_hint 72 = .ok (.aload_n 0, 1) := by decide +kernel
theorem dX11_hint_73 : decode cX11_hint 73 = .ok (.getfield 43, 3) := by decide +kernel
theorem dX11_hint_76 : decode cX11_hint 76 = .ok (.getfield 228, 3) := by decide +kernel
theorem dX11_hint_79 : decode cX11_hint 79 = .ok (.ireturn, 1) := by decide +kernel
theorem dX11_hint_80 : decode cX11_hint 80 = .ok (.aload_n 0, 1) := by decide +kernel
theorem dX11_hint_81 : decode cX11_hint 81 = .ok (.getfield 43, 3) := by decide +kernel
theorem dX11_hint_84 : decode cX11_hint 84 = .ok (.getfield 231, 3) := by decide +kernel
theorem dX11_hint_87 : decode cX11_hint 87 = .ok (.ireturn, 1) := by decide +kernel
theorem dX11_hint_88 : decode cX11_hint 88 = .ok (.aload_n 0, 1) := by decide +kernel
theorem dX11_hint_89 : decode cX11_hint 89 = .ok (.getfield 43, 3) := by decide +kernel
theorem dX11_hint_92 : decode cX11_hint 92 = .ok (.getfield 234, 3) := by decide +kernel
theorem dX11_hint_95 : decode cX11_hint 95 = .ok (.ireturn, 1) := by decide +kernel
theorem dX11_reason_0 : decode cX11_reason 0 = .ok (.aload_n 0, 1) := by decide +kernel
theorem dX11_reason_1 : decode cX11_reason 1 = .ok (.getfield 43, 3) := by decide +kernel
theorem dX11_reason_4 : decode cX11_reason 4 = .ok (.aload_n 0, 1) := by decide +kernel
theorem dX11_reason_5 : decode cX11_reason 5 = .ok (.getfield 57, 3) := by decide +kernel
theorem dX11_reason_8 : decode cX11_reason 8 = .ok (.invokevirtual 241, 3) := by decide +kernel
theorem dX11_reason_11 : decode cX11_reason 11 = .ok (.ireturn, 1) := by decide +kernel
theorem dX11_reasoned_0 : decode cX11_reasoned 0 = .ok (.iload_n 1, 1) := by decide +kernel
theorem dX11_reasoned_1 : decode cX11_reasoned 1 = .ok (.tableswitch 73 0 3 #[31, 39, 47, 60], 31) := by decide +kernel
theorem dX11_reasoned_32 : decode cX11_reasoned 32 = .ok (.aload_n 0, 1) := by decide +kernel
theorem dX11_reasoned_33 : decode cX11_reasoned 33 = .ok (.getfield 43, 3) := by decide +kernel
theorem dX11_reasoned_36 : decode cX11_reasoned 36 = .ok (.getfield 244, 3) := by decide +kernel
theorem dX11_reasoned_39 : decode cX11_reasoned 39 = .ok (.ireturn, 1) := by decide +kernel
theorem dX11_reasoned_40 : decode cX11_reasoned 40 = .ok (.aload_n 0, 1) := by decide +kernel
theorem dX11_reasoned_41 : decode cX11_reasoned 41 = .ok (.getfield 43, 3) := by decide +kernel
theorem dX11_reasoned_44 : decode cX11_reasoned 44 = .ok (.getfield 247, 3) := by decide +kernel
theorem dX11_reasoned_47 : decode cX11_reasoned 47 = .ok (.ireturn, 1) := by decide +kernel
theorem dX11_reasoned_48 : decode cX11_reasoned 48 = .ok (.aload_n 0, 1) := by decide +kernel
theorem dX11_reasoned_49 : decode cX11_reasoned 49 = .ok (.getfield 43, 3) := by decide +kernel
theorem dX11_reasoned_52 : decode cX11_reasoned 52 = .ok (.aload_n 0, 1) := by decide +kernel
theorem dX11_reasoned_53 : decode cX11_reasoned 53 = .ok (.getfield 57, 3) := by decide +kernel
theorem dX11_reasoned_56 : decode cX11_reasoned 56 = .ok (.iconst 1, 1) := by decide +kernel
theorem dX11_reasoned_57 : decode cX11_reasoned 57 = .ok (.invokevirtual 250, 3) := by decide +kernel
theorem dX11_reasoned_60 : decode cX11_reasoned 60 = .ok (.ireturn, 1) := by decide +kernel
theorem dX11_reasoned_61 : decode cX11_reasoned 61 = .ok (.aload_n 0, 1) := by decide +kernel
theorem dX11_reasoned_62 : decode cX11_reasoned 62 = .ok (.getfield 43, 3) := by decide +kernel
theorem dX11_reasoned_65 : decode cX11_reasoned 65 = .ok (.aload_n 0, 1) := by decide +kernel
theorem dX11_reasoned_66 : decode cX11_reasoned 66 = .ok (.getfield 57, 3) := by decide +kernel
theorem dX11_reasoned_69 : decode cX11_reasoned 69 = .ok (.iconst 0, 1) := by decide +kernel
theorem dX11_reasoned_70 : decode cX11_reasoned 70 = .ok (.invokevirtual 250, 3) := by decide +kernel
theorem dX11_reasoned_73 : decode cX11_reasoned 73 = .ok (.ireturn, 1) := by decide +kernel
theorem dX11_reasoned_74 : decode cX11_reasoned 74 = .ok (.new 126, 3) := by decide +kernel
theorem dX11_reasoned_77 : decode cX11_reasoned 77 = .ok (.dup, 1) := by decide +kernel
theorem dX11_reasoned_78 : decode cX11_reasoned 78 = .ok (.ldc 253, 2) := by decide +kernel
theorem dX11_reasoned_80 : decode cX11_reasoned 80 = .ok (.invokespecial 130, 3) := by decide +kernel
theorem dX11_reasoned_83 : decode cX11_reasoned 83 = .ok (.athrow, 1) := by decide +kernel
theorem dX11_make_0 : decode cX11_make 0 = .ok (.iload_n 1, 1) := by decide +kernel
theorem dX11_make_1 : decode cX11_make 1 = .ok (.ifCond .lt 9, 3) := by decide +kernel
theorem dX11_make_4 : decode cX11_make 4 = .ok (.iload_n 1, 1) := by decide +kernel
theorem dX11_make_5 : decode cX11_make 5 = .ok (.ldc 255, 2) := by decide +kernel
theorem dX11_make_7 : decode cX11_make 7 = .ok (.if_icmp .le 14, 3) := by decide +kernel
theorem dX11_make_10 : decode cX11_make 10 = .ok (.new 79, 3) := by decide +kernel
theorem dX11_make_13 : decode cX11_make 13 = .ok (.dup, 1) := by decide +kernel
theorem dX11_make_14 : decode cX11_make 14 = .ok (.ldc_w 256, 3) := by decide +kernel
theorem dX11_make_17 : decode cX11_make 17 = .ok (.invokespecial 83, 3) := by decide +kernel
theorem dX11_make_20 : decode cX11_make 20 = .ok (.athrow, 1) := by decide +kernel
theorem dX11_make_21 : decode cX11_make 21 = .ok (.aload_n 0, 1) := by decide +kernel
theorem dX11_make_22 : decode cX11_make 22 = .ok (.invokevirtual 173, 3) := by decide +kernel
theorem dX11_make_25 : decode cX11_make 25 = .ok (.aload_n 0, 1) := by decide +kernel
theorem dX11_make_26 : decode cX11_make 26 = .ok (.getfield 50, 3) := by decide +kernel
theorem dX11_make_29 : decode cX11_make 29 = .ok (.aload_n 0, 1) := by decide +kernel
theorem dX11_make_30 : decode cX11_make 30 = .ok (.getfield 61, 3) := by decide +kernel
theorem dX11_make_33 : decode cX11_make 33 = .ok (.aload_n 0, 1) := by decide +kernel
theorem dX11_make_34 : decode cX11_make 34 = .ok (.getfield 57, 3) := by decide +kernel
theorem dX11_make_37 : decode cX11_make 37 = .ok (.aload_n 0, 1) := by decide +kernel
theorem dX11_make_38 : decode cX11_make 38 = .ok (.getfield 37, 3) := by decide +kernel
theorem dX11_make_41 : decode cX11_make 41 = .ok (.iload_n 1, 1) := by decide +kernel
theorem dX11_make_42 : decode cX11_make 42 = .ok (.invokevirtual 258, 3) := by decide +kernel
theorem dX11_make_45 : decode cX11_make 45 = .ok (.ifCond .ne 5, 3) := by decide +kernel
theorem dX11_make_48 : decode cX11_make 48 = .ok (.iconst (-1), 1) := by decide +kernel
theorem dX11_make_49 : decode cX11_make 49 = .ok (.ireturn, 1) := by decide +kernel
theorem dX11_make_50 : decode cX11_make 50 = .ok (.aload_n 0, 1) := by decide +kernel
theorem dX11_make_51 : decode cX11_make 51 = .ok (.getfield 50, 3) := by decide +kernel
theorem dX11_make_54 : decode cX11_make 54 = .ok (.aload_n 0, 1) := by decide +kernel
theorem dX11_make_55 : decode cX11_make 55 = .ok (.getfield 61, 3) := by decide +kernel
theorem dX11_make_58 : decode cX11_make 58 = .ok (.aload_n 0, 1) := by decide +kernel
theorem dX11_make_59 : decode cX11_make 59 = .ok (.getfield 37, 3) := by decide +kernel
theorem dX11_make_62 : decode cX11_make 62 = .ok (.invokevirtual 262, 3) := by decide +kernel
theorem dX11_make_65 : decode cX11_make 65 = .ok (.aload_n 0, 1) := by decide +kernel
theorem dX11_make_66 : decode cX11_make 66 = .ok (.invokevirtual 88, 3) := by decide +kernel
theorem dX11_make_69 : decode cX11_make 69 = .ok (.aload_n 0, 1) := by decide +kernel
theorem dX11_make_70 : decode cX11_make 70 = .ok (.getfield 57, 3) := by decide +kernel
theorem dX11_make_73 : decode cX11_make 73 = .ok (.invokevirtual 109, 3) := by decide +kernel
theorem dX11_make_76 : decode cX11_make 76 = .ok (.ireturn, 1) := by decide +kernel
theorem dX11_change_0 : decode cX11_change 0 = .ok (.iload_n 1, 1) := by decide +kernel
theorem dX11_change_1 : decode cX11_change 1 = .ok (.ifCond .eq 19, 3) := by decide +kernel
theorem dX11_change_4 : decode cX11_change 4 = .ok (.iload_n 1, 1) := by decide +kernel
theorem dX11_change_5 : decode cX11_change 5 = .ok (.iconst 1, 1) := by decide +kernel
theorem dX11_change_6 : decode cX11_change 6 = .ok (.if_icmp .eq 14, 3) := by decide +kernel
theorem dX11_change_9 : decode cX11_change 9 = .ok (.new 79, 3) := by decide +kernel
theorem dX11_change_12 : decode cX11_change 12 = .ok (.dup, 1) := by decide +kernel
theorem dX11_change_13 : decode cX11_change 13 = .ok (.ldc_w 266, 3) := by decide +kernel
theorem dX11_change_16 : decode cX11_change 16 = .ok (.invokespecial 83, 3) := by decide +kernel
theorem dX11_change_19 : decode cX11_change 19 = .ok (.athrow, 1) := by decide +kernel
theorem dX11_change_20 : decode cX11_change 20 = .ok (.aload_n 0, 1) := by decide +kernel
theorem dX11_change_21 : decode cX11_change 21 = .ok (.invokevirtual 173, 3) := by decide +kernel
theorem dX11_change_24 : decode cX11_change 24 = .ok (.aload_n 0, 1) := by decide +kernel
theorem dX11_change_25 : decode cX11_change 25 = .ok (.getfield 61, 3) := by decide +kernel
theorem dX11_change_28 : decode cX11_change 28 = .ok (.aload_n 0, 1) := by decide +kernel
theorem dX11_change_29 : decode cX11_change 29 = .ok (.getfield 57, 3) := by decide +kernel
theorem dX11_change_32 : decode cX11_change 32 = .ok (.iload_n 1, 1) := by decide +kernel
theorem dX11_change_33 : decode cX11_change 33 = .ok (.ifCond .ne 7, 3) := by decide +kernel
theorem dX11_change_36 : decode cX11_change 36 = .ok (.iconst 1, 1) := by decide +kernel
theorem dX11_change_37 : decode cX11_change 37 = .ok (.goto 4, 3) := by decide +kernel
theorem dX11_change_40 : decode cX11_change 40 = .ok (.iconst 0, 1) := by decide +kernel
theorem dX11_change_41 : decode cX11_change 41 = .ok (.invokevirtual 268, 3) := by decide +kernel
theorem dX11_change_44 : decode cX11_change 44 = .ok (.aload_n 0, 1) := by decide +kernel
theorem dX11_change_45 : decode cX11_change 45 = .ok (.invokevirtual 88, 3) := by decide +kernel
theorem dX11_change_48 : decode cX11_change 48 = .ok (.aload_n 0, 1) := by decide +kernel
theorem dX11_change_49 : decode cX11_change 49 = .ok (.getfield 57, 3) := by decide +kernel
theorem dX11_change_52 : decode cX11_change 52 = .ok (.invokevirtual 272, 3) := by decide +kernel
theorem dX11_change_55 : decode cX11_change 55 = .ok (.ireturn, 1) := by decide +kernel
theorem dX11_doubt_0 : decode cX11_doubt 0 = .ok (.aload_n 0, 1) := by decide +kernel
theorem dX11_doubt_1 : decode cX11_doubt 1 = .ok (.getfield 57, 3) := by decide +kernel
theorem dX11_doubt_4 : decode cX11_doubt 4 = .ok (.invokevirtual 272, 3) := by decide +kernel
theorem dX11_doubt_7 : decode cX11_doubt 7 = .ok (.aload_n 0, 1) := by decide +kernel
theorem dX11_doubt_8 : decode cX11_doubt 8 = .ok (.getfield 57, 3) := by decide +kernel
theorem dX11_doubt_11 : decode cX11_doubt 11 = .ok (.getfield 103, 3) := by decide +kernel
theorem dX11_doubt_14 : decode cX11_doubt 14 = .ok (.imul, 1) := by decide +kernel
theorem dX11_doubt_15 : decode cX11_doubt 15 = .ok (.istore_n 1, 1) := by decide +kernel
theorem dX11_doubt_16 : decode cX11_doubt 16 = .ok (.iload_n 1, 1) := by decide +kernel
theorem dX11_doubt_17 : decode cX11_doubt 17 = .ok (.iconst 1, 1) := by decide +kernel
theorem dX11_doubt_18 : decode cX11_doubt 18 = .ok (.if_icmp .ge 5, 3) := by decide +kernel
theorem dX11_doubt_21 : decode cX11_doubt 21 = .ok (.dconst 0, 1) := by decide +kernel
theorem dX11_doubt_22 : decode cX11_doubt 22 = .ok (.dreturn, 1) := by decide +kernel
theorem dX11_doubt_23 : decode cX11_doubt 23 = .ok (.aload_n 0, 1) := by decide +kernel
theorem dX11_doubt_24 : decode cX11_doubt 24 = .ok (.getfield 43, 3) := by decide +kernel
theorem dX11_doubt_27 : decode cX11_doubt 27 = .ok (.aload_n 0, 1) := by decide +kernel
theorem dX11_doubt_28 : decode cX11_doubt 28 = .ok (.getfield 57, 3) := by decide +kernel
theorem dX11_doubt_31 : decode cX11_doubt 31 = .ok (.invokevirtual 212, 3) := by decide +kernel
theorem dX11_doubt_34 : decode cX11_doubt 34 = .ok (.i2d, 1) := by decide +kernel
theorem dX11_doubt_35 : decode cX11_doubt 35 = .ok (.iload_n 1, 1) := by decide +kernel
theorem dX11_doubt_36 : decode cX11_doubt 36 = .ok (.i2d, 1) := by decide +kernel
theorem dX11_doubt_37 : decode cX11_doubt 37 = .ok (.ddiv, 1) := by decide +kernel
theorem dX11_doubt_38 : decode cX11_doubt 38 = .ok (.dreturn, 1) := by decide +kernel
theorem dX11_digest_0 : decode cX11_digest 0 = .ok (.ldc2_w 275, 3) := by decide +kernel
theorem dX11_digest_3 : decode cX11_digest 3 = .ok (.lstore_n 1, 1) := by decide +kernel
theorem dX11_digest_4 : decode cX11_digest 4 = .ok (.iconst 0, 1) := by decide +kernel
theorem dX11_digest_5 : decode cX11_digest 5 = .ok (.istore_n 3, 1) := by decide +kernel
theorem dX11_digest_6 : decode cX11_digest 6 = .ok (.iload_n 3, 1) := by decide +kernel
theorem dX11_digest_7 : decode cX11_digest 7 = .ok (.bipush 10, 2) := by decide +kernel
theorem dX11_digest_9 : decode cX11_digest 9 = .ok (.if_icmp .gt 22, 3) := by decide +kernel
theorem dX11_digest_12 : decode cX11_digest 12 = .ok (.lload_n 1, 1) := by decide +kernel
theorem dX11_digest_13 : decode cX11_digest 13 = .ok (.ldc2_w 277, 3) := by decide +kernel
theorem dX11_digest_16 : decode cX11_digest 16 = .ok (.lmul, 1) := by decide +kernel
theorem dX11_digest_17 : decode cX11_digest 17 = .ok (.aload_n 0, 1) := by decide +kernel
end
section
theorem dX11_digest_18 : decode cX11_digest 18 = .ok (.iload_n 3, 1) := by decide +kernel
theorem dX11_digest_19 : decode cX11_digest 19 = .ok (.invokevirtual 279, 3) := by decide +kernel
theorem dX11_digest_22 : decode cX11_digest 22 = .ok (.i2l, 1) := by decide +kernel
theorem dX11_digest_23 : decode cX11_digest 23 = .ok (.ladd, 1) := by decide +kernel
theorem dX11_digest_24 : decode cX11_digest 24 = .ok (.lstore_n 1, 1) := by decide +kernel
theorem dX11_digest_25 : decode cX11_digest 25 = .ok (.iinc 3 1, 3) := by decide +kernel
theorem dX11_digest_28 : decode cX11_digest 28 = .ok (.goto (-22), 3) := by decide +kernel
theorem dX11_digest_31 : decode cX11_digest 31 = .ok (.iconst 0, 1) := by decide +kernel
theorem dX11_digest_32 : decode cX11_digest 32 = .ok (.istore_n 3, 1) := by decide +kernel
theorem dX11_digest_33 : decode cX11_digest 33 = .ok (.iload_n 3, 1) := by decide +kernel
theorem dX11_digest_34 : decode cX11_digest 34 = .ok (.aload_n 0, 1) := by decide +kernel
theorem dX11_digest_35 : decode cX11_digest 35 = .ok (.getfield 57, 3) := by decide +kernel
theorem dX11_digest_38 : decode cX11_digest 38 = .ok (.getfield 106, 3) := by decide +kernel
theorem dX11_digest_41 : decode cX11_digest 41 = .ok (.if_icmp .ge 40, 3) := by decide +kernel
theorem dX11_digest_44 : decode cX11_digest 44 = .ok (.iconst 0, 1) := by decide +kernel
theorem dX11_digest_45 : decode cX11_digest 45 = .ok (.istore 4, 2) := by decide +kernel
theorem dX11_digest_47 : decode cX11_digest 47 = .ok (.iload 4, 2) := by decide +kernel
theorem dX11_digest_49 : decode cX11_digest 49 = .ok (.bipush 9, 2) := by decide +kernel
theorem dX11_digest_51 : decode cX11_digest 51 = .ok (.if_icmp .gt 24, 3) := by decide +kernel
theorem dX11_digest_54 : decode cX11_digest 54 = .ok (.lload_n 1, 1) := by decide +kernel
theorem dX11_digest_55 : decode cX11_digest 55 = .ok (.ldc2_w 277, 3) := by decide +kernel
theorem dX11_digest_58 : decode cX11_digest 58 = .ok (.lmul, 1) := by decide +kernel
theorem dX11_digest_59 : decode cX11_digest 59 = .ok (.aload_n 0, 1) := by decide +kernel
theorem dX11_digest_60 : decode cX11_digest 60 = .ok (.iload_n 3, 1) := by decide +kernel
theorem dX11_digest_61 : decode cX11_digest 61 = .ok (.iload 4, 2) := by decide +kernel
theorem dX11_digest_63 : decode cX11_digest 63 = .ok (.invokevirtual 282, 3) := by decide +kernel
theorem dX11_digest_66 : decode cX11_digest 66 = .ok (.i2l, 1) := by decide +kernel
theorem dX11_digest_67 : decode cX11_digest 67 = .ok (.ladd, 1) := by decide +kernel
theorem dX11_digest_68 : decode cX11_digest 68 = .ok (.lstore_n 1, 1) := by decide +kernel
theorem dX11_digest_69 : decode cX11_digest 69 = .ok (.iinc 4 1, 3) := by decide +kernel
theorem dX11_digest_72 : decode cX11_digest 72 = .ok (.goto (-25), 3) := by decide +kernel
theorem dX11_digest_75 : decode cX11_digest 75 = .ok (.iinc 3 1, 3) := by decide +kernel
theorem dX11_digest_78 : decode cX11_digest 78 = .ok (.goto (-45), 3) := by decide +kernel
theorem dX11_digest_81 : decode cX11_digest 81 = .ok (.iconst 0, 1) := by decide +kernel
theorem dX11_digest_82 : decode cX11_digest 82 = .ok (.istore_n 3, 1) := by decide +kernel
theorem dX11_digest_83 : decode cX11_digest 83 = .ok (.iload_n 3, 1) := by decide +kernel
theorem dX11_digest_84 : decode cX11_digest 84 = .ok (.aload_n 0, 1) := by decide +kernel
theorem dX11_digest_85 : decode cX11_digest 85 = .ok (.getfield 57, 3) := by decide +kernel
theorem dX11_digest_88 : decode cX11_digest 88 = .ok (.invokevirtual 272, 3) := by decide +kernel
theorem dX11_digest_91 : decode cX11_digest 91 = .ok (.if_icmp .ge 43, 3) := by decide +kernel
theorem dX11_digest_94 : decode cX11_digest 94 = .ok (.lload_n 1, 1) := by decide +kernel
theorem dX11_digest_95 : decode cX11_digest 95 = .ok (.ldc2_w 277, 3) := by decide +kernel
theorem dX11_digest_98 : decode cX11_digest 98 = .ok (.lmul, 1) := by decide +kernel
theorem dX11_digest_99 : decode cX11_digest 99 = .ok (.aload_n 0, 1) := by decide +kernel
theorem dX11_digest_100 : decode cX11_digest 100 = .ok (.getfield 57, 3) := by decide +kernel
theorem dX11_digest_103 : decode cX11_digest 103 = .ok (.getfield 160, 3) := by decide +kernel
theorem dX11_digest_106 : decode cX11_digest 106 = .ok (.iload_n 3, 1) := by decide +kernel
theorem dX11_digest_107 : decode cX11_digest 107 = .ok (.iaload, 1) := by decide +kernel
theorem dX11_digest_108 : decode cX11_digest 108 = .ok (.i2l, 1) := by decide +kernel
theorem dX11_digest_109 : decode cX11_digest 109 = .ok (.ladd, 1) := by decide +kernel
theorem dX11_digest_110 : decode cX11_digest 110 = .ok (.lstore_n 1, 1) := by decide +kernel
theorem dX11_digest_111 : decode cX11_digest 111 = .ok (.lload_n 1, 1) := by decide +kernel
theorem dX11_digest_112 : decode cX11_digest 112 = .ok (.ldc2_w 277, 3) := by decide +kernel
theorem dX11_digest_115 : decode cX11_digest 115 = .ok (.lmul, 1) := by decide +kernel
theorem dX11_digest_116 : decode cX11_digest 116 = .ok (.aload_n 0, 1) := by decide +kernel
theorem dX11_digest_117 : decode cX11_digest 117 = .ok (.getfield 43, 3) := by decide +kernel
theorem dX11_digest_120 : decode cX11_digest 120 = .ok (.getfield 216, 3) := by decide +kernel
theorem dX11_digest_123 : decode cX11_digest 123 = .ok (.iload_n 3, 1) := by decide +kernel
theorem dX11_digest_124 : decode cX11_digest 124 = .ok (.iaload, 1) := by decide +kernel
theorem dX11_digest_125 : decode cX11_digest 125 = .ok (.i2l, 1) := by decide +kernel
theorem dX11_digest_126 : decode cX11_digest 126 = .ok (.ladd, 1) := by decide +kernel
theorem dX11_digest_127 : decode cX11_digest 127 = .ok (.lstore_n 1, 1) := by decide +kernel
theorem dX11_digest_128 : decode cX11_digest 128 = .ok (.iinc 3 1, 3) := by decide +kernel
theorem dX11_digest_131 : decode cX11_digest 131 = .ok (.goto (-48), 3) := by decide +kernel
theorem dX11_digest_134 : decode cX11_digest 134 = .ok (.iconst 0, 1) := by decide +kernel
theorem dX11_digest_135 : decode cX11_digest 135 = .ok (.istore_n 3, 1) := by decide +kernel
theorem dX11_digest_136 : decode cX11_digest 136 = .ok (.iload_n 3, 1) := by decide +kernel
theorem dX11_digest_137 : decode cX11_digest 137 = .ok (.aload_n 0, 1) := by decide +kernel
theorem dX11_digest_138 : decode cX11_digest 138 = .ok (.getfield 33, 3) := by decide +kernel
theorem dX11_digest_141 : decode cX11_digest 141 = .ok (.getfield 119, 3) := by decide +kernel
theorem dX11_digest_144 : decode cX11_digest 144 = .ok (.if_icmp .ge 50, 3) := by decide +kernel
theorem dX11_digest_147 : decode cX11_digest 147 = .ok (.iconst 0, 1) := by decide +kernel
theorem dX11_digest_148 : decode cX11_digest 148 = .ok (.istore 4, 2) := by decide +kernel
theorem dX11_digest_150 : decode cX11_digest 150 = .ok (.iload 4, 2) := by decide +kernel
theorem dX11_digest_152 : decode cX11_digest 152 = .ok (.aload_n 0, 1) := by decide +kernel
theorem dX11_digest_153 : decode cX11_digest 153 = .ok (.getfield 57, 3) := by decide +kernel
theorem dX11_digest_156 : decode cX11_digest 156 = .ok (.invokevirtual 272, 3) := by decide +kernel
theorem dX11_digest_159 : decode cX11_digest 159 = .ok (.if_icmp .ge 29, 3) := by decide +kernel
theorem dX11_digest_162 : decode cX11_digest 162 = .ok (.lload_n 1, 1) := by decide +kernel
theorem dX11_digest_163 : decode cX11_digest 163 = .ok (.ldc2_w 277, 3) := by decide +kernel
theorem dX11_digest_166 : decode cX11_digest 166 = .ok (.lmul, 1) := by decide +kernel
theorem dX11_digest_167 : decode cX11_digest 167 = .ok (.aload_n 0, 1) := by decide +kernel
theorem dX11_digest_168 : decode cX11_digest 168 = .ok (.getfield 33, 3) := by decide +kernel
theorem dX11_digest_171 : decode cX11_digest 171 = .ok (.getfield 201, 3) := by decide +kernel
theorem dX11_digest_174 : decode cX11_digest 174 = .ok (.iload_n 3, 1) := by decide +kernel
theorem dX11_digest_175 : decode cX11_digest 175 = .ok (.aaload, 1) := by decide +kernel
theorem dX11_digest_176 : decode cX11_digest 176 = .ok (.iload 4, 2) := by decide +kernel
theorem dX11_digest_178 : decode cX11_digest 178 = .ok (.iaload, 1) := by decide +kernel
theorem dX11_digest_179 : decode cX11_digest 179 = .ok (.i2l, 1) := by decide +kernel
theorem dX11_digest_180 : decode cX11_digest 180 = .ok (.ladd, 1) := by decide +kernel
theorem dX11_digest_181 : decode cX11_digest 181 = .ok (.lstore_n 1, 1) := by decide +kernel
theorem dX11_digest_182 : decode cX11_digest 182 = .ok (.iinc 4 1, 3) := by decide +kernel
theorem dX11_digest_185 : decode cX11_digest 185 = .ok (.goto (-35), 3) := by decide +kernel
theorem dX11_digest_188 : decode cX11_digest 188 = .ok (.iinc 3 1, 3) := by decide +kernel
theorem dX11_digest_191 : decode cX11_digest 191 = .ok (.goto (-55), 3) := by decide +kernel
theorem dX11_digest_194 : decode cX11_digest 194 = .ok (.iconst 0, 1) := by decide +kernel
theorem dX11_digest_195 : decode cX11_digest 195 = .ok (.istore_n 3, 1) := by decide +kernel
theorem dX11_digest_196 : decode cX11_digest 196 = .ok (.iload_n 3, 1) := by decide +kernel
theorem dX11_digest_197 : decode cX11_digest 197 = .ok (.iconst 3, 1) := by decide +kernel
theorem dX11_digest_198 : decode cX11_digest 198 = .ok (.if_icmp .gt 22, 3) := by decide +kernel
theorem dX11_digest_201 : decode cX11_digest 201 = .ok (.lload_n 1, 1) := by decide +kernel
theorem dX11_digest_202 : decode cX11_digest 202 = .ok (.ldc2_w 277, 3) := by decide +kernel
theorem dX11_digest_205 : decode cX11_digest 205 = .ok (.lmul, 1) := by decide +kernel
theorem dX11_digest_206 : decode cX11_digest 206 = .ok (.aload_n 0, 1) := by decide +kernel
theorem dX11_digest_207 : decode cX11_digest 207 = .ok (.iload_n 3, 1) := by decide +kernel
theorem dX11_digest_208 : decode cX11_digest 208 = .ok (.invokevirtual 286, 3) := by decide +kernel
theorem dX11_digest_211 : decode cX11_digest 211 = .ok (.i2l, 1) := by decide +kernel
theorem dX11_digest_212 : decode cX11_digest 212 = .ok (.ladd, 1) := by decide +kernel
theorem dX11_digest_213 : decode cX11_digest 213 = .ok (.lstore_n 1, 1) := by decide +kernel
theorem dX11_digest_214 : decode cX11_digest 214 = .ok (.iinc 3 1, 3) := by decide +kernel
theorem dX11_digest_217 : decode cX11_digest 217 = .ok (.goto (-21), 3) := by decide +kernel
theorem dX11_digest_220 : decode cX11_digest 220 = .ok (.iconst 0, 1) := by decide +kernel
theorem dX11_digest_221 : decode cX11_digest 221 = .ok (.istore_n 3, 1) := by decide +kernel
theorem dX11_digest_222 : decode cX11_digest 222 = .ok (.iload_n 3, 1) := by decide +kernel
theorem dX11_digest_223 : decode cX11_digest 223 = .ok (.aload_n 0, 1) := by decide +kernel
theorem dX11_digest_224 : decode cX11_digest 224 = .ok (.getfield 26, 3) := by decide +kernel
theorem dX11_digest_227 : decode cX11_digest 227 = .ok (.getfield 125, 3) := by decide +kernel
theorem dX11_digest_230 : decode cX11_digest 230 = .ok (.if_icmp .ge 26, 3) := by decide +kernel
theorem dX11_digest_233 : decode cX11_digest 233 = .ok (.lload_n 1, 1) := by decide +kernel
theorem dX11_digest_234 : decode cX11_digest 234 = .ok (.ldc2_w 277, 3) := by decide +kernel
theorem dX11_digest_237 : decode cX11_digest 237 = .ok (.lmul, 1) := by decide +kernel
theorem dX11_digest_238 : decode cX11_digest 238 = .ok (.aload_n 0, 1) := by decide +kernel
theorem dX11_digest_239 : decode cX11_digest 239 = .ok (.getfield 26, 3) := by decide +kernel
theorem dX11_digest_242 : decode cX11_digest 242 = .ok (.getfield 182, 3) := by decide +kernel
theorem dX11_digest_245 : decode cX11_digest 245 = .ok (.iload_n 3, 1) := by decide +kernel
theorem dX11_digest_246 : decode cX11_digest 246 = .ok (.iaload, 1) := by decide +kernel
theorem dX11_digest_247 : decode cX11_digest 247 = .ok (.i2l, 1) := by decide +kernel
theorem dX11_digest_248 : decode cX11_digest 248 = .ok (.ladd, 1) := by decide +kernel
theorem dX11_digest_249 : decode cX11_digest 249 = .ok (.lstore_n 1, 1) := by decide +kernel
theorem dX11_digest_250 : decode cX11_digest 250 = .ok (.iinc 3 1, 3) := by decide +kernel
theorem dX11_digest_253 : decode cX11_digest 253 = .ok (.goto (-31), 3) := by decide +kernel
theorem dX11_digest_256 : decode cX11_digest 256 = .ok (.lload_n 1, 1) := by decide +kernel
theorem dX11_digest_257 : decode cX11_digest 257 = .ok (.lreturn, 1) := by decide +kernel
theorem dX11_requirePuzzle_0 : decode cX11_requirePuzzle 0 = .ok (.aload_n 0, 1) := by decide +kernel
theorem dX11_requirePuzzle_1 : decode cX11_requirePuzzle 1 = .ok (.getfield 57, 3) := by decide +kernel
theorem dX11_requirePuzzle_4 : decode cX11_requirePuzzle 4 = .ok (.invokevirtual 289, 3) := by decide +kernel
theorem dX11_requirePuzzle_7 : decode cX11_requirePuzzle 7 = .ok (.ifCond .ne 14, 3) := by decide +kernel
theorem dX11_requirePuzzle_10 : decode cX11_requirePuzzle 10 = .ok (.new 68, 3) := by decide +kernel
theorem dX11_requirePuzzle_13 : decode cX11_requirePuzzle 13 = .ok (.dup, 1) := by decide +kernel
theorem dX11_requirePuzzle_14 : decode cX11_requirePuzzle 14 = .ok (.ldc_w 293, 3) := by decide +kernel
theorem dX11_requirePuzzle_17 : decode cX11_requirePuzzle 17 = .ok (.invokespecial 72, 3) := by decide +kernel
theorem dX11_requirePuzzle_20 : decode cX11_requirePuzzle 20 = .ok (.athrow, 1) := by decide +kernel
theorem dX11_requirePuzzle_21 : decode cX11_requirePuzzle 21 = .ok (.return_, 1) := by decide +kernel
theorem dX11_requireRule_0 : decode cX11_requireRule 0 = .ok (.iload_n 1, 1) := by decide +kernel
theorem dX11_requireRule_1 : decode cX11_requireRule 1 = .ok (.ifCond .lt 14, 3) := by decide +kernel
theorem dX11_requireRule_4 : decode cX11_requireRule 4 = .ok (.iload_n 1, 1) := by decide +kernel
theorem dX11_requireRule_5 : decode cX11_requireRule 5 = .ok (.aload_n 0, 1) := by decide +kernel
theorem dX11_requireRule_6 : decode cX11_requireRule 6 = .ok (.getfield 57, 3) := by decide +kernel
theorem dX11_requireRule_9 : decode cX11_requireRule 9 = .ok (.getfield 106, 3) := by decide +kernel
theorem dX11_requireRule_12 : decode cX11_requireRule 12 = .ok (.if_icmp .lt 14, 3) := by decide +kernel
theorem dX11_requireRule_15 : decode cX11_requireRule 15 = .ok (.new 126, 3) := by decide +kernel
theorem dX11_requireRule_18 : decode cX11_requireRule 18 = .ok (.dup, 1) := by decide +kernel
theorem dX11_requireRule_19 : decode cX11_requireRule 19 = .ok (.ldc_w 295, 3) := by decide +kernel
theorem dX11_requireRule_22 : decode cX11_requireRule 22 = .ok (.invokespecial 130, 3) := by decide +kernel
theorem dX11_requireRule_25 : decode cX11_requireRule 25 = .ok (.athrow, 1) := by decide +kernel
theorem dX11_requireRule_26 : decode cX11_requireRule 26 = .ok (.return_, 1) := by decide +kernel
theorem dX11_requireCell_0 : decode cX11_requireCell 0 = .ok (.iload_n 1, 1) := by decide +kernel
theorem dX11_requireCell_1 : decode cX11_requireCell 1 = .ok (.ifCond .lt 14, 3) := by decide +kernel
theorem dX11_requireCell_4 : decode cX11_requireCell 4 = .ok (.iload_n 1, 1) := by decide +kernel
theorem dX11_requireCell_5 : decode cX11_requireCell 5 = .ok (.aload_n 0, 1) := by decide +kernel
theorem dX11_requireCell_6 : decode cX11_requireCell 6 = .ok (.getfield 57, 3) := by decide +kernel
theorem dX11_requireCell_9 : decode cX11_requireCell 9 = .ok (.invokevirtual 272, 3) := by decide +kernel
theorem dX11_requireCell_12 : decode cX11_requireCell 12 = .ok (.if_icmp .lt 14, 3) := by decide +kernel
theorem dX11_requireCell_15 : decode cX11_requireCell 15 = .ok (.new 126, 3) := by decide +kernel
theorem dX11_requireCell_18 : decode cX11_requireCell 18 = .ok (.dup, 1) := by decide +kernel
theorem dX11_requireCell_19 : decode cX11_requireCell 19 = .ok (.ldc_w 297, 3) := by decide +kernel
theorem dX11_requireCell_22 : decode cX11_requireCell 22 = .ok (.invokespecial 130, 3) := by decide +kernel
theorem dX11_requireCell_25 : decode cX11_requireCell 25 = .ok (.athrow, 1) := by decide +kernel
theorem dX11_requireCell_26 : decode cX11_requireCell 26 = .ok (.return_, 1) := by decide +kernel
theorem dX11_takeDraft_0 : decode cX11_takeDraft 0 = .ok (.aload_n 0, 1) := by decide +kernel
theorem dX11_takeDraft_1 : decode cX11_takeDraft 1 = .ok (.getfield 57, 3) := by decide +kernel
theorem dX11_takeDraft_4 : decode cX11_takeDraft 4 = .ok (.astore_n 1, 1) := by decide +kernel
theorem dX11_takeDraft_5 : decode cX11_takeDraft 5 = .ok (.aload_n 0, 1) := by decide +kernel
theorem dX11_takeDraft_6 : decode cX11_takeDraft 6 = .ok (.aload_n 0, 1) := by decide +kernel
theorem dX11_takeDraft_7 : decode cX11_takeDraft 7 = .ok (.getfield 61, 3) := by decide +kernel
theorem dX11_takeDraft_10 : decode cX11_takeDraft 10 = .ok (.putfield 57, 3) := by decide +kernel
theorem dX11_takeDraft_13 : decode cX11_takeDraft 13 = .ok (.aload_n 0, 1) := by decide +kernel
theorem dX11_takeDraft_14 : decode cX11_takeDraft 14 = .ok (.aload_n 1, 1) := by decide +kernel
theorem dX11_takeDraft_15 : decode cX11_takeDraft 15 = .ok (.putfield 61, 3) := by decide +kernel
theorem dX11_takeDraft_18 : decode cX11_takeDraft 18 = .ok (.aload_n 0, 1) := by decide +kernel
theorem dX11_takeDraft_19 : decode cX11_takeDraft 19 = .ok (.getfield 33, 3) := by decide +kernel
theorem dX11_takeDraft_22 : decode cX11_takeDraft 22 = .ok (.iconst 0, 1) := by decide +kernel
theorem dX11_takeDraft_23 : decode cX11_takeDraft 23 = .ok (.putfield 119, 3) := by decide +kernel
theorem dX11_takeDraft_26 : decode cX11_takeDraft 26 = .ok (.aload_n 0, 1) := by decide +kernel
theorem dX11_takeDraft_27 : decode cX11_takeDraft 27 = .ok (.getfield 43, 3) := by decide +kernel
theorem dX11_takeDraft_30 : decode cX11_takeDraft 30 = .ok (.aload_n 0, 1) := by decide +kernel
theorem dX11_takeDraft_31 : decode cX11_takeDraft 31 = .ok (.getfield 57, 3) := by decide +kernel
theorem dX11_takeDraft_34 : decode cX11_takeDraft 34 = .ok (.invokevirtual 209, 3) := by decide +kernel
theorem dX11_takeDraft_37 : decode cX11_takeDraft 37 = .ok (.return_, 1) := by decide +kernel
theorem dJx29ce0_ordinal_8abf5_0 : decode cJx29ce0_ordinal_8abf5 0 = .ok (.aload_n 0, 1) := by decide +kernel
theorem dJx29ce0_ordinal_8abf5_1 : decode cJx29ce0_ordinal_8abf5 1 = .ok (.getfield 7, 3) := by decide +kernel
theorem dJx29ce0_ordinal_8abf5_4 : decode cJx29ce0_ordinal_8abf5 4 = .ok (.ireturn, 1) := by decide +kernel
theorem dJ6_bitCount_0f7a4_0 : decode cJ6_bitCount_0f7a4 0 = .ok (.iload_n 0, 1) := by decide +kernel
theorem dJ6_bitCount_0f7a4_1 : decode cJ6_bitCount_0f7a4 1 = .ok (.iload_n 0, 1) := by decide +kernel
theorem dJ6_bitCount_0f7a4_2 : decode cJ6_bitCount_0f7a4 2 = .ok (.iconst 1, 1) := by decide +kernel
theorem dJ6_bitCount_0f7a4_3 : decode cJ6_bitCount_0f7a4 3 = .ok (.iushr, 1) := by decide +kernel
theorem dJ6_bitCount_0f7a4_4 : decode cJ6_bitCount_0f7a4 4 = .ok (.ldc_w 265, 3) := by decide +kernel
theorem dJ6_bitCount_0f7a4_7 : decode cJ6_bitCount_0f7a4 7 = .ok (.iand, 1) := by decide +kernel
theorem dJ6_bitCount_0f7a4_8 : decode cJ6_bitCount_0f7a4 8 = .ok (.isub, 1) := by decide +kernel
theorem dJ6_bitCount_0f7a4_9 : decode cJ6_bitCount_0f7a4 9 = .ok (.istore_n 0, 1) := by decide +kernel
theorem dJ6_bitCount_0f7a4_10 : decode cJ6_bitCount_0f7a4 10 = .ok (.iload_n 0, 1) := by decide +kernel
theorem dJ6_bitCount_0f7a4_11 : decode cJ6_bitCount_0f7a4 11 = .ok (.ldc_w 266, 3) := by decide +kernel
theorem dJ6_bitCount_0f7a4_14 : decode cJ6_bitCount_0f7a4 14 = .ok (.iand, 1) := by decide +kernel
theorem dJ6_bitCount_0f7a4_15 : decode cJ6_bitCount_0f7a4 15 = .ok (.iload_n 0, 1) := by decide +kernel
theorem dJ6_bitCount_0f7a4_16 : decode cJ6_bitCount_0f7a4 16 = .ok (.iconst 2, 1) := by decide +kernel
theorem dJ6_bitCount_0f7a4_17 : decode cJ6_bitCount_0f7a4 17 = .ok (.iushr, 1) := by decide +kernel
theorem dJ6_bitCount_0f7a4_18 : decode cJ6_bitCount_0f7a4 18 = .ok (.ldc_w 266, 3) := by decide +kernel
theorem dJ6_bitCount_0f7a4_21 : decode cJ6_bitCount_0f7a4 21 = .ok (.iand, 1) := by decide +kernel
theorem dJ6_bitCount_0f7a4_22 : decode cJ6_bitCount_0f7a4 22 = .ok (.iadd, 1) := by decide +kernel
theorem dJ6_bitCount_0f7a4_23 : decode cJ6_bitCount_0f7a4 23 = .ok (.istore_n 0, 1) := by decide +kernel
theorem dJ6_bitCount_0f7a4_24 : decode cJ6_bitCount_0f7a4 24 = .ok (.iload_n 0, 1) := by decide +kernel
theorem dJ6_bitCount_0f7a4_25 : decode cJ6_bitCount_0f7a4 25 = .ok (.iload_n 0, 1) := by decide +kernel
theorem dJ6_bitCount_0f7a4_26 : decode cJ6_bitCount_0f7a4 26 = .ok (.iconst 4, 1) := by decide +kernel
theorem dJ6_bitCount_0f7a4_27 : decode cJ6_bitCount_0f7a4 27 = .ok (.iushr, 1) := by decide +kernel
theorem dJ6_bitCount_0f7a4_28 : decode cJ6_bitCount_0f7a4 28 = .ok (.iadd, 1) := by decide +kernel
theorem dJ6_bitCount_0f7a4_29 : decode cJ6_bitCount_0f7a4 29 = .ok (.ldc_w 267, 3) := by decide +kernel
theorem dJ6_bitCount_0f7a4_32 : decode cJ6_bitCount_0f7a4 32 = .ok (.iand, 1) := by decide +kernel
theorem dJ6_bitCount_0f7a4_33 : decode cJ6_bitCount_0f7a4 33 = .ok (.istore_n 0, 1) := by decide +kernel
theorem dJ6_bitCount_0f7a4_34 : decode cJ6_bitCount_0f7a4 34 = .ok (.iload_n 0, 1) := by decide +kernel
theorem dJ6_bitCount_0f7a4_35 : decode cJ6_bitCount_0f7a4 35 = .ok (.iload_n 0, 1) := by decide +kernel
theorem dJ6_bitCount_0f7a4_36 : decode cJ6_bitCount_0f7a4 36 = .ok (.bipush 8, 2) := by decide +kernel
theorem dJ6_bitCount_0f7a4_38 : decode cJ6_bitCount_0f7a4 38 = .ok (.iushr, 1) := by decide +kernel
theorem dJ6_bitCount_0f7a4_39 : decode cJ6_bitCount_0f7a4 39 = .ok (.iadd, 1) := by decide +kernel
theorem dJ6_bitCount_0f7a4_40 : decode cJ6_bitCount_0f7a4 40 = .ok (.istore_n 0, 1) := by decide +kernel
theorem dJ6_bitCount_0f7a4_41 : decode cJ6_bitCount_0f7a4 41 = .ok (.iload_n 0, 1) := by decide +kernel
theorem dJ6_bitCount_0f7a4_42 : decode cJ6_bitCount_0f7a4 42 = .ok (.iload_n 0, 1) := by decide +kernel
theorem dJ6_bitCount_0f7a4_43 : decode cJ6_bitCount_0f7a4 43 = .ok (.bipush 16, 2) := by decide +kernel
theorem dJ6_bitCount_0f7a4_45 : decode cJ6_bitCount_0f7a4 45 = .ok (.iushr, 1) := by decide +kernel
theorem dJ6_bitCount_0f7a4_46 : decode cJ6_bitCount_0f7a4 46 = .ok (.iadd, 1) := by decide +kernel
theorem dJ6_bitCount_0f7a4_47 : decode cJ6_bitCount_0f7a4 47 = .ok (.istore_n 0, 1) := by decide +kernel
theorem dJ6_bitCount_0f7a4_48 : decode cJ6_bitCount_0f7a4 48 = .ok (.iload_n 0, 1) := by decide +kernel
theorem dJ6_bitCount_0f7a4_49 : decode cJ6_bitCount_0f7a4 49 = .ok (.bipush 63, 2) := by decide +kernel
theorem dJ6_bitCount_0f7a4_51 : decode cJ6_bitCount_0f7a4 51 = .ok (.iand, 1) := by decide +kernel
theorem dJ6_bitCount_0f7a4_52 : decode cJ6_bitCount_0f7a4 52 = .ok (.ireturn, 1) := by decide +kernel
theorem dJ9_abs_0f7a4_0 : decode cJ9_abs_0f7a4 0 = .ok (.iload_n 0, 1) := by decide +kernel
theorem dJ9_abs_0f7a4_1 : decode cJ9_abs_0f7a4 1 = .ok (.ifCond .ge 8, 3) := by decide +kernel
theorem dJ9_abs_0f7a4_4 : decode cJ9_abs_0f7a4 4 = .ok (.iload_n 0, 1) := by decide +kernel
theorem dJ9_abs_0f7a4_5 : decode cJ9_abs_0f7a4 5 = .ok (.ineg, 1) := by decide +kernel
theorem dJ9_abs_0f7a4_6 : decode cJ9_abs_0f7a4 6 = .ok (.goto 4, 3) := by decide +kernel
theorem dJ9_abs_0f7a4_9 : decode cJ9_abs_0f7a4 9 = .ok (.iload_n 0, 1) := by decide +kernel
theorem dJ9_abs_0f7a4_10 : decode cJ9_abs_0f7a4 10 = .ok (.ireturn, 1) := by decide +kernel
theorem dJ9_max_7cf53_0 : decode cJ9_max_7cf53 0 = .ok (.iload_n 0, 1) := by decide +kernel
theorem dJ9_max_7cf53_1 : decode cJ9_max_7cf53 1 = .ok (.iload_n 1, 1) := by decide +kernel
theorem dJ9_max_7cf53_2 : decode cJ9_max_7cf53 2 = .ok (.if_icmp .lt 7, 3) := by decide +kernel
theorem dJ9_max_7cf53_5 : decode cJ9_max_7cf53 5 = .ok (.iload_n 0, 1) := by decide +kernel
theorem dJ9_max_7cf53_6 : decode cJ9_max_7cf53 6 = .ok (.goto 4, 3) := by decide +kernel
theorem dJ9_max_7cf53_9 : decode cJ9_max_7cf53 9 = .ok (.iload_n 1, 1) := by decide +kernel
theorem dJ9_max_7cf53_10 : decode cJ9_max_7cf53 10 = .ok (.ireturn, 1) := by decide +kernel
theorem dJ0_length_8abf5_0 : decode cJ0_length_8abf5 0 = .ok (.aload_n 0, 1) := by decide +kernel
theorem dJ0_length_8abf5_1 : decode cJ0_length_8abf5 1 = .ok (.getfield 9, 3) := by decide +kernel
theorem dJ0_length_8abf5_4 : decode cJ0_length_8abf5 4 = .ok (.arraylength, 1) := by decide +kernel
theorem dJ0_length_8abf5_5 : decode cJ0_length_8abf5 5 = .ok (.aload_n 0, 1) := by decide +kernel
theorem dJ0_length_8abf5_6 : decode cJ0_length_8abf5 6 = .ok (.invokevirtual 335, 3) := by decide +kernel
theorem dJ0_length_8abf5_9 : decode cJ0_length_8abf5 9 = .ok (.ishr, 1) := by decide +kernel
theorem dJ0_length_8abf5_10 : decode cJ0_length_8abf5 10 = .ok (.ireturn, 1) := by decide +kernel
theorem dJ0_charAt_5068e_0 : decode cJ0_charAt_5068e 0 = .ok (.aload_n 0, 1) := by decide +kernel
theorem dJ0_charAt_5068e_1 : decode cJ0_charAt_5068e 1 = .ok (.invokevirtual 492, 3) := by decide +kernel
theorem dJ0_charAt_5068e_4 : decode cJ0_charAt_5068e 4 = .ok (.ifCond .eq 12, 3) := by decide +kernel
theorem dJ0_charAt_5068e_7 : decode cJ0_charAt_5068e 7 = .ok (.aload_n 0, 1) := by decide +kernel
theorem dJ0_charAt_5068e_8 : decode cJ0_charAt_5068e 8 = .ok (.getfield 9, 3) := by decide +kernel
theorem dJ0_charAt_5068e_11 : decode cJ0_charAt_5068e 11 = .ok (.iload_n 1, 1) := by decide +kernel
theorem dJ0_charAt_5068e_12 : decode cJ0_charAt_5068e 12 = .ok (.invokestatic 495, 3) := by decide +kernel
theorem dJ0_charAt_5068e_15 : decode cJ0_charAt_5068e 15 = .ok (.ireturn, 1) := by decide +kernel
theorem dJ0_charAt_5068e_16 : decode cJ0_charAt_5068e 16 = .ok (.aload_n 0, 1) := by decide +kernel
theorem dJ0_charAt_5068e_17 : decode cJ0_charAt_5068e 17 = .ok (.getfield 9, 3) := by decide +kernel
theorem dJ0_charAt_5068e_20 : decode cJ0_charAt_5068e 20 = .ok (.iload_n 1, 1) := by decide +kernel
theorem dJ0_charAt_5068e_21 : decode cJ0_charAt_5068e 21 = .ok (.invokestatic 498, 3) := by decide +kernel
theorem dJ0_charAt_5068e_24 : decode cJ0_charAt_5068e 24 = .ok (.ireturn, 1) := by decide +kernel
theorem dJ0_coder_7d493_0 : decode cJ0_coder_7d493 0 = .ok (.getstatic 38, 3) := by decide +kernel
theorem dJ0_coder_7d493_3 : decode cJ0_coder_7d493 3 = .ok (.ifCond .eq 10, 3) := by decide +kernel
theorem dJ0_coder_7d493_6 : decode cJ0_coder_7d493 6 = .ok (.aload_n 0, 1) := by decide +kernel
theorem dJ0_coder_7d493_7 : decode cJ0_coder_7d493 7 = .ok (.getfield 15, 3) := by decide +kernel
theorem dJ0_coder_7d493_10 : decode cJ0_coder_7d493 10 = .ok (.goto 4, 3) := by decide +kernel
theorem dJ0_coder_7d493_13 : decode cJ0_coder_7d493 13 = .ok (.iconst 1, 1) := by decide +kernel
theorem dJ0_coder_7d493_14 : decode cJ0_coder_7d493 14 = .ok (.ireturn, 1) := by decide +kernel
theorem dJ0_isLatin1_aae02_0 : decode cJ0_isLatin1_aae02 0 = .ok (.getstatic 38, 3) := by decide +kernel
theorem dJ0_isLatin1_aae02_3 : decode cJ0_isLatin1_aae02 3 = .ok (.ifCond .eq 14, 3) := by decide +kernel
theorem dJ0_isLatin1_aae02_6 : decode cJ0_isLatin1_aae02 6 = .ok (.aload_n 0, 1) := by decide +kernel
theorem dJ0_isLatin1_aae02_7 : decode cJ0_isLatin1_aae02 7 = .ok (.getfield 15, 3) := by decide +kernel
theorem dJ0_isLatin1_aae02_10 : decode cJ0_isLatin1_aae02 10 = .ok (.ifCond .ne 7, 3) := by decide +kernel
theorem dJ0_isLatin1_aae02_13 : decode cJ0_isLatin1_aae02 13 = .ok (.iconst 1, 1) := by decide +kernel
theorem dJ0_isLatin1_aae02_14 : decode cJ0_isLatin1_aae02 14 = .ok (.goto 4, 3) := by decide +kernel
theorem dJ0_isLatin1_aae02_17 : decode cJ0_isLatin1_aae02 17 = .ok (.iconst 0, 1) := by decide +kernel
theorem dJ0_isLatin1_aae02_18 : decode cJ0_isLatin1_aae02 18 = .ok (.ireturn, 1) := by decide +kernel
theorem dJ0_checkIndex_df160_0 : decode cJ0_checkIndex_df160 0 = .ok (.iload_n 0, 1) := by decide +kernel
theorem dJ0_checkIndex_df160_1 : decode cJ0_checkIndex_df160 1 = .ok (.iload_n 1, 1) := by decide +kernel
theorem dJ0_checkIndex_df160_2 : decode cJ0_checkIndex_df160 2 = .ok (.getstatic 1053, 3) := by decide +kernel
theorem dJ0_checkIndex_df160_5 : decode cJ0_checkIndex_df160 5 = .ok (.invokestatic 1059, 3) := by decide +kernel
theorem dJ0_checkIndex_df160_8 : decode cJ0_checkIndex_df160 8 = .ok (.pop, 1) := by decide +kernel
theorem dJ0_checkIndex_df160_9 : decode cJ0_checkIndex_df160 9 = .ok (.return_, 1) := by decide +kernel
theorem dJ1_charAt_3b067_0 : decode cJ1_charAt_3b067 0 = .ok (.iload_n 1, 1) := by decide +kernel
theorem dJ1_charAt_3b067_1 : decode cJ1_charAt_3b067 1 = .ok (.aload_n 0, 1) := by decide +kernel
theorem dJ1_charAt_3b067_2 : decode cJ1_charAt_3b067 2 = .ok (.arraylength, 1) := by decide +kernel
theorem dJ1_charAt_3b067_3 : decode cJ1_charAt_3b067 3 = .ok (.invokestatic 9, 3) := by decide +kernel
theorem dJ1_charAt_3b067_6 : decode cJ1_charAt_3b067 6 = .ok (.aload_n 0, 1) := by decide +kernel
theorem dJ1_charAt_3b067_7 : decode cJ1_charAt_3b067 7 = .ok (.iload_n 1, 1) := by decide +kernel
theorem dJ1_charAt_3b067_8 : decode cJ1_charAt_3b067 8 = .ok (.baload, 1) := by decide +kernel
theorem dJ1_charAt_3b067_9 : decode cJ1_charAt_3b067 9 = .ok (.sipush 255, 3) := by decide +kernel
theorem dJ1_charAt_3b067_12 : decode cJ1_charAt_3b067 12 = .ok (.iand, 1) := by decide +kernel
theorem dJ1_charAt_3b067_13 : decode cJ1_charAt_3b067 13 = .ok (.i2c, 1) := by decide +kernel
theorem dJ1_charAt_3b067_14 : decode cJ1_charAt_3b067 14 = .ok (.ireturn, 1) := by decide +kernel
theorem dJ2_getChar_3b067_0 : decode cJ2_getChar_3b067 0 = .ok (.getstatic 44, 3) := by decide +kernel
theorem dJ2_getChar_3b067_3 : decode cJ2_getChar_3b067 3 = .ok (.ifCond .ne 25, 3) := by decide +kernel
theorem dJ2_getChar_3b067_6 : decode cJ2_getChar_3b067 6 = .ok (.iload_n 1, 1) := by decide +kernel
theorem dJ2_getChar_3b067_7 : decode cJ2_getChar_3b067 7 = .ok (.ifCond .lt 11, 3) := by decide +kernel
theorem dJ2_getChar_3b067_10 : decode cJ2_getChar_3b067 10 = .ok (.iload_n 1, 1) := by decide +kernel
theorem dJ2_getChar_3b067_11 : decode cJ2_getChar_3b067 11 = .ok (.aload_n 0, 1) := by decide +kernel
theorem dJ2_getChar_3b067_12 : decode cJ2_getChar_3b067 12 = .ok (.invokestatic 48, 3) := by decide +kernel
theorem dJ2_getChar_3b067_15 : decode cJ2_getChar_3b067 15 = .ok (.if_icmp .lt 13, 3) := by decide +kernel
theorem dJ2_getChar_3b067_18 : decode cJ2_getChar_3b067 18 = .ok (.new 52, 3) := by decide +kernel
theorem dJ2_getChar_3b067_21 : decode cJ2_getChar_3b067 21 = .ok (.dup, 1) := by decide +kernel
theorem dJ2_getChar_3b067_22 : decode cJ2_getChar_3b067 22 = .ok (.ldc 54, 2) := by decide +kernel
theorem dJ2_getChar_3b067_24 : decode cJ2_getChar_3b067 24 = .ok (.invokespecial 56, 3) := by decide +kernel
theorem dJ2_getChar_3b067_27 : decode cJ2_getChar_3b067 27 = .ok (.athrow, 1) := by decide +kernel
theorem dJ2_getChar_3b067_28 : decode cJ2_getChar_3b067 28 = .ok (.iload_n 1, 1) := by decide +kernel
theorem dJ2_getChar_3b067_29 : decode cJ2_getChar_3b067 29 = .ok (.iconst 1, 1) := by decide +kernel
theorem dJ2_getChar_3b067_30 : decode cJ2_getChar_3b067 30 = .ok (.ishl, 1) := by decide +kernel
theorem dJ2_getChar_3b067_31 : decode cJ2_getChar_3b067 31 = .ok (.istore_n 1, 1) := by decide +kernel
theorem dJ2_getChar_3b067_32 : decode cJ2_getChar_3b067 32 = .ok (.aload_n 0, 1) := by decide +kernel
theorem dJ2_getChar_3b067_33 : decode cJ2_getChar_3b067 33 = .ok (.iload_n 1, 1) := by decide +kernel
theorem dJ2_getChar_3b067_34 : decode cJ2_getChar_3b067 34 = .ok (.iinc 1 1, 3) := by decide +kernel
theorem dJ2_getChar_3b067_37 : decode cJ2_getChar_3b067 37 = .ok (.baload, 1) := by decide +kernel
theorem dJ2_getChar_3b067_38 : decode cJ2_getChar_3b067 38 = .ok (.sipush 255, 3) := by decide +kernel
theorem dJ2_getChar_3b067_41 : decode cJ2_getChar_3b067 41 = .ok (.iand, 1) := by decide +kernel
theorem dJ2_getChar_3b067_42 : decode cJ2_getChar_3b067 42 = .ok (.getstatic 59, 3) := by decide +kernel
theorem dJ2_getChar_3b067_45 : decode cJ2_getChar_3b067 45 = .ok (.ishl, 1) := by decide +kernel
theorem dJ2_getChar_3b067_46 : decode cJ2_getChar_3b067 46 = .ok (.aload_n 0, 1) := by decide +kernel
theorem dJ2_getChar_3b067_47 : decode cJ2_getChar_3b067 47 = .ok (.iload_n 1, 1) := by decide +kernel
theorem dJ2_getChar_3b067_48 : decode cJ2_getChar_3b067 48 = .ok (.baload, 1) := by decide +kernel
theorem dJ2_getChar_3b067_49 : decode cJ2_getChar_3b067 49 = .ok (.sipush 255, 3) := by decide +kernel
theorem dJ2_getChar_3b067_52 : decode cJ2_getChar_3b067 52 = .ok (.iand, 1) := by decide +kernel
theorem dJ2_getChar_3b067_53 : decode cJ2_getChar_3b067 53 = .ok (.getstatic 63, 3) := by decide +kernel
theorem dJ2_getChar_3b067_56 : decode cJ2_getChar_3b067 56 = .ok (.ishl, 1) := by decide +kernel
theorem dJ2_getChar_3b067_57 : decode cJ2_getChar_3b067 57 = .ok (.ior, 1) := by decide +kernel
theorem dJ2_getChar_3b067_58 : decode cJ2_getChar_3b067 58 = .ok (.i2c, 1) := by decide +kernel
theorem dJ2_getChar_3b067_59 : decode cJ2_getChar_3b067 59 = .ok (.ireturn, 1) := by decide +kernel
theorem dJ2_length_9d52b_0 : decode cJ2_length_9d52b 0 = .ok (.aload_n 0, 1) := by decide +kernel
theorem dJ2_length_9d52b_1 : decode cJ2_length_9d52b 1 = .ok (.arraylength, 1) := by decide +kernel
theorem dJ2_length_9d52b_2 : decode cJ2_length_9d52b 2 = .ok (.iconst 1, 1) := by decide +kernel
theorem dJ2_length_9d52b_3 : decode cJ2_length_9d52b 3 = .ok (.ishr, 1) := by decide +kernel
theorem dJ2_length_9d52b_4 : decode cJ2_length_9d52b 4 = .ok (.ireturn, 1) := by decide +kernel
theorem dJ2_charAt_3b067_0 : decode cJ2_charAt_3b067 0 = .ok (.iload_n 1, 1) := by decide +kernel
theorem dJ2_charAt_3b067_1 : decode cJ2_charAt_3b067 1 = .ok (.aload_n 0, 1) := by decide +kernel
theorem dJ2_charAt_3b067_2 : decode cJ2_charAt_3b067 2 = .ok (.invokestatic 67, 3) := by decide +kernel
theorem dJ2_charAt_3b067_5 : decode cJ2_charAt_3b067 5 = .ok (.aload_n 0, 1) := by decide +kernel
theorem dJ2_charAt_3b067_6 : decode cJ2_charAt_3b067 6 = .ok (.iload_n 1, 1) := by decide +kernel
theorem dJ2_charAt_3b067_7 : decode cJ2_charAt_3b067 7 = .ok (.invokestatic 71, 3) := by decide +kernel
theorem dJ2_charAt_3b067_10 : decode cJ2_charAt_3b067 10 = .ok (.ireturn, 1) := by decide +kernel
theorem dJ2_checkIndex_2214a_0 : decode cJ2_checkIndex_2214a 0 = .ok (.iload_n 0, 1) := by decide +kernel
theorem dJ2_checkIndex_2214a_1 : decode cJ2_checkIndex_2214a 1 = .ok (.aload_n 1, 1) := by decide +kernel
theorem dJ2_checkIndex_2214a_2 : decode cJ2_checkIndex_2214a 2 = .ok (.invokestatic 48, 3) := by decide +kernel
theorem dJ2_checkIndex_2214a_5 : decode cJ2_checkIndex_2214a 5 = .ok (.invokestatic 414, 3) := by decide +kernel
theorem dJ2_checkIndex_2214a_8 : decode cJ2_checkIndex_2214a 8 = .ok (.return_, 1) := by decide +kernel
theorem dJ3_checkIndex_8e157_0 : decode cJ3_checkIndex_8e157 0 = .ok (.iload_n 0, 1) := by decide +kernel
theorem dJ3_checkIndex_8e157_1 : decode cJ3_checkIndex_8e157 1 = .ok (.ifCond .lt 8, 3) := by decide +kernel
theorem dJ3_checkIndex_8e157_4 : decode cJ3_checkIndex_8e157 4 = .ok (.iload_n 0, 1) := by decide +kernel
theorem dJ3_checkIndex_8e157_5 : decode cJ3_checkIndex_8e157 5 = .ok (.iload_n 1, 1) := by decide +kernel
theorem dJ3_checkIndex_8e157_6 : decode cJ3_checkIndex_8e157 6 = .ok (.if_icmp .lt 10, 3) := by decide +kernel
theorem dJ3_checkIndex_8e157_9 : decode cJ3_checkIndex_8e157 9 = .ok (.aload_n 2, 1) := by decide +kernel
theorem dJ3_checkIndex_8e157_10 : decode cJ3_checkIndex_8e157 10 = .ok (.iload_n 0, 1) := by decide +kernel
theorem dJ3_checkIndex_8e157_11 : decode cJ3_checkIndex_8e157 11 = .ok (.iload_n 1, 1) := by decide +kernel
theorem dJ3_checkIndex_8e157_12 : decode cJ3_checkIndex_8e157 12 = .ok (.invokestatic 95, 3) := by decide +kernel
theorem dJ3_checkIndex_8e157_15 : decode cJ3_checkIndex_8e157 15 = .ok (.athrow, 1) := by decide +kernel
theorem dJ3_checkIndex_8e157_16 : decode cJ3_checkIndex_8e157 16 = .ok (.iload_n 0, 1) := by decide +kernel
theorem dJ3_checkIndex_8e157_17 : decode cJ3_checkIndex_8e157 17 = .ok (.ireturn, 1) := by decide +kernel
theorem dL_below_0 : decode cL_below 0 = .ok (.iload_n 0, 1) := by decide +kernel
theorem dL_below_1 : decode cL_below 1 = .ok (.ldc 7, 2) := by decide +kernel
theorem dL_below_3 : decode cL_below 3 = .ok (.iand, 1) := by decide +kernel
theorem dL_below_4 : decode cL_below 4 = .ok (.iload_n 1, 1) := by decide +kernel
theorem dL_below_5 : decode cL_below 5 = .ok (.irem, 1) := by decide +kernel
theorem dL_below_6 : decode cL_below 6 = .ok (.ireturn, 1) := by decide +kernel
theorem dL_cell_0 : decode cL_cell 0 = .ok (.iload_n 1, 1) := by decide +kernel
theorem dL_cell_1 : decode cL_cell 1 = .ok (.aload_n 0, 1) := by decide +kernel
theorem dL_cell_2 : decode cL_cell 2 = .ok (.arraylength, 1) := by decide +kernel
theorem dL_cell_3 : decode cL_cell 3 = .ok (.if_icmp .ge 9, 3) := by decide +kernel
theorem dL_cell_6 : decode cL_cell 6 = .ok (.aload_n 0, 1) := by decide +kernel
theorem dL_cell_7 : decode cL_cell 7 = .ok (.iload_n 1, 1) := by decide +kernel
theorem dL_cell_8 : decode cL_cell 8 = .ok (.iaload, 1) := by decide +kernel
theorem dL_cell_9 : decode cL_cell 9 = .ok (.goto 9, 3) := by decide +kernel
theorem dL_cell_12 : decode cL_cell 12 = .ok (.ldc 8, 2) := by decide +kernel
theorem dL_cell_14 : decode cL_cell 14 = .ok (.iload_n 1, 1) := by decide +kernel
theorem dL_cell_15 : decode cL_cell 15 = .ok (.iconst 3, 1) := by decide +kernel
theorem dL_cell_16 : decode cL_cell 16 = .ok (.iadd, 1) := by decide +kernel
theorem dL_cell_17 : decode cL_cell 17 = .ok (.imul, 1) := by decide +kernel
theorem dL_cell_18 : decode cL_cell 18 = .ok (.ireturn, 1) := by decide +kernel
theorem dL_put_0 : decode cL_put 0 = .ok (.iconst 0, 1) := by decide +kernel
theorem dL_put_1 : decode cL_put 1 = .ok (.istore_n 2, 1) := by decide +kernel
theorem dL_put_2 : decode cL_put 2 = .ok (.iload_n 2, 1) := by decide +kernel
theorem dL_put_3 : decode cL_put 3 = .ok (.aload_n 1, 1) := by decide +kernel
theorem dL_put_4 : decode cL_put 4 = .ok (.invokevirtual 9, 3) := by decide +kernel
theorem dL_put_7 : decode cL_put 7 = .ok (.if_icmp .ge 23, 3) := by decide +kernel
theorem dL_put_10 : decode cL_put 10 = .ok (.aload_n 0, 1) := by decide +kernel
theorem dL_put_11 : decode cL_put 11 = .ok (.iconst 1, 1) := by decide +kernel
theorem dL_put_12 : decode cL_put 12 = .ok (.aload_n 0, 1) := by decide +kernel
theorem dL_put_13 : decode cL_put 13 = .ok (.iconst 0, 1) := by decide +kernel
theorem dL_put_14 : decode cL_put 14 = .ok (.iaload, 1) := by decide +kernel
theorem dL_put_15 : decode cL_put 15 = .ok (.iadd, 1) := by decide +kernel
theorem dL_put_16 : decode cL_put 16 = .ok (.iload_n 2, 1) := by decide +kernel
theorem dL_put_17 : decode cL_put 17 = .ok (.iadd, 1) := by decide +kernel
theorem dL_put_18 : decode cL_put 18 = .ok (.aload_n 1, 1) := by decide +kernel
theorem dL_put_19 : decode cL_put 19 = .ok (.iload_n 2, 1) := by decide +kernel
theorem dL_put_20 : decode cL_put 20 = .ok (.invokevirtual 15, 3) := by decide +kernel
theorem dL_put_23 : decode cL_put 23 = .ok (.iastore, 1) := by decide +kernel
theorem dL_put_24 : decode cL_put 24 = .ok (.iinc 2 1, 3) := by decide +kernel
theorem dL_put_27 : decode cL_put 27 = .ok (.goto (-25), 3) := by decide +kernel
theorem dL_put_30 : decode cL_put 30 = .ok (.aload_n 0, 1) := by decide +kernel
theorem dL_put_31 : decode cL_put 31 = .ok (.iconst 0, 1) := by decide +kernel
theorem dL_put_32 : decode cL_put 32 = .ok (.dup2, 1) := by decide +kernel
theorem dL_put_33 : decode cL_put 33 = .ok (.iaload, 1) := by decide +kernel
theorem dL_put_34 : decode cL_put 34 = .ok (.aload_n 1, 1) := by decide +kernel
theorem dL_put_35 : decode cL_put 35 = .ok (.invokevirtual 9, 3) := by decide +kernel
theorem dL_put_38 : decode cL_put 38 = .ok (.iadd, 1) := by decide +kernel
theorem dL_put_39 : decode cL_put 39 = .ok (.iastore, 1) := by decide +kernel
theorem dL_put_40 : decode cL_put 40 = .ok (.return_, 1) := by decide +kernel
theorem dL_lay_0 : decode cL_lay 0 = .ok (.aload_n 0, 1) := by decide +kernel
theorem dL_lay_1 : decode cL_lay 1 = .ok (.bipush 9, 2) := by decide +kernel
theorem dL_lay_3 : decode cL_lay 3 = .ok (.invokevirtual 30, 3) := by decide +kernel
theorem dL_lay_6 : decode cL_lay 6 = .ok (.istore_n 2, 1) := by decide +kernel
theorem dL_lay_7 : decode cL_lay 7 = .ok (.aload_n 1, 1) := by decide +kernel
theorem dL_lay_8 : decode cL_lay 8 = .ok (.iconst 0, 1) := by decide +kernel
theorem dL_lay_9 : decode cL_lay 9 = .ok (.iaload, 1) := by decide +kernel
theorem dL_lay_10 : decode cL_lay 10 = .ok (.istore_n 3, 1) := by decide +kernel
theorem dL_lay_11 : decode cL_lay 11 = .ok (.iconst 0, 1) := by decide +kernel
theorem dL_lay_12 : decode cL_lay 12 = .ok (.istore 4, 2) := by decide +kernel
theorem dL_lay_14 : decode cL_lay 14 = .ok (.iload 4, 2) := by decide +kernel
theorem dL_lay_16 : decode cL_lay 16 = .ok (.iload_n 3, 1) := by decide +kernel
theorem dL_lay_17 : decode cL_lay 17 = .ok (.if_icmp .ge 96, 3) := by decide +kernel
theorem dL_lay_20 : decode cL_lay 20 = .ok (.iconst 5, 1) := by decide +kernel
theorem dL_lay_21 : decode cL_lay 21 = .ok (.newarray .int, 2) := by decide +kernel
theorem dL_lay_23 : decode cL_lay 23 = .ok (.astore 5, 2) := by decide +kernel
theorem dL_lay_25 : decode cL_lay 25 = .ok (.iconst 0, 1) := by decide +kernel
theorem dL_lay_26 : decode cL_lay 26 = .ok (.istore 6, 2) := by decide +kernel
theorem dL_lay_28 : decode cL_lay 28 = .ok (.iload 6, 2) := by decide +kernel
theorem dL_lay_30 : decode cL_lay 30 = .ok (.bipush 20, 2) := by decide +kernel
theorem dL_lay_32 : decode cL_lay 32 = .ok (.if_icmp .ge 50, 3) := by decide +kernel
theorem dL_lay_35 : decode cL_lay 35 = .ok (.aload 5, 2) := by decide +kernel
theorem dL_lay_37 : decode cL_lay 37 = .ok (.iload 6, 2) := by decide +kernel
theorem dL_lay_39 : decode cL_lay 39 = .ok (.iconst 4, 1) := by decide +kernel
theorem dL_lay_40 : decode cL_lay 40 = .ok (.idiv, 1) := by decide +kernel
theorem dL_lay_41 : decode cL_lay 41 = .ok (.aload 5, 2) := by decide +kernel
theorem dL_lay_43 : decode cL_lay 43 = .ok (.iload 6, 2) := by decide +kernel
theorem dL_lay_45 : decode cL_lay 45 = .ok (.iconst 4, 1) := by decide +kernel
theorem dL_lay_46 : decode cL_lay 46 = .ok (.idiv, 1) := by decide +kernel
theorem dL_lay_47 : decode cL_lay 47 = .ok (.iaload, 1) := by decide +kernel
theorem dL_lay_48 : decode cL_lay 48 = .ok (.bipush 8, 2) := by decide +kernel
theorem dL_lay_50 : decode cL_lay 50 = .ok (.ishl, 1) := by decide +kernel
theorem dL_lay_51 : decode cL_lay 51 = .ok (.iload 4, 2) := by decide +kernel
theorem dL_lay_53 : decode cL_lay 53 = .ok (.iload 6, 2) := by decide +kernel
theorem dL_lay_55 : decode cL_lay 55 = .ok (.iadd, 1) := by decide +kernel
theorem dL_lay_56 : decode cL_lay 56 = .ok (.iload_n 3, 1) := by decide +kernel
theorem dL_lay_57 : decode cL_lay 57 = .ok (.if_icmp .ge 15, 3) := by decide +kernel
theorem dL_lay_60 : decode cL_lay 60 = .ok (.aload_n 1, 1) := by decide +kernel
theorem dL_lay_61 : decode cL_lay 61 = .ok (.iconst 1, 1) := by decide +kernel
theorem dL_lay_62 : decode cL_lay 62 = .ok (.iload 4, 2) := by decide +kernel
theorem dL_lay_64 : decode cL_lay 64 = .ok (.iadd, 1) := by decide +kernel
theorem dL_lay_65 : decode cL_lay 65 = .ok (.iload 6, 2) := by decide +kernel
theorem dL_lay_67 : decode cL_lay 67 = .ok (.iadd, 1) := by decide +kernel
theorem dL_lay_68 : decode cL_lay 68 = .ok (.iaload, 1) := by decide +kernel
theorem dL_lay_69 : decode cL_lay 69 = .ok (.goto 5, 3) := by decide +kernel
theorem dL_lay_72 : decode cL_lay 72 = .ok (.bipush 32, 2) := by decide +kernel
theorem dL_lay_74 : decode cL_lay 74 = .ok (.ior, 1) := by decide +kernel
theorem dL_lay_75 : decode cL_lay 75 = .ok (.iastore, 1) := by decide +kernel
theorem dL_lay_76 : decode cL_lay 76 = .ok (.iinc 6 1, 3) := by decide +kernel
theorem dL_lay_79 : decode cL_lay 79 = .ok (.goto (-51), 3) := by decide +kernel
theorem dL_lay_82 : decode cL_lay 82 = .ok (.aload_n 0, 1) := by decide +kernel
theorem dL_lay_83 : decode cL_lay 83 = .ok (.aload 5, 2) := by decide +kernel
theorem dL_lay_85 : decode cL_lay 85 = .ok (.iconst 0, 1) := by decide +kernel
theorem dL_lay_86 : decode cL_lay 86 = .ok (.iaload, 1) := by decide +kernel
theorem dL_lay_87 : decode cL_lay 87 = .ok (.aload 5, 2) := by decide +kernel
theorem dL_lay_89 : decode cL_lay 89 = .ok (.iconst 1, 1) := by decide +kernel
theorem dL_lay_90 : decode cL_lay 90 = .ok (.iaload, 1) := by decide +kernel
theorem dL_lay_91 : decode cL_lay 91 = .ok (.aload 5, 2) := by decide +kernel
theorem dL_lay_93 : decode cL_lay 93 = .ok (.iconst 2, 1) := by decide +kernel
theorem dL_lay_94 : decode cL_lay 94 = .ok (.iaload, 1) := by decide +kernel
theorem dL_lay_95 : decode cL_lay 95 = .ok (.aload 5, 2) := by decide +kernel
theorem dL_lay_97 : decode cL_lay 97 = .ok (.iconst 3, 1) := by decide +kernel
theorem dL_lay_98 : decode cL_lay 98 = .ok (.iaload, 1) := by decide +kernel
theorem dL_lay_99 : decode cL_lay 99 = .ok (.aload 5, 2) := by decide +kernel
theorem dL_lay_101 : decode cL_lay 101 = .ok (.iconst 4, 1) := by decide +kernel
theorem dL_lay_102 : decode cL_lay 102 = .ok (.iaload, 1) := by decide +kernel
theorem dL_lay_103 : decode cL_lay 103 = .ok (.invokevirtual 36, 3) := by decide +kernel
theorem dL_lay_106 : decode cL_lay 106 = .ok (.pop, 1) := by decide +kernel
theorem dL_lay_107 : decode cL_lay 107 = .ok (.iinc 4 20, 3) := by decide +kernel
theorem dL_lay_110 : decode cL_lay 110 = .ok (.goto (-96), 3) := by decide +kernel
theorem dL_lay_113 : decode cL_lay 113 = .ok (.aload_n 0, 1) := by decide +kernel
theorem dL_lay_114 : decode cL_lay 114 = .ok (.iload_n 2, 1) := by decide +kernel
theorem dL_lay_115 : decode cL_lay 115 = .ok (.iload_n 3, 1) := by decide +kernel
theorem dL_lay_116 : decode cL_lay 116 = .ok (.iadd, 1) := by decide +kernel
theorem dL_lay_117 : decode cL_lay 117 = .ok (.invokevirtual 40, 3) := by decide +kernel
theorem dL_lay_120 : decode cL_lay 120 = .ok (.iload_n 2, 1) := by decide +kernel
theorem dL_lay_121 : decode cL_lay 121 = .ok (.iload_n 3, 1) := by decide +kernel
theorem dL_lay_122 : decode cL_lay 122 = .ok (.iadd, 1) := by decide +kernel
theorem dL_lay_123 : decode cL_lay 123 = .ok (.if_icmp .ne 7, 3) := by decide +kernel
theorem dL_lay_126 : decode cL_lay 126 = .ok (.iconst 1, 1) := by decide +kernel
theorem dL_lay_127 : decode cL_lay 127 = .ok (.goto 4, 3) := by decide +kernel
theorem dL_lay_130 : decode cL_lay 130 = .ok (.iconst 0, 1) := by decide +kernel
theorem dL_lay_131 : decode cL_lay 131 = .ok (.ireturn, 1) := by decide +kernel
theorem dL_holds_0 : decode cL_holds 0 = .ok (.aload_n 0, 1) := by decide +kernel
theorem dL_holds_1 : decode cL_holds 1 = .ok (.iload_n 1, 1) := by decide +kernel
theorem dL_holds_2 : decode cL_holds 2 = .ok (.iconst 0, 1) := by decide +kernel
theorem dL_holds_3 : decode cL_holds 3 = .ok (.invokevirtual 50, 3) := by decide +kernel
theorem dL_holds_6 : decode cL_holds 6 = .ok (.istore_n 3, 1) := by decide +kernel
theorem dL_holds_7 : decode cL_holds 7 = .ok (.aload_n 0, 1) := by decide +kernel
theorem dL_holds_8 : decode cL_holds 8 = .ok (.iload_n 1, 1) := by decide +kernel
theorem dL_holds_9 : decode cL_holds 9 = .ok (.iconst 1, 1) := by decide +kernel
theorem dL_holds_10 : decode cL_holds 10 = .ok (.invokevirtual 50, 3) := by decide +kernel
theorem dL_holds_13 : decode cL_holds 13 = .ok (.istore 4, 2) := by decide +kernel
theorem dL_holds_15 : decode cL_holds 15 = .ok (.aload_n 0, 1) := by decide +kernel
theorem dL_holds_16 : decode cL_holds 16 = .ok (.iload_n 1, 1) := by decide +kernel
theorem dL_holds_17 : decode cL_holds 17 = .ok (.iconst 3, 1) := by decide +kernel
theorem dL_holds_18 : decode cL_holds 18 = .ok (.invokevirtual 50, 3) := by decide +kernel
theorem dL_holds_21 : decode cL_holds 21 = .ok (.istore 5, 2) := by decide +kernel
theorem dL_holds_23 : decode cL_holds 23 = .ok (.iconst 0, 1) := by decide +kernel
theorem dL_holds_24 : decode cL_holds 24 = .ok (.istore 6, 2) := by decide +kernel
theorem dL_holds_26 : decode cL_holds 26 = .ok (.iconst 1, 1) := by decide +kernel
theorem dL_holds_27 : decode cL_holds 27 = .ok (.istore 7, 2) := by decide +kernel
theorem dL_holds_29 : decode cL_holds 29 = .ok (.iconst 0, 1) := by decide +kernel
theorem dL_holds_30 : decode cL_holds 30 = .ok (.istore 8, 2) := by decide +kernel
theorem dL_holds_32 : decode cL_holds 32 = .ok (.iconst 0, 1) := by decide +kernel
theorem dL_holds_33 : decode cL_holds 33 = .ok (.istore 9, 2) := by decide +kernel
theorem dL_holds_35 : decode cL_holds 35 = .ok (.iconst 0, 1) := by decide +kernel
theorem dL_holds_36 : decode cL_holds 36 = .ok (.istore 10, 2) := by decide +kernel
theorem dL_holds_38 : decode cL_holds 38 = .ok (.iconst 1, 1) := by decide +kernel
theorem dL_holds_39 : decode cL_holds 39 = .ok (.istore 11, 2) := by decide +kernel
theorem dL_holds_41 : decode cL_holds 41 = .ok (.iconst 1, 1) := by decide +kernel
theorem dL_holds_42 : decode cL_holds 42 = .ok (.istore 12, 2) := by decide +kernel
theorem dL_holds_44 : decode cL_holds 44 = .ok (.iconst 1, 1) := by decide +kernel
theorem dL_holds_45 : decode cL_holds 45 = .ok (.istore 13, 2) := by decide +kernel
theorem dL_holds_47 : decode cL_holds 47 = .ok (.iconst 1, 1) := by decide +kernel
theorem dL_holds_48 : decode cL_holds 48 = .ok (.istore 14, 2) := by decide +kernel
theorem dL_holds_50 : decode cL_holds 50 = .ok (.iconst 1, 1) := by decide +kernel
theorem dL_holds_51 : decode cL_holds 51 = .ok (.istore 15, 2) := by decide +kernel
theorem dL_holds_53 : decode cL_holds 53 = .ok (.iconst 1, 1) := by decide +kernel
theorem dL_holds_54 : decode cL_holds 54 = .ok (.istore 16, 2) := by decide +kernel
theorem dL_holds_56 : decode cL_holds 56 = .ok (.iconst 0, 1) := by decide +kernel
theorem dL_holds_57 : decode cL_holds 57 = .ok (.istore 17, 2) := by decide +kernel
theorem dL_holds_59 : decode cL_holds 59 = .ok (.iload 17, 2) := by decide +kernel
theorem dL_holds_61 : decode cL_holds 61 = .ok (.iload 5, 2) := by decide +kernel
theorem dL_holds_63 : decode cL_holds 63 = .ok (.if_icmp .ge 235, 3) := by decide +kernel
theorem dL_holds_66 : decode cL_holds 66 = .ok (.aload_n 2, 1) := by decide +kernel
theorem dL_holds_67 : decode cL_holds 67 = .ok (.aload_n 0, 1) := by decide +kernel
theorem dL_holds_68 : decode cL_holds 68 = .ok (.iload_n 1, 1) := by decide +kernel
theorem dL_holds_69 : decode cL_holds 69 = .ok (.iconst 4, 1) := by decide +kernel
theorem dL_holds_70 : decode cL_holds 70 = .ok (.iload 17, 2) := by decide +kernel
theorem dL_holds_72 : decode cL_holds 72 = .ok (.iadd, 1) := by decide +kernel
theorem dL_holds_73 : decode cL_holds 73 = .ok (.invokevirtual 50, 3) := by decide +kernel
theorem dL_holds_76 : decode cL_holds 76 = .ok (.iaload, 1) := by decide +kernel
theorem dL_holds_77 : decode cL_holds 77 = .ok (.istore 18, 2) := by decide +kernel
theorem dL_holds_79 : decode cL_holds 79 = .ok (.iload 6, 2) := by decide +kernel
theorem dL_holds_81 : decode cL_holds 81 = .ok (.iload 18, 2) := by decide +kernel
theorem dL_holds_83 : decode cL_holds 83 = .ok (.iadd, 1) := by decide +kernel
theorem dL_holds_84 : decode cL_holds 84 = .ok (.istore 6, 2) := by decide +kernel
theorem dL_holds_86 : decode cL_holds 86 = .ok (.iload 7, 2) := by decide +kernel
theorem dL_holds_88 : decode cL_holds 88 = .ok (.iload 18, 2) := by decide +kernel
theorem dL_holds_90 : decode cL_holds 90 = .ok (.imul, 1) := by decide +kernel
theorem dL_holds_91 : decode cL_holds 91 = .ok (.istore 7, 2) := by decide +kernel
theorem dL_holds_93 : decode cL_holds 93 = .ok (.iload 8, 2) := by decide +kernel
theorem dL_holds_95 : decode cL_holds 95 = .ok (.iload 18, 2) := by decide +kernel
theorem dL_holds_97 : decode cL_holds 97 = .ok (.iload 9, 2) := by decide +kernel
theorem dL_holds_99 : decode cL_holds 99 = .ok (.if_icmp .le 7, 3) := by decide +kernel
theorem dL_holds_102 : decode cL_holds 102 = .ok (.iconst 1, 1) := by decide +kernel
theorem dL_holds_103 : decode cL_holds 103 = .ok (.goto 4, 3) := by decide +kernel
theorem dL_holds_106 : decode cL_holds 106 = .ok (.iconst 0, 1) := by decide +kernel
theorem dL_holds_107 : decode cL_holds 107 = .ok (.iadd, 1) := by decide +kernel
theorem dL_holds_108 : decode cL_holds 108 = .ok (.istore 8, 2) := by decide +kernel
theorem dL_holds_110 : decode cL_holds 110 = .ok (.iload 9, 2) := by decide +kernel
theorem dL_holds_112 : decode cL_holds 112 = .ok (.iload 18, 2) := by decide +kernel
theorem dL_holds_114 : decode cL_holds 114 = .ok (.invokestatic 54, 3) := by decide +kernel
theorem dL_holds_117 : decode cL_holds 117 = .ok (.istore 9, 2) := by decide +kernel
theorem dL_holds_119 : decode cL_holds 119 = .ok (.iload 10, 2) := by decide +kernel
theorem dL_holds_121 : decode cL_holds 121 = .ok (.iload 18, 2) := by decide +kernel
theorem dL_holds_123 : decode cL_holds 123 = .ok (.iload 4, 2) := by decide +kernel
theorem dL_holds_125 : decode cL_holds 125 = .ok (.if_icmp .ne 7, 3) := by decide +kernel
theorem dL_holds_128 : decode cL_holds 128 = .ok (.iconst 1, 1) := by decide +kernel
theorem dL_holds_129 : decode cL_holds 129 = .ok (.goto 4, 3) := by decide +kernel
theorem dL_holds_132 : decode cL_holds 132 = .ok (.iconst 0, 1) := by decide +kernel
theorem dL_holds_133 : decode cL_holds 133 = .ok (.iadd, 1) := by decide +kernel
theorem dL_holds_134 : decode cL_holds 134 = .ok (.istore 10, 2) := by decide +kernel
theorem dL_holds_136 : decode cL_holds 136 = .ok (.iload 11, 2) := by decide +kernel
theorem dL_holds_138 : decode cL_holds 138 = .ok (.iload 18, 2) := by decide +kernel
theorem dL_holds_140 : decode cL_holds 140 = .ok (.iconst 2, 1) := by decide +kernel
theorem dL_holds_141 : decode cL_holds 141 = .ok (.irem, 1) := by decide +kernel
theorem dL_holds_142 : decode cL_holds 142 = .ok (.iconst 1, 1) := by decide +kernel
theorem dL_holds_143 : decode cL_holds 143 = .ok (.if_icmp .ne 7, 3) := by decide +kernel
theorem dL_holds_146 : decode cL_holds 146 = .ok (.iconst 1, 1) := by decide +kernel
theorem dL_holds_147 : decode cL_holds 147 = .ok (.goto 4, 3) := by decide +kernel
theorem dL_holds_150 : decode cL_holds 150 = .ok (.iconst 0, 1) := by decide +kernel
theorem dL_holds_151 : decode cL_holds 151 = .ok (.iand, 1) := by decide +kernel
theorem dL_holds_152 : decode cL_holds 152 = .ok (.istore 11, 2) := by decide +kernel
theorem dL_holds_154 : decode cL_holds 154 = .ok (.iload 12, 2) := by decide +kernel
theorem dL_holds_156 : decode cL_holds 156 = .ok (.iload 18, 2) := by decide +kernel
theorem dL_holds_158 : decode cL_holds 158 = .ok (.iconst 2, 1) := by decide +kernel
theorem dL_holds_159 : decode cL_holds 159 = .ok (.irem, 1) := by decide +kernel
theorem dL_holds_160 : decode cL_holds 160 = .ok (.ifCond .ne 7, 3) := by decide +kernel
theorem dL_holds_163 : decode cL_holds 163 = .ok (.iconst 1, 1) := by decide +kernel
theorem dL_holds_164 : decode cL_holds 164 = .ok (.goto 4, 3) := by decide +kernel
theorem dL_holds_167 : decode cL_holds 167 = .ok (.iconst 0, 1) := by decide +kernel
theorem dL_holds_168 : decode cL_holds 168 = .ok (.iand, 1) := by decide +kernel
theorem dL_holds_169 : decode cL_holds 169 = .ok (.istore 12, 2) := by decide +kernel
theorem dL_holds_171 : decode cL_holds 171 = .ok (.iconst 0, 1) := by decide +kernel
theorem dL_holds_172 : decode cL_holds 172 = .ok (.istore 19, 2) := by decide +kernel
theorem dL_holds_174 : decode cL_holds 174 = .ok (.iload 19, 2) := by decide +kernel
theorem dL_holds_176 : decode cL_holds 176 = .ok (.iload 17, 2) := by decide +kernel
theorem dL_holds_178 : decode cL_holds 178 = .ok (.if_icmp .ge 114, 3) := by decide +kernel
theorem dL_holds_181 : decode cL_holds 181 = .ok (.aload_n 2, 1) := by decide +kernel
theorem dL_holds_182 : decode cL_holds 182 = .ok (.aload_n 0, 1) := by decide +kernel
theorem dL_holds_183 : decode cL_holds 183 = .ok (.iload_n 1, 1) := by decide +kernel
theorem dL_holds_184 : decode cL_holds 184 = .ok (.iconst 4, 1) := by decide +kernel
theorem dL_holds_185 : decode cL_holds 185 = .ok (.iload 19, 2) := by decide +kernel
theorem dL_holds_187 : decode cL_holds 187 = .ok (.iadd, 1) := by decide +kernel
theorem dL_holds_188 : decode cL_holds 188 = .ok (.invokevirtual 50, 3) := by decide +kernel
theorem dL_holds_191 : decode cL_holds 191 = .ok (.iaload, 1) := by decide +kernel
theorem dL_holds_192 : decode cL_holds 192 = .ok (.istore 20, 2) := by decide +kernel
theorem dL_holds_194 : decode cL_holds 194 = .ok (.iload 13, 2) := by decide +kernel
theorem dL_holds_196 : decode cL_holds 196 = .ok (.iload 20, 2) := by decide +kernel
theorem dL_holds_198 : decode cL_holds 198 = .ok (.iload 18, 2) := by decide +kernel
theorem dL_holds_200 : decode cL_holds 200 = .ok (.if_icmp .eq 7, 3) := by decide +kernel
theorem dL_holds_203 : decode cL_holds 203 = .ok (.iconst 1, 1) := by decide +kernel
theorem dL_holds_204 : decode cL_holds 204 = .ok (.goto 4, 3) := by decide +kernel
theorem dL_holds_207 : decode cL_holds 207 = .ok (.iconst 0, 1) := by decide +kernel
theorem dL_holds_208 : decode cL_holds 208 = .ok (.iand, 1) := by decide +kernel
theorem dL_holds_209 : decode cL_holds 209 = .ok (.istore 13, 2) := by decide +kernel
theorem dL_holds_211 : decode cL_holds 211 = .ok (.iload 14, 2) := by decide +kernel
theorem dL_holds_213 : decode cL_holds 213 = .ok (.iload 20, 2) := by decide +kernel
theorem dL_holds_215 : decode cL_holds 215 = .ok (.iload 18, 2) := by decide +kernel
theorem dL_holds_217 : decode cL_holds 217 = .ok (.if_icmp .ne 7, 3) := by decide +kernel
theorem dL_holds_220 : decode cL_holds 220 = .ok (.iconst 1, 1) := by decide +kernel
theorem dL_holds_221 : decode cL_holds 221 = .ok (.goto 4, 3) := by decide +kernel
theorem dL_holds_224 : decode cL_holds 224 = .ok (.iconst 0, 1) := by decide +kernel
theorem dL_holds_225 : decode cL_holds 225 = .ok (.iand, 1) := by decide +kernel
theorem dL_holds_226 : decode cL_holds 226 = .ok (.istore 14, 2) := by decide +kernel
theorem dL_holds_228 : decode cL_holds 228 = .ok (.iload 15, 2) := by decide +kernel
theorem dL_holds_230 : decode cL_holds 230 = .ok (.iload 19, 2) := by decide +kernel
theorem dL_holds_232 : decode cL_holds 232 = .ok (.iconst 1, 1) := by decide +kernel
theorem dL_holds_233 : decode cL_holds 233 = .ok (.iadd, 1) := by decide +kernel
theorem dL_holds_234 : decode cL_holds 234 = .ok (.iload 17, 2) := by decide +kernel
theorem dL_holds_236 : decode cL_holds 236 = .ok (.if_icmp .lt 10, 3) := by decide +kernel
theorem dL_holds_239 : decode cL_holds 239 = .ok (.iload 20, 2) := by decide +kernel
theorem dL_holds_241 : decode cL_holds 241 = .ok (.iload 18, 2) := by decide +kernel
theorem dL_holds_243 : decode cL_holds 243 = .ok (.if_icmp .ge 7, 3) := by decide +kernel
theorem dL_holds_246 : decode cL_holds 246 = .ok (.iconst 1, 1) := by decide +kernel
theorem dL_holds_247 : decode cL_holds 247 = .ok (.goto 4, 3) := by decide +kernel
theorem dL_holds_250 : decode cL_holds 250 = .ok (.iconst 0, 1) := by decide +kernel
theorem dL_holds_251 : decode cL_holds 251 = .ok (.iand, 1) := by decide +kernel
theorem dL_holds_252 : decode cL_holds 252 = .ok (.istore 15, 2) := by decide +kernel
theorem dL_holds_254 : decode cL_holds 254 = .ok (.iload 16, 2) := by decide +kernel
theorem dL_holds_256 : decode cL_holds 256 = .ok (.iload 19, 2) := by decide +kernel
theorem dL_holds_258 : decode cL_holds 258 = .ok (.iconst 1, 1) := by decide +kernel
theorem dL_holds_259 : decode cL_holds 259 = .ok (.iadd, 1) := by decide +kernel
theorem dL_holds_260 : decode cL_holds 260 = .ok (.iload 17, 2) := by decide +kernel
theorem dL_holds_262 : decode cL_holds 262 = .ok (.if_icmp .lt 16, 3) := by decide +kernel
theorem dL_holds_265 : decode cL_holds 265 = .ok (.iload 20, 2) := by decide +kernel
theorem dL_holds_267 : decode cL_holds 267 = .ok (.iload 18, 2) := by decide +kernel
theorem dL_holds_269 : decode cL_holds 269 = .ok (.isub, 1) := by decide +kernel
theorem dL_holds_270 : decode cL_holds 270 = .ok (.invokestatic 59, 3) := by decide +kernel
theorem dL_holds_273 : decode cL_holds 273 = .ok (.iload 4, 2) := by decide +kernel
theorem dL_holds_275 : decode cL_holds 275 = .ok (.if_icmp .lt 7, 3) := by decide +kernel
theorem dL_holds_278 : decode cL_holds 278 = .ok (.iconst 1, 1) := by decide +kernel
theorem dL_holds_279 : decode cL_holds 279 = .ok (.goto 4, 3) := by decide +kernel
theorem dL_holds_282 : decode cL_holds 282 = .ok (.iconst 0, 1) := by decide +kernel
theorem dL_holds_283 : decode cL_holds 283 = .ok (.iand, 1) := by decide +kernel
theorem dL_holds_284 : decode cL_holds 284 = .ok (.istore 16, 2) := by decide +kernel
theorem dL_holds_286 : decode cL_holds 286 = .ok (.iinc 19 1, 3) := by decide +kernel
theorem dL_holds_289 : decode cL_holds 289 = .ok (.goto (-115), 3) := by decide +kernel
theorem dL_holds_292 : decode cL_holds 292 = .ok (.iinc 17 1, 3) := by decide +kernel
theorem dL_holds_295 : decode cL_holds 295 = .ok (.goto (-236), 3) := by decide +kernel
theorem dL_holds_298 : decode cL_holds 298 = .ok (.bipush 12, 2) := by decide +kernel
theorem dL_holds_300 : decode cL_holds 300 = .ok (.newarray .boolean, 2) := by decide +kernel
theorem dL_holds_302 : decode cL_holds 302 = .ok (.dup, 1) := by decide +kernel
theorem dL_holds_303 : decode cL_holds 303 = .ok (.iconst 0, 1) := by decide +kernel
theorem dL_holds_304 : decode cL_holds 304 = .ok (.iload 13, 2) := by decide +kernel
theorem dL_holds_306 : decode cL_holds 306 = .ok (.bastore, 1) := by decide +kernel
theorem dL_holds_307 : decode cL_holds 307 = .ok (.dup, 1) := by decide +kernel
theorem dL_holds_308 : decode cL_holds 308 = .ok (.iconst 1, 1) := by decide +kernel
theorem dL_holds_309 : decode cL_holds 309 = .ok (.iload 6, 2) := by decide +kernel
theorem dL_holds_311 : decode cL_holds 311 = .ok (.iload 4, 2) := by decide +kernel
theorem dL_holds_313 : decode cL_holds 313 = .ok (.if_icmp .ne 7, 3) := by decide +kernel
theorem dL_holds_316 : decode cL_holds 316 = .ok (.iconst 1, 1) := by decide +kernel
theorem dL_holds_317 : decode cL_holds 317 = .ok (.goto 4, 3) := by decide +kernel
theorem dL_holds_320 : decode cL_holds 320 = .ok (.iconst 0, 1) := by decide +kernel
theorem dL_holds_321 : decode cL_holds 321 = .ok (.bastore, 1) := by decide +kernel
theorem dL_holds_322 : decode cL_holds 322 = .ok (.dup, 1) := by decide +kernel
theorem dL_holds_323 : decode cL_holds 323 = .ok (.iconst 2, 1) := by decide +kernel
theorem dL_holds_324 : decode cL_holds 324 = .ok (.iload 7, 2) := by decide +kernel
theorem dL_holds_326 : decode cL_holds 326 = .ok (.iload 4, 2) := by decide +kernel
theorem dL_holds_328 : decode cL_holds 328 = .ok (.if_icmp .ne 7, 3) := by decide +kernel
theorem dL_holds_331 : decode cL_holds 331 = .ok (.iconst 1, 1) := by decide +kernel
theorem dL_holds_332 : decode cL_holds 332 = .ok (.goto 4, 3) := by decide +kernel
theorem dL_holds_335 : decode cL_holds 335 = .ok (.iconst 0, 1) := by decide +kernel
theorem dL_holds_336 : decode cL_holds 336 = .ok (.bastore, 1) := by decide +kernel
theorem dL_holds_337 : decode cL_holds 337 = .ok (.dup, 1) := by decide +kernel
theorem dL_holds_338 : decode cL_holds 338 = .ok (.iconst 3, 1) := by decide +kernel
theorem dL_holds_339 : decode cL_holds 339 = .ok (.iload 15, 2) := by decide +kernel
theorem dL_holds_341 : decode cL_holds 341 = .ok (.bastore, 1) := by decide +kernel
theorem dL_holds_342 : decode cL_holds 342 = .ok (.dup, 1) := by decide +kernel
theorem dL_holds_343 : decode cL_holds 343 = .ok (.iconst 4, 1) := by decide +kernel
theorem dL_holds_344 : decode cL_holds 344 = .ok (.iload 15, 2) := by decide +kernel
theorem dL_holds_346 : decode cL_holds 346 = .ok (.bastore, 1) := by decide +kernel
theorem dL_holds_347 : decode cL_holds 347 = .ok (.dup, 1) := by decide +kernel
theorem dL_holds_348 : decode cL_holds 348 = .ok (.iconst 5, 1) := by decide +kernel
theorem dL_holds_349 : decode cL_holds 349 = .ok (.iload 8, 2) := by decide +kernel
theorem dL_holds_351 : decode cL_holds 351 = .ok (.iload 4, 2) := by decide +kernel
theorem dL_holds_353 : decode cL_holds 353 = .ok (.if_icmp .ne 7, 3) := by decide +kernel
theorem dL_holds_356 : decode cL_holds 356 = .ok (.iconst 1, 1) := by decide +kernel
theorem dL_holds_357 : decode cL_holds 357 = .ok (.goto 4, 3) := by decide +kernel
theorem dL_holds_360 : decode cL_holds 360 = .ok (.iconst 0, 1) := by decide +kernel
theorem dL_holds_361 : decode cL_holds 361 = .ok (.bastore, 1) := by decide +kernel
theorem dL_holds_362 : decode cL_holds 362 = .ok (.dup, 1) := by decide +kernel
theorem dL_holds_363 : decode cL_holds 363 = .ok (.bipush 6, 2) := by decide +kernel
theorem dL_holds_365 : decode cL_holds 365 = .ok (.iload 11, 2) := by decide +kernel
theorem dL_holds_367 : decode cL_holds 367 = .ok (.bastore, 1) := by decide +kernel
theorem dL_holds_368 : decode cL_holds 368 = .ok (.dup, 1) := by decide +kernel
theorem dL_holds_369 : decode cL_holds 369 = .ok (.bipush 7, 2) := by decide +kernel
theorem dL_holds_371 : decode cL_holds 371 = .ok (.iload 12, 2) := by decide +kernel
theorem dL_holds_373 : decode cL_holds 373 = .ok (.bastore, 1) := by decide +kernel
theorem dL_holds_374 : decode cL_holds 374 = .ok (.dup, 1) := by decide +kernel
theorem dL_holds_375 : decode cL_holds 375 = .ok (.bipush 8, 2) := by decide +kernel
theorem dL_holds_377 : decode cL_holds 377 = .ok (.iload 10, 2) := by decide +kernel
theorem dL_holds_379 : decode cL_holds 379 = .ok (.aload_n 0, 1) := by decide +kernel
theorem dL_holds_380 : decode cL_holds 380 = .ok (.iload_n 1, 1) := by decide +kernel
theorem dL_holds_381 : decode cL_holds 381 = .ok (.iconst 2, 1) := by decide +kernel
theorem dL_holds_382 : decode cL_holds 382 = .ok (.invokevirtual 50, 3) := by decide +kernel
theorem dL_holds_385 : decode cL_holds 385 = .ok (.if_icmp .ne 7, 3) := by decide +kernel
theorem dL_holds_388 : decode cL_holds 388 = .ok (.iconst 1, 1) := by decide +kernel
theorem dL_holds_389 : decode cL_holds 389 = .ok (.goto 4, 3) := by decide +kernel
theorem dL_holds_392 : decode cL_holds 392 = .ok (.iconst 0, 1) := by decide +kernel
theorem dL_holds_393 : decode cL_holds 393 = .ok (.bastore, 1) := by decide +kernel
theorem dL_holds_394 : decode cL_holds 394 = .ok (.dup, 1) := by decide +kernel
theorem dL_holds_395 : decode cL_holds 395 = .ok (.bipush 9, 2) := by decide +kernel
theorem dL_holds_397 : decode cL_holds 397 = .ok (.iload 10, 2) := by decide +kernel
theorem dL_holds_399 : decode cL_holds 399 = .ok (.iconst 1, 1) := by decide +kernel
theorem dL_holds_400 : decode cL_holds 400 = .ok (.if_icmp .ne 7, 3) := by decide +kernel
theorem dL_holds_403 : decode cL_holds 403 = .ok (.iconst 1, 1) := by decide +kernel
theorem dL_holds_404 : decode cL_holds 404 = .ok (.goto 4, 3) := by decide +kernel
theorem dL_holds_407 : decode cL_holds 407 = .ok (.iconst 0, 1) := by decide +kernel
theorem dL_holds_408 : decode cL_holds 408 = .ok (.bastore, 1) := by decide +kernel
theorem dL_holds_409 : decode cL_holds 409 = .ok (.dup, 1) := by decide +kernel
theorem dL_holds_410 : decode cL_holds 410 = .ok (.bipush 10, 2) := by decide +kernel
theorem dL_holds_412 : decode cL_holds 412 = .ok (.iload 16, 2) := by decide +kernel
theorem dL_holds_414 : decode cL_holds 414 = .ok (.bastore, 1) := by decide +kernel
theorem dL_holds_415 : decode cL_holds 415 = .ok (.dup, 1) := by decide +kernel
theorem dL_holds_416 : decode cL_holds 416 = .ok (.bipush 11, 2) := by decide +kernel
theorem dL_holds_418 : decode cL_holds 418 = .ok (.iload 14, 2) := by decide +kernel
theorem dL_holds_420 : decode cL_holds 420 = .ok (.bastore, 1) := by decide +kernel
theorem dL_holds_421 : decode cL_holds 421 = .ok (.astore 17, 2) := by decide +kernel
theorem dL_holds_423 : decode cL_holds 423 = .ok (.aload 17, 2) := by decide +kernel
theorem dL_holds_425 : decode cL_holds 425 = .ok (.iload_n 3, 1) := by decide +kernel
theorem dL_holds_426 : decode cL_holds 426 = .ok (.baload, 1) := by decide +kernel
theorem dL_holds_427 : decode cL_holds 427 = .ok (.ireturn, 1) := by decide +kernel
theorem dL_law_0 : decode cL_law 0 = .ok (.new 31, 3) := by decide +kernel
theorem dL_law_3 : decode cL_law 3 = .ok (.dup, 1) := by decide +kernel
theorem dL_law_4 : decode cL_law 4 = .ok (.invokespecial 62, 3) := by decide +kernel
theorem dL_law_7 : decode cL_law 7 = .ok (.astore_n 1, 1) := by decide +kernel
theorem dL_law_8 : decode cL_law 8 = .ok (.sipush 900, 3) := by decide +kernel
theorem dL_law_11 : decode cL_law 11 = .ok (.newarray .int, 2) := by decide +kernel
theorem dL_law_13 : decode cL_law 13 = .ok (.astore_n 2, 1) := by decide +kernel
theorem dL_law_14 : decode cL_law 14 = .ok (.aload_n 2, 1) := by decide +kernel
theorem dL_law_15 : decode cL_law 15 = .ok (.ldc 63, 2) := by decide +kernel
theorem dL_law_17 : decode cL_law 17 = .ok (.invokestatic 21, 3) := by decide +kernel
theorem dL_law_20 : decode cL_law 20 = .ok (.aload_n 0, 1) := by decide +kernel
theorem dL_law_21 : decode cL_law 21 = .ok (.iconst 0, 1) := by decide +kernel
theorem dL_law_22 : decode cL_law 22 = .ok (.invokestatic 65, 3) := by decide +kernel
theorem dL_law_25 : decode cL_law 25 = .ok (.bipush 6, 2) := by decide +kernel
theorem dL_law_27 : decode cL_law 27 = .ok (.invokestatic 69, 3) := by decide +kernel
theorem dL_law_30 : decode cL_law 30 = .ok (.istore_n 3, 1) := by decide +kernel
theorem dL_law_31 : decode cL_law 31 = .ok (.iconst 0, 1) := by decide +kernel
theorem dL_law_32 : decode cL_law 32 = .ok (.istore 4, 2) := by decide +kernel
theorem dL_law_34 : decode cL_law 34 = .ok (.iload 4, 2) := by decide +kernel
theorem dL_law_36 : decode cL_law 36 = .ok (.iload_n 3, 1) := by decide +kernel
theorem dL_law_37 : decode cL_law 37 = .ok (.if_icmp .ge 38, 3) := by decide +kernel
theorem dL_law_40 : decode cL_law 40 = .ok (.aload_n 2, 1) := by decide +kernel
theorem dL_law_41 : decode cL_law 41 = .ok (.getstatic 72, 3) := by decide +kernel
theorem dL_law_44 : decode cL_law 44 = .ok (.aload_n 0, 1) := by decide +kernel
theorem dL_law_45 : decode cL_law 45 = .ok (.iconst 1, 1) := by decide +kernel
theorem dL_law_46 : decode cL_law 46 = .ok (.iload 4, 2) := by decide +kernel
theorem dL_law_48 : decode cL_law 48 = .ok (.iadd, 1) := by decide +kernel
theorem dL_law_49 : decode cL_law 49 = .ok (.invokestatic 65, 3) := by decide +kernel
theorem dL_law_52 : decode cL_law 52 = .ok (.getstatic 72, 3) := by decide +kernel
theorem dL_law_55 : decode cL_law 55 = .ok (.arraylength, 1) := by decide +kernel
theorem dL_law_56 : decode cL_law 56 = .ok (.invokestatic 69, 3) := by decide +kernel
theorem dL_law_59 : decode cL_law 59 = .ok (.aaload, 1) := by decide +kernel
theorem dL_law_60 : decode cL_law 60 = .ok (.invokestatic 21, 3) := by decide +kernel
theorem dL_law_63 : decode cL_law 63 = .ok (.aload_n 2, 1) := by decide +kernel
theorem dL_law_64 : decode cL_law 64 = .ok (.ldc 76, 2) := by decide +kernel
theorem dL_law_66 : decode cL_law 66 = .ok (.invokestatic 21, 3) := by decide +kernel
theorem dL_law_69 : decode cL_law 69 = .ok (.iinc 4 1, 3) := by decide +kernel
theorem dL_law_72 : decode cL_law 72 = .ok (.goto (-38), 3) := by decide +kernel
theorem dL_law_75 : decode cL_law 75 = .ok (.aload_n 1, 1) := by decide +kernel
theorem dL_law_76 : decode cL_law 76 = .ok (.aload_n 2, 1) := by decide +kernel
theorem dL_law_77 : decode cL_law 77 = .ok (.invokestatic 43, 3) := by decide +kernel
theorem dL_law_80 : decode cL_law 80 = .ok (.ifCond .eq 10, 3) := by decide +kernel
theorem dL_law_83 : decode cL_law 83 = .ok (.aload_n 1, 1) := by decide +kernel
theorem dL_law_84 : decode cL_law 84 = .ok (.invokevirtual 47, 3) := by decide +kernel
theorem dL_law_87 : decode cL_law 87 = .ok (.ifCond .eq 5, 3) := by decide +kernel
theorem dL_law_90 : decode cL_law 90 = .ok (.iconst 0, 1) := by decide +kernel
theorem dL_law_91 : decode cL_law 91 = .ok (.ireturn, 1) := by decide +kernel
theorem dL_law_92 : decode cL_law 92 = .ok (.iconst 0, 1) := by decide +kernel
theorem dL_law_93 : decode cL_law 93 = .ok (.istore 4, 2) := by decide +kernel
theorem dL_law_95 : decode cL_law 95 = .ok (.iload 4, 2) := by decide +kernel
theorem dL_law_97 : decode cL_law 97 = .ok (.aload_n 0, 1) := by decide +kernel
theorem dL_law_98 : decode cL_law 98 = .ok (.bipush 7, 2) := by decide +kernel
theorem dL_law_100 : decode cL_law 100 = .ok (.invokestatic 65, 3) := by decide +kernel
theorem dL_law_103 : decode cL_law 103 = .ok (.iconst 3, 1) := by decide +kernel
theorem dL_law_104 : decode cL_law 104 = .ok (.invokestatic 69, 3) := by decide +kernel
theorem dL_law_107 : decode cL_law 107 = .ok (.if_icmp .ge 42, 3) := by decide +kernel
theorem dL_law_110 : decode cL_law 110 = .ok (.aload_n 1, 1) := by decide +kernel
theorem dL_law_111 : decode cL_law 111 = .ok (.aload_n 0, 1) := by decide +kernel
theorem dL_law_112 : decode cL_law 112 = .ok (.bipush 8, 2) := by decide +kernel
theorem dL_law_114 : decode cL_law 114 = .ok (.iload 4, 2) := by decide +kernel
theorem dL_law_116 : decode cL_law 116 = .ok (.iadd, 1) := by decide +kernel
theorem dL_law_117 : decode cL_law 117 = .ok (.invokestatic 65, 3) := by decide +kernel
theorem dL_law_120 : decode cL_law 120 = .ok (.iconst 4, 1) := by decide +kernel
theorem dL_law_121 : decode cL_law 121 = .ok (.invokestatic 69, 3) := by decide +kernel
theorem dL_law_124 : decode cL_law 124 = .ok (.aload_n 0, 1) := by decide +kernel
theorem dL_law_125 : decode cL_law 125 = .ok (.bipush 8, 2) := by decide +kernel
theorem dL_law_127 : decode cL_law 127 = .ok (.iload 4, 2) := by decide +kernel
theorem dL_law_129 : decode cL_law 129 = .ok (.iadd, 1) := by decide +kernel
theorem dL_law_130 : decode cL_law 130 = .ok (.invokestatic 65, 3) := by decide +kernel
theorem dL_law_133 : decode cL_law 133 = .ok (.iconst 4, 1) := by decide +kernel
theorem dL_law_134 : decode cL_law 134 = .ok (.ishr, 1) := by decide +kernel
theorem dL_law_135 : decode cL_law 135 = .ok (.iconst 5, 1) := by decide +kernel
theorem dL_law_136 : decode cL_law 136 = .ok (.invokestatic 69, 3) := by decide +kernel
theorem dL_law_139 : decode cL_law 139 = .ok (.invokevirtual 78, 3) := by decide +kernel
theorem dL_law_142 : decode cL_law 142 = .ok (.pop, 1) := by decide +kernel
theorem dL_law_143 : decode cL_law 143 = .ok (.iinc 4 1, 3) := by decide +kernel
theorem dL_law_146 : decode cL_law 146 = .ok (.goto (-51), 3) := by decide +kernel
theorem dL_law_149 : decode cL_law 149 = .ok (.aload_n 1, 1) := by decide +kernel
theorem dL_law_150 : decode cL_law 150 = .ok (.bipush 30, 2) := by decide +kernel
theorem dL_law_152 : decode cL_law 152 = .ok (.invokevirtual 80, 3) := by decide +kernel
theorem dL_law_155 : decode cL_law 155 = .ok (.istore 4, 2) := by decide +kernel
theorem dL_law_157 : decode cL_law 157 = .ok (.iload 4, 2) := by decide +kernel
theorem dL_law_159 : decode cL_law 159 = .ok (.ifCond .ge 5, 3) := by decide +kernel
theorem dL_law_162 : decode cL_law 162 = .ok (.iconst 0, 1) := by decide +kernel
theorem dL_law_163 : decode cL_law 163 = .ok (.ireturn, 1) := by decide +kernel
theorem dL_law_164 : decode cL_law 164 = .ok (.iconst 0, 1) := by decide +kernel
theorem dL_law_165 : decode cL_law 165 = .ok (.istore 5, 2) := by decide +kernel
theorem dL_law_167 : decode cL_law 167 = .ok (.iload 5, 2) := by decide +kernel
theorem dL_law_169 : decode cL_law 169 = .ok (.iload 4, 2) := by decide +kernel
theorem dL_law_171 : decode cL_law 171 = .ok (.if_icmp .ge 160, 3) := by decide +kernel
theorem dL_law_174 : decode cL_law 174 = .ok (.iconst 4, 1) := by decide +kernel
theorem dL_law_175 : decode cL_law 175 = .ok (.newarray .int, 2) := by decide +kernel
theorem dL_law_177 : decode cL_law 177 = .ok (.astore 6, 2) := by decide +kernel
theorem dL_law_179 : decode cL_law 179 = .ok (.iconst 0, 1) := by decide +kernel
theorem dL_law_180 : decode cL_law 180 = .ok (.istore 7, 2) := by decide +kernel
theorem dL_law_182 : decode cL_law 182 = .ok (.iload 7, 2) := by decide +kernel
theorem dL_law_184 : decode cL_law 184 = .ok (.iconst 4, 1) := by decide +kernel
theorem dL_law_185 : decode cL_law 185 = .ok (.if_icmp .ge 47, 3) := by decide +kernel
theorem dL_law_188 : decode cL_law 188 = .ok (.aload 6, 2) := by decide +kernel
theorem dL_law_190 : decode cL_law 190 = .ok (.iload 7, 2) := by decide +kernel
theorem dL_law_192 : decode cL_law 192 = .ok (.aload_n 1, 1) := by decide +kernel
theorem dL_law_193 : decode cL_law 193 = .ok (.iload 5, 2) := by decide +kernel
theorem dL_law_195 : decode cL_law 195 = .ok (.iload 7, 2) := by decide +kernel
theorem dL_law_197 : decode cL_law 197 = .ok (.invokevirtual 83, 3) := by decide +kernel
theorem dL_law_200 : decode cL_law 200 = .ok (.iastore, 1) := by decide +kernel
theorem dL_law_201 : decode cL_law 201 = .ok (.aload_n 1, 1) := by decide +kernel
theorem dL_law_202 : decode cL_law 202 = .ok (.iload 7, 2) := by decide +kernel
theorem dL_law_204 : decode cL_law 204 = .ok (.invokevirtual 86, 3) := by decide +kernel
theorem dL_law_207 : decode cL_law 207 = .ok (.ifCond .le 19, 3) := by decide +kernel
theorem dL_law_210 : decode cL_law 210 = .ok (.aload_n 1, 1) := by decide +kernel
theorem dL_law_211 : decode cL_law 211 = .ok (.iload 7, 2) := by decide +kernel
theorem dL_law_213 : decode cL_law 213 = .ok (.invokevirtual 86, 3) := by decide +kernel
theorem dL_law_216 : decode cL_law 216 = .ok (.aload 6, 2) := by decide +kernel
theorem dL_law_218 : decode cL_law 218 = .ok (.iload 7, 2) := by decide +kernel
theorem dL_law_220 : decode cL_law 220 = .ok (.iaload, 1) := by decide +kernel
theorem dL_law_221 : decode cL_law 221 = .ok (.if_icmp .eq 5, 3) := by decide +kernel
theorem dL_law_224 : decode cL_law 224 = .ok (.iconst 0, 1) := by decide +kernel
theorem dL_law_225 : decode cL_law 225 = .ok (.ireturn, 1) := by decide +kernel
theorem dL_law_226 : decode cL_law 226 = .ok (.iinc 7 1, 3) := by decide +kernel
theorem dL_law_229 : decode cL_law 229 = .ok (.goto (-47), 3) := by decide +kernel
theorem dL_law_232 : decode cL_law 232 = .ok (.iconst 0, 1) := by decide +kernel
theorem dL_law_233 : decode cL_law 233 = .ok (.istore 7, 2) := by decide +kernel
theorem dL_law_235 : decode cL_law 235 = .ok (.iload 7, 2) := by decide +kernel
theorem dL_law_237 : decode cL_law 237 = .ok (.aload_n 1, 1) := by decide +kernel
theorem dL_law_238 : decode cL_law 238 = .ok (.iconst 3, 1) := by decide +kernel
theorem dL_law_239 : decode cL_law 239 = .ok (.invokevirtual 30, 3) := by decide +kernel
theorem dL_law_242 : decode cL_law 242 = .ok (.if_icmp .ge 22, 3) := by decide +kernel
theorem dL_law_245 : decode cL_law 245 = .ok (.aload_n 1, 1) := by decide +kernel
theorem dL_law_246 : decode cL_law 246 = .ok (.iload 7, 2) := by decide +kernel
theorem dL_law_248 : decode cL_law 248 = .ok (.aload 6, 2) := by decide +kernel
theorem dL_law_250 : decode cL_law 250 = .ok (.invokestatic 89, 3) := by decide +kernel
theorem dL_law_253 : decode cL_law 253 = .ok (.ifCond .ne 5, 3) := by decide +kernel
theorem dL_law_256 : decode cL_law 256 = .ok (.iconst 0, 1) := by decide +kernel
theorem dL_law_257 : decode cL_law 257 = .ok (.ireturn, 1) := by decide +kernel
theorem dL_law_258 : decode cL_law 258 = .ok (.iinc 7 1, 3) := by decide +kernel
theorem dL_law_261 : decode cL_law 261 = .ok (.goto (-26), 3) := by decide +kernel
theorem dL_law_264 : decode cL_law 264 = .ok (.iload 5, 2) := by decide +kernel
theorem dL_law_266 : decode cL_law 266 = .ok (.ifCond .ne 6, 3) := by decide +kernel
theorem dL_law_269 : decode cL_law 269 = .ok (.goto 56, 3) := by decide +kernel
theorem dL_law_272 : decode cL_law 272 = .ok (.iconst 0, 1) := by decide +kernel
theorem dL_law_273 : decode cL_law 273 = .ok (.istore 7, 2) := by decide +kernel
theorem dL_law_275 : decode cL_law 275 = .ok (.iload 7, 2) := by decide +kernel
theorem dL_law_277 : decode cL_law 277 = .ok (.iconst 3, 1) := by decide +kernel
theorem dL_law_278 : decode cL_law 278 = .ok (.if_icmp .ge 27, 3) := by decide +kernel
theorem dL_law_281 : decode cL_law 281 = .ok (.aload_n 1, 1) := by decide +kernel
theorem dL_law_282 : decode cL_law 282 = .ok (.iload 5, 2) := by decide +kernel
theorem dL_law_284 : decode cL_law 284 = .ok (.iconst 1, 1) := by decide +kernel
theorem dL_law_285 : decode cL_law 285 = .ok (.isub, 1) := by decide +kernel
theorem dL_law_286 : decode cL_law 286 = .ok (.iload 7, 2) := by decide +kernel
theorem dL_law_288 : decode cL_law 288 = .ok (.invokevirtual 83, 3) := by decide +kernel
theorem dL_law_291 : decode cL_law 291 = .ok (.aload 6, 2) := by decide +kernel
theorem dL_law_293 : decode cL_law 293 = .ok (.iload 7, 2) := by decide +kernel
theorem dL_law_295 : decode cL_law 295 = .ok (.iaload, 1) := by decide +kernel
theorem dL_law_296 : decode cL_law 296 = .ok (.if_icmp .ne 9, 3) := by decide +kernel
theorem dL_law_299 : decode cL_law 299 = .ok (.iinc 7 1, 3) := by decide +kernel
theorem dL_law_302 : decode cL_law 302 = .ok (.goto (-27), 3) := by decide +kernel
theorem dL_law_305 : decode cL_law 305 = .ok (.aload_n 1, 1) := by decide +kernel
theorem dL_law_306 : decode cL_law 306 = .ok (.iload 5, 2) := by decide +kernel
theorem dL_law_308 : decode cL_law 308 = .ok (.iconst 1, 1) := by decide +kernel
theorem dL_law_309 : decode cL_law 309 = .ok (.isub, 1) := by decide +kernel
theorem dL_law_310 : decode cL_law 310 = .ok (.iload 7, 2) := by decide +kernel
theorem dL_law_312 : decode cL_law 312 = .ok (.invokevirtual 83, 3) := by decide +kernel
theorem dL_law_315 : decode cL_law 315 = .ok (.aload 6, 2) := by decide +kernel
theorem dL_law_317 : decode cL_law 317 = .ok (.iload 7, 2) := by decide +kernel
theorem dL_law_319 : decode cL_law 319 = .ok (.iaload, 1) := by decide +kernel
theorem dL_law_320 : decode cL_law 320 = .ok (.if_icmp .lt 5, 3) := by decide +kernel
theorem dL_law_323 : decode cL_law 323 = .ok (.iconst 0, 1) := by decide +kernel
theorem dL_law_324 : decode cL_law 324 = .ok (.ireturn, 1) := by decide +kernel
theorem dL_law_325 : decode cL_law 325 = .ok (.iinc 5 1, 3) := by decide +kernel
theorem dL_law_328 : decode cL_law 328 = .ok (.goto (-161), 3) := by decide +kernel
theorem dL_law_331 : decode cL_law 331 = .ok (.aload_n 1, 1) := by decide +kernel
theorem dL_law_332 : decode cL_law 332 = .ok (.invokevirtual 93, 3) := by decide +kernel
theorem dL_law_335 : decode cL_law 335 = .ok (.lstore 5, 2) := by decide +kernel
theorem dL_law_337 : decode cL_law 337 = .ok (.aload_n 1, 1) := by decide +kernel
theorem dL_law_338 : decode cL_law 338 = .ok (.aload_n 0, 1) := by decide +kernel
theorem dL_law_339 : decode cL_law 339 = .ok (.bipush 10, 2) := by decide +kernel
theorem dL_law_341 : decode cL_law 341 = .ok (.invokestatic 65, 3) := by decide +kernel
theorem dL_law_344 : decode cL_law 344 = .ok (.iconst 4, 1) := by decide +kernel
theorem dL_law_345 : decode cL_law 345 = .ok (.invokestatic 69, 3) := by decide +kernel
theorem dL_law_348 : decode cL_law 348 = .ok (.invokevirtual 97, 3) := by decide +kernel
theorem dL_law_351 : decode cL_law 351 = .ok (.pop, 1) := by decide +kernel
theorem dL_law_352 : decode cL_law 352 = .ok (.aload_n 1, 1) := by decide +kernel
theorem dL_law_353 : decode cL_law 353 = .ok (.iconst 3, 1) := by decide +kernel
theorem dL_law_354 : decode cL_law 354 = .ok (.invokevirtual 30, 3) := by decide +kernel
theorem dL_law_357 : decode cL_law 357 = .ok (.ifCond .le 22, 3) := by decide +kernel
theorem dL_law_360 : decode cL_law 360 = .ok (.aload_n 1, 1) := by decide +kernel
theorem dL_law_361 : decode cL_law 361 = .ok (.aload_n 0, 1) := by decide +kernel
theorem dL_law_362 : decode cL_law 362 = .ok (.bipush 10, 2) := by decide +kernel
theorem dL_law_364 : decode cL_law 364 = .ok (.invokestatic 65, 3) := by decide +kernel
theorem dL_law_367 : decode cL_law 367 = .ok (.aload_n 1, 1) := by decide +kernel
theorem dL_law_368 : decode cL_law 368 = .ok (.iconst 3, 1) := by decide +kernel
theorem dL_law_369 : decode cL_law 369 = .ok (.invokevirtual 30, 3) := by decide +kernel
theorem dL_law_372 : decode cL_law 372 = .ok (.invokestatic 69, 3) := by decide +kernel
theorem dL_law_375 : decode cL_law 375 = .ok (.invokevirtual 100, 3) := by decide +kernel
theorem dL_law_378 : decode cL_law 378 = .ok (.pop, 1) := by decide +kernel
theorem dL_law_379 : decode cL_law 379 = .ok (.aload_n 1, 1) := by decide +kernel
theorem dL_law_380 : decode cL_law 380 = .ok (.invokevirtual 104, 3) := by decide +kernel
theorem dL_law_383 : decode cL_law 383 = .ok (.pop2, 1) := by decide +kernel
theorem dL_law_384 : decode cL_law 384 = .ok (.aload_n 1, 1) := by decide +kernel
theorem dL_law_385 : decode cL_law 385 = .ok (.invokevirtual 93, 3) := by decide +kernel
theorem dL_law_388 : decode cL_law 388 = .ok (.lload 5, 2) := by decide +kernel
theorem dL_law_390 : decode cL_law 390 = .ok (.lcmp, 1) := by decide +kernel
theorem dL_law_391 : decode cL_law 391 = .ok (.ifCond .ne 24, 3) := by decide +kernel
theorem dL_law_394 : decode cL_law 394 = .ok (.aload_n 1, 1) := by decide +kernel
theorem dL_law_395 : decode cL_law 395 = .ok (.bipush 6, 2) := by decide +kernel
theorem dL_law_397 : decode cL_law 397 = .ok (.invokevirtual 30, 3) := by decide +kernel
theorem dL_law_400 : decode cL_law 400 = .ok (.ifCond .ne 7, 3) := by decide +kernel
theorem dL_law_403 : decode cL_law 403 = .ok (.iconst 1, 1) := by decide +kernel
theorem dL_law_404 : decode cL_law 404 = .ok (.goto 4, 3) := by decide +kernel
theorem dL_law_407 : decode cL_law 407 = .ok (.iconst 0, 1) := by decide +kernel
theorem dL_law_408 : decode cL_law 408 = .ok (.aload_n 1, 1) := by decide +kernel
theorem dL_law_409 : decode cL_law 409 = .ok (.invokestatic 108, 3) := by decide +kernel
theorem dL_law_412 : decode cL_law 412 = .ok (.if_icmp .eq 5, 3) := by decide +kernel
theorem dL_law_415 : decode cL_law 415 = .ok (.iconst 0, 1) := by decide +kernel
theorem dL_law_416 : decode cL_law 416 = .ok (.ireturn, 1) := by decide +kernel
theorem dL_law_417 : decode cL_law 417 = .ok (.aload_n 1, 1) := by decide +kernel
theorem dL_law_418 : decode cL_law 418 = .ok (.invokevirtual 112, 3) := by decide +kernel
theorem dL_law_421 : decode cL_law 421 = .ok (.istore 7, 2) := by decide +kernel
theorem dL_law_423 : decode cL_law 423 = .ok (.aload_n 1, 1) := by decide +kernel
theorem dL_law_424 : decode cL_law 424 = .ok (.invokevirtual 115, 3) := by decide +kernel
theorem dL_law_427 : decode cL_law 427 = .ok (.istore 8, 2) := by decide +kernel
theorem dL_law_429 : decode cL_law 429 = .ok (.iconst 0, 1) := by decide +kernel
theorem dL_law_430 : decode cL_law 430 = .ok (.istore 9, 2) := by decide +kernel
theorem dL_law_432 : decode cL_law 432 = .ok (.iconst 0, 1) := by decide +kernel
theorem dL_law_433 : decode cL_law 433 = .ok (.istore 10, 2) := by decide +kernel
theorem dL_law_435 : decode cL_law 435 = .ok (.iload 10, 2) := by decide +kernel
theorem dL_law_437 : decode cL_law 437 = .ok (.iconst 4, 1) := by decide +kernel
theorem dL_law_438 : decode cL_law 438 = .ok (.if_icmp .ge 23, 3) := by decide +kernel
theorem dL_law_441 : decode cL_law 441 = .ok (.iload 9, 2) := by decide +kernel
theorem dL_law_443 : decode cL_law 443 = .ok (.aload_n 1, 1) := by decide +kernel
theorem dL_law_444 : decode cL_law 444 = .ok (.iload 10, 2) := by decide +kernel
theorem dL_law_446 : decode cL_law 446 = .ok (.invokevirtual 118, 3) := by decide +kernel
theorem dL_law_449 : decode cL_law 449 = .ok (.invokestatic 121, 3) := by decide +kernel
theorem dL_law_452 : decode cL_law 452 = .ok (.iadd, 1) := by decide +kernel
theorem dL_law_453 : decode cL_law 453 = .ok (.istore 9, 2) := by decide +kernel
theorem dL_law_455 : decode cL_law 455 = .ok (.iinc 10 1, 3) := by decide +kernel
theorem dL_law_458 : decode cL_law 458 = .ok (.goto (-23), 3) := by decide +kernel
theorem dL_law_461 : decode cL_law 461 = .ok (.iload 9, 2) := by decide +kernel
theorem dL_law_463 : decode cL_law 463 = .ok (.iload 7, 2) := by decide +kernel
theorem dL_law_465 : decode cL_law 465 = .ok (.iload 8, 2) := by decide +kernel
theorem dL_law_467 : decode cL_law 467 = .ok (.isub, 1) := by decide +kernel
theorem dL_law_468 : decode cL_law 468 = .ok (.if_icmp .ne 34, 3) := by decide +kernel
theorem dL_law_471 : decode cL_law 471 = .ok (.aload_n 1, 1) := by decide +kernel
theorem dL_law_472 : decode cL_law 472 = .ok (.invokevirtual 115, 3) := by decide +kernel
theorem dL_law_475 : decode cL_law 475 = .ok (.ifCond .ne 27, 3) := by decide +kernel
theorem dL_law_478 : decode cL_law 478 = .ok (.aload_n 1, 1) := by decide +kernel
theorem dL_law_479 : decode cL_law 479 = .ok (.iconst 0, 1) := by decide +kernel
theorem dL_law_480 : decode cL_law 480 = .ok (.invokevirtual 126, 3) := by decide +kernel
theorem dL_law_483 : decode cL_law 483 = .ok (.iconst 1, 1) := by decide +kernel
theorem dL_law_484 : decode cL_law 484 = .ok (.if_icmp .ne 18, 3) := by decide +kernel
theorem dL_law_487 : decode cL_law 487 = .ok (.aload_n 1, 1) := by decide +kernel
theorem dL_law_488 : decode cL_law 488 = .ok (.invokevirtual 104, 3) := by decide +kernel
theorem dL_law_491 : decode cL_law 491 = .ok (.iload 9, 2) := by decide +kernel
theorem dL_law_493 : decode cL_law 493 = .ok (.i2d, 1) := by decide +kernel
theorem dL_law_494 : decode cL_law 494 = .ok (.ldc2_w 129, 3) := by decide +kernel
theorem dL_law_497 : decode cL_law 497 = .ok (.ddiv, 1) := by decide +kernel
theorem dL_law_498 : decode cL_law 498 = .ok (.dcmp .l, 1) := by decide +kernel
theorem dL_law_499 : decode cL_law 499 = .ok (.ifCond .eq 5, 3) := by decide +kernel
theorem dL_law_502 : decode cL_law 502 = .ok (.iconst 0, 1) := by decide +kernel
theorem dL_law_503 : decode cL_law 503 = .ok (.ireturn, 1) := by decide +kernel
theorem dL_law_504 : decode cL_law 504 = .ok (.iconst 0, 1) := by decide +kernel
theorem dL_law_505 : decode cL_law 505 = .ok (.istore 10, 2) := by decide +kernel
theorem dL_law_507 : decode cL_law 507 = .ok (.iload 10, 2) := by decide +kernel
theorem dL_law_509 : decode cL_law 509 = .ok (.iload 4, 2) := by decide +kernel
theorem dL_law_511 : decode cL_law 511 = .ok (.if_icmp .ge 48, 3) := by decide +kernel
theorem dL_law_514 : decode cL_law 514 = .ok (.iconst 0, 1) := by decide +kernel
theorem dL_law_515 : decode cL_law 515 = .ok (.istore 11, 2) := by decide +kernel
theorem dL_law_517 : decode cL_law 517 = .ok (.iload 11, 2) := by decide +kernel
theorem dL_law_519 : decode cL_law 519 = .ok (.iconst 4, 1) := by decide +kernel
theorem dL_law_520 : decode cL_law 520 = .ok (.if_icmp .ge 33, 3) := by decide +kernel
theorem dL_law_523 : decode cL_law 523 = .ok (.aload_n 1, 1) := by decide +kernel
theorem dL_law_524 : decode cL_law 524 = .ok (.iload 11, 2) := by decide +kernel
theorem dL_law_526 : decode cL_law 526 = .ok (.invokevirtual 118, 3) := by decide +kernel
theorem dL_law_529 : decode cL_law 529 = .ok (.aload_n 1, 1) := by decide +kernel
theorem dL_law_530 : decode cL_law 530 = .ok (.iload 10, 2) := by decide +kernel
theorem dL_law_532 : decode cL_law 532 = .ok (.iload 11, 2) := by decide +kernel
theorem dL_law_534 : decode cL_law 534 = .ok (.invokevirtual 83, 3) := by decide +kernel
theorem dL_law_537 : decode cL_law 537 = .ok (.iconst 1, 1) := by decide +kernel
theorem dL_law_538 : decode cL_law 538 = .ok (.isub, 1) := by decide +kernel
theorem dL_law_539 : decode cL_law 539 = .ok (.ishr, 1) := by decide +kernel
theorem dL_law_540 : decode cL_law 540 = .ok (.iconst 1, 1) := by decide +kernel
theorem dL_law_541 : decode cL_law 541 = .ok (.iand, 1) := by decide +kernel
theorem dL_law_542 : decode cL_law 542 = .ok (.ifCond .ne 5, 3) := by decide +kernel
theorem dL_law_545 : decode cL_law 545 = .ok (.iconst 0, 1) := by decide +kernel
theorem dL_law_546 : decode cL_law 546 = .ok (.ireturn, 1) := by decide +kernel
theorem dL_law_547 : decode cL_law 547 = .ok (.iinc 11 1, 3) := by decide +kernel
theorem dL_law_550 : decode cL_law 550 = .ok (.goto (-33), 3) := by decide +kernel
theorem dL_law_553 : decode cL_law 553 = .ok (.iinc 10 1, 3) := by decide +kernel
theorem dL_law_556 : decode cL_law 556 = .ok (.goto (-49), 3) := by decide +kernel
theorem dL_law_559 : decode cL_law 559 = .ok (.aload_n 1, 1) := by decide +kernel
theorem dL_law_560 : decode cL_law 560 = .ok (.iconst 3, 1) := by decide +kernel
theorem dL_law_561 : decode cL_law 561 = .ok (.invokevirtual 30, 3) := by decide +kernel
theorem dL_law_564 : decode cL_law 564 = .ok (.ifCond .le 42, 3) := by decide +kernel
theorem dL_law_567 : decode cL_law 567 = .ok (.iload 4, 2) := by decide +kernel
theorem dL_law_569 : decode cL_law 569 = .ok (.bipush 30, 2) := by decide +kernel
theorem dL_law_571 : decode cL_law 571 = .ok (.if_icmp .ge 35, 3) := by decide +kernel
theorem dL_law_574 : decode cL_law 574 = .ok (.aload_n 1, 1) := by decide +kernel
theorem dL_law_575 : decode cL_law 575 = .ok (.aload_n 0, 1) := by decide +kernel
theorem dL_law_576 : decode cL_law 576 = .ok (.bipush 11, 2) := by decide +kernel
theorem dL_law_578 : decode cL_law 578 = .ok (.invokestatic 65, 3) := by decide +kernel
theorem dL_law_581 : decode cL_law 581 = .ok (.aload_n 1, 1) := by decide +kernel
theorem dL_law_582 : decode cL_law 582 = .ok (.iconst 3, 1) := by decide +kernel
theorem dL_law_583 : decode cL_law 583 = .ok (.invokevirtual 30, 3) := by decide +kernel
theorem dL_law_586 : decode cL_law 586 = .ok (.invokestatic 69, 3) := by decide +kernel
theorem dL_law_589 : decode cL_law 589 = .ok (.invokevirtual 131, 3) := by decide +kernel
theorem dL_law_592 : decode cL_law 592 = .ok (.pop, 1) := by decide +kernel
theorem dL_law_593 : decode cL_law 593 = .ok (.aload_n 1, 1) := by decide +kernel
theorem dL_law_594 : decode cL_law 594 = .ok (.bipush 30, 2) := by decide +kernel
theorem dL_law_596 : decode cL_law 596 = .ok (.invokevirtual 80, 3) := by decide +kernel
theorem dL_law_599 : decode cL_law 599 = .ok (.iload 4, 2) := by decide +kernel
theorem dL_law_601 : decode cL_law 601 = .ok (.if_icmp .ge 5, 3) := by decide +kernel
theorem dL_law_604 : decode cL_law 604 = .ok (.iconst 0, 1) := by decide +kernel
theorem dL_law_605 : decode cL_law 605 = .ok (.ireturn, 1) := by decide +kernel
theorem dL_law_606 : decode cL_law 606 = .ok (.aload_n 1, 1) := by decide +kernel
theorem dL_law_607 : decode cL_law 607 = .ok (.invokevirtual 134, 3) := by decide +kernel
theorem dL_law_610 : decode cL_law 610 = .ok (.istore 10, 2) := by decide +kernel
theorem dL_law_612 : decode cL_law 612 = .ok (.iload 10, 2) := by decide +kernel
theorem dL_law_614 : decode cL_law 614 = .ok (.iconst 1, 1) := by decide +kernel
theorem dL_law_615 : decode cL_law 615 = .ok (.iadd, 1) := by decide +kernel
theorem dL_law_616 : decode cL_law 616 = .ok (.newarray .int, 2) := by decide +kernel
theorem dL_law_618 : decode cL_law 618 = .ok (.astore 11, 2) := by decide +kernel
theorem dL_law_620 : decode cL_law 620 = .ok (.aload 11, 2) := by decide +kernel
theorem dL_law_622 : decode cL_law 622 = .ok (.iconst 0, 1) := by decide +kernel
theorem dL_law_623 : decode cL_law 623 = .ok (.iload 10, 2) := by decide +kernel
theorem dL_law_625 : decode cL_law 625 = .ok (.iastore, 1) := by decide +kernel
theorem dL_law_626 : decode cL_law 626 = .ok (.iconst 0, 1) := by decide +kernel
theorem dL_law_627 : decode cL_law 627 = .ok (.istore 12, 2) := by decide +kernel
theorem dL_law_629 : decode cL_law 629 = .ok (.iload 12, 2) := by decide +kernel
theorem dL_law_631 : decode cL_law 631 = .ok (.iload 10, 2) := by decide +kernel
theorem dL_law_633 : decode cL_law 633 = .ok (.if_icmp .ge 22, 3) := by decide +kernel
theorem dL_law_636 : decode cL_law 636 = .ok (.aload 11, 2) := by decide +kernel
theorem dL_law_638 : decode cL_law 638 = .ok (.iconst 1, 1) := by decide +kernel
theorem dL_law_639 : decode cL_law 639 = .ok (.iload 12, 2) := by decide +kernel
theorem dL_law_641 : decode cL_law 641 = .ok (.iadd, 1) := by decide +kernel
theorem dL_law_642 : decode cL_law 642 = .ok (.aload_n 1, 1) := by decide +kernel
theorem dL_law_643 : decode cL_law 643 = .ok (.iload 12, 2) := by decide +kernel
theorem dL_law_645 : decode cL_law 645 = .ok (.invokevirtual 137, 3) := by decide +kernel
theorem dL_law_648 : decode cL_law 648 = .ok (.iastore, 1) := by decide +kernel
theorem dL_law_649 : decode cL_law 649 = .ok (.iinc 12 1, 3) := by decide +kernel
theorem dL_law_652 : decode cL_law 652 = .ok (.goto (-23), 3) := by decide +kernel
theorem dL_law_655 : decode cL_law 655 = .ok (.new 31, 3) := by decide +kernel
theorem dL_law_658 : decode cL_law 658 = .ok (.dup, 1) := by decide +kernel
theorem dL_law_659 : decode cL_law 659 = .ok (.invokespecial 62, 3) := by decide +kernel
theorem dL_law_662 : decode cL_law 662 = .ok (.astore 12, 2) := by decide +kernel
theorem dL_law_664 : decode cL_law 664 = .ok (.aload 12, 2) := by decide +kernel
theorem dL_law_666 : decode cL_law 666 = .ok (.aload 11, 2) := by decide +kernel
theorem dL_law_668 : decode cL_law 668 = .ok (.invokestatic 43, 3) := by decide +kernel
theorem dL_law_671 : decode cL_law 671 = .ok (.ifCond .eq 35, 3) := by decide +kernel
theorem dL_law_674 : decode cL_law 674 = .ok (.aload 12, 2) := by decide +kernel
theorem dL_law_676 : decode cL_law 676 = .ok (.invokevirtual 47, 3) := by decide +kernel
theorem dL_law_679 : decode cL_law 679 = .ok (.ifCond .ne 27, 3) := by decide +kernel
theorem dL_law_682 : decode cL_law 682 = .ok (.aload 12, 2) := by decide +kernel
theorem dL_law_684 : decode cL_law 684 = .ok (.iconst 3, 1) := by decide +kernel
theorem dL_law_685 : decode cL_law 685 = .ok (.invokevirtual 30, 3) := by decide +kernel
theorem dL_law_688 : decode cL_law 688 = .ok (.aload_n 1, 1) := by decide +kernel
theorem dL_law_689 : decode cL_law 689 = .ok (.iconst 3, 1) := by decide +kernel
theorem dL_law_690 : decode cL_law 690 = .ok (.invokevirtual 30, 3) := by decide +kernel
theorem dL_law_693 : decode cL_law 693 = .ok (.if_icmp .ne 13, 3) := by decide +kernel
theorem dL_law_696 : decode cL_law 696 = .ok (.aload 12, 2) := by decide +kernel
theorem dL_law_698 : decode cL_law 698 = .ok (.invokevirtual 134, 3) := by decide +kernel
theorem dL_law_701 : decode cL_law 701 = .ok (.iload 10, 2) := by decide +kernel
theorem dL_law_703 : decode cL_law 703 = .ok (.if_icmp .eq 5, 3) := by decide +kernel
theorem dL_law_706 : decode cL_law 706 = .ok (.iconst 0, 1) := by decide +kernel
theorem dL_law_707 : decode cL_law 707 = .ok (.ireturn, 1) := by decide +kernel
theorem dL_law_708 : decode cL_law 708 = .ok (.iconst 0, 1) := by decide +kernel
theorem dL_law_709 : decode cL_law 709 = .ok (.istore 13, 2) := by decide +kernel
theorem dL_law_711 : decode cL_law 711 = .ok (.iload 13, 2) := by decide +kernel
theorem dL_law_713 : decode cL_law 713 = .ok (.aload_n 1, 1) := by decide +kernel
theorem dL_law_714 : decode cL_law 714 = .ok (.iconst 3, 1) := by decide +kernel
theorem dL_law_715 : decode cL_law 715 = .ok (.invokevirtual 30, 3) := by decide +kernel
theorem dL_law_718 : decode cL_law 718 = .ok (.if_icmp .ge 47, 3) := by decide +kernel
theorem dL_law_721 : decode cL_law 721 = .ok (.iconst 0, 1) := by decide +kernel
theorem dL_law_722 : decode cL_law 722 = .ok (.istore 14, 2) := by decide +kernel
theorem dL_law_724 : decode cL_law 724 = .ok (.iload 14, 2) := by decide +kernel
theorem dL_law_726 : decode cL_law 726 = .ok (.bipush 9, 2) := by decide +kernel
theorem dL_law_728 : decode cL_law 728 = .ok (.if_icmp .ge 31, 3) := by decide +kernel
theorem dL_law_731 : decode cL_law 731 = .ok (.aload_n 1, 1) := by decide +kernel
theorem dL_law_732 : decode cL_law 732 = .ok (.iload 13, 2) := by decide +kernel
theorem dL_law_734 : decode cL_law 734 = .ok (.iload 14, 2) := by decide +kernel
theorem dL_law_736 : decode cL_law 736 = .ok (.invokevirtual 50, 3) := by decide +kernel
theorem dL_law_739 : decode cL_law 739 = .ok (.aload 12, 2) := by decide +kernel
theorem dL_law_741 : decode cL_law 741 = .ok (.iload 13, 2) := by decide +kernel
theorem dL_law_743 : decode cL_law 743 = .ok (.iload 14, 2) := by decide +kernel
theorem dL_law_745 : decode cL_law 745 = .ok (.invokevirtual 50, 3) := by decide +kernel
theorem dL_law_748 : decode cL_law 748 = .ok (.if_icmp .eq 5, 3) := by decide +kernel
theorem dL_law_751 : decode cL_law 751 = .ok (.iconst 0, 1) := by decide +kernel
theorem dL_law_752 : decode cL_law 752 = .ok (.ireturn, 1) := by decide +kernel
theorem dL_law_753 : decode cL_law 753 = .ok (.iinc 14 1, 3) := by decide +kernel
theorem dL_law_756 : decode cL_law 756 = .ok (.goto (-32), 3) := by decide +kernel
theorem dL_law_759 : decode cL_law 759 = .ok (.iinc 13 1, 3) := by decide +kernel
theorem dL_law_762 : decode cL_law 762 = .ok (.goto (-51), 3) := by decide +kernel
theorem dL_law_765 : decode cL_law 765 = .ok (.aload_n 1, 1) := by decide +kernel
theorem dL_law_766 : decode cL_law 766 = .ok (.aload_n 0, 1) := by decide +kernel
theorem dL_law_767 : decode cL_law 767 = .ok (.bipush 12, 2) := by decide +kernel
theorem dL_law_769 : decode cL_law 769 = .ok (.invokestatic 65, 3) := by decide +kernel
theorem dL_law_772 : decode cL_law 772 = .ok (.ldc 140, 2) := by decide +kernel
theorem dL_law_774 : decode cL_law 774 = .ok (.invokestatic 69, 3) := by decide +kernel
theorem dL_law_777 : decode cL_law 777 = .ok (.invokevirtual 141, 3) := by decide +kernel
theorem dL_law_780 : decode cL_law 780 = .ok (.istore 13, 2) := by decide +kernel
theorem dL_law_782 : decode cL_law 782 = .ok (.iload 13, 2) := by decide +kernel
theorem dL_law_784 : decode cL_law 784 = .ok (.ifCond .ge 23, 3) := by decide +kernel
theorem dL_law_787 : decode cL_law 787 = .ok (.aload_n 1, 1) := by decide +kernel
theorem dL_law_788 : decode cL_law 788 = .ok (.iconst 3, 1) := by decide +kernel
theorem dL_law_789 : decode cL_law 789 = .ok (.invokevirtual 30, 3) := by decide +kernel
theorem dL_law_792 : decode cL_law 792 = .ok (.aload 12, 2) := by decide +kernel
theorem dL_law_794 : decode cL_law 794 = .ok (.iconst 3, 1) := by decide +kernel
theorem dL_law_795 : decode cL_law 795 = .ok (.invokevirtual 30, 3) := by decide +kernel
theorem dL_law_798 : decode cL_law 798 = .ok (.if_icmp .ne 7, 3) := by decide +kernel
theorem dL_law_801 : decode cL_law 801 = .ok (.iconst 1, 1) := by decide +kernel
theorem dL_law_802 : decode cL_law 802 = .ok (.goto 4, 3) := by decide +kernel
theorem dL_law_805 : decode cL_law 805 = .ok (.iconst 0, 1) := by decide +kernel
theorem dL_law_806 : decode cL_law 806 = .ok (.ireturn, 1) := by decide +kernel
theorem dL_law_807 : decode cL_law 807 = .ok (.aload_n 1, 1) := by decide +kernel
theorem dL_law_808 : decode cL_law 808 = .ok (.iconst 2, 1) := by decide +kernel
theorem dL_law_809 : decode cL_law 809 = .ok (.invokevirtual 80, 3) := by decide +kernel
theorem dL_law_812 : decode cL_law 812 = .ok (.iconst 1, 1) := by decide +kernel
theorem dL_law_813 : decode cL_law 813 = .ok (.if_icmp .ne 19, 3) := by decide +kernel
theorem dL_law_816 : decode cL_law 816 = .ok (.aload_n 1, 1) := by decide +kernel
theorem dL_law_817 : decode cL_law 817 = .ok (.iconst 4, 1) := by decide +kernel
theorem dL_law_818 : decode cL_law 818 = .ok (.invokevirtual 30, 3) := by decide +kernel
theorem dL_law_821 : decode cL_law 821 = .ok (.iload 13, 2) := by decide +kernel
theorem dL_law_823 : decode cL_law 823 = .ok (.if_icmp .ne 9, 3) := by decide +kernel
theorem dL_law_826 : decode cL_law 826 = .ok (.iload 13, 2) := by decide +kernel
theorem dL_law_828 : decode cL_law 828 = .ok (.iconst 4, 1) := by decide +kernel
theorem dL_law_829 : decode cL_law 829 = .ok (.if_icmp .le 5, 3) := by decide +kernel
theorem dL_law_832 : decode cL_law 832 = .ok (.iconst 0, 1) := by decide +kernel
theorem dL_law_833 : decode cL_law 833 = .ok (.ireturn, 1) := by decide +kernel
theorem dL_law_834 : decode cL_law 834 = .ok (.iconst 4, 1) := by decide +kernel
theorem dL_law_835 : decode cL_law 835 = .ok (.newarray .int, 2) := by decide +kernel
theorem dL_law_837 : decode cL_law 837 = .ok (.astore 14, 2) := by decide +kernel
theorem dL_law_839 : decode cL_law 839 = .ok (.iconst 0, 1) := by decide +kernel
theorem dL_law_840 : decode cL_law 840 = .ok (.istore 15, 2) := by decide +kernel
theorem dL_law_842 : decode cL_law 842 = .ok (.iload 15, 2) := by decide +kernel
theorem dL_law_844 : decode cL_law 844 = .ok (.iconst 4, 1) := by decide +kernel
theorem dL_law_845 : decode cL_law 845 = .ok (.if_icmp .ge 21, 3) := by decide +kernel
theorem dL_law_848 : decode cL_law 848 = .ok (.aload 14, 2) := by decide +kernel
theorem dL_law_850 : decode cL_law 850 = .ok (.iload 15, 2) := by decide +kernel
theorem dL_law_852 : decode cL_law 852 = .ok (.aload_n 1, 1) := by decide +kernel
theorem dL_law_853 : decode cL_law 853 = .ok (.iconst 0, 1) := by decide +kernel
theorem dL_law_854 : decode cL_law 854 = .ok (.iload 15, 2) := by decide +kernel
theorem dL_law_856 : decode cL_law 856 = .ok (.invokevirtual 83, 3) := by decide +kernel
theorem dL_law_859 : decode cL_law 859 = .ok (.iastore, 1) := by decide +kernel
theorem dL_law_860 : decode cL_law 860 = .ok (.iinc 15 1, 3) := by decide +kernel
theorem dL_law_863 : decode cL_law 863 = .ok (.goto (-21), 3) := by decide +kernel
theorem dL_law_866 : decode cL_law 866 = .ok (.aload_n 1, 1) := by decide +kernel
theorem dL_law_867 : decode cL_law 867 = .ok (.aload_n 0, 1) := by decide +kernel
theorem dL_law_868 : decode cL_law 868 = .ok (.bipush 13, 2) := by decide +kernel
theorem dL_law_870 : decode cL_law 870 = .ok (.invokestatic 65, 3) := by decide +kernel
theorem dL_law_873 : decode cL_law 873 = .ok (.iconst 2, 1) := by decide +kernel
theorem dL_law_874 : decode cL_law 874 = .ok (.invokestatic 69, 3) := by decide +kernel
theorem dL_law_877 : decode cL_law 877 = .ok (.invokevirtual 144, 3) := by decide +kernel
theorem dL_law_880 : decode cL_law 880 = .ok (.iconst 4, 1) := by decide +kernel
theorem dL_law_881 : decode cL_law 881 = .ok (.if_icmp .ne 12, 3) := by decide +kernel
theorem dL_law_884 : decode cL_law 884 = .ok (.aload_n 1, 1) := by decide +kernel
theorem dL_law_885 : decode cL_law 885 = .ok (.iconst 2, 1) := by decide +kernel
theorem dL_law_886 : decode cL_law 886 = .ok (.invokevirtual 80, 3) := by decide +kernel
theorem dL_law_889 : decode cL_law 889 = .ok (.iconst 1, 1) := by decide +kernel
theorem dL_law_890 : decode cL_law 890 = .ok (.if_icmp .eq 5, 3) := by decide +kernel
theorem dL_law_893 : decode cL_law 893 = .ok (.iconst 0, 1) := by decide +kernel
theorem dL_law_894 : decode cL_law 894 = .ok (.ireturn, 1) := by decide +kernel
theorem dL_law_895 : decode cL_law 895 = .ok (.iconst 1, 1) := by decide +kernel
theorem dL_law_896 : decode cL_law 896 = .ok (.istore 15, 2) := by decide +kernel
theorem dL_law_898 : decode cL_law 898 = .ok (.iload 15, 2) := by decide +kernel
theorem dL_law_900 : decode cL_law 900 = .ok (.iconst 4, 1) := by decide +kernel
theorem dL_law_901 : decode cL_law 901 = .ok (.if_icmp .gt 72, 3) := by decide +kernel
theorem dL_law_904 : decode cL_law 904 = .ok (.iconst 0, 1) := by decide +kernel
theorem dL_law_905 : decode cL_law 905 = .ok (.istore 16, 2) := by decide +kernel
theorem dL_law_907 : decode cL_law 907 = .ok (.iconst 0, 1) := by decide +kernel
theorem dL_law_908 : decode cL_law 908 = .ok (.istore 17, 2) := by decide +kernel
theorem dL_law_910 : decode cL_law 910 = .ok (.iload 17, 2) := by decide +kernel
theorem dL_law_912 : decode cL_law 912 = .ok (.iconst 4, 1) := by decide +kernel
theorem dL_law_913 : decode cL_law 913 = .ok (.if_icmp .ge 47, 3) := by decide +kernel
theorem dL_law_916 : decode cL_law 916 = .ok (.iload 16, 2) := by decide +kernel
theorem dL_law_918 : decode cL_law 918 = .ok (.aload_n 1, 1) := by decide +kernel
theorem dL_law_919 : decode cL_law 919 = .ok (.iconst 0, 1) := by decide +kernel
theorem dL_law_920 : decode cL_law 920 = .ok (.iload 17, 2) := by decide +kernel
theorem dL_law_922 : decode cL_law 922 = .ok (.invokevirtual 83, 3) := by decide +kernel
theorem dL_law_925 : decode cL_law 925 = .ok (.iload 15, 2) := by decide +kernel
theorem dL_law_927 : decode cL_law 927 = .ok (.if_icmp .ne 7, 3) := by decide +kernel
theorem dL_law_930 : decode cL_law 930 = .ok (.iconst 1, 1) := by decide +kernel
theorem dL_law_931 : decode cL_law 931 = .ok (.goto 4, 3) := by decide +kernel
theorem dL_law_934 : decode cL_law 934 = .ok (.iconst 0, 1) := by decide +kernel
theorem dL_law_935 : decode cL_law 935 = .ok (.aload 14, 2) := by decide +kernel
theorem dL_law_937 : decode cL_law 937 = .ok (.iload 17, 2) := by decide +kernel
theorem dL_law_939 : decode cL_law 939 = .ok (.iaload, 1) := by decide +kernel
theorem dL_law_940 : decode cL_law 940 = .ok (.iload 15, 2) := by decide +kernel
theorem dL_law_942 : decode cL_law 942 = .ok (.if_icmp .ne 7, 3) := by decide +kernel
theorem dL_law_945 : decode cL_law 945 = .ok (.iconst 1, 1) := by decide +kernel
theorem dL_law_946 : decode cL_law 946 = .ok (.goto 4, 3) := by decide +kernel
theorem dL_law_949 : decode cL_law 949 = .ok (.iconst 0, 1) := by decide +kernel
theorem dL_law_950 : decode cL_law 950 = .ok (.isub, 1) := by decide +kernel
theorem dL_law_951 : decode cL_law 951 = .ok (.iadd, 1) := by decide +kernel
theorem dL_law_952 : decode cL_law 952 = .ok (.istore 16, 2) := by decide +kernel
theorem dL_law_954 : decode cL_law 954 = .ok (.iinc 17 1, 3) := by decide +kernel
theorem dL_law_957 : decode cL_law 957 = .ok (.goto (-47), 3) := by decide +kernel
theorem dL_law_960 : decode cL_law 960 = .ok (.iload 16, 2) := by decide +kernel
theorem dL_law_962 : decode cL_law 962 = .ok (.ifCond .eq 5, 3) := by decide +kernel
theorem dL_law_965 : decode cL_law 965 = .ok (.iconst 0, 1) := by decide +kernel
theorem dL_law_966 : decode cL_law 966 = .ok (.ireturn, 1) := by decide +kernel
theorem dL_law_967 : decode cL_law 967 = .ok (.iinc 15 1, 3) := by decide +kernel
theorem dL_law_970 : decode cL_law 970 = .ok (.goto (-72), 3) := by decide +kernel
theorem dL_law_973 : decode cL_law 973 = .ok (.aload 12, 2) := by decide +kernel
theorem dL_law_975 : decode cL_law 975 = .ok (.aload_n 0, 1) := by decide +kernel
theorem dL_law_976 : decode cL_law 976 = .ok (.bipush 12, 2) := by decide +kernel
theorem dL_law_978 : decode cL_law 978 = .ok (.invokestatic 65, 3) := by decide +kernel
theorem dL_law_981 : decode cL_law 981 = .ok (.ldc 140, 2) := by decide +kernel
theorem dL_law_983 : decode cL_law 983 = .ok (.invokestatic 69, 3) := by decide +kernel
theorem dL_law_986 : decode cL_law 986 = .ok (.invokevirtual 141, 3) := by decide +kernel
theorem dL_law_989 : decode cL_law 989 = .ok (.iload 13, 2) := by decide +kernel
theorem dL_law_991 : decode cL_law 991 = .ok (.if_icmp .ne 7, 3) := by decide +kernel
theorem dL_law_994 : decode cL_law 994 = .ok (.iconst 1, 1) := by decide +kernel
theorem dL_law_995 : decode cL_law 995 = .ok (.goto 4, 3) := by decide +kernel
theorem dL_law_998 : decode cL_law 998 = .ok (.iconst 0, 1) := by decide +kernel
theorem dL_law_999 : decode cL_law 999 = .ok (.ireturn, 1) := by decide +kernel
theorem dL_noneBroken_0 : decode cL_noneBroken 0 = .ok (.iconst 1, 1) := by decide +kernel
theorem dL_noneBroken_1 : decode cL_noneBroken 1 = .ok (.istore_n 1, 1) := by decide +kernel
theorem dL_noneBroken_2 : decode cL_noneBroken 2 = .ok (.iconst 0, 1) := by decide +kernel
theorem dL_noneBroken_3 : decode cL_noneBroken 3 = .ok (.istore_n 2, 1) := by decide +kernel
theorem dL_noneBroken_4 : decode cL_noneBroken 4 = .ok (.iload_n 2, 1) := by decide +kernel
theorem dL_noneBroken_5 : decode cL_noneBroken 5 = .ok (.aload_n 0, 1) := by decide +kernel
theorem dL_noneBroken_6 : decode cL_noneBroken 6 = .ok (.iconst 3, 1) := by decide +kernel
theorem dL_noneBroken_7 : decode cL_noneBroken 7 = .ok (.invokevirtual 30, 3) := by decide +kernel
theorem dL_noneBroken_10 : decode cL_noneBroken 10 = .ok (.if_icmp .ge 29, 3) := by decide +kernel
theorem dL_noneBroken_13 : decode cL_noneBroken 13 = .ok (.iload_n 1, 1) := by decide +kernel
theorem dL_noneBroken_14 : decode cL_noneBroken 14 = .ok (.ifCond .eq 17, 3) := by decide +kernel
theorem dL_noneBroken_17 : decode cL_noneBroken 17 = .ok (.aload_n 0, 1) := by decide +kernel
theorem dL_noneBroken_18 : decode cL_noneBroken 18 = .ok (.iload_n 2, 1) := by decide +kernel
theorem dL_noneBroken_19 : decode cL_noneBroken 19 = .ok (.bipush 9, 2) := by decide +kernel
theorem dL_noneBroken_21 : decode cL_noneBroken 21 = .ok (.invokevirtual 50, 3) := by decide +kernel
theorem dL_noneBroken_24 : decode cL_noneBroken 24 = .ok (.ifCond .ne 7, 3) := by decide +kernel
theorem dL_noneBroken_27 : decode cL_noneBroken 27 = .ok (.iconst 1, 1) := by decide +kernel
theorem dL_noneBroken_28 : decode cL_noneBroken 28 = .ok (.goto 4, 3) := by decide +kernel
theorem dL_noneBroken_31 : decode cL_noneBroken 31 = .ok (.iconst 0, 1) := by decide +kernel
theorem dL_noneBroken_32 : decode cL_noneBroken 32 = .ok (.istore_n 1, 1) := by decide +kernel
theorem dL_noneBroken_33 : decode cL_noneBroken 33 = .ok (.iinc 2 1, 3) := by decide +kernel
theorem dL_noneBroken_36 : decode cL_noneBroken 36 = .ok (.goto (-32), 3) := by decide +kernel
theorem dL_noneBroken_39 : decode cL_noneBroken 39 = .ok (.iload_n 1, 1) := by decide +kernel
theorem dL_noneBroken_40 : decode cL_noneBroken 40 = .ok (.ireturn, 1) := by decide +kernel
end
section
/-! ===== the tables' words that are good for any callee, each by its place ===== -/
def bG : List Cond := lw_tbl.filter goodWord
theorem bm {w : Cond} (h : w ∈ lw_tbl) (g : goodWord w = true) : w ∈ bG := List.mem_filter.mpr ⟨h, g⟩
theorem t_in1 {w : Cond} (h : w ∈ tables_1_1) : w ∈ lw_tbl := List.mem_append_right _ (List.mem_append_left _ h)
theorem t_in2 {w : Cond} (h : w ∈ tables_1_2) : w ∈ lw_tbl := List.mem_append_right _ (List.mem_append_right _ (List.mem_append_left _ h))
theorem t_in3 {w : Cond} (h : w ∈ tables_1_3) : w ∈ lw_tbl := List.mem_append_right _ (List.mem_append_right _ (List.mem_append_right _ (List.mem_append_left _ h)))
theorem t_in4 {w : Cond} (h : w ∈ tables_1_4) : w ∈ lw_tbl := List.mem_append_right _ (List.mem_append_right _ (List.mem_append_right _ (List.mem_append_right _ (List.mem_append_left _ h))))
theorem t_in5 {w : Cond} (h : w ∈ tables_1_5) : w ∈ lw_tbl := List.mem_append_right _ (List.mem_append_right _ (List.mem_append_right _ (List.mem_append_right _ (List.mem_append_right _ (h)))))
theorem wd0 : Cond.initialized RL ∈ bG := bm (t_in1 (List.mem_of_getElem? (i := 0) rfl)) rfl
theorem wd1 : Cond.initialized RX11 ∈ bG := bm (t_in1 (List.mem_of_getElem? (i := 1) rfl)) rfl
theorem wd2 : Cond.initialized RX9 ∈ bG := bm (t_in1 (List.mem_of_getElem? (i := 2) rfl)) rfl
theorem wd3 : Cond.initialized RX5 ∈ bG := bm (t_in1 (List.mem_of_getElem? (i := 3) rfl)) rfl
theorem wd4 : Cond.initialized RX10 ∈ bG := bm (t_in1 (List.mem_of_getElem? (i := 4) rfl)) rfl
theorem wd5 : Cond.initialized RX3 ∈ bG := bm (t_in1 (List.mem_of_getElem? (i := 5) rfl)) rfl
theorem wd6 : Cond.initialized RX8 ∈ bG := bm (t_in1 (List.mem_of_getElem? (i := 6) rfl)) rfl
theorem wd7 : Cond.initialized RX6 ∈ bG := bm (t_in1 (List.mem_of_getElem? (i := 7) rfl)) rfl
theorem wd8 : Cond.initialized RX2 ∈ bG := bm (t_in1 (List.mem_of_getElem? (i := 8) rfl)) rfl
theorem wd9 : Cond.initialized RX4 ∈ bG := bm (t_in1 (List.mem_of_getElem? (i := 9) rfl)) rfl
theorem wd10 : Cond.initialized RX7 ∈ bG := bm (t_in1 (List.mem_of_getElem? (i := 10) rfl)) rfl
theorem wd11 : Cond.initialized "java/lang/Enum" ∈ bG := bm (t_in1 (List.mem_of_getElem? (i := 11) rfl)) rfl
theorem wd12 : Cond.initialized RX1 ∈ bG := bm (t_in1 (List.mem_of_getElem? (i := 12) rfl)) rfl
theorem wd13 : Cond.initialized "java/lang/String" ∈ bG := bm (t_in1 (List.mem_of_getElem? (i := 13) rfl)) rfl
theorem wd14 : Cond.initialized "java/lang/StringLatin1" ∈ bG := bm (t_in1 (List.mem_of_getElem? (i := 14) rfl)) rfl
theorem wd15 : Cond.initialized "jdk/internal/util/Preconditions" ∈ bG := bm (t_in1 (List.mem_of_getElem? (i := 15) rfl)) rfl
theorem wd16 : Cond.initialized "java/lang/StringUTF16" ∈ bG := bm (t_in1 (List.mem_of_getElem? (i := 16) rfl)) rfl
theorem wd17 : Cond.initialized RX0 ∈ bG := bm (t_in1 (List.mem_of_getElem? (i := 17) rfl)) rfl
theorem wd18 : Cond.initialized "java/lang/Throwable" ∈ bG := bm (t_in1 (List.mem_of_getElem? (i := 18) rfl)) rfl
theorem wd19 : Cond.initialized "java/lang/Exception" ∈ bG := bm (t_in1 (List.mem_of_getElem? (i := 19) rfl)) rfl
theorem wd20 : Cond.initialized "java/lang/RuntimeException" ∈ bG := bm (t_in1 (List.mem_of_getElem? (i := 20) rfl)) rfl
theorem wd21 : Cond.initialized "java/lang/IndexOutOfBoundsException" ∈ bG := bm (t_in1 (List.mem_of_getElem? (i := 21) rfl)) rfl
theorem wd22 : Cond.initialized "java/lang/IllegalStateException" ∈ bG := bm (t_in1 (List.mem_of_getElem? (i := 22) rfl)) rfl
theorem wd23 : Cond.initialized "java/lang/IllegalArgumentException" ∈ bG := bm (t_in1 (List.mem_of_getElem? (i := 23) rfl)) rfl
theorem wd24 : Cond.initialized "java/lang/Math" ∈ bG := bm (t_in1 (List.mem_of_getElem? (i := 24) rfl)) rfl
theorem wd25 : Cond.initialized "java/lang/Integer" ∈ bG := bm (t_in1 (List.mem_of_getElem? (i := 25) rfl)) rfl
theorem wd26 : Cond.classLink RL 31 RX11 ∈ bG := bm (t_in1 (List.mem_of_getElem? (i := 26) rfl)) rfl
theorem wd27 : Cond.instantiable RX11 9 ∈ bG := bm (t_in1 (List.mem_of_getElem? (i := 27) rfl)) rfl
theorem wd28 : Cond.methodLink RL 62 yX11_init ∈ bG := bm (t_in1 (List.mem_of_getElem? (i := 28) rfl)) rfl
theorem wd29 : Cond.instanceMethod yX11_init ∈ bG := bm (t_in1 (List.mem_of_getElem? (i := 29) rfl)) rfl
theorem wd30 : Cond.code yX11_init prog_1_method_1_code 1 none ∈ bG := bm (t_in1 (List.mem_of_getElem? (i := 30) rfl)) rfl
theorem wd31 : Cond.methodLink RX11 1 ⟨"java/lang/Object", "<init>", "()V"⟩ ∈ bG := bm (t_in1 (List.mem_of_getElem? (i := 31) rfl)) rfl
theorem wd32 : Cond.instanceMethod ⟨"java/lang/Object", "<init>", "()V"⟩ ∈ bG := bm (t_in1 (List.mem_of_getElem? (i := 32) rfl)) rfl
theorem wd33 : Cond.code ⟨"java/lang/Object", "<init>", "()V"⟩ object_method_1_code 1 none ∈ bG := bm (t_in1 (List.mem_of_getElem? (i := 33) rfl)) rfl
theorem wd34 : Cond.classLink RX11 7 RX9 ∈ bG := bm (t_in1 (List.mem_of_getElem? (i := 34) rfl)) rfl
theorem wd35 : Cond.instantiable RX9 2 ∈ bG := bm (t_in1 (List.mem_of_getElem? (i := 35) rfl)) rfl
theorem wd36 : Cond.methodLinkNest RX11 9 yX9_init RX11 ∈ lw_tbl := t_in1 (List.mem_of_getElem? (i := 36) rfl)
theorem wd37 : Cond.instanceMethod yX9_init ∈ bG := bm (t_in1 (List.mem_of_getElem? (i := 37) rfl)) rfl
theorem wd38 : Cond.code yX9_init prog_11_method_1_code 1 none ∈ bG := bm (t_in1 (List.mem_of_getElem? (i := 38) rfl)) rfl
theorem wd39 : Cond.methodLink RX9 3 ⟨"java/lang/Object", "<init>", "()V"⟩ ∈ bG := bm (t_in1 (List.mem_of_getElem? (i := 39) rfl)) rfl
theorem wd40 : Cond.fieldLink RX11 64 "RiddleMill$Tape" "length" "I" ∈ bG := bm (t_in1 (List.mem_of_getElem? (i := 40) rfl)) rfl
theorem wd41 : Cond.fieldLink RX9 15 "RiddleMill$Tape" "length" "I" ∈ bG := bm (t_in1 (List.mem_of_getElem? (i := 41) rfl)) rfl
theorem wd42 : Cond.fieldLink RX10 29 "RiddleMill$Tape" "length" "I" ∈ bG := bm (t_in1 (List.mem_of_getElem? (i := 42) rfl)) rfl
theorem wd43 : Cond.fieldLink RX9 9 "RiddleMill$Tape" "bytes" "[I" ∈ bG := bm (t_in1 (List.mem_of_getElem? (i := 43) rfl)) rfl
theorem wd44 : Cond.arrayClass .int ∈ bG := bm (t_in1 (List.mem_of_getElem? (i := 49) rfl)) rfl
theorem wd45 : Cond.classLink RX11 16 RX5 ∈ bG := bm (t_in1 (List.mem_of_getElem? (i := 50) rfl)) rfl
theorem wd46 : Cond.instantiable RX5 4 ∈ bG := bm (t_in1 (List.mem_of_getElem? (i := 51) rfl)) rfl
theorem wd47 : Cond.methodLinkNest RX11 18 yX5_init RX11 ∈ lw_tbl := t_in1 (List.mem_of_getElem? (i := 52) rfl)
theorem wd48 : Cond.instanceMethod yX5_init ∈ bG := bm (t_in1 (List.mem_of_getElem? (i := 53) rfl)) rfl
theorem wd49 : Cond.code yX5_init prog_7_method_1_code 1 none ∈ bG := bm (t_in1 (List.mem_of_getElem? (i := 54) rfl)) rfl
theorem wd50 : Cond.methodLink RX5 3 ⟨"java/lang/Object", "<init>", "()V"⟩ ∈ bG := bm (t_in1 (List.mem_of_getElem? (i := 55) rfl)) rfl
theorem wd51 : Cond.classLink RX5 15 RX10 ∈ bG := bm (t_in1 (List.mem_of_getElem? (i := 56) rfl)) rfl
theorem wd52 : Cond.instantiable RX10 4 ∈ bG := bm (t_in1 (List.mem_of_getElem? (i := 57) rfl)) rfl
theorem wd53 : Cond.methodLinkNest RX5 17 yX10_init RX11 ∈ lw_tbl := t_in1 (List.mem_of_getElem? (i := 58) rfl)
theorem wd54 : Cond.instanceMethod yX10_init ∈ bG := bm (t_in1 (List.mem_of_getElem? (i := 59) rfl)) rfl
theorem wd55 : Cond.code yX10_init prog_12_method_1_code 1 none ∈ bG := bm (t_in1 (List.mem_of_getElem? (i := 60) rfl)) rfl
theorem wd56 : Cond.methodLink RX10 3 ⟨"java/lang/Object", "<init>", "()V"⟩ ∈ bG := bm (t_in1 (List.mem_of_getElem? (i := 61) rfl)) rfl
theorem wd57 : Cond.fieldLink RX10 21 "RiddleMill$Tokens" "count" "I" ∈ bG := bm (t_in1 (List.mem_of_getElem? (i := 62) rfl)) rfl
theorem wd58 : Cond.fieldLink RX5 58 "RiddleMill$Tokens" "count" "I" ∈ bG := bm (t_in1 (List.mem_of_getElem? (i := 63) rfl)) rfl
theorem wd59 : Cond.fieldLink RX10 9 "RiddleMill$Tokens" "types" "[I" ∈ bG := bm (t_in1 (List.mem_of_getElem? (i := 64) rfl)) rfl
theorem wd60 : Cond.fieldLink RX10 15 "RiddleMill$Tokens" "starts" "[I" ∈ bG := bm (t_in1 (List.mem_of_getElem? (i := 65) rfl)) rfl
theorem wd61 : Cond.fieldLink RX10 18 "RiddleMill$Tokens" "numbers" "[I" ∈ bG := bm (t_in1 (List.mem_of_getElem? (i := 66) rfl)) rfl
theorem wd62 : Cond.fieldLink RX5 22 "RiddleMill$PuzzleReader" "error" "I" ∈ bG := bm (t_in1 (List.mem_of_getElem? (i := 76) rfl)) rfl
theorem wd63 : Cond.fieldLink RX11 91 "RiddleMill$PuzzleReader" "error" "I" ∈ bG := bm (t_in1 (List.mem_of_getElem? (i := 77) rfl)) rfl
theorem wd64 : Cond.fieldLink RX5 9 "RiddleMill$PuzzleReader" "errorAt" "I" ∈ bG := bm (t_in1 (List.mem_of_getElem? (i := 78) rfl)) rfl
theorem wd65 : Cond.fieldLink RX5 18 "RiddleMill$PuzzleReader" "tokens" "LRiddleMill$Tokens;" ∈ bG := bm (t_in1 (List.mem_of_getElem? (i := 79) rfl)) rfl
theorem wd66 : Cond.fieldLink RX5 44 "RiddleMill$PuzzleReader" "place" "I" ∈ bG := bm (t_in1 (List.mem_of_getElem? (i := 80) rfl)) rfl
theorem wd67 : Cond.classLink RX11 23 RX3 ∈ bG := bm (t_in1 (List.mem_of_getElem? (i := 90) rfl)) rfl
theorem wd68 : Cond.instantiable RX3 2 ∈ bG := bm (t_in1 (List.mem_of_getElem? (i := 91) rfl)) rfl
theorem wd69 : Cond.methodLinkNest RX11 25 yX3_init RX11 ∈ lw_tbl := t_in1 (List.mem_of_getElem? (i := 92) rfl)
theorem wd70 : Cond.instanceMethod yX3_init ∈ bG := bm (t_in1 (List.mem_of_getElem? (i := 93) rfl)) rfl
theorem wd71 : Cond.code yX3_init prog_5_method_1_code 1 none ∈ bG := bm (t_in1 (List.mem_of_getElem? (i := 94) rfl)) rfl
theorem wd72 : Cond.methodLink RX3 3 ⟨"java/lang/Object", "<init>", "()V"⟩ ∈ bG := bm (t_in1 (List.mem_of_getElem? (i := 95) rfl)) rfl
theorem wd73 : Cond.fieldLink RX3 9 "RiddleMill$Paper" "bytes" "[I" ∈ bG := bm (t_in1 (List.mem_of_getElem? (i := 96) rfl)) rfl
theorem wd74 : Cond.fieldLink RX11 182 "RiddleMill$Paper" "bytes" "[I" ∈ bG := bm (t_in1 (List.mem_of_getElem? (i := 97) rfl)) rfl
theorem wd75 : Cond.fieldLink RX3 15 "RiddleMill$Paper" "length" "I" ∈ bG := bm (t_in1 (List.mem_of_getElem? (i := 98) rfl)) rfl
theorem wd76 : Cond.fieldLink RX11 125 "RiddleMill$Paper" "length" "I" ∈ bG := bm (t_in1 (List.mem_of_getElem? (i := 99) rfl)) rfl
theorem wd77 : Cond.classLink RX11 30 RX8 ∈ bG := bm (t_in1 (List.mem_of_getElem? (i := 105) rfl)) rfl
theorem wd78 : Cond.instantiable RX8 9 ∈ bG := bm (t_in1 (List.mem_of_getElem? (i := 106) rfl)) rfl
theorem wd79 : Cond.methodLinkNest RX11 32 yX8_init RX11 ∈ lw_tbl := t_in1 (List.mem_of_getElem? (i := 107) rfl)
theorem wd80 : Cond.instanceMethod yX8_init ∈ bG := bm (t_in1 (List.mem_of_getElem? (i := 108) rfl)) rfl
theorem wd81 : Cond.code yX8_init prog_10_method_1_code 1 none ∈ bG := bm (t_in1 (List.mem_of_getElem? (i := 109) rfl)) rfl
theorem wd82 : Cond.methodLink RX8 3 ⟨"java/lang/Object", "<init>", "()V"⟩ ∈ bG := bm (t_in1 (List.mem_of_getElem? (i := 110) rfl)) rfl
theorem wd83 : Cond.classLink RX8 9 "[[I" ∈ bG := bm (t_in1 (List.mem_of_getElem? (i := 111) rfl)) rfl
theorem wd84 : Cond.arrayOver (.array .int) ∈ lw_tbl := t_in1 (List.mem_of_getElem? (i := 112) rfl)
theorem wd85 : Cond.fieldLink RX8 11 "RiddleMill$Search" "solutions" "[[I" ∈ bG := bm (t_in1 (List.mem_of_getElem? (i := 113) rfl)) rfl
theorem wd86 : Cond.fieldLink RX2 41 "RiddleMill$Search" "solutions" "[[I" ∈ bG := bm (t_in1 (List.mem_of_getElem? (i := 114) rfl)) rfl
theorem wd87 : Cond.fieldLink RX11 201 "RiddleMill$Search" "solutions" "[[I" ∈ bG := bm (t_in1 (List.mem_of_getElem? (i := 115) rfl)) rfl
theorem wd88 : Cond.fieldLink RX8 47 "RiddleMill$Search" "found" "I" ∈ bG := bm (t_in1 (List.mem_of_getElem? (i := 116) rfl)) rfl
theorem wd89 : Cond.fieldLink RX11 119 "RiddleMill$Search" "found" "I" ∈ bG := bm (t_in1 (List.mem_of_getElem? (i := 117) rfl)) rfl
theorem wd90 : Cond.fieldLink RX8 57 "RiddleMill$Search" "tries" "I" ∈ bG := bm (t_in1 (List.mem_of_getElem? (i := 118) rfl)) rfl
theorem wd91 : Cond.fieldLink RX11 122 "RiddleMill$Search" "tries" "I" ∈ bG := bm (t_in1 (List.mem_of_getElem? (i := 119) rfl)) rfl
theorem wd92 : Cond.fieldLink RX8 16 "RiddleMill$Search" "values" "[I" ∈ bG := bm (t_in1 (List.mem_of_getElem? (i := 120) rfl)) rfl
theorem wd93 : Cond.fieldLink RX8 20 "RiddleMill$Search" "only" "[I" ∈ bG := bm (t_in1 (List.mem_of_getElem? (i := 121) rfl)) rfl
theorem wd94 : Cond.fieldLink RX8 23 "RiddleMill$Search" "first" "[I" ∈ bG := bm (t_in1 (List.mem_of_getElem? (i := 122) rfl)) rfl
theorem wd95 : Cond.fieldLink RX8 54 "RiddleMill$Search" "without" "I" ∈ bG := bm (t_in1 (List.mem_of_getElem? (i := 123) rfl)) rfl
theorem wd96 : Cond.fieldLink RX8 51 "RiddleMill$Search" "most" "I" ∈ bG := bm (t_in1 (List.mem_of_getElem? (i := 124) rfl)) rfl
theorem wd97 : Cond.fieldLink RX8 43 "RiddleMill$Search" "hasGivenUp" "Z" ∈ bG := bm (t_in1 (List.mem_of_getElem? (i := 125) rfl)) rfl
theorem wd98 : Cond.classLink RX11 40 RX6 ∈ bG := bm (t_in1 (List.mem_of_getElem? (i := 145) rfl)) rfl
theorem wd99 : Cond.instantiable RX6 8 ∈ bG := bm (t_in1 (List.mem_of_getElem? (i := 146) rfl)) rfl
theorem wd100 : Cond.methodLinkNest RX11 42 yX6_init RX11 ∈ lw_tbl := t_in1 (List.mem_of_getElem? (i := 147) rfl)
theorem wd101 : Cond.instanceMethod yX6_init ∈ bG := bm (t_in1 (List.mem_of_getElem? (i := 148) rfl)) rfl
theorem wd102 : Cond.code yX6_init prog_8_method_1_code 1 none ∈ bG := bm (t_in1 (List.mem_of_getElem? (i := 149) rfl)) rfl
theorem wd103 : Cond.methodLink RX6 3 ⟨"java/lang/Object", "<init>", "()V"⟩ ∈ bG := bm (t_in1 (List.mem_of_getElem? (i := 150) rfl)) rfl
theorem wd104 : Cond.fieldLink RX6 9 "RiddleMill$Reasoner" "sets" "[I" ∈ bG := bm (t_in1 (List.mem_of_getElem? (i := 151) rfl)) rfl
theorem wd105 : Cond.fieldLink RX11 216 "RiddleMill$Reasoner" "sets" "[I" ∈ bG := bm (t_in1 (List.mem_of_getElem? (i := 152) rfl)) rfl
theorem wd106 : Cond.fieldLink RX6 18 "RiddleMill$Reasoner" "passes" "I" ∈ bG := bm (t_in1 (List.mem_of_getElem? (i := 153) rfl)) rfl
theorem wd107 : Cond.fieldLink RX11 244 "RiddleMill$Reasoner" "passes" "I" ∈ bG := bm (t_in1 (List.mem_of_getElem? (i := 154) rfl)) rfl
theorem wd108 : Cond.fieldLink RX6 22 "RiddleMill$Reasoner" "greatestGrade" "I" ∈ bG := bm (t_in1 (List.mem_of_getElem? (i := 155) rfl)) rfl
theorem wd109 : Cond.fieldLink RX11 247 "RiddleMill$Reasoner" "greatestGrade" "I" ∈ bG := bm (t_in1 (List.mem_of_getElem? (i := 156) rfl)) rfl
theorem wd110 : Cond.fieldLink RX6 58 "RiddleMill$Reasoner" "firstRule" "I" ∈ bG := bm (t_in1 (List.mem_of_getElem? (i := 157) rfl)) rfl
theorem wd111 : Cond.fieldLink RX11 225 "RiddleMill$Reasoner" "firstRule" "I" ∈ bG := bm (t_in1 (List.mem_of_getElem? (i := 158) rfl)) rfl
theorem wd112 : Cond.fieldLink RX6 73 "RiddleMill$Reasoner" "firstCell" "I" ∈ bG := bm (t_in1 (List.mem_of_getElem? (i := 159) rfl)) rfl
theorem wd113 : Cond.fieldLink RX11 228 "RiddleMill$Reasoner" "firstCell" "I" ∈ bG := bm (t_in1 (List.mem_of_getElem? (i := 160) rfl)) rfl
theorem wd114 : Cond.fieldLink RX6 76 "RiddleMill$Reasoner" "firstValue" "I" ∈ bG := bm (t_in1 (List.mem_of_getElem? (i := 161) rfl)) rfl
theorem wd115 : Cond.fieldLink RX11 231 "RiddleMill$Reasoner" "firstValue" "I" ∈ bG := bm (t_in1 (List.mem_of_getElem? (i := 162) rfl)) rfl
theorem wd116 : Cond.fieldLink RX6 83 "RiddleMill$Reasoner" "firstGrade" "I" ∈ bG := bm (t_in1 (List.mem_of_getElem? (i := 163) rfl)) rfl
theorem wd117 : Cond.fieldLink RX11 234 "RiddleMill$Reasoner" "firstGrade" "I" ∈ bG := bm (t_in1 (List.mem_of_getElem? (i := 164) rfl)) rfl
theorem wd118 : Cond.fieldLink RX6 15 "RiddleMill$Reasoner" "values" "[I" ∈ bG := bm (t_in1 (List.mem_of_getElem? (i := 165) rfl)) rfl
theorem wd119 : Cond.classLink RX11 47 RX2 ∈ bG := bm (t_in1 (List.mem_of_getElem? (i := 183) rfl)) rfl
theorem wd120 : Cond.instantiable RX2 2 ∈ bG := bm (t_in1 (List.mem_of_getElem? (i := 184) rfl)) rfl
theorem wd121 : Cond.methodLinkNest RX11 49 yX2_init RX11 ∈ lw_tbl := t_in1 (List.mem_of_getElem? (i := 185) rfl)
theorem wd122 : Cond.instanceMethod yX2_init ∈ bG := bm (t_in1 (List.mem_of_getElem? (i := 186) rfl)) rfl
theorem wd123 : Cond.code yX2_init prog_4_method_1_code 1 none ∈ bG := bm (t_in1 (List.mem_of_getElem? (i := 187) rfl)) rfl
theorem wd124 : Cond.methodLink RX2 3 ⟨"java/lang/Object", "<init>", "()V"⟩ ∈ bG := bm (t_in1 (List.mem_of_getElem? (i := 188) rfl)) rfl
theorem wd125 : Cond.fieldLink RX2 9 "RiddleMill$Maker" "firstValues" "[I" ∈ bG := bm (t_in1 (List.mem_of_getElem? (i := 189) rfl)) rfl
theorem wd126 : Cond.fieldLink RX2 15 "RiddleMill$Maker" "seed" "I" ∈ bG := bm (t_in1 (List.mem_of_getElem? (i := 190) rfl)) rfl
theorem wd127 : Cond.classLink RX11 54 RX4 ∈ bG := bm (t_in1 (List.mem_of_getElem? (i := 196) rfl)) rfl
theorem wd128 : Cond.instantiable RX4 7 ∈ bG := bm (t_in1 (List.mem_of_getElem? (i := 197) rfl)) rfl
theorem wd129 : Cond.methodLink RX11 56 yX4_init ∈ bG := bm (t_in1 (List.mem_of_getElem? (i := 198) rfl)) rfl
theorem wd130 : Cond.instanceMethod yX4_init ∈ bG := bm (t_in1 (List.mem_of_getElem? (i := 199) rfl)) rfl
theorem wd131 : Cond.code yX4_init prog_6_method_1_code 2 none ∈ bG := bm (t_in1 (List.mem_of_getElem? (i := 200) rfl)) rfl
theorem wd132 : Cond.methodLink RX4 3 ⟨"java/lang/Object", "<init>", "()V"⟩ ∈ bG := bm (t_in1 (List.mem_of_getElem? (i := 201) rfl)) rfl
theorem wd133 : Cond.classLink RX4 15 RX7 ∈ bG := bm (t_in1 (List.mem_of_getElem? (i := 202) rfl)) rfl
theorem wd134 : Cond.arrayOver (.object "RiddleMill$Rule") ∈ lw_tbl := t_in1 (List.mem_of_getElem? (i := 203) rfl)
theorem wd135 : Cond.instantiable RX7 6 ∈ bG := bm (t_in1 (List.mem_of_getElem? (i := 204) rfl)) rfl
theorem wd136 : Cond.methodLinkNest RX4 24 yX7_init RX11 ∈ lw_tbl := t_in1 (List.mem_of_getElem? (i := 205) rfl)
theorem wd137 : Cond.instanceMethod yX7_init ∈ bG := bm (t_in1 (List.mem_of_getElem? (i := 206) rfl)) rfl
theorem wd138 : Cond.code yX7_init prog_9_method_1_code 1 none ∈ bG := bm (t_in1 (List.mem_of_getElem? (i := 207) rfl)) rfl
theorem wd139 : Cond.methodLink RX7 3 ⟨"java/lang/Object", "<init>", "()V"⟩ ∈ bG := bm (t_in1 (List.mem_of_getElem? (i := 208) rfl)) rfl
theorem wd140 : Cond.fieldLink RX7 9 "RiddleMill$Kind" "DIFFER" "LRiddleMill$Kind;" ∈ bG := bm (t_in1 (List.mem_of_getElem? (i := 209) rfl)) rfl
theorem wd141 : Cond.laysStatic "RiddleMill$Kind" "DIFFER" "LRiddleMill$Kind;" ∈ lw_tbl := t_in1 (List.mem_of_getElem? (i := 210) rfl)
theorem wd142 : Cond.fieldLink RX7 15 "RiddleMill$Rule" "kind" "LRiddleMill$Kind;" ∈ bG := bm (t_in1 (List.mem_of_getElem? (i := 211) rfl)) rfl
theorem wd143 : Cond.fieldLink RX3 54 "RiddleMill$Rule" "kind" "LRiddleMill$Kind;" ∈ bG := bm (t_in1 (List.mem_of_getElem? (i := 212) rfl)) rfl
theorem wd144 : Cond.fieldLink RX11 138 "RiddleMill$Rule" "kind" "LRiddleMill$Kind;" ∈ bG := bm (t_in1 (List.mem_of_getElem? (i := 213) rfl)) rfl
theorem wd145 : Cond.fieldLink RX5 112 "RiddleMill$Rule" "kind" "LRiddleMill$Kind;" ∈ bG := bm (t_in1 (List.mem_of_getElem? (i := 214) rfl)) rfl
theorem wd146 : Cond.fieldLink RX4 69 "RiddleMill$Rule" "kind" "LRiddleMill$Kind;" ∈ bG := bm (t_in1 (List.mem_of_getElem? (i := 215) rfl)) rfl
theorem wd147 : Cond.fieldLink RX7 24 "RiddleMill$Rule" "number" "I" ∈ bG := bm (t_in1 (List.mem_of_getElem? (i := 216) rfl)) rfl
theorem wd148 : Cond.fieldLink RX3 69 "RiddleMill$Rule" "number" "I" ∈ bG := bm (t_in1 (List.mem_of_getElem? (i := 217) rfl)) rfl
theorem wd149 : Cond.fieldLink RX11 149 "RiddleMill$Rule" "number" "I" ∈ bG := bm (t_in1 (List.mem_of_getElem? (i := 218) rfl)) rfl
theorem wd150 : Cond.fieldLink RX4 62 "RiddleMill$Rule" "number" "I" ∈ bG := bm (t_in1 (List.mem_of_getElem? (i := 219) rfl)) rfl
theorem wd151 : Cond.fieldLink RX5 134 "RiddleMill$Rule" "number" "I" ∈ bG := bm (t_in1 (List.mem_of_getElem? (i := 220) rfl)) rfl
theorem wd152 : Cond.fieldLink RX7 28 "RiddleMill$Rule" "times" "I" ∈ bG := bm (t_in1 (List.mem_of_getElem? (i := 221) rfl)) rfl
theorem wd153 : Cond.fieldLink RX3 72 "RiddleMill$Rule" "times" "I" ∈ bG := bm (t_in1 (List.mem_of_getElem? (i := 222) rfl)) rfl
theorem wd154 : Cond.fieldLink RX11 150 "RiddleMill$Rule" "times" "I" ∈ bG := bm (t_in1 (List.mem_of_getElem? (i := 223) rfl)) rfl
theorem wd155 : Cond.fieldLink RX5 154 "RiddleMill$Rule" "times" "I" ∈ bG := bm (t_in1 (List.mem_of_getElem? (i := 224) rfl)) rfl
theorem wd156 : Cond.fieldLink RX7 31 "RiddleMill$Rule" "size" "I" ∈ bG := bm (t_in1 (List.mem_of_getElem? (i := 225) rfl)) rfl
theorem wd157 : Cond.fieldLink RX3 75 "RiddleMill$Rule" "size" "I" ∈ bG := bm (t_in1 (List.mem_of_getElem? (i := 226) rfl)) rfl
theorem wd158 : Cond.fieldLink RX6 61 "RiddleMill$Rule" "size" "I" ∈ bG := bm (t_in1 (List.mem_of_getElem? (i := 227) rfl)) rfl
theorem wd159 : Cond.fieldLink RX11 153 "RiddleMill$Rule" "size" "I" ∈ bG := bm (t_in1 (List.mem_of_getElem? (i := 228) rfl)) rfl
theorem wd160 : Cond.fieldLink RX5 160 "RiddleMill$Rule" "size" "I" ∈ bG := bm (t_in1 (List.mem_of_getElem? (i := 229) rfl)) rfl
theorem wd161 : Cond.fieldLink RX7 20 "RiddleMill$Rule" "cells" "[I" ∈ bG := bm (t_in1 (List.mem_of_getElem? (i := 230) rfl)) rfl
theorem wd162 : Cond.fieldLink RX3 78 "RiddleMill$Rule" "cells" "[I" ∈ bG := bm (t_in1 (List.mem_of_getElem? (i := 231) rfl)) rfl
theorem wd163 : Cond.fieldLink RX6 70 "RiddleMill$Rule" "cells" "[I" ∈ bG := bm (t_in1 (List.mem_of_getElem? (i := 232) rfl)) rfl
theorem wd164 : Cond.fieldLink RX7 34 "RiddleMill$Rule" "mask" "I" ∈ bG := bm (t_in1 (List.mem_of_getElem? (i := 233) rfl)) rfl
theorem wd165 : Cond.fieldLink RX4 25 "RiddleMill$Puzzle" "columns" "I" ∈ bG := bm (t_in2 (List.mem_of_getElem? (i := 7) rfl)) rfl
theorem wd166 : Cond.fieldLink RX3 25 "RiddleMill$Puzzle" "columns" "I" ∈ bG := bm (t_in2 (List.mem_of_getElem? (i := 8) rfl)) rfl
theorem wd167 : Cond.fieldLink RX11 97 "RiddleMill$Puzzle" "columns" "I" ∈ bG := bm (t_in2 (List.mem_of_getElem? (i := 9) rfl)) rfl
theorem wd168 : Cond.fieldLink RX5 131 "RiddleMill$Puzzle" "columns" "I" ∈ bG := bm (t_in2 (List.mem_of_getElem? (i := 10) rfl)) rfl
theorem wd169 : Cond.fieldLink RX4 29 "RiddleMill$Puzzle" "rows" "I" ∈ bG := bm (t_in2 (List.mem_of_getElem? (i := 11) rfl)) rfl
theorem wd170 : Cond.fieldLink RX3 34 "RiddleMill$Puzzle" "rows" "I" ∈ bG := bm (t_in2 (List.mem_of_getElem? (i := 12) rfl)) rfl
theorem wd171 : Cond.fieldLink RX11 100 "RiddleMill$Puzzle" "rows" "I" ∈ bG := bm (t_in2 (List.mem_of_getElem? (i := 13) rfl)) rfl
theorem wd172 : Cond.fieldLink RX5 128 "RiddleMill$Puzzle" "rows" "I" ∈ bG := bm (t_in2 (List.mem_of_getElem? (i := 14) rfl)) rfl
theorem wd173 : Cond.fieldLink RX4 32 "RiddleMill$Puzzle" "highest" "I" ∈ bG := bm (t_in2 (List.mem_of_getElem? (i := 15) rfl)) rfl
theorem wd174 : Cond.fieldLink RX2 25 "RiddleMill$Puzzle" "highest" "I" ∈ bG := bm (t_in2 (List.mem_of_getElem? (i := 16) rfl)) rfl
theorem wd175 : Cond.fieldLink RX3 37 "RiddleMill$Puzzle" "highest" "I" ∈ bG := bm (t_in2 (List.mem_of_getElem? (i := 17) rfl)) rfl
theorem wd176 : Cond.fieldLink RX6 34 "RiddleMill$Puzzle" "highest" "I" ∈ bG := bm (t_in2 (List.mem_of_getElem? (i := 18) rfl)) rfl
theorem wd177 : Cond.fieldLink RX8 63 "RiddleMill$Puzzle" "highest" "I" ∈ bG := bm (t_in2 (List.mem_of_getElem? (i := 19) rfl)) rfl
theorem wd178 : Cond.fieldLink RX11 103 "RiddleMill$Puzzle" "highest" "I" ∈ bG := bm (t_in2 (List.mem_of_getElem? (i := 20) rfl)) rfl
theorem wd179 : Cond.fieldLink RX5 137 "RiddleMill$Puzzle" "highest" "I" ∈ bG := bm (t_in2 (List.mem_of_getElem? (i := 21) rfl)) rfl
theorem wd180 : Cond.fieldLink RX4 9 "RiddleMill$Puzzle" "grid" "[I" ∈ bG := bm (t_in2 (List.mem_of_getElem? (i := 22) rfl)) rfl
theorem wd181 : Cond.fieldLink RX6 31 "RiddleMill$Puzzle" "grid" "[I" ∈ bG := bm (t_in2 (List.mem_of_getElem? (i := 23) rfl)) rfl
theorem wd182 : Cond.fieldLink RX8 36 "RiddleMill$Puzzle" "grid" "[I" ∈ bG := bm (t_in2 (List.mem_of_getElem? (i := 24) rfl)) rfl
theorem wd183 : Cond.fieldLink RX11 160 "RiddleMill$Puzzle" "grid" "[I" ∈ bG := bm (t_in2 (List.mem_of_getElem? (i := 25) rfl)) rfl
theorem wd184 : Cond.fieldLink RX4 17 "RiddleMill$Puzzle" "rules" "[LRiddleMill$Rule;" ∈ bG := bm (t_in2 (List.mem_of_getElem? (i := 26) rfl)) rfl
theorem wd185 : Cond.fieldLink RX3 46 "RiddleMill$Puzzle" "rules" "[LRiddleMill$Rule;" ∈ bG := bm (t_in2 (List.mem_of_getElem? (i := 27) rfl)) rfl
theorem wd186 : Cond.fieldLink RX6 50 "RiddleMill$Puzzle" "rules" "[LRiddleMill$Rule;" ∈ bG := bm (t_in2 (List.mem_of_getElem? (i := 28) rfl)) rfl
theorem wd187 : Cond.fieldLink RX11 134 "RiddleMill$Puzzle" "rules" "[LRiddleMill$Rule;" ∈ bG := bm (t_in2 (List.mem_of_getElem? (i := 29) rfl)) rfl
theorem wd188 : Cond.fieldLink RX4 35 "RiddleMill$Puzzle" "ruleCount" "I" ∈ bG := bm (t_in2 (List.mem_of_getElem? (i := 30) rfl)) rfl
theorem wd189 : Cond.fieldLink RX3 43 "RiddleMill$Puzzle" "ruleCount" "I" ∈ bG := bm (t_in2 (List.mem_of_getElem? (i := 31) rfl)) rfl
theorem wd190 : Cond.fieldLink RX6 47 "RiddleMill$Puzzle" "ruleCount" "I" ∈ bG := bm (t_in2 (List.mem_of_getElem? (i := 32) rfl)) rfl
theorem wd191 : Cond.fieldLink RX11 106 "RiddleMill$Puzzle" "ruleCount" "I" ∈ bG := bm (t_in2 (List.mem_of_getElem? (i := 33) rfl)) rfl
theorem wd192 : Cond.fieldLink RX5 95 "RiddleMill$Puzzle" "ruleCount" "I" ∈ bG := bm (t_in2 (List.mem_of_getElem? (i := 34) rfl)) rfl
theorem wd193 : Cond.fieldLink RX4 21 "RiddleMill$Puzzle" "places" "[I" ∈ bG := bm (t_in2 (List.mem_of_getElem? (i := 35) rfl)) rfl
theorem wd194 : Cond.fieldLink RX11 10 "RiddleMill" "tape" "LRiddleMill$Tape;" ∈ bG := bm (t_in2 (List.mem_of_getElem? (i := 51) rfl)) rfl
theorem wd195 : Cond.fieldLink RX11 19 "RiddleMill" "reader" "LRiddleMill$PuzzleReader;" ∈ bG := bm (t_in2 (List.mem_of_getElem? (i := 52) rfl)) rfl
theorem wd196 : Cond.fieldLink RX11 26 "RiddleMill" "paper" "LRiddleMill$Paper;" ∈ bG := bm (t_in2 (List.mem_of_getElem? (i := 53) rfl)) rfl
theorem wd197 : Cond.fieldLink RX11 33 "RiddleMill" "kept" "LRiddleMill$Search;" ∈ bG := bm (t_in2 (List.mem_of_getElem? (i := 54) rfl)) rfl
theorem wd198 : Cond.fieldLink RX11 37 "RiddleMill" "probe" "LRiddleMill$Search;" ∈ bG := bm (t_in2 (List.mem_of_getElem? (i := 55) rfl)) rfl
theorem wd199 : Cond.fieldLink RX11 43 "RiddleMill" "reasoner" "LRiddleMill$Reasoner;" ∈ bG := bm (t_in2 (List.mem_of_getElem? (i := 56) rfl)) rfl
theorem wd200 : Cond.fieldLink RX11 50 "RiddleMill" "maker" "LRiddleMill$Maker;" ∈ bG := bm (t_in2 (List.mem_of_getElem? (i := 57) rfl)) rfl
theorem wd201 : Cond.fieldLink RX11 57 "RiddleMill" "puzzle" "LRiddleMill$Puzzle;" ∈ bG := bm (t_in2 (List.mem_of_getElem? (i := 58) rfl)) rfl
theorem wd202 : Cond.fieldLink RX11 61 "RiddleMill" "draft" "LRiddleMill$Puzzle;" ∈ bG := bm (t_in2 (List.mem_of_getElem? (i := 59) rfl)) rfl
theorem wd203 : Cond.methodLink RL 47 yX11_compile ∈ bG := bm (t_in2 (List.mem_of_getElem? (i := 79) rfl)) rfl
theorem wd204 : Cond.instanceMethod yX11_compile ∈ bG := bm (t_in2 (List.mem_of_getElem? (i := 80) rfl)) rfl
theorem wd205 : Cond.selects RX11 yX11_compile yX11_compile ∈ bG := bm (t_in2 (List.mem_of_getElem? (i := 81) rfl)) rfl
theorem wd206 : Cond.code yX11_compile prog_1_method_4_code 1 (some .int) ∈ bG := bm (t_in2 (List.mem_of_getElem? (i := 82) rfl)) rfl
theorem wd207 : Cond.methodLink RX11 84 yX5_readInto ∈ bG := bm (t_in2 (List.mem_of_getElem? (i := 83) rfl)) rfl
theorem wd208 : Cond.instanceMethod yX5_readInto ∈ bG := bm (t_in2 (List.mem_of_getElem? (i := 84) rfl)) rfl
theorem wd209 : Cond.selects RX5 yX5_readInto yX5_readInto ∈ bG := bm (t_in2 (List.mem_of_getElem? (i := 85) rfl)) rfl
theorem wd210 : Cond.code yX5_readInto prog_7_method_2_code 3 (some .boolean) ∈ bG := bm (t_in2 (List.mem_of_getElem? (i := 86) rfl)) rfl
theorem wd211 : Cond.methodLink RX5 25 yX10_split ∈ bG := bm (t_in2 (List.mem_of_getElem? (i := 87) rfl)) rfl
theorem wd212 : Cond.instanceMethod yX10_split ∈ bG := bm (t_in2 (List.mem_of_getElem? (i := 88) rfl)) rfl
theorem wd213 : Cond.selects RX10 yX10_split yX10_split ∈ bG := bm (t_in2 (List.mem_of_getElem? (i := 89) rfl)) rfl
theorem wd214 : Cond.code yX10_split prog_12_method_5_code 7 none ∈ bG := bm (t_in2 (List.mem_of_getElem? (i := 90) rfl)) rfl
theorem wd215 : Cond.methodLink RX10 25 yX10_skipBlanks ∈ bG := bm (t_in2 (List.mem_of_getElem? (i := 91) rfl)) rfl
theorem wd216 : Cond.static yX10_skipBlanks ∈ bG := bm (t_in2 (List.mem_of_getElem? (i := 92) rfl)) rfl
theorem wd217 : Cond.code yX10_skipBlanks prog_12_method_11_code 3 (some .int) ∈ bG := bm (t_in2 (List.mem_of_getElem? (i := 93) rfl)) rfl
theorem wd218 : Cond.methodLink RX10 34 yX9_byteOrNone ∈ bG := bm (t_in2 (List.mem_of_getElem? (i := 94) rfl)) rfl
theorem wd219 : Cond.instanceMethod yX9_byteOrNone ∈ bG := bm (t_in2 (List.mem_of_getElem? (i := 95) rfl)) rfl
theorem wd220 : Cond.selects RX9 yX9_byteOrNone yX9_byteOrNone ∈ bG := bm (t_in2 (List.mem_of_getElem? (i := 96) rfl)) rfl
theorem wd221 : Cond.code yX9_byteOrNone prog_11_method_3_code 2 (some .int) ∈ bG := bm (t_in2 (List.mem_of_getElem? (i := 97) rfl)) rfl
theorem wd222 : Cond.methodLink RX10 91 yX10_isBlank ∈ bG := bm (t_in2 (List.mem_of_getElem? (i := 98) rfl)) rfl
theorem wd223 : Cond.static yX10_isBlank ∈ bG := bm (t_in2 (List.mem_of_getElem? (i := 99) rfl)) rfl
theorem wd224 : Cond.code yX10_isBlank prog_12_method_12_code 1 (some .boolean) ∈ bG := bm (t_in2 (List.mem_of_getElem? (i := 100) rfl)) rfl
theorem wd225 : Cond.methodLink RX10 38 yX10_isDigit ∈ bG := bm (t_in2 (List.mem_of_getElem? (i := 101) rfl)) rfl
theorem wd226 : Cond.static yX10_isDigit ∈ bG := bm (t_in2 (List.mem_of_getElem? (i := 102) rfl)) rfl
theorem wd227 : Cond.code yX10_isDigit prog_12_method_13_code 1 (some .boolean) ∈ bG := bm (t_in2 (List.mem_of_getElem? (i := 103) rfl)) rfl
theorem wd228 : Cond.methodLink RX10 42 yX10_addNumber ∈ bG := bm (t_in2 (List.mem_of_getElem? (i := 104) rfl)) rfl
theorem wd229 : Cond.instanceMethod yX10_addNumber ∈ bG := bm (t_in2 (List.mem_of_getElem? (i := 106) rfl)) rfl
theorem wd230 : Cond.code yX10_addNumber prog_12_method_7_code 5 (some .int) ∈ bG := bm (t_in2 (List.mem_of_getElem? (i := 107) rfl)) rfl
theorem wd231 : Cond.methodLink RX10 48 yX10_add ∈ bG := bm (t_in2 (List.mem_of_getElem? (i := 108) rfl)) rfl
theorem wd232 : Cond.instanceMethod yX10_add ∈ bG := bm (t_in2 (List.mem_of_getElem? (i := 110) rfl)) rfl
theorem wd233 : Cond.code yX10_add prog_12_method_6_code 4 none ∈ bG := bm (t_in2 (List.mem_of_getElem? (i := 111) rfl)) rfl
theorem wd234 : Cond.methodLink RX10 45 yX10_isLetter ∈ bG := bm (t_in2 (List.mem_of_getElem? (i := 112) rfl)) rfl
theorem wd235 : Cond.static yX10_isLetter ∈ bG := bm (t_in2 (List.mem_of_getElem? (i := 113) rfl)) rfl
theorem wd236 : Cond.code yX10_isLetter prog_12_method_14_code 1 (some .boolean) ∈ bG := bm (t_in2 (List.mem_of_getElem? (i := 114) rfl)) rfl
theorem wd237 : Cond.methodLink RX10 52 yX10_addWord ∈ bG := bm (t_in2 (List.mem_of_getElem? (i := 115) rfl)) rfl
theorem wd238 : Cond.instanceMethod yX10_addWord ∈ bG := bm (t_in2 (List.mem_of_getElem? (i := 117) rfl)) rfl
theorem wd239 : Cond.code yX10_addWord prog_12_method_8_code 5 (some .int) ∈ bG := bm (t_in2 (List.mem_of_getElem? (i := 118) rfl)) rfl
theorem wd240 : Cond.methodLink RX10 55 yX10_wordNumber ∈ bG := bm (t_in2 (List.mem_of_getElem? (i := 119) rfl)) rfl
theorem wd241 : Cond.static yX10_wordNumber ∈ bG := bm (t_in2 (List.mem_of_getElem? (i := 120) rfl)) rfl
theorem wd242 : Cond.code yX10_wordNumber prog_12_method_9_code 4 (some .int) ∈ bG := bm (t_in2 (List.mem_of_getElem? (i := 121) rfl)) rfl
theorem wd243 : Cond.fieldLinkNest RX10 59 "RiddleMill$Kind" "ALL" "[LRiddleMill$Kind;" "RiddleMill" ∈ lw_tbl := t_in2 (List.mem_of_getElem? (i := 122) rfl)
theorem wd244 : Cond.laysStatic "RiddleMill$Kind" "ALL" "[LRiddleMill$Kind;" ∈ lw_tbl := t_in2 (List.mem_of_getElem? (i := 123) rfl)
theorem wd245 : Cond.methodLink RX10 69 yX10_isWord ∈ bG := bm (t_in2 (List.mem_of_getElem? (i := 124) rfl)) rfl
theorem wd246 : Cond.static yX10_isWord ∈ bG := bm (t_in2 (List.mem_of_getElem? (i := 125) rfl)) rfl
theorem wd247 : Cond.code yX10_isWord prog_12_method_10_code 5 (some .boolean) ∈ bG := bm (t_in2 (List.mem_of_getElem? (i := 126) rfl)) rfl
theorem wd248 : Cond.methodLink RX10 82 yJ0_length_8abf5 ∈ bG := bm (t_in2 (List.mem_of_getElem? (i := 127) rfl)) rfl
theorem wd249 : Cond.instanceMethod yJ0_length_8abf5 ∈ bG := bm (t_in2 (List.mem_of_getElem? (i := 128) rfl)) rfl
theorem wd250 : Cond.selects "java/lang/String" yJ0_length_8abf5 yJ0_length_8abf5 ∈ bG := bm (t_in2 (List.mem_of_getElem? (i := 129) rfl)) rfl
theorem wd251 : Cond.code yJ0_length_8abf5 prog_23_method_54_code 1 (some .int) ∈ bG := bm (t_in2 (List.mem_of_getElem? (i := 130) rfl)) rfl
theorem wd252 : Cond.methodLink "java/lang/String" 335 yJ0_coder_7d493 ∈ bG := bm (t_in2 (List.mem_of_getElem? (i := 131) rfl)) rfl
theorem wd253 : Cond.instanceMethod yJ0_coder_7d493 ∈ bG := bm (t_in2 (List.mem_of_getElem? (i := 132) rfl)) rfl
theorem wd254 : Cond.selects "java/lang/String" yJ0_coder_7d493 yJ0_coder_7d493 ∈ bG := bm (t_in2 (List.mem_of_getElem? (i := 133) rfl)) rfl
theorem wd255 : Cond.code yJ0_coder_7d493 prog_23_method_152_code 1 (some .byte) ∈ bG := bm (t_in2 (List.mem_of_getElem? (i := 134) rfl)) rfl
theorem wd256 : Cond.fieldLink "java/lang/String" 38 "java/lang/String" "COMPACT_STRINGS" "Z" ∈ bG := bm (t_in2 (List.mem_of_getElem? (i := 135) rfl)) rfl
theorem wd257 : Cond.laysStatic "java/lang/String" "COMPACT_STRINGS" "Z" ∈ lw_tbl := t_in2 (List.mem_of_getElem? (i := 136) rfl)
theorem wd258 : Cond.methodLink RX10 87 yJ0_charAt_5068e ∈ bG := bm (t_in2 (List.mem_of_getElem? (i := 137) rfl)) rfl
theorem wd259 : Cond.instanceMethod yJ0_charAt_5068e ∈ bG := bm (t_in2 (List.mem_of_getElem? (i := 138) rfl)) rfl
theorem wd260 : Cond.selects "java/lang/String" yJ0_charAt_5068e yJ0_charAt_5068e ∈ bG := bm (t_in2 (List.mem_of_getElem? (i := 139) rfl)) rfl
theorem wd261 : Cond.code yJ0_charAt_5068e prog_23_method_56_code 2 (some .char) ∈ bG := bm (t_in2 (List.mem_of_getElem? (i := 140) rfl)) rfl
theorem wd262 : Cond.methodLink "java/lang/String" 492 yJ0_isLatin1_aae02 ∈ bG := bm (t_in2 (List.mem_of_getElem? (i := 141) rfl)) rfl
theorem wd263 : Cond.instanceMethod yJ0_isLatin1_aae02 ∈ bG := bm (t_in2 (List.mem_of_getElem? (i := 142) rfl)) rfl
theorem wd264 : Cond.selects "java/lang/String" yJ0_isLatin1_aae02 yJ0_isLatin1_aae02 ∈ bG := bm (t_in2 (List.mem_of_getElem? (i := 143) rfl)) rfl
theorem wd265 : Cond.code yJ0_isLatin1_aae02 prog_23_method_154_code 1 (some .boolean) ∈ bG := bm (t_in2 (List.mem_of_getElem? (i := 144) rfl)) rfl
theorem wd266 : Cond.methodLink "java/lang/String" 495 yJ1_charAt_3b067 ∈ bG := bm (t_in2 (List.mem_of_getElem? (i := 145) rfl)) rfl
theorem wd267 : Cond.static yJ1_charAt_3b067 ∈ bG := bm (t_in2 (List.mem_of_getElem? (i := 146) rfl)) rfl
theorem wd268 : Cond.code yJ1_charAt_3b067 prog_24_method_2_code 2 (some .char) ∈ bG := bm (t_in2 (List.mem_of_getElem? (i := 147) rfl)) rfl
theorem wd269 : Cond.methodLink "java/lang/StringLatin1" 9 yJ0_checkIndex_df160 ∈ bG := bm (t_in2 (List.mem_of_getElem? (i := 148) rfl)) rfl
theorem wd270 : Cond.static yJ0_checkIndex_df160 ∈ bG := bm (t_in2 (List.mem_of_getElem? (i := 149) rfl)) rfl
theorem wd271 : Cond.code yJ0_checkIndex_df160 prog_23_method_155_code 2 none ∈ bG := bm (t_in2 (List.mem_of_getElem? (i := 150) rfl)) rfl
theorem wd272 : Cond.fieldLink "java/lang/String" 1053 "jdk/internal/util/Preconditions" "SIOOBE_FORMATTER" "Ljava/util/function/BiFunction;" ∈ bG := bm (t_in2 (List.mem_of_getElem? (i := 151) rfl)) rfl
theorem wd273 : Cond.laysStatic "jdk/internal/util/Preconditions" "SIOOBE_FORMATTER" "Ljava/util/function/BiFunction;" ∈ lw_tbl := t_in2 (List.mem_of_getElem? (i := 152) rfl)
theorem wd274 : Cond.methodLink "java/lang/String" 1059 yJ3_checkIndex_8e157 ∈ bG := bm (t_in2 (List.mem_of_getElem? (i := 153) rfl)) rfl
theorem wd275 : Cond.static yJ3_checkIndex_8e157 ∈ bG := bm (t_in2 (List.mem_of_getElem? (i := 154) rfl)) rfl
theorem wd276 : Cond.code yJ3_checkIndex_8e157 prog_27_method_11_code 3 (some .int) ∈ bG := bm (t_in2 (List.mem_of_getElem? (i := 155) rfl)) rfl
theorem wd277 : Cond.methodLink "java/lang/String" 498 yJ2_charAt_3b067 ∈ bG := bm (t_in2 (List.mem_of_getElem? (i := 156) rfl)) rfl
theorem wd278 : Cond.static yJ2_charAt_3b067 ∈ bG := bm (t_in2 (List.mem_of_getElem? (i := 157) rfl)) rfl
theorem wd279 : Cond.code yJ2_charAt_3b067 prog_25_method_83_code 2 (some .char) ∈ bG := bm (t_in2 (List.mem_of_getElem? (i := 158) rfl)) rfl
theorem wd280 : Cond.methodLink "java/lang/StringUTF16" 67 yJ2_checkIndex_2214a ∈ bG := bm (t_in2 (List.mem_of_getElem? (i := 159) rfl)) rfl
theorem wd281 : Cond.static yJ2_checkIndex_2214a ∈ bG := bm (t_in2 (List.mem_of_getElem? (i := 160) rfl)) rfl
theorem wd282 : Cond.code yJ2_checkIndex_2214a prog_25_method_91_code 2 none ∈ bG := bm (t_in2 (List.mem_of_getElem? (i := 161) rfl)) rfl
theorem wd283 : Cond.methodLink "java/lang/StringUTF16" 48 yJ2_length_9d52b ∈ bG := bm (t_in2 (List.mem_of_getElem? (i := 162) rfl)) rfl
theorem wd284 : Cond.static yJ2_length_9d52b ∈ bG := bm (t_in2 (List.mem_of_getElem? (i := 163) rfl)) rfl
theorem wd285 : Cond.code yJ2_length_9d52b prog_25_method_6_code 1 (some .int) ∈ bG := bm (t_in2 (List.mem_of_getElem? (i := 164) rfl)) rfl
theorem wd286 : Cond.methodLink "java/lang/StringUTF16" 414 yJ0_checkIndex_df160 ∈ bG := bm (t_in2 (List.mem_of_getElem? (i := 165) rfl)) rfl
theorem wd287 : Cond.methodLink "java/lang/StringUTF16" 71 yJ2_getChar_3b067 ∈ bG := bm (t_in2 (List.mem_of_getElem? (i := 166) rfl)) rfl
theorem wd288 : Cond.static yJ2_getChar_3b067 ∈ bG := bm (t_in2 (List.mem_of_getElem? (i := 167) rfl)) rfl
theorem wd289 : Cond.code yJ2_getChar_3b067 prog_25_method_5_code 2 (some .char) ∈ bG := bm (t_in2 (List.mem_of_getElem? (i := 168) rfl)) rfl
theorem wd290 : Cond.fieldLink "java/lang/StringUTF16" 44 "java/lang/StringUTF16" "$assertionsDisabled" "Z" ∈ bG := bm (t_in2 (List.mem_of_getElem? (i := 169) rfl)) rfl
theorem wd291 : Cond.laysStatic "java/lang/StringUTF16" "$assertionsDisabled" "Z" ∈ lw_tbl := t_in2 (List.mem_of_getElem? (i := 170) rfl)
theorem wd292 : Cond.fieldLink "java/lang/StringUTF16" 59 "java/lang/StringUTF16" "HI_BYTE_SHIFT" "I" ∈ bG := bm (t_in2 (List.mem_of_getElem? (i := 171) rfl)) rfl
theorem wd293 : Cond.laysStatic "java/lang/StringUTF16" "HI_BYTE_SHIFT" "I" ∈ lw_tbl := t_in2 (List.mem_of_getElem? (i := 172) rfl)
theorem wd294 : Cond.fieldLink "java/lang/StringUTF16" 63 "java/lang/StringUTF16" "LO_BYTE_SHIFT" "I" ∈ bG := bm (t_in2 (List.mem_of_getElem? (i := 173) rfl)) rfl
theorem wd295 : Cond.laysStatic "java/lang/StringUTF16" "LO_BYTE_SHIFT" "I" ∈ lw_tbl := t_in2 (List.mem_of_getElem? (i := 174) rfl)
theorem wd296 : Cond.stringRef RX10 76 "rows" ∈ lw_tbl := t_in2 (List.mem_of_getElem? (i := 175) rfl)
theorem wd297 : Cond.stringRef RX10 78 "columns" ∈ lw_tbl := t_in2 (List.mem_of_getElem? (i := 176) rfl)
theorem wd298 : Cond.stringRef RX10 80 "grid" ∈ lw_tbl := t_in2 (List.mem_of_getElem? (i := 177) rfl)
theorem wd299 : Cond.methodLink RX5 29 yX5_hasForm ∈ bG := bm (t_in2 (List.mem_of_getElem? (i := 178) rfl)) rfl
theorem wd300 : Cond.instanceMethod yX5_hasForm ∈ bG := bm (t_in2 (List.mem_of_getElem? (i := 180) rfl)) rfl
theorem wd301 : Cond.code yX5_hasForm prog_7_method_4_code 2 (some .boolean) ∈ bG := bm (t_in2 (List.mem_of_getElem? (i := 181) rfl)) rfl
theorem wd302 : Cond.methodLink RX5 51 yX10_numberAt ∈ bG := bm (t_in2 (List.mem_of_getElem? (i := 182) rfl)) rfl
theorem wd303 : Cond.instanceMethod yX10_numberAt ∈ bG := bm (t_in2 (List.mem_of_getElem? (i := 183) rfl)) rfl
theorem wd304 : Cond.selects RX10 yX10_numberAt yX10_numberAt ∈ bG := bm (t_in2 (List.mem_of_getElem? (i := 184) rfl)) rfl
theorem wd305 : Cond.code yX10_numberAt prog_12_method_4_code 2 (some .int) ∈ bG := bm (t_in2 (List.mem_of_getElem? (i := 185) rfl)) rfl
theorem wd306 : Cond.methodLink RX5 54 yX5_passes ∈ bG := bm (t_in2 (List.mem_of_getElem? (i := 186) rfl)) rfl
theorem wd307 : Cond.instanceMethod yX5_passes ∈ bG := bm (t_in2 (List.mem_of_getElem? (i := 188) rfl)) rfl
theorem wd308 : Cond.code yX5_passes prog_7_method_5_code 4 (some .boolean) ∈ bG := bm (t_in2 (List.mem_of_getElem? (i := 189) rfl)) rfl
theorem wd309 : Cond.methodLink RX5 61 yX10_typeAt ∈ bG := bm (t_in2 (List.mem_of_getElem? (i := 190) rfl)) rfl
theorem wd310 : Cond.instanceMethod yX10_typeAt ∈ bG := bm (t_in2 (List.mem_of_getElem? (i := 191) rfl)) rfl
theorem wd311 : Cond.selects RX10 yX10_typeAt yX10_typeAt ∈ bG := bm (t_in2 (List.mem_of_getElem? (i := 192) rfl)) rfl
theorem wd312 : Cond.code yX10_typeAt prog_12_method_2_code 2 (some .int) ∈ bG := bm (t_in2 (List.mem_of_getElem? (i := 193) rfl)) rfl
theorem wd313 : Cond.methodLink RX5 64 yX5_passesRule ∈ bG := bm (t_in2 (List.mem_of_getElem? (i := 194) rfl)) rfl
theorem wd314 : Cond.instanceMethod yX5_passesRule ∈ bG := bm (t_in2 (List.mem_of_getElem? (i := 196) rfl)) rfl
theorem wd315 : Cond.code yX5_passesRule prog_7_method_6_code 3 (some .boolean) ∈ bG := bm (t_in2 (List.mem_of_getElem? (i := 197) rfl)) rfl
theorem wd316 : Cond.fieldLinkNest RX5 67 "RiddleMill$Kind" "ALL" "[LRiddleMill$Kind;" "RiddleMill" ∈ lw_tbl := t_in2 (List.mem_of_getElem? (i := 198) rfl)
theorem wd317 : Cond.methodLink RX5 79 yX5_passesCells ∈ bG := bm (t_in2 (List.mem_of_getElem? (i := 199) rfl)) rfl
theorem wd318 : Cond.instanceMethod yX5_passesCells ∈ bG := bm (t_in2 (List.mem_of_getElem? (i := 201) rfl)) rfl
theorem wd319 : Cond.code yX5_passesCells prog_7_method_7_code 3 (some .boolean) ∈ bG := bm (t_in2 (List.mem_of_getElem? (i := 202) rfl)) rfl
theorem wd320 : Cond.fieldLink RX5 82 "RiddleMill$Kind" "IS" "LRiddleMill$Kind;" ∈ bG := bm (t_in2 (List.mem_of_getElem? (i := 203) rfl)) rfl
theorem wd321 : Cond.laysStatic "RiddleMill$Kind" "IS" "LRiddleMill$Kind;" ∈ lw_tbl := t_in2 (List.mem_of_getElem? (i := 204) rfl)
theorem wd322 : Cond.methodLink RX5 33 yX5_fail ∈ bG := bm (t_in2 (List.mem_of_getElem? (i := 205) rfl)) rfl
theorem wd323 : Cond.instanceMethod yX5_fail ∈ bG := bm (t_in2 (List.mem_of_getElem? (i := 207) rfl)) rfl
theorem wd324 : Cond.code yX5_fail prog_7_method_3_code 2 (some .boolean) ∈ bG := bm (t_in2 (List.mem_of_getElem? (i := 208) rfl)) rfl
theorem wd325 : Cond.methodLink RX5 47 yX10_startAt ∈ bG := bm (t_in2 (List.mem_of_getElem? (i := 209) rfl)) rfl
theorem wd326 : Cond.instanceMethod yX10_startAt ∈ bG := bm (t_in2 (List.mem_of_getElem? (i := 210) rfl)) rfl
theorem wd327 : Cond.selects RX10 yX10_startAt yX10_startAt ∈ bG := bm (t_in2 (List.mem_of_getElem? (i := 211) rfl)) rfl
theorem wd328 : Cond.code yX10_startAt prog_12_method_3_code 2 (some .int) ∈ bG := bm (t_in2 (List.mem_of_getElem? (i := 212) rfl)) rfl
theorem wd329 : Cond.methodLink RX5 37 yX5_readSizes ∈ bG := bm (t_in2 (List.mem_of_getElem? (i := 213) rfl)) rfl
theorem wd330 : Cond.instanceMethod yX5_readSizes ∈ bG := bm (t_in2 (List.mem_of_getElem? (i := 215) rfl)) rfl
theorem wd331 : Cond.code yX5_readSizes prog_7_method_8_code 3 (some .boolean) ∈ bG := bm (t_in2 (List.mem_of_getElem? (i := 216) rfl)) rfl
theorem wd332 : Cond.methodLink RX5 86 yX4_begin ∈ bG := bm (t_in2 (List.mem_of_getElem? (i := 217) rfl)) rfl
theorem wd333 : Cond.instanceMethod yX4_begin ∈ bG := bm (t_in2 (List.mem_of_getElem? (i := 218) rfl)) rfl
theorem wd334 : Cond.selects RX4 yX4_begin yX4_begin ∈ bG := bm (t_in2 (List.mem_of_getElem? (i := 219) rfl)) rfl
theorem wd335 : Cond.code yX4_begin prog_6_method_2_code 4 none ∈ bG := bm (t_in2 (List.mem_of_getElem? (i := 220) rfl)) rfl
theorem wd336 : Cond.methodLink RX4 38 yX4_emptyGrid ∈ bG := bm (t_in2 (List.mem_of_getElem? (i := 221) rfl)) rfl
theorem wd337 : Cond.instanceMethod yX4_emptyGrid ∈ bG := bm (t_in2 (List.mem_of_getElem? (i := 222) rfl)) rfl
theorem wd338 : Cond.selects RX4 yX4_emptyGrid yX4_emptyGrid ∈ bG := bm (t_in2 (List.mem_of_getElem? (i := 223) rfl)) rfl
theorem wd339 : Cond.code yX4_emptyGrid prog_6_method_5_code 2 none ∈ bG := bm (t_in2 (List.mem_of_getElem? (i := 224) rfl)) rfl
theorem wd340 : Cond.methodLink RX5 41 yX5_readRules ∈ bG := bm (t_in2 (List.mem_of_getElem? (i := 225) rfl)) rfl
theorem wd341 : Cond.instanceMethod yX5_readRules ∈ bG := bm (t_in2 (List.mem_of_getElem? (i := 227) rfl)) rfl
theorem wd342 : Cond.code yX5_readRules prog_7_method_9_code 3 (some .boolean) ∈ bG := bm (t_in2 (List.mem_of_getElem? (i := 228) rfl)) rfl
theorem wd343 : Cond.methodLink RX5 92 yX5_readRule ∈ bG := bm (t_in2 (List.mem_of_getElem? (i := 229) rfl)) rfl
theorem wd344 : Cond.instanceMethod yX5_readRule ∈ bG := bm (t_in2 (List.mem_of_getElem? (i := 231) rfl)) rfl
theorem wd345 : Cond.code yX5_readRule prog_7_method_10_code 4 (some .boolean) ∈ bG := bm (t_in2 (List.mem_of_getElem? (i := 232) rfl)) rfl
theorem wd346 : Cond.methodLink RX5 98 yX5_rulesOf ∈ bG := bm (t_in2 (List.mem_of_getElem? (i := 233) rfl)) rfl
theorem wd347 : Cond.static yX5_rulesOf ∈ bG := bm (t_in2 (List.mem_of_getElem? (i := 234) rfl)) rfl
theorem wd348 : Cond.code yX5_rulesOf prog_7_method_11_code 2 (some .int) ∈ bG := bm (t_in2 (List.mem_of_getElem? (i := 235) rfl)) rfl
theorem wd349 : Cond.methodLink RX5 102 yX4_addRowRules ∈ bG := bm (t_in2 (List.mem_of_getElem? (i := 236) rfl)) rfl
theorem wd350 : Cond.instanceMethod yX4_addRowRules ∈ bG := bm (t_in2 (List.mem_of_getElem? (i := 237) rfl)) rfl
theorem wd351 : Cond.selects RX4 yX4_addRowRules yX4_addRowRules ∈ bG := bm (t_in2 (List.mem_of_getElem? (i := 238) rfl)) rfl
theorem wd352 : Cond.code yX4_addRowRules prog_6_method_7_code 4 none ∈ bG := bm (t_in2 (List.mem_of_getElem? (i := 239) rfl)) rfl
theorem wd353 : Cond.fieldLink RX4 45 "RiddleMill$Kind" "DIFFER" "LRiddleMill$Kind;" ∈ bG := bm (t_in3 (List.mem_of_getElem? (i := 0) rfl)) rfl
theorem wd354 : Cond.methodLink RX4 51 yX4_addRule ∈ bG := bm (t_in3 (List.mem_of_getElem? (i := 1) rfl)) rfl
theorem wd355 : Cond.instanceMethod yX4_addRule ∈ bG := bm (t_in3 (List.mem_of_getElem? (i := 2) rfl)) rfl
theorem wd356 : Cond.selects RX4 yX4_addRule yX4_addRule ∈ bG := bm (t_in3 (List.mem_of_getElem? (i := 3) rfl)) rfl
theorem wd357 : Cond.code yX4_addRule prog_6_method_6_code 3 (some (.object "RiddleMill$Rule")) ∈ bG := bm (t_in3 (List.mem_of_getElem? (i := 4) rfl)) rfl
theorem wd358 : Cond.methodLink RX4 41 yX7_begin ∈ bG := bm (t_in3 (List.mem_of_getElem? (i := 5) rfl)) rfl
theorem wd359 : Cond.instanceMethod yX7_begin ∈ bG := bm (t_in3 (List.mem_of_getElem? (i := 6) rfl)) rfl
theorem wd360 : Cond.selects RX7 yX7_begin yX7_begin ∈ bG := bm (t_in3 (List.mem_of_getElem? (i := 7) rfl)) rfl
theorem wd361 : Cond.code yX7_begin prog_9_method_2_code 2 none ∈ bG := bm (t_in3 (List.mem_of_getElem? (i := 8) rfl)) rfl
theorem wd362 : Cond.methodLink RX4 55 yX7_addCell ∈ bG := bm (t_in3 (List.mem_of_getElem? (i := 9) rfl)) rfl
theorem wd363 : Cond.instanceMethod yX7_addCell ∈ bG := bm (t_in3 (List.mem_of_getElem? (i := 10) rfl)) rfl
theorem wd364 : Cond.selects RX7 yX7_addCell yX7_addCell ∈ bG := bm (t_in3 (List.mem_of_getElem? (i := 11) rfl)) rfl
theorem wd365 : Cond.code yX7_addCell prog_9_method_3_code 2 none ∈ bG := bm (t_in3 (List.mem_of_getElem? (i := 12) rfl)) rfl
theorem wd366 : Cond.methodLink RX5 105 yX4_addColumnRules ∈ bG := bm (t_in3 (List.mem_of_getElem? (i := 13) rfl)) rfl
theorem wd367 : Cond.instanceMethod yX4_addColumnRules ∈ bG := bm (t_in3 (List.mem_of_getElem? (i := 14) rfl)) rfl
theorem wd368 : Cond.selects RX4 yX4_addColumnRules yX4_addColumnRules ∈ bG := bm (t_in3 (List.mem_of_getElem? (i := 15) rfl)) rfl
theorem wd369 : Cond.code yX4_addColumnRules prog_6_method_8_code 4 none ∈ bG := bm (t_in3 (List.mem_of_getElem? (i := 16) rfl)) rfl
theorem wd370 : Cond.methodLink RX5 108 yX4_addRule ∈ bG := bm (t_in3 (List.mem_of_getElem? (i := 17) rfl)) rfl
theorem wd371 : Cond.methodLink RX5 117 yX5_readNumber ∈ bG := bm (t_in3 (List.mem_of_getElem? (i := 18) rfl)) rfl
theorem wd372 : Cond.instanceMethod yX5_readNumber ∈ bG := bm (t_in3 (List.mem_of_getElem? (i := 20) rfl)) rfl
theorem wd373 : Cond.code yX5_readNumber prog_7_method_12_code 3 (some .boolean) ∈ bG := bm (t_in3 (List.mem_of_getElem? (i := 21) rfl)) rfl
theorem wd374 : Cond.methodLink RX5 140 yX5_isAllowed ∈ bG := bm (t_in3 (List.mem_of_getElem? (i := 22) rfl)) rfl
theorem wd375 : Cond.static yX5_isAllowed ∈ bG := bm (t_in3 (List.mem_of_getElem? (i := 23) rfl)) rfl
theorem wd376 : Cond.code yX5_isAllowed prog_7_method_13_code 3 (some .boolean) ∈ bG := bm (t_in3 (List.mem_of_getElem? (i := 24) rfl)) rfl
theorem wd377 : Cond.fieldLink RX5 144 "RiddleMill$1" "$SwitchMap$RiddleMill$Kind" "[I" ∈ bG := bm (t_in3 (List.mem_of_getElem? (i := 25) rfl)) rfl
theorem wd378 : Cond.laysStatic "RiddleMill$1" "$SwitchMap$RiddleMill$Kind" "[I" ∈ lw_tbl := t_in3 (List.mem_of_getElem? (i := 26) rfl)
theorem wd379 : Cond.methodLink RX5 150 ⟨"RiddleMill$Kind", "ordinal", "()I"⟩ ∈ bG := bm (t_in3 (List.mem_of_getElem? (i := 27) rfl)) rfl
theorem wd380 : Cond.sameMethod RX1 "java/lang/Enum" "ordinal" "()I" ∈ bG := bm (t_in3 (List.mem_of_getElem? (i := 28) rfl)) rfl
theorem wd381 : Cond.declares yJx29ce0_ordinal_8abf5 ∈ lw_tbl := t_in3 (List.mem_of_getElem? (i := 29) rfl)
theorem wd382 : Cond.selects RX1 ⟨"RiddleMill$Kind", "ordinal", "()I"⟩ yJx29ce0_ordinal_8abf5 ∈ bG := bm (t_in3 (List.mem_of_getElem? (i := 30) rfl)) rfl
theorem wd383 : Cond.instanceMethod yJx29ce0_ordinal_8abf5 ∈ bG := bm (t_in3 (List.mem_of_getElem? (i := 31) rfl)) rfl
theorem wd384 : Cond.code yJx29ce0_ordinal_8abf5 prog_15_method_2_code 1 (some .int) ∈ bG := bm (t_in3 (List.mem_of_getElem? (i := 32) rfl)) rfl
theorem wd385 : Cond.methodLink RX5 121 yX5_readTimes ∈ bG := bm (t_in3 (List.mem_of_getElem? (i := 33) rfl)) rfl
theorem wd386 : Cond.instanceMethod yX5_readTimes ∈ bG := bm (t_in3 (List.mem_of_getElem? (i := 35) rfl)) rfl
theorem wd387 : Cond.code yX5_readTimes prog_7_method_14_code 2 (some .boolean) ∈ bG := bm (t_in3 (List.mem_of_getElem? (i := 36) rfl)) rfl
theorem wd388 : Cond.methodLink RX5 125 yX5_readCells ∈ bG := bm (t_in3 (List.mem_of_getElem? (i := 37) rfl)) rfl
theorem wd389 : Cond.instanceMethod yX5_readCells ∈ bG := bm (t_in3 (List.mem_of_getElem? (i := 39) rfl)) rfl
theorem wd390 : Cond.code yX5_readCells prog_7_method_15_code 7 (some .boolean) ∈ bG := bm (t_in3 (List.mem_of_getElem? (i := 40) rfl)) rfl
theorem wd391 : Cond.methodLink RX5 157 yX7_hasCell ∈ bG := bm (t_in3 (List.mem_of_getElem? (i := 41) rfl)) rfl
theorem wd392 : Cond.instanceMethod yX7_hasCell ∈ bG := bm (t_in3 (List.mem_of_getElem? (i := 42) rfl)) rfl
theorem wd393 : Cond.selects RX7 yX7_hasCell yX7_hasCell ∈ bG := bm (t_in3 (List.mem_of_getElem? (i := 43) rfl)) rfl
theorem wd394 : Cond.code yX7_hasCell prog_9_method_4_code 2 (some .boolean) ∈ bG := bm (t_in3 (List.mem_of_getElem? (i := 44) rfl)) rfl
theorem wd395 : Cond.methodLink RX5 163 yX7_addCell ∈ bG := bm (t_in3 (List.mem_of_getElem? (i := 45) rfl)) rfl
theorem wd396 : Cond.methodLink RX11 88 yX11_takeDraft ∈ bG := bm (t_in3 (List.mem_of_getElem? (i := 46) rfl)) rfl
theorem wd397 : Cond.instanceMethod yX11_takeDraft ∈ bG := bm (t_in3 (List.mem_of_getElem? (i := 48) rfl)) rfl
theorem wd398 : Cond.code yX11_takeDraft prog_1_method_30_code 2 none ∈ bG := bm (t_in3 (List.mem_of_getElem? (i := 49) rfl)) rfl
theorem wd399 : Cond.methodLink RX11 209 yX6_begin ∈ bG := bm (t_in3 (List.mem_of_getElem? (i := 50) rfl)) rfl
theorem wd400 : Cond.instanceMethod yX6_begin ∈ bG := bm (t_in3 (List.mem_of_getElem? (i := 51) rfl)) rfl
theorem wd401 : Cond.selects RX6 yX6_begin yX6_begin ∈ bG := bm (t_in3 (List.mem_of_getElem? (i := 52) rfl)) rfl
theorem wd402 : Cond.code yX6_begin prog_8_method_2_code 4 none ∈ bG := bm (t_in3 (List.mem_of_getElem? (i := 53) rfl)) rfl
theorem wd403 : Cond.methodLink RX6 25 yX4_cellCount ∈ bG := bm (t_in3 (List.mem_of_getElem? (i := 54) rfl)) rfl
theorem wd404 : Cond.instanceMethod yX4_cellCount ∈ bG := bm (t_in3 (List.mem_of_getElem? (i := 55) rfl)) rfl
theorem wd405 : Cond.selects RX4 yX4_cellCount yX4_cellCount ∈ bG := bm (t_in3 (List.mem_of_getElem? (i := 56) rfl)) rfl
theorem wd406 : Cond.code yX4_cellCount prog_6_method_4_code 1 (some .int) ∈ bG := bm (t_in3 (List.mem_of_getElem? (i := 57) rfl)) rfl
theorem wd407 : Cond.arrayClass .byte ∈ bG := bm (t_in3 (List.mem_of_getElem? (i := 58) rfl)) rfl
theorem wd408 : Cond.methodLink RL 30 yX11_count ∈ bG := bm (t_in3 (List.mem_of_getElem? (i := 59) rfl)) rfl
theorem wd409 : Cond.instanceMethod yX11_count ∈ bG := bm (t_in3 (List.mem_of_getElem? (i := 60) rfl)) rfl
theorem wd410 : Cond.selects RX11 yX11_count yX11_count ∈ bG := bm (t_in3 (List.mem_of_getElem? (i := 61) rfl)) rfl
theorem wd411 : Cond.code yX11_count prog_1_method_6_code 2 (some .int) ∈ bG := bm (t_in3 (List.mem_of_getElem? (i := 62) rfl)) rfl
theorem wd412 : Cond.methodLink RX11 109 yX4_countGivens ∈ bG := bm (t_in3 (List.mem_of_getElem? (i := 63) rfl)) rfl
theorem wd413 : Cond.instanceMethod yX4_countGivens ∈ bG := bm (t_in3 (List.mem_of_getElem? (i := 64) rfl)) rfl
theorem wd414 : Cond.selects RX4 yX4_countGivens yX4_countGivens ∈ bG := bm (t_in3 (List.mem_of_getElem? (i := 65) rfl)) rfl
theorem wd415 : Cond.code yX4_countGivens prog_6_method_12_code 3 (some .int) ∈ bG := bm (t_in3 (List.mem_of_getElem? (i := 66) rfl)) rfl
theorem wd416 : Cond.fieldLink RX4 59 "RiddleMill$Kind" "IS" "LRiddleMill$Kind;" ∈ bG := bm (t_in3 (List.mem_of_getElem? (i := 67) rfl)) rfl
theorem wd417 : Cond.methodLink RX11 113 yX4_countFilled ∈ bG := bm (t_in3 (List.mem_of_getElem? (i := 68) rfl)) rfl
theorem wd418 : Cond.instanceMethod yX4_countFilled ∈ bG := bm (t_in3 (List.mem_of_getElem? (i := 69) rfl)) rfl
theorem wd419 : Cond.selects RX4 yX4_countFilled yX4_countFilled ∈ bG := bm (t_in3 (List.mem_of_getElem? (i := 70) rfl)) rfl
theorem wd420 : Cond.code yX4_countFilled prog_6_method_13_code 3 (some .int) ∈ bG := bm (t_in3 (List.mem_of_getElem? (i := 71) rfl)) rfl
theorem wd421 : Cond.methodLink RX4 72 yX4_cellCount ∈ bG := bm (t_in3 (List.mem_of_getElem? (i := 72) rfl)) rfl
theorem wd422 : Cond.methodLink RX11 116 yX4_countBroken ∈ bG := bm (t_in3 (List.mem_of_getElem? (i := 73) rfl)) rfl
theorem wd423 : Cond.instanceMethod yX4_countBroken ∈ bG := bm (t_in3 (List.mem_of_getElem? (i := 74) rfl)) rfl
theorem wd424 : Cond.selects RX4 yX4_countBroken yX4_countBroken ∈ bG := bm (t_in3 (List.mem_of_getElem? (i := 75) rfl)) rfl
theorem wd425 : Cond.code yX4_countBroken prog_6_method_14_code 3 (some .int) ∈ bG := bm (t_in3 (List.mem_of_getElem? (i := 76) rfl)) rfl
theorem wd426 : Cond.methodLink RX4 76 yX7_isBroken ∈ bG := bm (t_in3 (List.mem_of_getElem? (i := 77) rfl)) rfl
theorem wd427 : Cond.instanceMethod yX7_isBroken ∈ bG := bm (t_in3 (List.mem_of_getElem? (i := 78) rfl)) rfl
theorem wd428 : Cond.selects RX7 yX7_isBroken yX7_isBroken ∈ bG := bm (t_in3 (List.mem_of_getElem? (i := 79) rfl)) rfl
theorem wd429 : Cond.code yX7_isBroken prog_9_method_9_code 3 (some .boolean) ∈ bG := bm (t_in3 (List.mem_of_getElem? (i := 80) rfl)) rfl
theorem wd430 : Cond.fieldLink RX7 48 "RiddleMill$1" "$SwitchMap$RiddleMill$Kind" "[I" ∈ bG := bm (t_in3 (List.mem_of_getElem? (i := 81) rfl)) rfl
theorem wd431 : Cond.methodLink RX7 53 ⟨"RiddleMill$Kind", "ordinal", "()I"⟩ ∈ bG := bm (t_in3 (List.mem_of_getElem? (i := 82) rfl)) rfl
theorem wd432 : Cond.methodLink RX7 57 yX7_hasPair ∈ bG := bm (t_in3 (List.mem_of_getElem? (i := 83) rfl)) rfl
theorem wd433 : Cond.instanceMethod yX7_hasPair ∈ bG := bm (t_in3 (List.mem_of_getElem? (i := 85) rfl)) rfl
theorem wd434 : Cond.code yX7_hasPair prog_9_method_10_code 7 (some .boolean) ∈ bG := bm (t_in3 (List.mem_of_getElem? (i := 86) rfl)) rfl
theorem wd435 : Cond.methodLink RX7 61 yX7_breaksSum ∈ bG := bm (t_in3 (List.mem_of_getElem? (i := 87) rfl)) rfl
theorem wd436 : Cond.instanceMethod yX7_breaksSum ∈ bG := bm (t_in3 (List.mem_of_getElem? (i := 89) rfl)) rfl
theorem wd437 : Cond.code yX7_breaksSum prog_9_method_11_code 7 (some .boolean) ∈ bG := bm (t_in3 (List.mem_of_getElem? (i := 90) rfl)) rfl
theorem wd438 : Cond.methodLink RX7 65 yX7_breaksProduct ∈ bG := bm (t_in3 (List.mem_of_getElem? (i := 91) rfl)) rfl
theorem wd439 : Cond.instanceMethod yX7_breaksProduct ∈ bG := bm (t_in3 (List.mem_of_getElem? (i := 93) rfl)) rfl
theorem wd440 : Cond.code yX7_breaksProduct prog_9_method_12_code 6 (some .boolean) ∈ bG := bm (t_in3 (List.mem_of_getElem? (i := 94) rfl)) rfl
theorem wd441 : Cond.methodLink RX7 69 yX7_breaksOrder ∈ bG := bm (t_in3 (List.mem_of_getElem? (i := 95) rfl)) rfl
theorem wd442 : Cond.instanceMethod yX7_breaksOrder ∈ bG := bm (t_in3 (List.mem_of_getElem? (i := 97) rfl)) rfl
theorem wd443 : Cond.code yX7_breaksOrder prog_9_method_13_code 6 (some .boolean) ∈ bG := bm (t_in3 (List.mem_of_getElem? (i := 98) rfl)) rfl
theorem wd444 : Cond.methodLink RX7 72 yX7_breaksSight ∈ bG := bm (t_in3 (List.mem_of_getElem? (i := 99) rfl)) rfl
theorem wd445 : Cond.instanceMethod yX7_breaksSight ∈ bG := bm (t_in3 (List.mem_of_getElem? (i := 101) rfl)) rfl
theorem wd446 : Cond.code yX7_breaksSight prog_9_method_14_code 6 (some .boolean) ∈ bG := bm (t_in3 (List.mem_of_getElem? (i := 102) rfl)) rfl
theorem wd447 : Cond.methodLink RX7 75 yX7_hasRemainder ∈ bG := bm (t_in3 (List.mem_of_getElem? (i := 103) rfl)) rfl
theorem wd448 : Cond.instanceMethod yX7_hasRemainder ∈ bG := bm (t_in3 (List.mem_of_getElem? (i := 105) rfl)) rfl
theorem wd449 : Cond.code yX7_hasRemainder prog_9_method_15_code 5 (some .boolean) ∈ bG := bm (t_in3 (List.mem_of_getElem? (i := 106) rfl)) rfl
theorem wd450 : Cond.methodLink RX7 78 yX7_breaksCount ∈ bG := bm (t_in3 (List.mem_of_getElem? (i := 107) rfl)) rfl
theorem wd451 : Cond.instanceMethod yX7_breaksCount ∈ bG := bm (t_in3 (List.mem_of_getElem? (i := 109) rfl)) rfl
theorem wd452 : Cond.code yX7_breaksCount prog_9_method_16_code 6 (some .boolean) ∈ bG := bm (t_in3 (List.mem_of_getElem? (i := 110) rfl)) rfl
theorem wd453 : Cond.methodLink RX7 81 yX7_breaksIs ∈ bG := bm (t_in3 (List.mem_of_getElem? (i := 111) rfl)) rfl
theorem wd454 : Cond.instanceMethod yX7_breaksIs ∈ bG := bm (t_in3 (List.mem_of_getElem? (i := 113) rfl)) rfl
theorem wd455 : Cond.code yX7_breaksIs prog_9_method_17_code 4 (some .boolean) ∈ bG := bm (t_in3 (List.mem_of_getElem? (i := 114) rfl)) rfl
theorem wd456 : Cond.methodLink RX7 84 yX7_breaksApart ∈ bG := bm (t_in3 (List.mem_of_getElem? (i := 115) rfl)) rfl
theorem wd457 : Cond.instanceMethod yX7_breaksApart ∈ bG := bm (t_in3 (List.mem_of_getElem? (i := 117) rfl)) rfl
theorem wd458 : Cond.code yX7_breaksApart prog_9_method_18_code 6 (some .boolean) ∈ bG := bm (t_in3 (List.mem_of_getElem? (i := 118) rfl)) rfl
theorem wd459 : Cond.classLink RX11 126 "java/lang/IndexOutOfBoundsException" ∈ bG := bm (t_in3 (List.mem_of_getElem? (i := 119) rfl)) rfl
theorem wd460 : Cond.instantiable "java/lang/IndexOutOfBoundsException" 6 ∈ bG := bm (t_in3 (List.mem_of_getElem? (i := 120) rfl)) rfl
theorem wd461 : Cond.castable "java/lang/IndexOutOfBoundsException" "java/lang/IndexOutOfBoundsException" ∈ lw_tbl := t_in3 (List.mem_of_getElem? (i := 121) rfl)
theorem wd462 : Cond.declares ⟨"java/lang/RuntimeException", "<init>", "()V"⟩ ∈ lw_tbl := t_in3 (List.mem_of_getElem? (i := 122) rfl)
theorem wd463 : Cond.declares ⟨"java/lang/RuntimeException", "<init>", "(Ljava/lang/String;)V"⟩ ∈ lw_tbl := t_in3 (List.mem_of_getElem? (i := 123) rfl)
theorem wd464 : Cond.declares ⟨"java/lang/Exception", "<init>", "()V"⟩ ∈ lw_tbl := t_in3 (List.mem_of_getElem? (i := 124) rfl)
theorem wd465 : Cond.declares ⟨"java/lang/Exception", "<init>", "(Ljava/lang/String;)V"⟩ ∈ lw_tbl := t_in3 (List.mem_of_getElem? (i := 125) rfl)
theorem wd466 : Cond.declares ⟨"java/lang/Throwable", "<init>", "()V"⟩ ∈ lw_tbl := t_in3 (List.mem_of_getElem? (i := 126) rfl)
theorem wd467 : Cond.declares ⟨"java/lang/Throwable", "<init>", "(Ljava/lang/String;)V"⟩ ∈ lw_tbl := t_in3 (List.mem_of_getElem? (i := 127) rfl)
theorem wd468 : Cond.selects "java/lang/IndexOutOfBoundsException" ⟨"java/lang/Throwable", "fillInStackTrace", "(I)Ljava/lang/Throwable;"⟩ ⟨"java/lang/Throwable", "fillInStackTrace", "(I)Ljava/lang/Throwable;"⟩ ∈ bG := bm (t_in3 (List.mem_of_getElem? (i := 128) rfl)) rfl
theorem wd469 : Cond.selects "java/lang/IndexOutOfBoundsException" ⟨"java/lang/Throwable", "fillInStackTrace", "()Ljava/lang/Throwable;"⟩ ⟨"java/lang/Throwable", "fillInStackTrace", "()Ljava/lang/Throwable;"⟩ ∈ bG := bm (t_in3 (List.mem_of_getElem? (i := 129) rfl)) rfl
theorem wd470 : Cond.fieldLink "java/lang/Throwable" 198 "java/lang/Throwable" "backtrace" "Ljava/lang/Object;" ∈ bG := bm (t_in3 (List.mem_of_getElem? (i := 140) rfl)) rfl
theorem wd471 : Cond.instanceMethod ⟨"java/lang/Throwable", "<init>", "()V"⟩ ∈ bG := bm (t_in3 (List.mem_of_getElem? (i := 142) rfl)) rfl
theorem wd472 : Cond.code ⟨"java/lang/Throwable", "<init>", "()V"⟩ prog_26_method_1_code 1 none ∈ bG := bm (t_in3 (List.mem_of_getElem? (i := 143) rfl)) rfl
theorem wd473 : Cond.methodLink "java/lang/Throwable" 1 ⟨"java/lang/Object", "<init>", "()V"⟩ ∈ bG := bm (t_in3 (List.mem_of_getElem? (i := 144) rfl)) rfl
theorem wd474 : Cond.fieldLink "java/lang/Throwable" 13 "java/lang/Throwable" "UNASSIGNED_STACK" "[Ljava/lang/StackTraceElement;" ∈ bG := bm (t_in3 (List.mem_of_getElem? (i := 145) rfl)) rfl
theorem wd475 : Cond.laysStatic "java/lang/Throwable" "UNASSIGNED_STACK" "[Ljava/lang/StackTraceElement;" ∈ lw_tbl := t_in3 (List.mem_of_getElem? (i := 146) rfl)
theorem wd476 : Cond.fieldLink "java/lang/Throwable" 20 "java/lang/Throwable" "SUPPRESSED_SENTINEL" "Ljava/util/List;" ∈ bG := bm (t_in3 (List.mem_of_getElem? (i := 147) rfl)) rfl
theorem wd477 : Cond.laysStatic "java/lang/Throwable" "SUPPRESSED_SENTINEL" "Ljava/util/List;" ∈ lw_tbl := t_in3 (List.mem_of_getElem? (i := 148) rfl)
theorem wd478 : Cond.methodLink "java/lang/Throwable" 27 ⟨"java/lang/Throwable", "fillInStackTrace", "()Ljava/lang/Throwable;"⟩ ∈ bG := bm (t_in3 (List.mem_of_getElem? (i := 149) rfl)) rfl
theorem wd479 : Cond.instanceMethod ⟨"java/lang/Throwable", "fillInStackTrace", "()Ljava/lang/Throwable;"⟩ ∈ bG := bm (t_in3 (List.mem_of_getElem? (i := 150) rfl)) rfl
theorem wd480 : Cond.sameMethod "java/lang/Throwable" "java/lang/Throwable" "fillInStackTrace" "()Ljava/lang/Throwable;" ∈ bG := bm (t_in3 (List.mem_of_getElem? (i := 151) rfl)) rfl
theorem wd481 : Cond.selects "java/lang/IllegalArgumentException" ⟨"java/lang/Throwable", "fillInStackTrace", "()Ljava/lang/Throwable;"⟩ ⟨"java/lang/Throwable", "fillInStackTrace", "()Ljava/lang/Throwable;"⟩ ∈ bG := bm (t_in3 (List.mem_of_getElem? (i := 152) rfl)) rfl
theorem wd482 : Cond.selects "java/lang/IllegalStateException" ⟨"java/lang/Throwable", "fillInStackTrace", "()Ljava/lang/Throwable;"⟩ ⟨"java/lang/Throwable", "fillInStackTrace", "()Ljava/lang/Throwable;"⟩ ∈ bG := bm (t_in3 (List.mem_of_getElem? (i := 153) rfl)) rfl
theorem wd483 : Cond.methodLink "java/lang/Throwable" 202 ⟨"java/lang/Throwable", "fillInStackTrace", "(I)Ljava/lang/Throwable;"⟩ ∈ bG := bm (t_in3 (List.mem_of_getElem? (i := 155) rfl)) rfl
theorem wd484 : Cond.instanceMethod ⟨"java/lang/Throwable", "fillInStackTrace", "(I)Ljava/lang/Throwable;"⟩ ∈ bG := bm (t_in3 (List.mem_of_getElem? (i := 157) rfl)) rfl
theorem wd485 : Cond.instantiable "java/lang/Throwable" 6 ∈ bG := bm (t_in3 (List.mem_of_getElem? (i := 158) rfl)) rfl
theorem wd486 : Cond.stringRef RX11 128 "there is no such count" ∈ lw_tbl := t_in3 (List.mem_of_getElem? (i := 160) rfl)
theorem wd487 : Cond.methodLink RX11 130 ⟨"java/lang/IndexOutOfBoundsException", "<init>", "(Ljava/lang/String;)V"⟩ ∈ bG := bm (t_in3 (List.mem_of_getElem? (i := 161) rfl)) rfl
theorem wd488 : Cond.instanceMethod ⟨"java/lang/IndexOutOfBoundsException", "<init>", "(Ljava/lang/String;)V"⟩ ∈ bG := bm (t_in3 (List.mem_of_getElem? (i := 162) rfl)) rfl
theorem wd489 : Cond.code ⟨"java/lang/IndexOutOfBoundsException", "<init>", "(Ljava/lang/String;)V"⟩ prog_19_method_2_code 2 none ∈ bG := bm (t_in3 (List.mem_of_getElem? (i := 163) rfl)) rfl
theorem wd490 : Cond.methodLink "java/lang/IndexOutOfBoundsException" 7 ⟨"java/lang/RuntimeException", "<init>", "(Ljava/lang/String;)V"⟩ ∈ bG := bm (t_in3 (List.mem_of_getElem? (i := 164) rfl)) rfl
theorem wd491 : Cond.instanceMethod ⟨"java/lang/RuntimeException", "<init>", "(Ljava/lang/String;)V"⟩ ∈ bG := bm (t_in3 (List.mem_of_getElem? (i := 165) rfl)) rfl
theorem wd492 : Cond.code ⟨"java/lang/RuntimeException", "<init>", "(Ljava/lang/String;)V"⟩ prog_22_method_2_code 2 none ∈ bG := bm (t_in3 (List.mem_of_getElem? (i := 166) rfl)) rfl
theorem wd493 : Cond.methodLink "java/lang/RuntimeException" 7 ⟨"java/lang/Exception", "<init>", "(Ljava/lang/String;)V"⟩ ∈ bG := bm (t_in3 (List.mem_of_getElem? (i := 167) rfl)) rfl
theorem wd494 : Cond.instanceMethod ⟨"java/lang/Exception", "<init>", "(Ljava/lang/String;)V"⟩ ∈ bG := bm (t_in3 (List.mem_of_getElem? (i := 168) rfl)) rfl
theorem wd495 : Cond.code ⟨"java/lang/Exception", "<init>", "(Ljava/lang/String;)V"⟩ prog_16_method_2_code 2 none ∈ bG := bm (t_in3 (List.mem_of_getElem? (i := 169) rfl)) rfl
theorem wd496 : Cond.methodLink "java/lang/Exception" 7 ⟨"java/lang/Throwable", "<init>", "(Ljava/lang/String;)V"⟩ ∈ bG := bm (t_in3 (List.mem_of_getElem? (i := 170) rfl)) rfl
theorem wd497 : Cond.instanceMethod ⟨"java/lang/Throwable", "<init>", "(Ljava/lang/String;)V"⟩ ∈ bG := bm (t_in3 (List.mem_of_getElem? (i := 171) rfl)) rfl
theorem wd498 : Cond.code ⟨"java/lang/Throwable", "<init>", "(Ljava/lang/String;)V"⟩ prog_26_method_2_code 2 none ∈ bG := bm (t_in3 (List.mem_of_getElem? (i := 172) rfl)) rfl
theorem wd499 : Cond.fieldLink "java/lang/Throwable" 31 "java/lang/Throwable" "detailMessage" "Ljava/lang/String;" ∈ bG := bm (t_in3 (List.mem_of_getElem? (i := 174) rfl)) rfl
theorem wd500 : Cond.fieldLink "java/lang/Throwable" 7 "java/lang/Throwable" "cause" "Ljava/lang/Throwable;" ∈ bG := bm (t_in3 (List.mem_of_getElem? (i := 175) rfl)) rfl
theorem wd501 : Cond.fieldLink "java/lang/Throwable" 17 "java/lang/Throwable" "stackTrace" "[Ljava/lang/StackTraceElement;" ∈ bG := bm (t_in3 (List.mem_of_getElem? (i := 176) rfl)) rfl
theorem wd502 : Cond.fieldLink "java/lang/Throwable" 24 "java/lang/Throwable" "suppressedExceptions" "Ljava/util/List;" ∈ bG := bm (t_in3 (List.mem_of_getElem? (i := 177) rfl)) rfl
theorem wd503 : Cond.methodLink RL 50 yX11_rule ∈ bG := bm (t_in3 (List.mem_of_getElem? (i := 186) rfl)) rfl
theorem wd504 : Cond.instanceMethod yX11_rule ∈ bG := bm (t_in3 (List.mem_of_getElem? (i := 187) rfl)) rfl
theorem wd505 : Cond.selects RX11 yX11_rule yX11_rule ∈ bG := bm (t_in3 (List.mem_of_getElem? (i := 188) rfl)) rfl
theorem wd506 : Cond.code yX11_rule prog_1_method_7_code 4 (some .int) ∈ bG := bm (t_in3 (List.mem_of_getElem? (i := 189) rfl)) rfl
theorem wd507 : Cond.methodLink RX11 131 yX11_requireRule ∈ bG := bm (t_in3 (List.mem_of_getElem? (i := 190) rfl)) rfl
theorem wd508 : Cond.instanceMethod yX11_requireRule ∈ bG := bm (t_in3 (List.mem_of_getElem? (i := 192) rfl)) rfl
theorem wd509 : Cond.code yX11_requireRule prog_1_method_28_code 2 none ∈ bG := bm (t_in3 (List.mem_of_getElem? (i := 193) rfl)) rfl
theorem wd510 : Cond.stringRef RX11 295 "there is no such rule" ∈ lw_tbl := t_in3 (List.mem_of_getElem? (i := 194) rfl)
theorem wd511 : Cond.methodLink RX11 156 yX7_cellOrNone ∈ bG := bm (t_in3 (List.mem_of_getElem? (i := 195) rfl)) rfl
theorem wd512 : Cond.instanceMethod yX7_cellOrNone ∈ bG := bm (t_in3 (List.mem_of_getElem? (i := 196) rfl)) rfl
theorem wd513 : Cond.selects RX7 yX7_cellOrNone yX7_cellOrNone ∈ bG := bm (t_in3 (List.mem_of_getElem? (i := 197) rfl)) rfl
theorem wd514 : Cond.code yX7_cellOrNone prog_9_method_6_code 2 (some .int) ∈ bG := bm (t_in3 (List.mem_of_getElem? (i := 198) rfl)) rfl
theorem wd515 : Cond.methodLink RX11 164 yX7_isBroken ∈ bG := bm (t_in3 (List.mem_of_getElem? (i := 199) rfl)) rfl
theorem wd516 : Cond.stringRef RX11 168 "nothing such is told of a rule" ∈ lw_tbl := t_in3 (List.mem_of_getElem? (i := 200) rfl)
theorem wd517 : Cond.methodLink RL 131 yX11_drop ∈ bG := bm (t_in3 (List.mem_of_getElem? (i := 201) rfl)) rfl
theorem wd518 : Cond.instanceMethod yX11_drop ∈ bG := bm (t_in3 (List.mem_of_getElem? (i := 202) rfl)) rfl
theorem wd519 : Cond.selects RX11 yX11_drop yX11_drop ∈ bG := bm (t_in3 (List.mem_of_getElem? (i := 203) rfl)) rfl
theorem wd520 : Cond.code yX11_drop prog_1_method_8_code 2 (some .int) ∈ bG := bm (t_in3 (List.mem_of_getElem? (i := 204) rfl)) rfl
theorem wd521 : Cond.methodLink RX11 170 yX4_removeRule ∈ bG := bm (t_in3 (List.mem_of_getElem? (i := 205) rfl)) rfl
theorem wd522 : Cond.instanceMethod yX4_removeRule ∈ bG := bm (t_in3 (List.mem_of_getElem? (i := 206) rfl)) rfl
theorem wd523 : Cond.selects RX4 yX4_removeRule yX4_removeRule ∈ bG := bm (t_in3 (List.mem_of_getElem? (i := 207) rfl)) rfl
theorem wd524 : Cond.code yX4_removeRule prog_6_method_10_code 4 none ∈ bG := bm (t_in3 (List.mem_of_getElem? (i := 208) rfl)) rfl
theorem wd525 : Cond.methodLink RL 134 yX11_write ∈ bG := bm (t_in3 (List.mem_of_getElem? (i := 209) rfl)) rfl
theorem wd526 : Cond.instanceMethod yX11_write ∈ bG := bm (t_in3 (List.mem_of_getElem? (i := 210) rfl)) rfl
theorem wd527 : Cond.selects RX11 yX11_write yX11_write ∈ bG := bm (t_in3 (List.mem_of_getElem? (i := 211) rfl)) rfl
theorem wd528 : Cond.code yX11_write prog_1_method_9_code 1 (some .int) ∈ bG := bm (t_in3 (List.mem_of_getElem? (i := 212) rfl)) rfl
theorem wd529 : Cond.methodLink RX11 173 yX11_requirePuzzle ∈ bG := bm (t_in3 (List.mem_of_getElem? (i := 213) rfl)) rfl
theorem wd530 : Cond.instanceMethod yX11_requirePuzzle ∈ bG := bm (t_in3 (List.mem_of_getElem? (i := 215) rfl)) rfl
theorem wd531 : Cond.code yX11_requirePuzzle prog_1_method_27_code 1 none ∈ bG := bm (t_in3 (List.mem_of_getElem? (i := 216) rfl)) rfl
theorem wd532 : Cond.methodLink RX11 289 yX4_isThere ∈ bG := bm (t_in3 (List.mem_of_getElem? (i := 217) rfl)) rfl
theorem wd533 : Cond.instanceMethod yX4_isThere ∈ bG := bm (t_in3 (List.mem_of_getElem? (i := 218) rfl)) rfl
theorem wd534 : Cond.selects RX4 yX4_isThere yX4_isThere ∈ bG := bm (t_in3 (List.mem_of_getElem? (i := 219) rfl)) rfl
theorem wd535 : Cond.code yX4_isThere prog_6_method_3_code 1 (some .boolean) ∈ bG := bm (t_in3 (List.mem_of_getElem? (i := 220) rfl)) rfl
theorem wd536 : Cond.classLink RX11 68 "java/lang/IllegalStateException" ∈ bG := bm (t_in3 (List.mem_of_getElem? (i := 221) rfl)) rfl
theorem wd537 : Cond.instantiable "java/lang/IllegalStateException" 6 ∈ bG := bm (t_in3 (List.mem_of_getElem? (i := 222) rfl)) rfl
theorem wd538 : Cond.castable "java/lang/IllegalStateException" "java/lang/IllegalStateException" ∈ lw_tbl := t_in3 (List.mem_of_getElem? (i := 223) rfl)
theorem wd539 : Cond.selects "java/lang/IllegalStateException" ⟨"java/lang/Throwable", "fillInStackTrace", "(I)Ljava/lang/Throwable;"⟩ ⟨"java/lang/Throwable", "fillInStackTrace", "(I)Ljava/lang/Throwable;"⟩ ∈ bG := bm (t_in3 (List.mem_of_getElem? (i := 224) rfl)) rfl
theorem wd540 : Cond.stringRef RX11 293 "there is no puzzle" ∈ lw_tbl := t_in3 (List.mem_of_getElem? (i := 230) rfl)
theorem wd541 : Cond.methodLink RX11 72 ⟨"java/lang/IllegalStateException", "<init>", "(Ljava/lang/String;)V"⟩ ∈ bG := bm (t_in3 (List.mem_of_getElem? (i := 231) rfl)) rfl
theorem wd542 : Cond.instanceMethod ⟨"java/lang/IllegalStateException", "<init>", "(Ljava/lang/String;)V"⟩ ∈ bG := bm (t_in3 (List.mem_of_getElem? (i := 232) rfl)) rfl
theorem wd543 : Cond.code ⟨"java/lang/IllegalStateException", "<init>", "(Ljava/lang/String;)V"⟩ prog_18_method_2_code 2 none ∈ bG := bm (t_in3 (List.mem_of_getElem? (i := 233) rfl)) rfl
theorem wd544 : Cond.methodLink "java/lang/IllegalStateException" 7 ⟨"java/lang/RuntimeException", "<init>", "(Ljava/lang/String;)V"⟩ ∈ bG := bm (t_in3 (List.mem_of_getElem? (i := 234) rfl)) rfl
theorem wd545 : Cond.methodLink RX11 176 yX3_show ∈ bG := bm (t_in3 (List.mem_of_getElem? (i := 237) rfl)) rfl
theorem wd546 : Cond.instanceMethod yX3_show ∈ bG := bm (t_in3 (List.mem_of_getElem? (i := 238) rfl)) rfl
theorem wd547 : Cond.selects RX3 yX3_show yX3_show ∈ bG := bm (t_in3 (List.mem_of_getElem? (i := 239) rfl)) rfl
theorem wd548 : Cond.code yX3_show prog_5_method_2_code 3 none ∈ bG := bm (t_in4 (List.mem_of_getElem? (i := 0) rfl)) rfl
theorem wd549 : Cond.stringRef RX3 19 "grid" ∈ lw_tbl := t_in4 (List.mem_of_getElem? (i := 1) rfl)
theorem wd550 : Cond.methodLink RX3 21 yX3_addWord ∈ bG := bm (t_in4 (List.mem_of_getElem? (i := 2) rfl)) rfl
theorem wd551 : Cond.instanceMethod yX3_addWord ∈ bG := bm (t_in4 (List.mem_of_getElem? (i := 4) rfl)) rfl
theorem wd552 : Cond.code yX3_addWord prog_5_method_4_code 3 none ∈ bG := bm (t_in4 (List.mem_of_getElem? (i := 5) rfl)) rfl
theorem wd553 : Cond.methodLink RX3 88 yJ0_length_8abf5 ∈ bG := bm (t_in4 (List.mem_of_getElem? (i := 6) rfl)) rfl
theorem wd554 : Cond.methodLink RX3 93 yJ0_charAt_5068e ∈ bG := bm (t_in4 (List.mem_of_getElem? (i := 7) rfl)) rfl
theorem wd555 : Cond.methodLink RX3 40 yX3_add ∈ bG := bm (t_in4 (List.mem_of_getElem? (i := 8) rfl)) rfl
theorem wd556 : Cond.instanceMethod yX3_add ∈ bG := bm (t_in4 (List.mem_of_getElem? (i := 10) rfl)) rfl
theorem wd557 : Cond.code yX3_add prog_5_method_7_code 2 none ∈ bG := bm (t_in4 (List.mem_of_getElem? (i := 11) rfl)) rfl
theorem wd558 : Cond.methodLink RX3 30 yX3_addNumber ∈ bG := bm (t_in4 (List.mem_of_getElem? (i := 12) rfl)) rfl
theorem wd559 : Cond.instanceMethod yX3_addNumber ∈ bG := bm (t_in4 (List.mem_of_getElem? (i := 14) rfl)) rfl
theorem wd560 : Cond.code yX3_addNumber prog_5_method_5_code 3 none ∈ bG := bm (t_in4 (List.mem_of_getElem? (i := 15) rfl)) rfl
theorem wd561 : Cond.methodLink RX3 50 yX3_addRule ∈ bG := bm (t_in4 (List.mem_of_getElem? (i := 16) rfl)) rfl
theorem wd562 : Cond.instanceMethod yX3_addRule ∈ bG := bm (t_in4 (List.mem_of_getElem? (i := 18) rfl)) rfl
theorem wd563 : Cond.code yX3_addRule prog_5_method_3_code 4 none ∈ bG := bm (t_in4 (List.mem_of_getElem? (i := 19) rfl)) rfl
theorem wd564 : Cond.methodLink RX3 81 yX3_addCell ∈ bG := bm (t_in4 (List.mem_of_getElem? (i := 20) rfl)) rfl
theorem wd565 : Cond.instanceMethod yX3_addCell ∈ bG := bm (t_in4 (List.mem_of_getElem? (i := 22) rfl)) rfl
theorem wd566 : Cond.code yX3_addCell prog_5_method_6_code 3 none ∈ bG := bm (t_in4 (List.mem_of_getElem? (i := 23) rfl)) rfl
theorem wd567 : Cond.fieldLink RX3 85 "RiddleMill$Kind" "IS" "LRiddleMill$Kind;" ∈ bG := bm (t_in4 (List.mem_of_getElem? (i := 24) rfl)) rfl
theorem wd568 : Cond.methodLink RL 137 yX11_byteAt ∈ bG := bm (t_in4 (List.mem_of_getElem? (i := 25) rfl)) rfl
theorem wd569 : Cond.instanceMethod yX11_byteAt ∈ bG := bm (t_in4 (List.mem_of_getElem? (i := 26) rfl)) rfl
theorem wd570 : Cond.selects RX11 yX11_byteAt yX11_byteAt ∈ bG := bm (t_in4 (List.mem_of_getElem? (i := 27) rfl)) rfl
theorem wd571 : Cond.code yX11_byteAt prog_1_method_10_code 2 (some .int) ∈ bG := bm (t_in4 (List.mem_of_getElem? (i := 28) rfl)) rfl
theorem wd572 : Cond.stringRef RX11 180 "there is no such place on the paper" ∈ lw_tbl := t_in4 (List.mem_of_getElem? (i := 29) rfl)
theorem wd573 : Cond.methodLink RL 78 yX11_put ∈ bG := bm (t_in4 (List.mem_of_getElem? (i := 30) rfl)) rfl
theorem wd574 : Cond.instanceMethod yX11_put ∈ bG := bm (t_in4 (List.mem_of_getElem? (i := 31) rfl)) rfl
theorem wd575 : Cond.selects RX11 yX11_put yX11_put ∈ bG := bm (t_in4 (List.mem_of_getElem? (i := 32) rfl)) rfl
theorem wd576 : Cond.code yX11_put prog_1_method_11_code 4 (some .int) ∈ bG := bm (t_in4 (List.mem_of_getElem? (i := 33) rfl)) rfl
theorem wd577 : Cond.methodLink RX11 185 yX11_requireCell ∈ bG := bm (t_in4 (List.mem_of_getElem? (i := 34) rfl)) rfl
theorem wd578 : Cond.instanceMethod yX11_requireCell ∈ bG := bm (t_in4 (List.mem_of_getElem? (i := 36) rfl)) rfl
theorem wd579 : Cond.code yX11_requireCell prog_1_method_29_code 2 none ∈ bG := bm (t_in4 (List.mem_of_getElem? (i := 37) rfl)) rfl
theorem wd580 : Cond.methodLink RX11 272 yX4_cellCount ∈ bG := bm (t_in4 (List.mem_of_getElem? (i := 38) rfl)) rfl
theorem wd581 : Cond.stringRef RX11 297 "there is no such cell" ∈ lw_tbl := t_in4 (List.mem_of_getElem? (i := 39) rfl)
theorem wd582 : Cond.classLink RX11 79 "java/lang/IllegalArgumentException" ∈ bG := bm (t_in4 (List.mem_of_getElem? (i := 40) rfl)) rfl
theorem wd583 : Cond.instantiable "java/lang/IllegalArgumentException" 6 ∈ bG := bm (t_in4 (List.mem_of_getElem? (i := 41) rfl)) rfl
theorem wd584 : Cond.castable "java/lang/IllegalArgumentException" "java/lang/IllegalArgumentException" ∈ lw_tbl := t_in4 (List.mem_of_getElem? (i := 42) rfl)
theorem wd585 : Cond.selects "java/lang/IllegalArgumentException" ⟨"java/lang/Throwable", "fillInStackTrace", "(I)Ljava/lang/Throwable;"⟩ ⟨"java/lang/Throwable", "fillInStackTrace", "(I)Ljava/lang/Throwable;"⟩ ∈ bG := bm (t_in4 (List.mem_of_getElem? (i := 43) rfl)) rfl
theorem wd586 : Cond.stringRef RX11 188 "there is no such value" ∈ lw_tbl := t_in4 (List.mem_of_getElem? (i := 49) rfl)
theorem wd587 : Cond.methodLink RX11 83 ⟨"java/lang/IllegalArgumentException", "<init>", "(Ljava/lang/String;)V"⟩ ∈ bG := bm (t_in4 (List.mem_of_getElem? (i := 50) rfl)) rfl
theorem wd588 : Cond.instanceMethod ⟨"java/lang/IllegalArgumentException", "<init>", "(Ljava/lang/String;)V"⟩ ∈ bG := bm (t_in4 (List.mem_of_getElem? (i := 51) rfl)) rfl
theorem wd589 : Cond.code ⟨"java/lang/IllegalArgumentException", "<init>", "(Ljava/lang/String;)V"⟩ prog_17_method_2_code 2 none ∈ bG := bm (t_in4 (List.mem_of_getElem? (i := 52) rfl)) rfl
theorem wd590 : Cond.methodLink "java/lang/IllegalArgumentException" 7 ⟨"java/lang/RuntimeException", "<init>", "(Ljava/lang/String;)V"⟩ ∈ bG := bm (t_in4 (List.mem_of_getElem? (i := 53) rfl)) rfl
theorem wd591 : Cond.methodLink RL 86 yX11_value ∈ bG := bm (t_in4 (List.mem_of_getElem? (i := 56) rfl)) rfl
theorem wd592 : Cond.instanceMethod yX11_value ∈ bG := bm (t_in4 (List.mem_of_getElem? (i := 57) rfl)) rfl
theorem wd593 : Cond.selects RX11 yX11_value yX11_value ∈ bG := bm (t_in4 (List.mem_of_getElem? (i := 58) rfl)) rfl
theorem wd594 : Cond.code yX11_value prog_1_method_12_code 2 (some .int) ∈ bG := bm (t_in4 (List.mem_of_getElem? (i := 59) rfl)) rfl
theorem wd595 : Cond.methodLink RL 80 yX11_search ∈ bG := bm (t_in4 (List.mem_of_getElem? (i := 60) rfl)) rfl
theorem wd596 : Cond.instanceMethod yX11_search ∈ bG := bm (t_in4 (List.mem_of_getElem? (i := 61) rfl)) rfl
theorem wd597 : Cond.selects RX11 yX11_search yX11_search ∈ bG := bm (t_in4 (List.mem_of_getElem? (i := 62) rfl)) rfl
theorem wd598 : Cond.code yX11_search prog_1_method_14_code 2 (some .int) ∈ bG := bm (t_in4 (List.mem_of_getElem? (i := 63) rfl)) rfl
theorem wd599 : Cond.stringRef RX11 193 "1 to 30 solutions can be looked for" ∈ lw_tbl := t_in4 (List.mem_of_getElem? (i := 64) rfl)
theorem wd600 : Cond.methodLink RX11 195 yX8_findInGrid ∈ bG := bm (t_in4 (List.mem_of_getElem? (i := 65) rfl)) rfl
theorem wd601 : Cond.instanceMethod yX8_findInGrid ∈ bG := bm (t_in4 (List.mem_of_getElem? (i := 66) rfl)) rfl
theorem wd602 : Cond.selects RX8 yX8_findInGrid yX8_findInGrid ∈ bG := bm (t_in4 (List.mem_of_getElem? (i := 67) rfl)) rfl
theorem wd603 : Cond.code yX8_findInGrid prog_10_method_2_code 4 (some .int) ∈ bG := bm (t_in4 (List.mem_of_getElem? (i := 68) rfl)) rfl
theorem wd604 : Cond.methodLink RX8 26 yX8_begin ∈ bG := bm (t_in4 (List.mem_of_getElem? (i := 69) rfl)) rfl
theorem wd605 : Cond.instanceMethod yX8_begin ∈ bG := bm (t_in4 (List.mem_of_getElem? (i := 71) rfl)) rfl
theorem wd606 : Cond.code yX8_begin prog_10_method_5_code 4 none ∈ bG := bm (t_in4 (List.mem_of_getElem? (i := 72) rfl)) rfl
theorem wd607 : Cond.methodLink RX8 30 yX4_cellCount ∈ bG := bm (t_in4 (List.mem_of_getElem? (i := 73) rfl)) rfl
theorem wd608 : Cond.methodLink RX8 39 yX8_endsFrom ∈ bG := bm (t_in4 (List.mem_of_getElem? (i := 74) rfl)) rfl
theorem wd609 : Cond.static yX8_endsFrom ∈ bG := bm (t_in4 (List.mem_of_getElem? (i := 75) rfl)) rfl
theorem wd610 : Cond.code yX8_endsFrom prog_10_method_6_code 5 (some .boolean) ∈ bG := bm (t_in4 (List.mem_of_getElem? (i := 76) rfl)) rfl
theorem wd611 : Cond.methodLink RX8 60 yX8_keep ∈ bG := bm (t_in4 (List.mem_of_getElem? (i := 77) rfl)) rfl
theorem wd612 : Cond.instanceMethod yX8_keep ∈ bG := bm (t_in4 (List.mem_of_getElem? (i := 79) rfl)) rfl
theorem wd613 : Cond.code yX8_keep prog_10_method_9_code 2 none ∈ bG := bm (t_in4 (List.mem_of_getElem? (i := 80) rfl)) rfl
theorem wd614 : Cond.methodLink RX8 66 yX8_giveUp ∈ bG := bm (t_in4 (List.mem_of_getElem? (i := 81) rfl)) rfl
theorem wd615 : Cond.instanceMethod yX8_giveUp ∈ bG := bm (t_in4 (List.mem_of_getElem? (i := 83) rfl)) rfl
theorem wd616 : Cond.code yX8_giveUp prog_10_method_8_code 1 none ∈ bG := bm (t_in4 (List.mem_of_getElem? (i := 84) rfl)) rfl
theorem wd617 : Cond.methodLink RX8 69 yX8_choice ∈ bG := bm (t_in4 (List.mem_of_getElem? (i := 85) rfl)) rfl
theorem wd618 : Cond.instanceMethod yX8_choice ∈ bG := bm (t_in4 (List.mem_of_getElem? (i := 87) rfl)) rfl
theorem wd619 : Cond.code yX8_choice prog_10_method_7_code 5 (some .int) ∈ bG := bm (t_in4 (List.mem_of_getElem? (i := 88) rfl)) rfl
theorem wd620 : Cond.methodLink RX8 73 yX4_isBrokenAt ∈ bG := bm (t_in4 (List.mem_of_getElem? (i := 89) rfl)) rfl
theorem wd621 : Cond.instanceMethod yX4_isBrokenAt ∈ bG := bm (t_in4 (List.mem_of_getElem? (i := 90) rfl)) rfl
theorem wd622 : Cond.selects RX4 yX4_isBrokenAt yX4_isBrokenAt ∈ bG := bm (t_in4 (List.mem_of_getElem? (i := 91) rfl)) rfl
theorem wd623 : Cond.code yX4_isBrokenAt prog_6_method_15_code 5 (some .boolean) ∈ bG := bm (t_in4 (List.mem_of_getElem? (i := 92) rfl)) rfl
theorem wd624 : Cond.methodLink RX4 80 yX7_hasCell ∈ bG := bm (t_in4 (List.mem_of_getElem? (i := 93) rfl)) rfl
theorem wd625 : Cond.methodLink RL 83 yX11_solution ∈ bG := bm (t_in4 (List.mem_of_getElem? (i := 94) rfl)) rfl
theorem wd626 : Cond.instanceMethod yX11_solution ∈ bG := bm (t_in4 (List.mem_of_getElem? (i := 95) rfl)) rfl
theorem wd627 : Cond.selects RX11 yX11_solution yX11_solution ∈ bG := bm (t_in4 (List.mem_of_getElem? (i := 96) rfl)) rfl
theorem wd628 : Cond.code yX11_solution prog_1_method_15_code 3 (some .int) ∈ bG := bm (t_in4 (List.mem_of_getElem? (i := 97) rfl)) rfl
theorem wd629 : Cond.stringRef RX11 199 "there is no such solution" ∈ lw_tbl := t_in4 (List.mem_of_getElem? (i := 98) rfl)
theorem wd630 : Cond.methodLink RL 100 yX11_isNeeded ∈ bG := bm (t_in4 (List.mem_of_getElem? (i := 99) rfl)) rfl
theorem wd631 : Cond.instanceMethod yX11_isNeeded ∈ bG := bm (t_in4 (List.mem_of_getElem? (i := 100) rfl)) rfl
theorem wd632 : Cond.selects RX11 yX11_isNeeded yX11_isNeeded ∈ bG := bm (t_in4 (List.mem_of_getElem? (i := 101) rfl)) rfl
theorem wd633 : Cond.code yX11_isNeeded prog_1_method_16_code 2 (some .boolean) ∈ bG := bm (t_in4 (List.mem_of_getElem? (i := 102) rfl)) rfl
theorem wd634 : Cond.methodLink RX11 205 yX8_findsJustOne ∈ bG := bm (t_in4 (List.mem_of_getElem? (i := 103) rfl)) rfl
theorem wd635 : Cond.instanceMethod yX8_findsJustOne ∈ bG := bm (t_in4 (List.mem_of_getElem? (i := 104) rfl)) rfl
theorem wd636 : Cond.selects RX8 yX8_findsJustOne yX8_findsJustOne ∈ bG := bm (t_in4 (List.mem_of_getElem? (i := 105) rfl)) rfl
theorem wd637 : Cond.code yX8_findsJustOne prog_10_method_3_code 3 (some .boolean) ∈ bG := bm (t_in4 (List.mem_of_getElem? (i := 106) rfl)) rfl
theorem wd638 : Cond.methodLink RL 112 yX11_look ∈ bG := bm (t_in4 (List.mem_of_getElem? (i := 107) rfl)) rfl
theorem wd639 : Cond.instanceMethod yX11_look ∈ bG := bm (t_in4 (List.mem_of_getElem? (i := 108) rfl)) rfl
theorem wd640 : Cond.selects RX11 yX11_look yX11_look ∈ bG := bm (t_in4 (List.mem_of_getElem? (i := 109) rfl)) rfl
theorem wd641 : Cond.code yX11_look prog_1_method_17_code 1 (some .int) ∈ bG := bm (t_in4 (List.mem_of_getElem? (i := 110) rfl)) rfl
theorem wd642 : Cond.methodLink RX11 212 yX6_countValues ∈ bG := bm (t_in4 (List.mem_of_getElem? (i := 111) rfl)) rfl
theorem wd643 : Cond.instanceMethod yX6_countValues ∈ bG := bm (t_in4 (List.mem_of_getElem? (i := 112) rfl)) rfl
theorem wd644 : Cond.selects RX6 yX6_countValues yX6_countValues ∈ bG := bm (t_in4 (List.mem_of_getElem? (i := 113) rfl)) rfl
theorem wd645 : Cond.code yX6_countValues prog_8_method_3_code 4 (some .int) ∈ bG := bm (t_in4 (List.mem_of_getElem? (i := 114) rfl)) rfl
theorem wd646 : Cond.methodLink RX6 37 yJ6_bitCount_0f7a4 ∈ bG := bm (t_in4 (List.mem_of_getElem? (i := 115) rfl)) rfl
theorem wd647 : Cond.static yJ6_bitCount_0f7a4 ∈ bG := bm (t_in4 (List.mem_of_getElem? (i := 116) rfl)) rfl
theorem wd648 : Cond.code yJ6_bitCount_0f7a4 prog_20_method_49_code 1 (some .int) ∈ bG := bm (t_in4 (List.mem_of_getElem? (i := 117) rfl)) rfl
theorem wd649 : Cond.constant "java/lang/Integer" 265 (1431655765) ∈ bG := bm (t_in4 (List.mem_of_getElem? (i := 118) rfl)) rfl
theorem wd650 : Cond.constant "java/lang/Integer" 266 (858993459) ∈ bG := bm (t_in4 (List.mem_of_getElem? (i := 119) rfl)) rfl
theorem wd651 : Cond.constant "java/lang/Integer" 267 (252645135) ∈ bG := bm (t_in4 (List.mem_of_getElem? (i := 120) rfl)) rfl
theorem wd652 : Cond.methodLink RL 118 yX11_possible ∈ bG := bm (t_in4 (List.mem_of_getElem? (i := 121) rfl)) rfl
theorem wd653 : Cond.instanceMethod yX11_possible ∈ bG := bm (t_in4 (List.mem_of_getElem? (i := 122) rfl)) rfl
theorem wd654 : Cond.selects RX11 yX11_possible yX11_possible ∈ bG := bm (t_in4 (List.mem_of_getElem? (i := 123) rfl)) rfl
theorem wd655 : Cond.code yX11_possible prog_1_method_18_code 2 (some .int) ∈ bG := bm (t_in4 (List.mem_of_getElem? (i := 124) rfl)) rfl
theorem wd656 : Cond.methodLink RL 97 yX11_hint ∈ bG := bm (t_in4 (List.mem_of_getElem? (i := 125) rfl)) rfl
theorem wd657 : Cond.instanceMethod yX11_hint ∈ bG := bm (t_in4 (List.mem_of_getElem? (i := 126) rfl)) rfl
theorem wd658 : Cond.selects RX11 yX11_hint yX11_hint ∈ bG := bm (t_in4 (List.mem_of_getElem? (i := 127) rfl)) rfl
theorem wd659 : Cond.code yX11_hint prog_1_method_19_code 2 (some .int) ∈ bG := bm (t_in4 (List.mem_of_getElem? (i := 128) rfl)) rfl
theorem wd660 : Cond.stringRef RX11 219 "nothing such is told of a deduction" ∈ lw_tbl := t_in4 (List.mem_of_getElem? (i := 129) rfl)
theorem wd661 : Cond.methodLink RX11 221 yX6_findFirst ∈ bG := bm (t_in4 (List.mem_of_getElem? (i := 130) rfl)) rfl
theorem wd662 : Cond.instanceMethod yX6_findFirst ∈ bG := bm (t_in4 (List.mem_of_getElem? (i := 131) rfl)) rfl
theorem wd663 : Cond.selects RX6 yX6_findFirst yX6_findFirst ∈ bG := bm (t_in4 (List.mem_of_getElem? (i := 132) rfl)) rfl
theorem wd664 : Cond.code yX6_findFirst prog_8_method_6_code 3 (some .boolean) ∈ bG := bm (t_in4 (List.mem_of_getElem? (i := 133) rfl)) rfl
theorem wd665 : Cond.methodLink RX6 54 yX6_findFirstBy ∈ bG := bm (t_in4 (List.mem_of_getElem? (i := 134) rfl)) rfl
theorem wd666 : Cond.instanceMethod yX6_findFirstBy ∈ bG := bm (t_in4 (List.mem_of_getElem? (i := 136) rfl)) rfl
theorem wd667 : Cond.code yX6_findFirstBy prog_8_method_7_code 5 (some .boolean) ∈ bG := bm (t_in4 (List.mem_of_getElem? (i := 137) rfl)) rfl
theorem wd668 : Cond.methodLink RX6 66 yX6_isRefuted ∈ bG := bm (t_in4 (List.mem_of_getElem? (i := 138) rfl)) rfl
theorem wd669 : Cond.instanceMethod yX6_isRefuted ∈ bG := bm (t_in4 (List.mem_of_getElem? (i := 140) rfl)) rfl
theorem wd670 : Cond.code yX6_isRefuted prog_8_method_12_code 6 (some .boolean) ∈ bG := bm (t_in4 (List.mem_of_getElem? (i := 141) rfl)) rfl
theorem wd671 : Cond.methodLink RX6 43 yX6_hasValue ∈ bG := bm (t_in4 (List.mem_of_getElem? (i := 142) rfl)) rfl
theorem wd672 : Cond.instanceMethod yX6_hasValue ∈ bG := bm (t_in4 (List.mem_of_getElem? (i := 144) rfl)) rfl
theorem wd673 : Cond.code yX6_hasValue prog_8_method_10_code 3 (some .boolean) ∈ bG := bm (t_in4 (List.mem_of_getElem? (i := 145) rfl)) rfl
theorem wd674 : Cond.methodLink RX6 100 yX6_holdsFrom ∈ bG := bm (t_in4 (List.mem_of_getElem? (i := 146) rfl)) rfl
theorem wd675 : Cond.static yX6_holdsFrom ∈ bG := bm (t_in4 (List.mem_of_getElem? (i := 147) rfl)) rfl
theorem wd676 : Cond.code yX6_holdsFrom prog_8_method_13_code 7 (some .boolean) ∈ bG := bm (t_in4 (List.mem_of_getElem? (i := 148) rfl)) rfl
theorem wd677 : Cond.methodLink RX6 104 yX7_isBroken ∈ bG := bm (t_in4 (List.mem_of_getElem? (i := 149) rfl)) rfl
theorem wd678 : Cond.methodLink RX6 79 yX6_gradeOf ∈ bG := bm (t_in4 (List.mem_of_getElem? (i := 150) rfl)) rfl
theorem wd679 : Cond.instanceMethod yX6_gradeOf ∈ bG := bm (t_in4 (List.mem_of_getElem? (i := 152) rfl)) rfl
theorem wd680 : Cond.code yX6_gradeOf prog_8_method_11_code 4 (some .int) ∈ bG := bm (t_in4 (List.mem_of_getElem? (i := 153) rfl)) rfl
theorem wd681 : Cond.methodLink RL 115 yX11_reason ∈ bG := bm (t_in4 (List.mem_of_getElem? (i := 154) rfl)) rfl
theorem wd682 : Cond.instanceMethod yX11_reason ∈ bG := bm (t_in4 (List.mem_of_getElem? (i := 155) rfl)) rfl
theorem wd683 : Cond.selects RX11 yX11_reason yX11_reason ∈ bG := bm (t_in4 (List.mem_of_getElem? (i := 156) rfl)) rfl
theorem wd684 : Cond.code yX11_reason prog_1_method_21_code 1 (some .int) ∈ bG := bm (t_in4 (List.mem_of_getElem? (i := 157) rfl)) rfl
theorem wd685 : Cond.methodLink RX11 241 yX6_doPasses ∈ bG := bm (t_in4 (List.mem_of_getElem? (i := 158) rfl)) rfl
theorem wd686 : Cond.instanceMethod yX6_doPasses ∈ bG := bm (t_in4 (List.mem_of_getElem? (i := 159) rfl)) rfl
theorem wd687 : Cond.selects RX6 yX6_doPasses yX6_doPasses ∈ bG := bm (t_in4 (List.mem_of_getElem? (i := 160) rfl)) rfl
theorem wd688 : Cond.code yX6_doPasses prog_8_method_8_code 6 (some .int) ∈ bG := bm (t_in4 (List.mem_of_getElem? (i := 161) rfl)) rfl
theorem wd689 : Cond.methodLink RX6 86 yX6_deduceBy ∈ bG := bm (t_in4 (List.mem_of_getElem? (i := 162) rfl)) rfl
theorem wd690 : Cond.instanceMethod yX6_deduceBy ∈ bG := bm (t_in4 (List.mem_of_getElem? (i := 164) rfl)) rfl
theorem wd691 : Cond.code yX6_deduceBy prog_8_method_9_code 6 (some .int) ∈ bG := bm (t_in4 (List.mem_of_getElem? (i := 165) rfl)) rfl
theorem wd692 : Cond.methodLink RX6 90 yJ9_max_7cf53 ∈ bG := bm (t_in4 (List.mem_of_getElem? (i := 166) rfl)) rfl
theorem wd693 : Cond.static yJ9_max_7cf53 ∈ bG := bm (t_in4 (List.mem_of_getElem? (i := 167) rfl)) rfl
theorem wd694 : Cond.code yJ9_max_7cf53 prog_21_method_65_code 2 (some .int) ∈ bG := bm (t_in4 (List.mem_of_getElem? (i := 168) rfl)) rfl
theorem wd695 : Cond.methodLink RX6 96 yX6_takeOut ∈ bG := bm (t_in4 (List.mem_of_getElem? (i := 169) rfl)) rfl
theorem wd696 : Cond.instanceMethod yX6_takeOut ∈ bG := bm (t_in4 (List.mem_of_getElem? (i := 170) rfl)) rfl
theorem wd697 : Cond.selects RX6 yX6_takeOut yX6_takeOut ∈ bG := bm (t_in4 (List.mem_of_getElem? (i := 171) rfl)) rfl
theorem wd698 : Cond.code yX6_takeOut prog_8_method_5_code 3 none ∈ bG := bm (t_in4 (List.mem_of_getElem? (i := 172) rfl)) rfl
theorem wd699 : Cond.methodLink RL 126 yX11_reasoned ∈ bG := bm (t_in4 (List.mem_of_getElem? (i := 173) rfl)) rfl
theorem wd700 : Cond.instanceMethod yX11_reasoned ∈ bG := bm (t_in4 (List.mem_of_getElem? (i := 174) rfl)) rfl
theorem wd701 : Cond.selects RX11 yX11_reasoned yX11_reasoned ∈ bG := bm (t_in4 (List.mem_of_getElem? (i := 175) rfl)) rfl
theorem wd702 : Cond.code yX11_reasoned prog_1_method_22_code 2 (some .int) ∈ bG := bm (t_in4 (List.mem_of_getElem? (i := 176) rfl)) rfl
theorem wd703 : Cond.methodLink RX11 250 yX6_countCellsWith ∈ bG := bm (t_in4 (List.mem_of_getElem? (i := 177) rfl)) rfl
theorem wd704 : Cond.instanceMethod yX6_countCellsWith ∈ bG := bm (t_in4 (List.mem_of_getElem? (i := 178) rfl)) rfl
theorem wd705 : Cond.selects RX6 yX6_countCellsWith yX6_countCellsWith ∈ bG := bm (t_in4 (List.mem_of_getElem? (i := 179) rfl)) rfl
theorem wd706 : Cond.code yX6_countCellsWith prog_8_method_4_code 5 (some .int) ∈ bG := bm (t_in4 (List.mem_of_getElem? (i := 180) rfl)) rfl
theorem wd707 : Cond.stringRef RX11 253 "nothing such is told of reasoning" ∈ lw_tbl := t_in4 (List.mem_of_getElem? (i := 181) rfl)
theorem wd708 : Cond.methodLink RL 141 yX11_make ∈ bG := bm (t_in4 (List.mem_of_getElem? (i := 182) rfl)) rfl
theorem wd709 : Cond.instanceMethod yX11_make ∈ bG := bm (t_in4 (List.mem_of_getElem? (i := 183) rfl)) rfl
theorem wd710 : Cond.selects RX11 yX11_make yX11_make ∈ bG := bm (t_in4 (List.mem_of_getElem? (i := 184) rfl)) rfl
theorem wd711 : Cond.code yX11_make prog_1_method_23_code 2 (some .int) ∈ bG := bm (t_in4 (List.mem_of_getElem? (i := 185) rfl)) rfl
theorem wd712 : Cond.constant RX11 255 (65535) ∈ bG := bm (t_in4 (List.mem_of_getElem? (i := 186) rfl)) rfl
theorem wd713 : Cond.stringRef RX11 256 "a seed is 0 to 65535" ∈ lw_tbl := t_in4 (List.mem_of_getElem? (i := 187) rfl)
theorem wd714 : Cond.methodLink RX11 258 yX2_giveAll ∈ bG := bm (t_in4 (List.mem_of_getElem? (i := 188) rfl)) rfl
theorem wd715 : Cond.instanceMethod yX2_giveAll ∈ bG := bm (t_in4 (List.mem_of_getElem? (i := 189) rfl)) rfl
theorem wd716 : Cond.selects RX2 yX2_giveAll yX2_giveAll ∈ bG := bm (t_in4 (List.mem_of_getElem? (i := 190) rfl)) rfl
theorem wd717 : Cond.code yX2_giveAll prog_4_method_2_code 6 (some .boolean) ∈ bG := bm (t_in4 (List.mem_of_getElem? (i := 191) rfl)) rfl
theorem wd718 : Cond.methodLink RX2 19 yX4_becomeCopyWithoutGivens ∈ bG := bm (t_in4 (List.mem_of_getElem? (i := 192) rfl)) rfl
theorem wd719 : Cond.instanceMethod yX4_becomeCopyWithoutGivens ∈ bG := bm (t_in4 (List.mem_of_getElem? (i := 193) rfl)) rfl
theorem wd720 : Cond.selects RX4 yX4_becomeCopyWithoutGivens yX4_becomeCopyWithoutGivens ∈ bG := bm (t_in4 (List.mem_of_getElem? (i := 194) rfl)) rfl
theorem wd721 : Cond.code yX4_becomeCopyWithoutGivens prog_6_method_16_code 4 none ∈ bG := bm (t_in4 (List.mem_of_getElem? (i := 195) rfl)) rfl
theorem wd722 : Cond.methodLink RX4 83 yX4_begin ∈ bG := bm (t_in4 (List.mem_of_getElem? (i := 196) rfl)) rfl
theorem wd723 : Cond.methodLink RX4 86 yX7_takeParts ∈ bG := bm (t_in4 (List.mem_of_getElem? (i := 197) rfl)) rfl
theorem wd724 : Cond.instanceMethod yX7_takeParts ∈ bG := bm (t_in4 (List.mem_of_getElem? (i := 198) rfl)) rfl
theorem wd725 : Cond.selects RX7 yX7_takeParts yX7_takeParts ∈ bG := bm (t_in4 (List.mem_of_getElem? (i := 199) rfl)) rfl
theorem wd726 : Cond.code yX7_takeParts prog_9_method_7_code 3 none ∈ bG := bm (t_in4 (List.mem_of_getElem? (i := 200) rfl)) rfl
theorem wd727 : Cond.methodLink RX7 44 yX7_addCell ∈ bG := bm (t_in4 (List.mem_of_getElem? (i := 201) rfl)) rfl
theorem wd728 : Cond.methodLink RX2 28 yX4_cellCount ∈ bG := bm (t_in4 (List.mem_of_getElem? (i := 202) rfl)) rfl
theorem wd729 : Cond.methodLink RX2 32 yX2_draw ∈ bG := bm (t_in4 (List.mem_of_getElem? (i := 203) rfl)) rfl
theorem wd730 : Cond.instanceMethod yX2_draw ∈ bG := bm (t_in4 (List.mem_of_getElem? (i := 205) rfl)) rfl
theorem wd731 : Cond.code yX2_draw prog_4_method_4_code 1 (some .int) ∈ bG := bm (t_in4 (List.mem_of_getElem? (i := 206) rfl)) rfl
theorem wd732 : Cond.constant RX2 61 (65536) ∈ bG := bm (t_in4 (List.mem_of_getElem? (i := 207) rfl)) rfl
theorem wd733 : Cond.methodLink RX2 35 yX8_findsOneFrom ∈ bG := bm (t_in4 (List.mem_of_getElem? (i := 208) rfl)) rfl
theorem wd734 : Cond.instanceMethod yX8_findsOneFrom ∈ bG := bm (t_in4 (List.mem_of_getElem? (i := 209) rfl)) rfl
theorem wd735 : Cond.selects RX8 yX8_findsOneFrom yX8_findsOneFrom ∈ bG := bm (t_in4 (List.mem_of_getElem? (i := 210) rfl)) rfl
theorem wd736 : Cond.code yX8_findsOneFrom prog_10_method_4_code 4 (some .boolean) ∈ bG := bm (t_in4 (List.mem_of_getElem? (i := 211) rfl)) rfl
theorem wd737 : Cond.methodLink RX2 45 yX4_addGiven ∈ bG := bm (t_in4 (List.mem_of_getElem? (i := 212) rfl)) rfl
theorem wd738 : Cond.instanceMethod yX4_addGiven ∈ bG := bm (t_in4 (List.mem_of_getElem? (i := 213) rfl)) rfl
theorem wd739 : Cond.selects RX4 yX4_addGiven yX4_addGiven ∈ bG := bm (t_in4 (List.mem_of_getElem? (i := 214) rfl)) rfl
theorem wd740 : Cond.code yX4_addGiven prog_6_method_9_code 4 none ∈ bG := bm (t_in4 (List.mem_of_getElem? (i := 215) rfl)) rfl
theorem wd741 : Cond.methodLink RX11 262 yX2_dropGivens ∈ bG := bm (t_in4 (List.mem_of_getElem? (i := 216) rfl)) rfl
theorem wd742 : Cond.instanceMethod yX2_dropGivens ∈ bG := bm (t_in4 (List.mem_of_getElem? (i := 217) rfl)) rfl
theorem wd743 : Cond.selects RX2 yX2_dropGivens yX2_dropGivens ∈ bG := bm (t_in4 (List.mem_of_getElem? (i := 218) rfl)) rfl
theorem wd744 : Cond.code yX2_dropGivens prog_4_method_3_code 7 none ∈ bG := bm (t_in4 (List.mem_of_getElem? (i := 219) rfl)) rfl
theorem wd745 : Cond.methodLink RX2 49 yX4_findGiven ∈ bG := bm (t_in4 (List.mem_of_getElem? (i := 220) rfl)) rfl
theorem wd746 : Cond.instanceMethod yX4_findGiven ∈ bG := bm (t_in4 (List.mem_of_getElem? (i := 221) rfl)) rfl
theorem wd747 : Cond.selects RX4 yX4_findGiven yX4_findGiven ∈ bG := bm (t_in4 (List.mem_of_getElem? (i := 222) rfl)) rfl
theorem wd748 : Cond.code yX4_findGiven prog_6_method_11_code 3 (some .int) ∈ bG := bm (t_in4 (List.mem_of_getElem? (i := 223) rfl)) rfl
theorem wd749 : Cond.methodLink RX4 65 yX7_isGivenOf ∈ bG := bm (t_in4 (List.mem_of_getElem? (i := 224) rfl)) rfl
theorem wd750 : Cond.instanceMethod yX7_isGivenOf ∈ bG := bm (t_in4 (List.mem_of_getElem? (i := 225) rfl)) rfl
theorem wd751 : Cond.selects RX7 yX7_isGivenOf yX7_isGivenOf ∈ bG := bm (t_in4 (List.mem_of_getElem? (i := 226) rfl)) rfl
theorem wd752 : Cond.code yX7_isGivenOf prog_9_method_5_code 2 (some .boolean) ∈ bG := bm (t_in4 (List.mem_of_getElem? (i := 227) rfl)) rfl
theorem wd753 : Cond.fieldLink RX7 37 "RiddleMill$Kind" "IS" "LRiddleMill$Kind;" ∈ bG := bm (t_in4 (List.mem_of_getElem? (i := 228) rfl)) rfl
theorem wd754 : Cond.methodLink RX7 40 yX7_hasCell ∈ bG := bm (t_in4 (List.mem_of_getElem? (i := 229) rfl)) rfl
theorem wd755 : Cond.methodLink RX2 53 yX8_findsJustOne ∈ bG := bm (t_in4 (List.mem_of_getElem? (i := 230) rfl)) rfl
theorem wd756 : Cond.methodLink RX2 57 yX4_removeRule ∈ bG := bm (t_in4 (List.mem_of_getElem? (i := 231) rfl)) rfl
theorem wd757 : Cond.methodLink RL 144 yX11_change ∈ bG := bm (t_in4 (List.mem_of_getElem? (i := 232) rfl)) rfl
theorem wd758 : Cond.instanceMethod yX11_change ∈ bG := bm (t_in4 (List.mem_of_getElem? (i := 233) rfl)) rfl
theorem wd759 : Cond.selects RX11 yX11_change yX11_change ∈ bG := bm (t_in4 (List.mem_of_getElem? (i := 234) rfl)) rfl
theorem wd760 : Cond.code yX11_change prog_1_method_24_code 2 (some .int) ∈ bG := bm (t_in4 (List.mem_of_getElem? (i := 235) rfl)) rfl
theorem wd761 : Cond.stringRef RX11 266 "there is no such change" ∈ lw_tbl := t_in4 (List.mem_of_getElem? (i := 236) rfl)
theorem wd762 : Cond.methodLink RX11 268 yX4_becomeMoved ∈ bG := bm (t_in4 (List.mem_of_getElem? (i := 237) rfl)) rfl
theorem wd763 : Cond.instanceMethod yX4_becomeMoved ∈ bG := bm (t_in4 (List.mem_of_getElem? (i := 238) rfl)) rfl
theorem wd764 : Cond.selects RX4 yX4_becomeMoved yX4_becomeMoved ∈ bG := bm (t_in4 (List.mem_of_getElem? (i := 239) rfl)) rfl
theorem wd765 : Cond.code yX4_becomeMoved prog_6_method_17_code 8 none ∈ bG := bm (t_in5 (List.mem_of_getElem? (i := 0) rfl)) rfl
theorem wd766 : Cond.methodLink RX4 90 yX7_moveCells ∈ bG := bm (t_in5 (List.mem_of_getElem? (i := 1) rfl)) rfl
theorem wd767 : Cond.instanceMethod yX7_moveCells ∈ bG := bm (t_in5 (List.mem_of_getElem? (i := 2) rfl)) rfl
theorem wd768 : Cond.selects RX7 yX7_moveCells yX7_moveCells ∈ bG := bm (t_in5 (List.mem_of_getElem? (i := 3) rfl)) rfl
theorem wd769 : Cond.code yX7_moveCells prog_9_method_8_code 3 none ∈ bG := bm (t_in5 (List.mem_of_getElem? (i := 4) rfl)) rfl
theorem wd770 : Cond.methodLink RL 104 yX11_doubt ∈ bG := bm (t_in5 (List.mem_of_getElem? (i := 5) rfl)) rfl
theorem wd771 : Cond.instanceMethod yX11_doubt ∈ bG := bm (t_in5 (List.mem_of_getElem? (i := 6) rfl)) rfl
theorem wd772 : Cond.selects RX11 yX11_doubt yX11_doubt ∈ bG := bm (t_in5 (List.mem_of_getElem? (i := 7) rfl)) rfl
theorem wd773 : Cond.code yX11_doubt prog_1_method_25_code 2 (some .double) ∈ bG := bm (t_in5 (List.mem_of_getElem? (i := 8) rfl)) rfl
theorem wd774 : Cond.methodLink RL 93 yX11_digest ∈ bG := bm (t_in5 (List.mem_of_getElem? (i := 9) rfl)) rfl
theorem wd775 : Cond.instanceMethod yX11_digest ∈ bG := bm (t_in5 (List.mem_of_getElem? (i := 10) rfl)) rfl
theorem wd776 : Cond.selects RX11 yX11_digest yX11_digest ∈ bG := bm (t_in5 (List.mem_of_getElem? (i := 11) rfl)) rfl
theorem wd777 : Cond.code yX11_digest prog_1_method_26_code 5 (some .long) ∈ bG := bm (t_in5 (List.mem_of_getElem? (i := 12) rfl)) rfl
theorem wd778 : Cond.constantLong RX11 275 (457) ∈ bG := bm (t_in5 (List.mem_of_getElem? (i := 13) rfl)) rfl
theorem wd779 : Cond.constantLong RX11 277 (31) ∈ bG := bm (t_in5 (List.mem_of_getElem? (i := 14) rfl)) rfl
theorem wd780 : Cond.methodLink RX11 279 yX11_count ∈ bG := bm (t_in5 (List.mem_of_getElem? (i := 15) rfl)) rfl
theorem wd781 : Cond.methodLink RX11 282 yX11_rule ∈ bG := bm (t_in5 (List.mem_of_getElem? (i := 16) rfl)) rfl
theorem wd782 : Cond.methodLink RX11 286 yX11_reasoned ∈ bG := bm (t_in5 (List.mem_of_getElem? (i := 17) rfl)) rfl
theorem wd783 : Cond.methodLink RL 69 yL_below ∈ bG := bm (t_in5 (List.mem_of_getElem? (i := 18) rfl)) rfl
theorem wd784 : Cond.static yL_below ∈ bG := bm (t_in5 (List.mem_of_getElem? (i := 19) rfl)) rfl
theorem wd785 : Cond.code yL_below method_2_code 2 (some .int) ∈ bG := bm (t_in5 (List.mem_of_getElem? (i := 20) rfl)) rfl
theorem wd786 : Cond.constant RL 7 (2147483647) ∈ bG := bm (t_in5 (List.mem_of_getElem? (i := 21) rfl)) rfl
theorem wd787 : Cond.methodLink RL 65 yL_cell ∈ bG := bm (t_in5 (List.mem_of_getElem? (i := 22) rfl)) rfl
theorem wd788 : Cond.static yL_cell ∈ bG := bm (t_in5 (List.mem_of_getElem? (i := 23) rfl)) rfl
theorem wd789 : Cond.code yL_cell method_3_code 2 (some .int) ∈ bG := bm (t_in5 (List.mem_of_getElem? (i := 24) rfl)) rfl
theorem wd790 : Cond.constant RL 8 (790386105) ∈ bG := bm (t_in5 (List.mem_of_getElem? (i := 25) rfl)) rfl
theorem wd791 : Cond.methodLink RL 21 yL_put ∈ bG := bm (t_in5 (List.mem_of_getElem? (i := 26) rfl)) rfl
theorem wd792 : Cond.static yL_put ∈ bG := bm (t_in5 (List.mem_of_getElem? (i := 27) rfl)) rfl
theorem wd793 : Cond.code yL_put method_4_code 3 none ∈ bG := bm (t_in5 (List.mem_of_getElem? (i := 28) rfl)) rfl
theorem wd794 : Cond.methodLink RL 9 yJ0_length_8abf5 ∈ bG := bm (t_in5 (List.mem_of_getElem? (i := 29) rfl)) rfl
theorem wd795 : Cond.methodLink RL 15 yJ0_charAt_5068e ∈ bG := bm (t_in5 (List.mem_of_getElem? (i := 30) rfl)) rfl
theorem wd796 : Cond.methodLink RL 43 yL_lay ∈ bG := bm (t_in5 (List.mem_of_getElem? (i := 31) rfl)) rfl
theorem wd797 : Cond.static yL_lay ∈ bG := bm (t_in5 (List.mem_of_getElem? (i := 32) rfl)) rfl
theorem wd798 : Cond.code yL_lay method_6_code 7 (some .boolean) ∈ bG := bm (t_in5 (List.mem_of_getElem? (i := 33) rfl)) rfl
theorem wd799 : Cond.methodLink RL 36 yX11_feed ∈ bG := bm (t_in5 (List.mem_of_getElem? (i := 34) rfl)) rfl
theorem wd800 : Cond.instanceMethod yX11_feed ∈ bG := bm (t_in5 (List.mem_of_getElem? (i := 35) rfl)) rfl
theorem wd801 : Cond.selects RX11 yX11_feed yX11_feed ∈ bG := bm (t_in5 (List.mem_of_getElem? (i := 36) rfl)) rfl
theorem wd802 : Cond.code yX11_feed prog_1_method_2_code 6 (some .int) ∈ bG := bm (t_in5 (List.mem_of_getElem? (i := 37) rfl)) rfl
theorem wd803 : Cond.stringRef RX11 70 "the tape would be too long" ∈ lw_tbl := t_in5 (List.mem_of_getElem? (i := 38) rfl)
theorem wd804 : Cond.methodLink RX11 75 yX9_appendFour ∈ bG := bm (t_in5 (List.mem_of_getElem? (i := 39) rfl)) rfl
theorem wd805 : Cond.instanceMethod yX9_appendFour ∈ bG := bm (t_in5 (List.mem_of_getElem? (i := 40) rfl)) rfl
theorem wd806 : Cond.selects RX9 yX9_appendFour yX9_appendFour ∈ bG := bm (t_in5 (List.mem_of_getElem? (i := 41) rfl)) rfl
theorem wd807 : Cond.code yX9_appendFour prog_11_method_2_code 3 none ∈ bG := bm (t_in5 (List.mem_of_getElem? (i := 42) rfl)) rfl
theorem wd808 : Cond.methodLink RL 40 yX11_trim ∈ bG := bm (t_in5 (List.mem_of_getElem? (i := 43) rfl)) rfl
theorem wd809 : Cond.instanceMethod yX11_trim ∈ bG := bm (t_in5 (List.mem_of_getElem? (i := 44) rfl)) rfl
theorem wd810 : Cond.selects RX11 yX11_trim yX11_trim ∈ bG := bm (t_in5 (List.mem_of_getElem? (i := 45) rfl)) rfl
theorem wd811 : Cond.code yX11_trim prog_1_method_3_code 2 (some .int) ∈ bG := bm (t_in5 (List.mem_of_getElem? (i := 46) rfl)) rfl
theorem wd812 : Cond.stringRef RX11 81 "the tape is shorter" ∈ lw_tbl := t_in5 (List.mem_of_getElem? (i := 47) rfl)
theorem wd813 : Cond.methodLink RL 89 yL_holds ∈ bG := bm (t_in5 (List.mem_of_getElem? (i := 48) rfl)) rfl
theorem wd814 : Cond.static yL_holds ∈ bG := bm (t_in5 (List.mem_of_getElem? (i := 49) rfl)) rfl
theorem wd815 : Cond.code yL_holds method_8_code 21 (some .boolean) ∈ bG := bm (t_in5 (List.mem_of_getElem? (i := 50) rfl)) rfl
theorem wd816 : Cond.methodLink RL 54 yJ9_max_7cf53 ∈ bG := bm (t_in5 (List.mem_of_getElem? (i := 51) rfl)) rfl
theorem wd817 : Cond.methodLink RL 59 yJ9_abs_0f7a4 ∈ bG := bm (t_in5 (List.mem_of_getElem? (i := 52) rfl)) rfl
theorem wd818 : Cond.static yJ9_abs_0f7a4 ∈ bG := bm (t_in5 (List.mem_of_getElem? (i := 53) rfl)) rfl
theorem wd819 : Cond.code yJ9_abs_0f7a4 prog_21_method_59_code 1 (some .int) ∈ bG := bm (t_in5 (List.mem_of_getElem? (i := 54) rfl)) rfl
theorem wd820 : Cond.arrayClass .boolean ∈ bG := bm (t_in5 (List.mem_of_getElem? (i := 55) rfl)) rfl
theorem wd821 : Cond.methodLink RL 108 yL_noneBroken ∈ bG := bm (t_in5 (List.mem_of_getElem? (i := 56) rfl)) rfl
theorem wd822 : Cond.static yL_noneBroken ∈ bG := bm (t_in5 (List.mem_of_getElem? (i := 57) rfl)) rfl
theorem wd823 : Cond.code yL_noneBroken method_10_code 3 (some .boolean) ∈ bG := bm (t_in5 (List.mem_of_getElem? (i := 58) rfl)) rfl
theorem wd824 : Cond.methodLink RL 121 yJ6_bitCount_0f7a4 ∈ bG := bm (t_in5 (List.mem_of_getElem? (i := 59) rfl)) rfl
theorem wd825 : Cond.stringRef RL 63 "grid 2 2 4; " ∈ lw_tbl := t_in5 (List.mem_of_getElem? (i := 60) rfl)
theorem wd826 : Cond.fieldLink RL 72 "RiddleMillLaw" "RULES" "[Ljava/lang/String;" ∈ bG := bm (t_in5 (List.mem_of_getElem? (i := 61) rfl)) rfl
theorem wd827 : Cond.laysStatic "RiddleMillLaw" "RULES" "[Ljava/lang/String;" ∈ lw_tbl := t_in5 (List.mem_of_getElem? (i := 62) rfl)
theorem wd828 : Cond.stringRef RL 76 ";" ∈ lw_tbl := t_in5 (List.mem_of_getElem? (i := 63) rfl)
theorem wd829 : Cond.constant RL 140 (65536) ∈ bG := bm (t_in5 (List.mem_of_getElem? (i := 65) rfl)) rfl
theorem wd830 : Cond.sameMethod "java/lang/Throwable" "java/lang/Throwable" "fillInStackTrace" "(I)Ljava/lang/Throwable;" ∈ bG := bm (t_in5 (List.mem_of_getElem? (i := 66) rfl)) rfl
theorem wd831 : Cond.fieldLink "java/lang/String" 9 "java/lang/String" "value" "[B" ∈ bG := bm (t_in5 (List.mem_of_getElem? (i := 67) rfl)) rfl
theorem wd832 : Cond.fieldLink "java/lang/String" 15 "java/lang/String" "coder" "B" ∈ bG := bm (t_in5 (List.mem_of_getElem? (i := 68) rfl)) rfl
theorem wd833 : Cond.fieldLink "java/lang/Enum" 7 "java/lang/Enum" "ordinal" "I" ∈ bG := bm (t_in5 (List.mem_of_getElem? (i := 69) rfl)) rfl
theorem wd834 : Cond.fieldLink RX10 65 "RiddleMill$Kind" "word" "Ljava/lang/String;" ∈ bG := bm (t_in5 (List.mem_of_getElem? (i := 70) rfl)) rfl
theorem wd835 : Cond.fieldLink RX10 73 "RiddleMill$Kind" "number" "I" ∈ bG := bm (t_in5 (List.mem_of_getElem? (i := 71) rfl)) rfl
theorem wd836 : Cond.fieldLink RX5 73 "RiddleMill$Kind" "numbersAhead" "I" ∈ bG := bm (t_in5 (List.mem_of_getElem? (i := 72) rfl)) rfl
theorem wd837 : Cond.fieldLink RX5 76 "RiddleMill$Kind" "exactCells" "I" ∈ bG := bm (t_in5 (List.mem_of_getElem? (i := 73) rfl)) rfl
theorem wd838 : Cond.fieldLink RX11 144 "RiddleMill$Kind" "number" "I" ∈ bG := bm (t_in5 (List.mem_of_getElem? (i := 74) rfl)) rfl
theorem wd839 : Cond.fieldLink RX3 60 "RiddleMill$Kind" "word" "Ljava/lang/String;" ∈ bG := bm (t_in5 (List.mem_of_getElem? (i := 75) rfl)) rfl
theorem wd840 : Cond.fieldLink RX3 66 "RiddleMill$Kind" "numbersAhead" "I" ∈ bG := bm (t_in5 (List.mem_of_getElem? (i := 76) rfl)) rfl
theorem wd841 : Cond.stringRef RX1 74 "differ" ∈ lw_tbl := t_in5 (List.mem_of_getElem? (i := 77) rfl)
theorem wd842 : Cond.laysStatic "RiddleMill$Kind" "SUM" "LRiddleMill$Kind;" ∈ lw_tbl := t_in5 (List.mem_of_getElem? (i := 78) rfl)
theorem wd843 : Cond.laysStatic "RiddleMill$Kind" "PRODUCT" "LRiddleMill$Kind;" ∈ lw_tbl := t_in5 (List.mem_of_getElem? (i := 79) rfl)
theorem wd844 : Cond.laysStatic "RiddleMill$Kind" "LESS" "LRiddleMill$Kind;" ∈ lw_tbl := t_in5 (List.mem_of_getElem? (i := 80) rfl)
theorem wd845 : Cond.laysStatic "RiddleMill$Kind" "UP" "LRiddleMill$Kind;" ∈ lw_tbl := t_in5 (List.mem_of_getElem? (i := 81) rfl)
theorem wd846 : Cond.laysStatic "RiddleMill$Kind" "SEE" "LRiddleMill$Kind;" ∈ lw_tbl := t_in5 (List.mem_of_getElem? (i := 82) rfl)
theorem wd847 : Cond.laysStatic "RiddleMill$Kind" "ODD" "LRiddleMill$Kind;" ∈ lw_tbl := t_in5 (List.mem_of_getElem? (i := 83) rfl)
theorem wd848 : Cond.laysStatic "RiddleMill$Kind" "EVEN" "LRiddleMill$Kind;" ∈ lw_tbl := t_in5 (List.mem_of_getElem? (i := 84) rfl)
theorem wd849 : Cond.laysStatic "RiddleMill$Kind" "COUNT" "LRiddleMill$Kind;" ∈ lw_tbl := t_in5 (List.mem_of_getElem? (i := 85) rfl)
theorem wd850 : Cond.laysStatic "RiddleMill$Kind" "APART" "LRiddleMill$Kind;" ∈ lw_tbl := t_in5 (List.mem_of_getElem? (i := 86) rfl)
theorem wd851 : Cond.laysStatic "RiddleMill$Kind" "SAME" "LRiddleMill$Kind;" ∈ lw_tbl := t_in5 (List.mem_of_getElem? (i := 87) rfl)
theorem wd852 : Cond.stringRef RX1 104 "is" ∈ lw_tbl := t_in5 (List.mem_of_getElem? (i := 88) rfl)
theorem wd853 : Cond.stringRef RL 147 "rows" ∈ lw_tbl := t_in5 (List.mem_of_getElem? (i := 89) rfl)
theorem wd854 : Cond.stringRef RL 149 "columns" ∈ lw_tbl := t_in5 (List.mem_of_getElem? (i := 90) rfl)
theorem wd855 : Cond.stringRef RL 151 "differ a1 b2" ∈ lw_tbl := t_in5 (List.mem_of_getElem? (i := 91) rfl)
theorem wd856 : Cond.stringRef RL 153 "sum 5 a1 b1" ∈ lw_tbl := t_in5 (List.mem_of_getElem? (i := 92) rfl)
theorem wd857 : Cond.stringRef RL 155 "sum 6 a2 b2 a1" ∈ lw_tbl := t_in5 (List.mem_of_getElem? (i := 93) rfl)
theorem wd858 : Cond.stringRef RL 157 "less a2 b1" ∈ lw_tbl := t_in5 (List.mem_of_getElem? (i := 94) rfl)
theorem wd859 : Cond.stringRef RL 159 "up a1 b1" ∈ lw_tbl := t_in5 (List.mem_of_getElem? (i := 95) rfl)
theorem wd860 : Cond.stringRef RL 161 "see 2 a1 b1 a2" ∈ lw_tbl := t_in5 (List.mem_of_getElem? (i := 96) rfl)
theorem wd861 : Cond.stringRef RL 163 "odd a1" ∈ lw_tbl := t_in5 (List.mem_of_getElem? (i := 97) rfl)
theorem wd862 : Cond.stringRef RL 165 "even b2" ∈ lw_tbl := t_in5 (List.mem_of_getElem? (i := 98) rfl)
theorem wd863 : Cond.stringRef RL 167 "count 2 1 a1 b2 b1" ∈ lw_tbl := t_in5 (List.mem_of_getElem? (i := 99) rfl)
theorem wd864 : Cond.stringRef RL 169 "apart 1 a1 b1 b2" ∈ lw_tbl := t_in5 (List.mem_of_getElem? (i := 100) rfl)
theorem wd865 : Cond.stringRef RL 171 "same a1 b2" ∈ lw_tbl := t_in5 (List.mem_of_getElem? (i := 101) rfl)
theorem wd866 : Cond.stringRef RL 173 "product 6 a1 b1 a2" ∈ lw_tbl := t_in5 (List.mem_of_getElem? (i := 102) rfl)
theorem wd867 : Cond.stringRef RL 175 "is a2 2" ∈ lw_tbl := t_in5 (List.mem_of_getElem? (i := 103) rfl)
theorem wd868 : Cond.stringRef RL 177 "is b1 3" ∈ lw_tbl := t_in5 (List.mem_of_getElem? (i := 104) rfl)
theorem wd869 : Cond.arrayOver (.object "java/lang/String") ∈ lw_tbl := t_in5 (List.mem_of_getElem? (i := 105) rfl)
theorem wd870 : Cond.stringRef RX1 80 "sum" ∈ lw_tbl := t_in5 (List.mem_of_getElem? (i := 106) rfl)
theorem wd871 : Cond.stringRef RX1 83 "product" ∈ lw_tbl := t_in5 (List.mem_of_getElem? (i := 107) rfl)
theorem wd872 : Cond.stringRef RX1 86 "less" ∈ lw_tbl := t_in5 (List.mem_of_getElem? (i := 108) rfl)
theorem wd873 : Cond.stringRef RX1 89 "up" ∈ lw_tbl := t_in5 (List.mem_of_getElem? (i := 109) rfl)
theorem wd874 : Cond.stringRef RX1 92 "see" ∈ lw_tbl := t_in5 (List.mem_of_getElem? (i := 110) rfl)
theorem wd875 : Cond.stringRef RX1 95 "odd" ∈ lw_tbl := t_in5 (List.mem_of_getElem? (i := 111) rfl)
theorem wd876 : Cond.stringRef RX1 98 "even" ∈ lw_tbl := t_in5 (List.mem_of_getElem? (i := 112) rfl)
theorem wd877 : Cond.stringRef RX1 101 "count" ∈ lw_tbl := t_in5 (List.mem_of_getElem? (i := 113) rfl)
theorem wd878 : Cond.stringRef RX1 107 "apart" ∈ lw_tbl := t_in5 (List.mem_of_getElem? (i := 114) rfl)
theorem wd879 : Cond.stringRef RX1 110 "same" ∈ lw_tbl := t_in5 (List.mem_of_getElem? (i := 115) rfl)
theorem wd880 : Cond.selects RX10 yX10_addNumber yX10_addNumber ∈ bG := bm (List.mem_append_left _ (List.mem_of_getElem? (i := 0) rfl)) rfl
theorem wd881 : Cond.selects RX10 yX10_add yX10_add ∈ bG := bm (List.mem_append_left _ (List.mem_of_getElem? (i := 1) rfl)) rfl
theorem wd882 : Cond.selects RX10 yX10_addWord yX10_addWord ∈ bG := bm (List.mem_append_left _ (List.mem_of_getElem? (i := 2) rfl)) rfl
theorem wd883 : Cond.selects RX5 yX5_hasForm yX5_hasForm ∈ bG := bm (List.mem_append_left _ (List.mem_of_getElem? (i := 3) rfl)) rfl
theorem wd884 : Cond.selects RX5 yX5_passes yX5_passes ∈ bG := bm (List.mem_append_left _ (List.mem_of_getElem? (i := 4) rfl)) rfl
theorem wd885 : Cond.selects RX5 yX5_passesRule yX5_passesRule ∈ bG := bm (List.mem_append_left _ (List.mem_of_getElem? (i := 5) rfl)) rfl
theorem wd886 : Cond.selects RX5 yX5_passesCells yX5_passesCells ∈ bG := bm (List.mem_append_left _ (List.mem_of_getElem? (i := 6) rfl)) rfl
theorem wd887 : Cond.selects RX5 yX5_fail yX5_fail ∈ bG := bm (List.mem_append_left _ (List.mem_of_getElem? (i := 7) rfl)) rfl
theorem wd888 : Cond.selects RX5 yX5_readSizes yX5_readSizes ∈ bG := bm (List.mem_append_left _ (List.mem_of_getElem? (i := 8) rfl)) rfl
theorem wd889 : Cond.selects RX5 yX5_readRules yX5_readRules ∈ bG := bm (List.mem_append_left _ (List.mem_of_getElem? (i := 9) rfl)) rfl
theorem wd890 : Cond.selects RX5 yX5_readRule yX5_readRule ∈ bG := bm (List.mem_append_left _ (List.mem_of_getElem? (i := 10) rfl)) rfl
theorem wd891 : Cond.selects RX5 yX5_readNumber yX5_readNumber ∈ bG := bm (List.mem_append_left _ (List.mem_of_getElem? (i := 11) rfl)) rfl
theorem wd892 : Cond.selects RX5 yX5_readTimes yX5_readTimes ∈ bG := bm (List.mem_append_left _ (List.mem_of_getElem? (i := 12) rfl)) rfl
theorem wd893 : Cond.selects RX5 yX5_readCells yX5_readCells ∈ bG := bm (List.mem_append_left _ (List.mem_of_getElem? (i := 13) rfl)) rfl
theorem wd894 : Cond.selects RX11 yX11_takeDraft yX11_takeDraft ∈ bG := bm (List.mem_append_left _ (List.mem_of_getElem? (i := 14) rfl)) rfl
theorem wd895 : Cond.selects RX7 yX7_hasPair yX7_hasPair ∈ bG := bm (List.mem_append_left _ (List.mem_of_getElem? (i := 15) rfl)) rfl
theorem wd896 : Cond.selects RX7 yX7_breaksSum yX7_breaksSum ∈ bG := bm (List.mem_append_left _ (List.mem_of_getElem? (i := 16) rfl)) rfl
theorem wd897 : Cond.selects RX7 yX7_breaksProduct yX7_breaksProduct ∈ bG := bm (List.mem_append_left _ (List.mem_of_getElem? (i := 17) rfl)) rfl
theorem wd898 : Cond.selects RX7 yX7_breaksOrder yX7_breaksOrder ∈ bG := bm (List.mem_append_left _ (List.mem_of_getElem? (i := 18) rfl)) rfl
theorem wd899 : Cond.selects RX7 yX7_breaksSight yX7_breaksSight ∈ bG := bm (List.mem_append_left _ (List.mem_of_getElem? (i := 19) rfl)) rfl
theorem wd900 : Cond.selects RX7 yX7_hasRemainder yX7_hasRemainder ∈ bG := bm (List.mem_append_left _ (List.mem_of_getElem? (i := 20) rfl)) rfl
theorem wd901 : Cond.selects RX7 yX7_breaksCount yX7_breaksCount ∈ bG := bm (List.mem_append_left _ (List.mem_of_getElem? (i := 21) rfl)) rfl
theorem wd902 : Cond.selects RX7 yX7_breaksIs yX7_breaksIs ∈ bG := bm (List.mem_append_left _ (List.mem_of_getElem? (i := 22) rfl)) rfl
theorem wd903 : Cond.selects RX7 yX7_breaksApart yX7_breaksApart ∈ bG := bm (List.mem_append_left _ (List.mem_of_getElem? (i := 23) rfl)) rfl
theorem wd904 : Cond.selects "java/lang/Throwable" ⟨"java/lang/Throwable", "fillInStackTrace", "(I)Ljava/lang/Throwable;"⟩ ⟨"java/lang/Throwable", "fillInStackTrace", "(I)Ljava/lang/Throwable;"⟩ ∈ bG := bm (List.mem_append_left _ (List.mem_of_getElem? (i := 24) rfl)) rfl
theorem wd905 : Cond.selects RX11 yX11_requireRule yX11_requireRule ∈ bG := bm (List.mem_append_left _ (List.mem_of_getElem? (i := 25) rfl)) rfl
theorem wd906 : Cond.selects RX11 yX11_requirePuzzle yX11_requirePuzzle ∈ bG := bm (List.mem_append_left _ (List.mem_of_getElem? (i := 26) rfl)) rfl
theorem wd907 : Cond.selects RX3 yX3_addWord yX3_addWord ∈ bG := bm (List.mem_append_left _ (List.mem_of_getElem? (i := 27) rfl)) rfl
theorem wd908 : Cond.selects RX3 yX3_add yX3_add ∈ bG := bm (List.mem_append_left _ (List.mem_of_getElem? (i := 28) rfl)) rfl
theorem wd909 : Cond.selects RX3 yX3_addNumber yX3_addNumber ∈ bG := bm (List.mem_append_left _ (List.mem_of_getElem? (i := 29) rfl)) rfl
theorem wd910 : Cond.selects RX3 yX3_addRule yX3_addRule ∈ bG := bm (List.mem_append_left _ (List.mem_of_getElem? (i := 30) rfl)) rfl
theorem wd911 : Cond.selects RX3 yX3_addCell yX3_addCell ∈ bG := bm (List.mem_append_left _ (List.mem_of_getElem? (i := 31) rfl)) rfl
theorem wd912 : Cond.selects RX11 yX11_requireCell yX11_requireCell ∈ bG := bm (List.mem_append_left _ (List.mem_of_getElem? (i := 32) rfl)) rfl
theorem wd913 : Cond.selects RX8 yX8_begin yX8_begin ∈ bG := bm (List.mem_append_left _ (List.mem_of_getElem? (i := 33) rfl)) rfl
theorem wd914 : Cond.selects RX8 yX8_keep yX8_keep ∈ bG := bm (List.mem_append_left _ (List.mem_of_getElem? (i := 34) rfl)) rfl
theorem wd915 : Cond.selects RX8 yX8_giveUp yX8_giveUp ∈ bG := bm (List.mem_append_left _ (List.mem_of_getElem? (i := 35) rfl)) rfl
theorem wd916 : Cond.selects RX8 yX8_choice yX8_choice ∈ bG := bm (List.mem_append_left _ (List.mem_of_getElem? (i := 36) rfl)) rfl
theorem wd917 : Cond.selects RX6 yX6_findFirstBy yX6_findFirstBy ∈ bG := bm (List.mem_append_left _ (List.mem_of_getElem? (i := 37) rfl)) rfl
theorem wd918 : Cond.selects RX6 yX6_isRefuted yX6_isRefuted ∈ bG := bm (List.mem_append_left _ (List.mem_of_getElem? (i := 38) rfl)) rfl
theorem wd919 : Cond.selects RX6 yX6_hasValue yX6_hasValue ∈ bG := bm (List.mem_append_left _ (List.mem_of_getElem? (i := 39) rfl)) rfl
theorem wd920 : Cond.selects RX6 yX6_gradeOf yX6_gradeOf ∈ bG := bm (List.mem_append_left _ (List.mem_of_getElem? (i := 40) rfl)) rfl
theorem wd921 : Cond.selects RX6 yX6_deduceBy yX6_deduceBy ∈ bG := bm (List.mem_append_left _ (List.mem_of_getElem? (i := 41) rfl)) rfl
theorem wd922 : Cond.selects RX2 yX2_draw yX2_draw ∈ bG := bm (List.mem_append_left _ (List.mem_of_getElem? (i := 42) rfl)) rfl
end
section
/-! ===== the machine seen by numbers: integers for ints, a world as a list of things that have a number each ===== -/
abbrev iV (x : Int) : Value := .int (Int32.ofInt x)
abbrev jV (x : Int) : Value := .long (Int64.ofInt x)
def inR (x : Int) : Prop := -2147483648 ≤ x ∧ x < 2147483648
theorem ti_of {x : Int} (h : inR x) : (Int32.ofInt x).toInt = x := Int32.toInt_ofInt_of_le (by unfold inR at h; omega) (by unfold inR at h; omega)
theorem ti_lt {x y : Int} (hx : inR x) (hy : inR y) : Int32.ofInt x < Int32.ofInt y ↔ x < y := by rw [Int32.lt_iff_toInt_lt, ti_of hx, ti_of hy]
theorem ti_le {x y : Int} (hx : inR x) (hy : inR y) : Int32.ofInt x ≤ Int32.ofInt y ↔ x ≤ y := by rw [Int32.le_iff_toInt_le, ti_of hx, ti_of hy]
theorem ti_eq {x y : Int} (hx : inR x) (hy : inR y) : Int32.ofInt x = Int32.ofInt y ↔ x = y := by rw [← Int32.toInt_inj, ti_of hx, ti_of hy]
theorem ti_0 : inR 0 := by unfold inR; omega
theorem ti_rng (x : Int32) : inR x.toInt := by
  have h1 := x.toInt_lt
  have h2 := x.le_toInt
  unfold inR
  omega
theorem ti_cl {x : Int} (h : inR x) : (Int32.ofInt x).toNatClampNeg = x.toNat := by
  show (Int32.ofInt x).toInt.toNat = x.toNat
  rw [ti_of h]
theorem ti_in {x : Int} {n : Nat} (h0 : 0 ≤ x) (h1 : x < n) (hn : n < 2147483648) : vp_in (Int32.ofInt x) n := by
  have hr : inR x := by unfold inR; omega
  rw [vp_in_iff, ti_of hr]
  exact ⟨h0, h1⟩
theorem ti_cln {x : Int} {n : Nat} (h0 : 0 ≤ x) (h1 : x < n) (hn : n < 2147483648) : (Int32.ofInt x).toNatClampNeg = x.toNat := ti_cl (by unfold inR; omega)
theorem ti_div {x y : Int} (h0 : 0 ≤ x) (h1 : x < 2147483648) (h2 : 0 < y) (h3 : y < 2147483648) : Int32.ofInt x / Int32.ofInt y = Int32.ofInt (x / y) := by
  have e1 : (Int32.minValue.toInt : Int) = -2147483648 := by decide
  have e2 : (Int32.maxValue.toInt : Int) = 2147483647 := by decide
  have h := Int32.ofInt_tdiv (a := x) (b := y) (by omega) (by omega) (by omega) (by omega)
  rw [← h, Int.tdiv_eq_ediv_of_nonneg h0]
theorem ti_rem {x y : Int} (h0 : 0 ≤ x) (h1 : x < 2147483648) (h2 : 0 < y) (h3 : y < 2147483648) : Int32.ofInt x - Int32.ofInt x / Int32.ofInt y * Int32.ofInt y = Int32.ofInt (x % y) := by
  rw [ti_div h0 h1 h2 h3, ← Int32.ofInt_mul, ← Int32.ofInt_sub, Int.emod_def]
  congr 1
  rw [Int.mul_comm]
theorem ti_ne0 {y : Int} (h2 : 0 < y) (h3 : y < 2147483648) : ¬ Int32.ofInt y = 0 := by
  intro h
  have h' : Int32.ofInt y = Int32.ofInt 0 := h
  rw [ti_eq (by unfold inR; omega) ti_0] at h'
  omega
/-- what is done to bits, on integers -/
def iAnd (x y : Int) : Int := (Int32.ofInt x &&& Int32.ofInt y).toInt
def iOr (x y : Int) : Int := (Int32.ofInt x ||| Int32.ofInt y).toInt
def iXor (x y : Int) : Int := (Int32.ofInt x ^^^ Int32.ofInt y).toInt
def iShl (x y : Int) : Int := (Int32.ofInt x <<< (Int32.ofInt y &&& 31)).toInt
def iShr (x y : Int) : Int := (Int32.ofInt x >>> (Int32.ofInt y &&& 31)).toInt
abbrev xC : Type := (Program × Launch × Env × Room) × (State × MethodId × Array Value × List Frame) × (Method × Code × (State → Prop) × Nat) × ((Nat → Prop) × va_G)
/-- addresses: of the numbered things; of the constants (0 Kind's, 1 texts, 2 their bytes, 3 messages, 4 tables); the classes of int[], Rule[], int[][] -/
abbrev cE : Type := (Nat → Nat) × (Nat → Nat → Nat) × (ClassId × ClassId × ClassId × ClassId)
abbrev yI (E : cE) : ClassId := E.2.2.1
abbrev yR (E : cE) : ClassId := E.2.2.2.1
abbrev yA (E : cE) : ClassId := E.2.2.2.2.1
abbrev yB (E : cE) : ClassId := E.2.2.2.2.2
def cty (E : cE) : List (ClassId × FieldType) := [(yI E, .int), (yR E, .object "RiddleMill$Rule"), (yA E, .array .int), (yB E, .boolean)]
/-- the machine goes on from here: any heap that holds the world, any frame with these locals -/
def cW (X : xC) (nc ns pc : Nat) (lv : List (Nat × Value)) (st : List Value) (ws : va_W) : Prop :=
  ∀ (H : Heap) (locs : List Loc) (ls : Array Slot), va_P X.2.2.2.2 vwCl ws H → va_D X.2.2.2.1 ws → va_S X.2.2.2.1 X.2.1.1.heap H locs → lv_has ls X.2.2.1.2.2.2 lv →
    W X.1.1 X.1.2.1 X.1.2.2.1 X.1.2.2.2 X.2.1.1 X.2.1.2.1 X.2.1.2.2.1 X.2.1.2.2.2 X.2.2.1.1 X.2.2.1.2.1 H locs nc ns X.2.2.1.2.2.1 (F0 X.2.1.2.1 pc ls st)
/-! ===== what nobody writes: constants, tables, texts ===== -/
def kAh : List Int := [0, 1, 1, 0, 0, 1, 0, 0, 2, 0, 1, 0]
def kEx : List Int := [0, 0, 0, 2, 0, 0, 0, 0, 0, 1, 0, 0]
def swM : List Int := [1, 2, 3, 4, 5, 6, 7, 8, 9, 10, 11, 0]
def nuM : List Int := [0, 1, 1, 0, 0, 1, 0, 0, 2, 0, 1, 0, 0, 0]
def txB : List (List Int32) := [[100, 105, 102, 102, 101, 114], [115, 117, 109], [112, 114, 111, 100, 117, 99, 116], [108, 101, 115, 115], [117, 112], [115, 101, 101], [111, 100, 100], [101, 118, 101, 110], [99, 111, 117, 110, 116], [105, 115], [97, 112, 97, 114, 116], [115, 97, 109, 101], [114, 111, 119, 115], [99, 111, 108, 117, 109, 110, 115], [103, 114, 105, 100], [114, 111, 119, 115], [99, 111, 108, 117, 109, 110, 115], [100, 105, 102, 102, 101, 114, 32, 97, 49, 32, 98, 50], [115, 117, 109, 32, 53, 32, 97, 49, 32, 98, 49], [115, 117, 109, 32, 54, 32, 97, 50, 32, 98, 50, 32, 97, 49], [108, 101, 115, 115, 32, 97, 50, 32, 98, 49], [117, 112, 32, 97, 49, 32, 98, 49], [115, 101, 101, 32, 50, 32, 97, 49, 32, 98, 49, 32, 97, 50], [111, 100, 100, 32, 97, 49], [101, 118, 101, 110, 32, 98, 50], [99, 111, 117, 110, 116, 32, 50, 32, 49, 32, 97, 49, 32, 98, 50, 32, 98, 49], [97, 112, 97, 114, 116, 32, 49, 32, 97, 49, 32, 98, 49, 32, 98, 50], [115, 97, 109, 101, 32, 97, 49, 32, 98, 50], [112, 114, 111, 100, 117, 99, 116, 32, 54, 32, 97, 49, 32, 98, 49, 32, 97, 50], [105, 115, 32, 97, 50, 32, 50], [105, 115, 32, 98, 49, 32, 51], [103, 114, 105, 100, 32, 50, 32, 50, 32, 52, 59, 32], [59]]
def txL : List Nat := [6, 3, 7, 4, 2, 3, 3, 4, 5, 2, 5, 4, 4, 7, 4, 4, 7, 12, 11, 14, 10, 8, 14, 6, 7, 18, 16, 10, 18, 7, 7, 12, 1]
/-- the script: its length, its numbers -/
def scL (E : cE) : Nat := E.2.1 5 0
def scE (E : cE) (j : Nat) : Int := (Int32.ofNat (E.2.1 6 j)).toInt
def msG : List (Nat × String) := [(70, "the tape would be too long"), (81, "the tape is shorter"), (128, "there is no such count"), (168, "nothing such is told of a rule"), (180, "there is no such place on the paper"), (188, "there is no such value"), (193, "1 to 30 solutions can be looked for"), (199, "there is no such solution"), (219, "nothing such is told of a deduction"), (253, "nothing such is told of reasoning"), (256, "a seed is 0 to 65535"), (266, "there is no such change"), (293, "there is no puzzle"), (295, "there is no such rule"), (297, "there is no such cell")]
/-- what stands in the heap from the start -/
def sS1 (E : cE) (A : Nat → Prop) (U : State) (H : Heap) : Prop :=
  (∀ j : Nat, j < 12 → va_O RX1 (E.2.1 0 j) A U H) ∧
  va_Ef 12 "java/lang/Enum" "ordinal" "I" (fun j => iV (j : Int)) (E.2.1 0) A U H ∧
  va_Ef 12 RX1 "number" "I" (fun j => iV (j : Int)) (E.2.1 0) A U H ∧
  va_Ef 12 RX1 "word" "Ljava/lang/String;" (fun j => .ref (E.2.1 1 j)) (E.2.1 0) A U H ∧
  va_Ef 12 RX1 "numbersAhead" "I" (fun j => iV (kAh.getD j 0)) (E.2.1 0) A U H ∧
  va_Ef 12 RX1 "exactCells" "I" (fun j => iV (kEx.getD j 0)) (E.2.1 0) A U H ∧
  va_Z RX1 "DIFFER" "LRiddleMill$Kind;" (.ref (E.2.1 0 0)) A U H ∧
  va_Z RX1 "IS" "LRiddleMill$Kind;" (.ref (E.2.1 0 9)) A U H ∧
  va_Z RX1 "ALL" "[LRiddleMill$Kind;" (.ref (E.2.1 4 0)) A U H ∧
  va_T (.object RX1) (E.2.1 4 0) 12 (fun j => .ref (E.2.1 0 j)) A U H ∧
  va_Z RX0 "$SwitchMap$RiddleMill$Kind" "[I" (.ref (E.2.1 4 1)) A U H ∧
  va_T .int (E.2.1 4 1) 12 (fun j => iV (swM.getD j 0)) A U H ∧
  va_Z RL "RULES" "[Ljava/lang/String;" (.ref (E.2.1 4 2)) A U H ∧
  va_T (.object "java/lang/String") (E.2.1 4 2) 16 (fun j => .ref (E.2.1 1 (15 + j))) A U H ∧
  va_T .int (E.2.1 4 3) (scL E) (fun j => iV (scE E j)) A U H ∧
  va_Z "java/lang/String" "COMPACT_STRINGS" "Z" (.int 1) A U H ∧
  vk_S 33 txL txB (E.2.1 1) (E.2.1 2) A U H ∧
  vx_Zq Bundle.tN "UNASSIGNED_STACK" Bundle.steD A U H ∧
  vx_Zq Bundle.tN "SUPPRESSED_SENTINEL" Bundle.listD A U H ∧
  va_Zq "jdk/internal/util/Preconditions" "SIOOBE_FORMATTER" "Ljava/util/function/BiFunction;" A U H
/-- what the constant pools have resolved -/
def sS2 (E : cE) (U : State) : Prop :=
  (∀ j : Nat, j < 15 → vk_R RX11 (msG.getD j (0, "")).1 (msG.getD j (0, "")).2 (E.2.1 3 j) U) ∧
  vk_R RX10 76 "rows" (E.2.1 1 12) U ∧
  vk_R RX10 78 "columns" (E.2.1 1 13) U ∧
  vk_R RX10 80 "grid" (E.2.1 1 14) U ∧
  vk_R RX3 19 "grid" (E.2.1 1 14) U ∧
  vk_R RL 63 "grid 2 2 4; " (E.2.1 1 31) U ∧
  vk_R RL 76 ";" (E.2.1 1 32) U ∧
  va_Nw (.fieldLinkNest RX10 59 "RiddleMill$Kind" "ALL" "[LRiddleMill$Kind;" "RiddleMill") U ∧
  va_Nw (.fieldLinkNest RX5 67 "RiddleMill$Kind" "ALL" "[LRiddleMill$Kind;" "RiddleMill") U ∧
  va_Nw (.castable "java/lang/IllegalStateException" "java/lang/IllegalStateException") U ∧
  va_Nw (.castable "java/lang/IllegalArgumentException" "java/lang/IllegalArgumentException") U ∧
  va_Nw (.castable "java/lang/IndexOutOfBoundsException" "java/lang/IndexOutOfBoundsException") U ∧
  va_Nw (.declares ⟨"java/lang/RuntimeException", "<init>", "(Ljava/lang/String;)V"⟩) U ∧
  va_Nw (.declares ⟨"java/lang/Exception", "<init>", "(Ljava/lang/String;)V"⟩) U ∧
  va_Nw (.declares ⟨"java/lang/Throwable", "<init>", "(Ljava/lang/String;)V"⟩) U
def sS (E : cE) (A : Nat → Prop) (U : State) (H : Heap) : Prop := (∀ i j : Nat, i < 12 → j < 12 → E.2.1 0 i = E.2.1 0 j → i = j) ∧ sS1 E A U H ∧ sS2 E U
theorem sS1.moved {E : cE} {A : Nat → Prop} {u U : State} {H : Heap} (v : u.vm.Alike U.vm) (h : sS1 E A u H) : sS1 E A U H := by
  obtain ⟨h1, h2, h3, h4, h5, h6, h7, h8, h9, h10, h11, h12, h13, h14, h15, h16, h17, h18, h19, h20⟩ := h
  exact ⟨fun j hj => va_O.moved v (h1 j hj), va_Ef.moved v h2, va_Ef.moved v h3, va_Ef.moved v h4, va_Ef.moved v h5, va_Ef.moved v h6, va_Z.moved v h7, va_Z.moved v h8, va_Z.moved v h9, va_T.moved v h10, va_Z.moved v h11, va_T.moved v h12, va_Z.moved v h13, va_T.moved v h14, va_T.moved v h15, va_Z.moved v h16, vk_S.moved v h17, vx_Zq.moved v h18, vx_Zq.moved v h19, va_Zq.moved v h20⟩
theorem sS1.kept {E : cE} {A : Nat → Prop} {U : State} {H H1 : Heap} (h : sS1 E A U H) (q : ∀ a : Nat, a < H.size → ¬ A a → H1[a]? = H[a]?) : sS1 E A U H1 := by
  obtain ⟨h1, h2, h3, h4, h5, h6, h7, h8, h9, h10, h11, h12, h13, h14, h15, h16, h17, h18, h19, h20⟩ := h
  exact ⟨fun j hj => (h1 j hj).kept q, h2.kept q, h3.kept q, h4.kept q, h5.kept q, h6.kept q, h7.kept q, h8.kept q, h9.kept q, h10.kept q, h11.kept q, h12.kept q, h13.kept q, h14.kept q, h15.kept q, h16.kept q, h17.kept q, h18.kept q, h19.kept q, h20.kept q⟩
theorem sS1.narrow {E : cE} {A B : Nat → Prop} {U : State} {H : Heap} (h : sS1 E A U H) (q : ∀ a, B a → A a) : sS1 E B U H := by
  obtain ⟨h1, h2, h3, h4, h5, h6, h7, h8, h9, h10, h11, h12, h13, h14, h15, h16, h17, h18, h19, h20⟩ := h
  exact ⟨fun j hj => (h1 j hj).narrow q, h2.narrow q, h3.narrow q, h4.narrow q, h5.narrow q, h6.narrow q, h7.narrow q, h8.narrow q, h9.narrow q, h10.narrow q, h11.narrow q, h12.narrow q, h13.narrow q, h14.narrow q, h15.narrow q, h16.narrow q, h17.narrow q, h18.narrow q, h19.narrow q, h20.narrow q⟩
theorem sS2.warm {E : cE} {s U : State} (w : s.WarmedH U.vm) (h : sS2 E s) : sS2 E U := by
  obtain ⟨h1, h2, h3, h4, h5, h6, h7, h8, h9, h10, h11, h12, h13, h14, h15⟩ := h
  exact ⟨fun j hj => (h1 j hj).warm w, h2.warm w, h3.warm w, h4.warm w, h5.warm w, h6.warm w, h7.warm w, va_Nw.warmF w h8, va_Nw.warmF w h9, va_Nw.warmC w h10, va_Nw.warmC w h11, va_Nw.warmC w h12, va_Nw.warmD w h13, va_Nw.warmD w h14, va_Nw.warmD w h15⟩
theorem sS2.same {E : cE} {u U : State} (v : U.vm = u.vm) (h : sS2 E u) : sS2 E U := by
  obtain ⟨h1, h2, h3, h4, h5, h6, h7, h8, h9, h10, h11, h12, h13, h14, h15⟩ := h
  exact ⟨fun j hj => (h1 j hj).same v, h2.same v, h3.same v, h4.same v, h5.same v, h6.same v, h7.same v, va_Nw.same rfl v.symm h8, va_Nw.same rfl v.symm h9, va_Nw.same rfl v.symm h10, va_Nw.same rfl v.symm h11, va_Nw.same rfl v.symm h12, va_Nw.same rfl v.symm h13, va_Nw.same rfl v.symm h14, va_Nw.same rfl v.symm h15⟩
/-- seen by a callee: the heap has gone on, the machine is warmer, less is its own -/
theorem sS.go {E : cE} {A B : Nat → Prop} {s U : State} {H : Heap} (h : sS E A s s.heap) (q : ∀ a : Nat, a < s.heap.size → ¬ A a → H[a]? = s.heap[a]?) (n : ∀ a, B a → A a) (w : s.WarmedH U.vm) : sS E B U H := ⟨h.1, ((h.2.1.kept q).narrow n).moved w.alike, h.2.2.warm w⟩
/-- what a method knows of its start -/
def mF (X : xC) (E : cE) (own : String) (cc : ByteArray) (Ts : List Cond) : Prop :=
  X.1.1.tables.exec = Jvm.exec ∧ X.2.2.1.2.1.code = cc ∧ X.2.2.1.2.1.maxLocals = X.2.2.1.2.2.2 ∧ X.2.1.1.vm.findClass own = some X.2.1.2.1.cls ∧
  (∀ w ∈ Ts, w.before X.2.1.2.2.1 X.2.1.1 = true) ∧ va_K X.2.2.2.2 vwCl (cty E) X.2.1.1 ∧ (∀ q, X.2.1.1.heap.size ≤ q → X.2.2.2.1 q) ∧ X.2.2.1.1.locks = false ∧ sS E X.2.2.2.1 X.2.1.1 X.2.1.1.heap
section ROWS
variable {X : xC} {E : cE} {own : String} {cc : ByteArray} {Ts : List Cond} {nc ns pc : Nat} {lv lv' : List (Nat × Value)} {st : List Value} {ws : va_W}
theorem mF.hx (F : mF X E own cc Ts) : X.1.1.tables.exec = Jvm.exec := F.1
theorem mF.hb (F : mF X E own cc Ts) : X.2.2.1.2.1.code = cc := F.2.1
theorem mF.hml (F : mF X E own cc Ts) : X.2.2.1.2.1.maxLocals = X.2.2.1.2.2.2 := F.2.2.1
theorem mF.ho (F : mF X E own cc Ts) : X.2.1.1.vm.findClass own = some X.2.1.2.1.cls := F.2.2.2.1
theorem mF.ht (F : mF X E own cc Ts) : ∀ w ∈ Ts, w.before X.2.1.2.2.1 X.2.1.1 = true := F.2.2.2.2.1
theorem mF.hK (F : mF X E own cc Ts) : va_K X.2.2.2.2 vwCl (cty E) X.2.1.1 := F.2.2.2.2.2.1
theorem mF.hA (F : mF X E own cc Ts) : ∀ q, X.2.1.1.heap.size ≤ q → X.2.2.2.1 q := F.2.2.2.2.2.2.1
theorem mF.hl (F : mF X E own cc Ts) : X.2.2.1.1.locks = false := F.2.2.2.2.2.2.2.1
theorem mF.hS (F : mF X E own cc Ts) : sS E X.2.2.2.1 X.2.1.1 X.2.1.1.heap := F.2.2.2.2.2.2.2.2
/-- other names for the same locals, or fewer of them -/
theorem q_lv (ks : List Nat) (h : lv_pick lv ks = lv') (k : cW X nc ns pc lv' st ws) : cW X nc ns pc lv st ws := fun H locs ls hP hD hS hl => k H locs ls hP hD hS (lv_sub hl ks h)
theorem q_wide {nc' ns' : Nat} (h1 : nc ≤ nc') (h2 : ns ≤ ns') (k : cW X nc' ns' pc lv st ws) : cW X nc ns pc lv st ws := fun H locs ls hP hD hS hl => W.widen h1 h2 (k H locs ls hP hD hS hl)
theorem q_iconst (F : mF X E own cc Ts) {n : Int} (hd : decode cc pc = .ok (.iconst n, 1)) (k : cW X nc ns (pc + 1) lv (iV n :: st) ws) : cW X nc ns pc lv st ws := fun H locs ls hP hD hS hl => lv_iconst F.hx F.hb hd rfl (k H locs ls hP hD hS hl)
theorem q_bipush (F : mF X E own cc Ts) {n : Int} (hd : decode cc pc = .ok (.bipush n, 2)) (hv : (Int8.ofInt n).toInt32 = Int32.ofInt n) (k : cW X nc ns (pc + 2) lv (iV n :: st) ws) : cW X nc ns pc lv st ws := fun H locs ls hP hD hS hl => lv_bipush F.hx F.hb hd hv (k H locs ls hP hD hS hl)
theorem q_sipush (F : mF X E own cc Ts) {n : Int} (hd : decode cc pc = .ok (.sipush n, 3)) (hv : (Int16.ofInt n).toInt32 = Int32.ofInt n) (k : cW X nc ns (pc + 3) lv (iV n :: st) ws) : cW X nc ns pc lv st ws := fun H locs ls hP hD hS hl => lv_sipush F.hx F.hb hd hv (k H locs ls hP hD hS hl)
theorem q_ldc (F : mF X E own cc Ts) {index : Nat} {n : Int} (hc : Cond.constant own index (Int32.ofInt n) ∈ Ts) (hd : decode cc pc = .ok (.ldc index, 2)) (k : cW X nc ns (pc + 2) lv (iV n :: st) ws) : cW X nc ns pc lv st ws := fun H locs ls hP hD hS hl => lv_ldc F.hx F.hb F.ho (F.ht _ hc) hd (k H locs ls hP hD hS hl)
theorem q_ldc2 (F : mF X E own cc Ts) {index : Nat} {n : Int} (hc : Cond.constantLong own index (Int64.ofInt n) ∈ Ts) (hd : decode cc pc = .ok (.ldc2_w index, 3)) (k : cW X nc ns (pc + 3) lv (jV n :: st) ws) : cW X nc ns pc lv st ws := fun H locs ls hP hD hS hl => lv_ldc2 F.hx F.hb F.ho (F.ht _ hc) hd (k H locs ls hP hD hS hl)
theorem q_lconst (F : mF X E own cc Ts) {n : Fin 2} {z : Int} (hd : decode cc pc = .ok (.lconst n, 1)) (hv : Int64.ofNat (n : Nat) = Int64.ofInt z) (k : cW X nc ns (pc + 1) lv (jV z :: st) ws) : cW X nc ns pc lv st ws := fun H locs ls hP hD hS hl => lv_lconst F.hx F.hb hd hv (k H locs ls hP hD hS hl)
theorem q_iload_n (F : mF X E own cc Ts) (j : Nat) {a : Fin 4} {i : Nat} {x : Int} (hd : decode cc pc = .ok (.iload_n a, 1)) (hi : (a : Nat) = i) (hj : lv[j]? = some (i, iV x)) (k : cW X nc ns (pc + 1) lv (iV x :: st) ws) : cW X nc ns pc lv st ws := fun H locs ls hP hD hS hl => lv_iload_n F.hx F.hb hd hi (lv_at hl j hj) (k H locs ls hP hD hS hl)
theorem q_iload (F : mF X E own cc Ts) (j : Nat) {i : Nat} {x : Int} (hd : decode cc pc = .ok (.iload i, 2)) (hj : lv[j]? = some (i, iV x)) (k : cW X nc ns (pc + 2) lv (iV x :: st) ws) : cW X nc ns pc lv st ws := fun H locs ls hP hD hS hl => lv_iload F.hx F.hb hd (lv_at hl j hj) (k H locs ls hP hD hS hl)
theorem q_lload_n (F : mF X E own cc Ts) (j : Nat) {a : Fin 4} {i : Nat} {x : Int} (hd : decode cc pc = .ok (.lload_n a, 1)) (hi : (a : Nat) = i) (hj : lv[j]? = some (i, jV x)) (k : cW X nc ns (pc + 1) lv (jV x :: st) ws) : cW X nc ns pc lv st ws := fun H locs ls hP hD hS hl => lv_lload_n F.hx F.hb hd hi (lv_at hl j hj) (k H locs ls hP hD hS hl)
theorem q_aload_n (F : mF X E own cc Ts) (j : Nat) {a : Fin 4} {i x : Nat} (hd : decode cc pc = .ok (.aload_n a, 1)) (hi : (a : Nat) = i) (hj : lv[j]? = some (i, .ref x)) (k : cW X nc ns (pc + 1) lv (.ref x :: st) ws) : cW X nc ns pc lv st ws := fun H locs ls hP hD hS hl => lv_aload_n F.hx F.hb hd hi (lv_at hl j hj) (k H locs ls hP hD hS hl)
theorem q_aload (F : mF X E own cc Ts) (j : Nat) {i x : Nat} (hd : decode cc pc = .ok (.aload i, 2)) (hj : lv[j]? = some (i, .ref x)) (k : cW X nc ns (pc + 2) lv (.ref x :: st) ws) : cW X nc ns pc lv st ws := fun H locs ls hP hD hS hl => lv_aload F.hx F.hb hd (lv_at hl j hj) (k H locs ls hP hD hS hl)
theorem q_istore_n (F : mF X E own cc Ts) (ks : List Nat) {a : Fin 4} {i : Nat} {x : Int} (hd : decode cc pc = .ok (.istore_n a, 1)) (hi : (a : Nat) = i) (hn : i < X.2.2.1.2.2.2) (h : lv_pick ((i, iV x) :: lv.filter (fun q => !(q.1 == i) && !(q.1 + 1 == i && q.2.category == 2))) ks = lv') (k : cW X nc ns (pc + 1) lv' st ws) : cW X nc ns pc lv (iV x :: st) ws := fun H locs ls hP hD hS hl => lv_istore_n F.hx F.hb hd hi hl hn rfl fun ls' hl' => k H locs ls' hP hD hS (lv_sub hl' ks h)
theorem q_istore (F : mF X E own cc Ts) (ks : List Nat) {i : Nat} {x : Int} (hd : decode cc pc = .ok (.istore i, 2)) (hn : i < X.2.2.1.2.2.2) (h : lv_pick ((i, iV x) :: lv.filter (fun q => !(q.1 == i) && !(q.1 + 1 == i && q.2.category == 2))) ks = lv') (k : cW X nc ns (pc + 2) lv' st ws) : cW X nc ns pc lv (iV x :: st) ws := fun H locs ls hP hD hS hl => lv_istore F.hx F.hb hd hl hn rfl fun ls' hl' => k H locs ls' hP hD hS (lv_sub hl' ks h)
theorem q_lstore_n (F : mF X E own cc Ts) (ks : List Nat) {a : Fin 4} {i : Nat} {x : Int} (hd : decode cc pc = .ok (.lstore_n a, 1)) (hi : (a : Nat) = i) (hn : i + 1 < X.2.2.1.2.2.2) (h : lv_pick ((i, jV x) :: lv.filter (fun q => !(q.1 == i) && (!(q.1 == i + 1) && !(q.1 + 1 == i && q.2.category == 2)))) ks = lv') (k : cW X nc ns (pc + 1) lv' st ws) : cW X nc ns pc lv (jV x :: st) ws := fun H locs ls hP hD hS hl => lv_lstore_n F.hx F.hb hd hi hl hn rfl fun ls' hl' => k H locs ls' hP hD hS (lv_sub hl' ks h)
theorem q_astore_n (F : mF X E own cc Ts) (ks : List Nat) {a : Fin 4} {i x : Nat} (hd : decode cc pc = .ok (.astore_n a, 1)) (hi : (a : Nat) = i) (hn : i < X.2.2.1.2.2.2) (h : lv_pick ((i, .ref x) :: lv.filter (fun q => !(q.1 == i) && !(q.1 + 1 == i && q.2.category == 2))) ks = lv') (k : cW X nc ns (pc + 1) lv' st ws) : cW X nc ns pc lv (.ref x :: st) ws := fun H locs ls hP hD hS hl => lv_astore_n F.hx F.hb hd hi hl hn rfl fun ls' hl' => k H locs ls' hP hD hS (lv_sub hl' ks h)
theorem q_astore (F : mF X E own cc Ts) (ks : List Nat) {i x : Nat} (hd : decode cc pc = .ok (.astore i, 2)) (hn : i < X.2.2.1.2.2.2) (h : lv_pick ((i, .ref x) :: lv.filter (fun q => !(q.1 == i) && !(q.1 + 1 == i && q.2.category == 2))) ks = lv') (k : cW X nc ns (pc + 2) lv' st ws) : cW X nc ns pc lv (.ref x :: st) ws := fun H locs ls hP hD hS hl => lv_astore F.hx F.hb hd hl hn rfl fun ls' hl' => k H locs ls' hP hD hS (lv_sub hl' ks h)
theorem q_iinc (F : mF X E own cc Ts) (j : Nat) (ks : List Nat) {i : Nat} {n x y : Int} (hd : decode cc pc = .ok (.iinc i n, 3)) (hj : lv[j]? = some (i, iV x)) (hn : i < X.2.2.1.2.2.2) (hy : x + n = y) (h : lv_pick ((i, iV y) :: lv.filter (fun q => !(q.1 == i) && !(q.1 + 1 == i && q.2.category == 2))) ks = lv') (k : cW X nc ns (pc + 3) lv' st ws) : cW X nc ns pc lv st ws := fun H locs ls hP hD hS hl => lv_iinc F.hx F.hb hd hl (k := j) hj (by rw [← hy, Int32.ofInt_add]) hn rfl fun ls' hl' => k H locs ls' hP hD hS (lv_sub hl' ks h)
theorem q_iadd (F : mF X E own cc Ts) {x y : Int} (hd : decode cc pc = .ok (.iadd, 1)) (k : cW X nc ns (pc + 1) lv (iV (x + y) :: st) ws) : cW X nc ns pc lv (iV y :: iV x :: st) ws := fun H locs ls hP hD hS hl => lv_iadd F.hx F.hb hd (by rw [← Int32.ofInt_add]; exact k H locs ls hP hD hS hl)
theorem q_isub (F : mF X E own cc Ts) {x y : Int} (hd : decode cc pc = .ok (.isub, 1)) (k : cW X nc ns (pc + 1) lv (iV (x - y) :: st) ws) : cW X nc ns pc lv (iV y :: iV x :: st) ws := fun H locs ls hP hD hS hl => lv_isub F.hx F.hb hd (by rw [← Int32.ofInt_sub]; exact k H locs ls hP hD hS hl)
theorem q_imul (F : mF X E own cc Ts) {x y : Int} (hd : decode cc pc = .ok (.imul, 1)) (k : cW X nc ns (pc + 1) lv (iV (x * y) :: st) ws) : cW X nc ns pc lv (iV y :: iV x :: st) ws := fun H locs ls hP hD hS hl => lv_imul F.hx F.hb hd (by rw [← Int32.ofInt_mul]; exact k H locs ls hP hD hS hl)
theorem q_idiv (F : mF X E own cc Ts) {x y : Int} (h : (0 ≤ x ∧ x < 2147483648) ∧ 0 < y ∧ y < 2147483648) (hd : decode cc pc = .ok (.idiv, 1)) (k : cW X nc ns (pc + 1) lv (iV (x / y) :: st) ws) : cW X nc ns pc lv (iV y :: iV x :: st) ws := fun H locs ls hP hD hS hl => lv_idiv F.hx F.hb hd (ti_ne0 h.2.1 h.2.2) (by rw [ti_div h.1.1 h.1.2 h.2.1 h.2.2]; exact k H locs ls hP hD hS hl)
theorem q_irem (F : mF X E own cc Ts) {x y : Int} (h : (0 ≤ x ∧ x < 2147483648) ∧ 0 < y ∧ y < 2147483648) (hd : decode cc pc = .ok (.irem, 1)) (k : cW X nc ns (pc + 1) lv (iV (x % y) :: st) ws) : cW X nc ns pc lv (iV y :: iV x :: st) ws := fun H locs ls hP hD hS hl => lv_irem F.hx F.hb hd (ti_ne0 h.2.1 h.2.2) (by rw [ti_rem h.1.1 h.1.2 h.2.1 h.2.2]; exact k H locs ls hP hD hS hl)
theorem q_iand (F : mF X E own cc Ts) {x y : Int} (hd : decode cc pc = .ok (.iand, 1)) (k : cW X nc ns (pc + 1) lv (iV (iAnd x y) :: st) ws) : cW X nc ns pc lv (iV y :: iV x :: st) ws := fun H locs ls hP hD hS hl => lv_iand F.hx F.hb hd (by have h := k H locs ls hP hD hS hl; rw [iV, iAnd, Int32.ofInt_toInt] at h; exact h)
theorem q_ior (F : mF X E own cc Ts) {x y : Int} (hd : decode cc pc = .ok (.ior, 1)) (k : cW X nc ns (pc + 1) lv (iV (iOr x y) :: st) ws) : cW X nc ns pc lv (iV y :: iV x :: st) ws := fun H locs ls hP hD hS hl => lv_ior F.hx F.hb hd (by have h := k H locs ls hP hD hS hl; rw [iV, iOr, Int32.ofInt_toInt] at h; exact h)
theorem q_ixor (F : mF X E own cc Ts) {x y : Int} (hd : decode cc pc = .ok (.ixor, 1)) (k : cW X nc ns (pc + 1) lv (iV (iXor x y) :: st) ws) : cW X nc ns pc lv (iV y :: iV x :: st) ws := fun H locs ls hP hD hS hl => lv_ixor F.hx F.hb hd (by have h := k H locs ls hP hD hS hl; rw [iV, iXor, Int32.ofInt_toInt] at h; exact h)
theorem q_ishl (F : mF X E own cc Ts) {x y : Int} (hd : decode cc pc = .ok (.ishl, 1)) (k : cW X nc ns (pc + 1) lv (iV (iShl x y) :: st) ws) : cW X nc ns pc lv (iV y :: iV x :: st) ws := fun H locs ls hP hD hS hl => lv_ishl F.hx F.hb hd (by have h := k H locs ls hP hD hS hl; rw [iV, iShl, Int32.ofInt_toInt] at h; exact h)
theorem q_ishr (F : mF X E own cc Ts) {x y : Int} (hd : decode cc pc = .ok (.ishr, 1)) (k : cW X nc ns (pc + 1) lv (iV (iShr x y) :: st) ws) : cW X nc ns pc lv (iV y :: iV x :: st) ws := fun H locs ls hP hD hS hl => lv_ishr F.hx F.hb hd (by have h := k H locs ls hP hD hS hl; rw [iV, iShr, Int32.ofInt_toInt] at h; exact h)
theorem q_ladd (F : mF X E own cc Ts) {x y : Int} (hd : decode cc pc = .ok (.ladd, 1)) (k : cW X nc ns (pc + 1) lv (jV (x + y) :: st) ws) : cW X nc ns pc lv (jV y :: jV x :: st) ws := fun H locs ls hP hD hS hl => lv_ladd F.hx F.hb hd (by rw [← Int64.ofInt_add]; exact k H locs ls hP hD hS hl)
theorem q_lmul (F : mF X E own cc Ts) {x y : Int} (hd : decode cc pc = .ok (.lmul, 1)) (k : cW X nc ns (pc + 1) lv (jV (x * y) :: st) ws) : cW X nc ns pc lv (jV y :: jV x :: st) ws := fun H locs ls hP hD hS hl => lv_lmul F.hx F.hb hd (by rw [← Int64.ofInt_mul]; exact k H locs ls hP hD hS hl)
theorem ti_l {x : Int} (h : inR x) : (Int32.ofInt x).toInt64 = Int64.ofInt x := by
  have e1 : (Int32.minValue.toInt : Int) = -2147483648 := by decide
  have e2 : (Int32.maxValue.toInt : Int) = 2147483647 := by decide
  unfold inR at h
  exact Int32.toInt64_ofInt (by omega) (by omega)
theorem q_i2l (F : mF X E own cc Ts) {x : Int} (h : inR x) (hd : decode cc pc = .ok (.i2l, 1)) (k : cW X nc ns (pc + 1) lv (jV x :: st) ws) : cW X nc ns pc lv (iV x :: st) ws := fun H locs ls hP hD hS hl => lv_i2l F.hx F.hb hd (ti_l h) (k H locs ls hP hD hS hl)
theorem q_dup (F : mF X E own cc Ts) {v : Value} (hd : decode cc pc = .ok (.dup, 1)) (hc : v.category = 1) (k : cW X nc ns (pc + 1) lv (v :: v :: st) ws) : cW X nc ns pc lv (v :: st) ws := fun H locs ls hP hD hS hl => lv_dup F.hx F.hb hd hc (k H locs ls hP hD hS hl)
theorem q_dup2 (F : mF X E own cc Ts) {v w : Value} (hd : decode cc pc = .ok (.dup2, 1)) (hc : v.category = 1) (hc2 : w.category = 1) (k : cW X nc ns (pc + 1) lv (v :: w :: v :: w :: st) ws) : cW X nc ns pc lv (v :: w :: st) ws := fun H locs ls hP hD hS hl => lv_dup2_11 F.hx F.hb hd hc hc2 (k H locs ls hP hD hS hl)
theorem q_pop (F : mF X E own cc Ts) {v : Value} (hd : decode cc pc = .ok (.pop, 1)) (hc : v.category = 1) (k : cW X nc ns (pc + 1) lv st ws) : cW X nc ns pc lv (v :: st) ws := fun H locs ls hP hD hS hl => lv_pop F.hx F.hb hd hc (k H locs ls hP hD hS hl)
theorem q_goto (F : mF X E own cc Ts) {off : Int} (tgt : Nat) (hd : decode cc pc = .ok (.goto off, 3)) (ht : (pc : Int) + off = (tgt : Int)) (k : cW X nc ns tgt lv st ws) : cW X nc ns pc lv st ws := fun H locs ls hP hD hS hl => lv_goto F.hx F.hb hd ht (k H locs ls hP hD hS hl)
theorem q_if_eq (F : mF X E own cc Ts) {x : Int} (hx : inR x) {off : Int} (tgt : Nat) (hd : decode cc pc = .ok (.ifCond .eq off, 3)) (ht : (pc : Int) + off = (tgt : Int)) (kt : x = 0 → cW X nc ns tgt lv st ws) (kf : ¬ x = 0 → cW X nc ns (pc + 3) lv st ws) : cW X nc ns pc lv (iV x :: st) ws := fun H locs ls hP hD hS hl => lv_if_eq F.hx F.hb hd ht (fun h => kt ((ti_eq hx ti_0).mp h) H locs ls hP hD hS hl) (fun h => kf (fun z => h ((ti_eq hx ti_0).mpr z)) H locs ls hP hD hS hl)
theorem q_if_ne (F : mF X E own cc Ts) {x : Int} (hx : inR x) {off : Int} (tgt : Nat) (hd : decode cc pc = .ok (.ifCond .ne off, 3)) (ht : (pc : Int) + off = (tgt : Int)) (kt : ¬ x = 0 → cW X nc ns tgt lv st ws) (kf : x = 0 → cW X nc ns (pc + 3) lv st ws) : cW X nc ns pc lv (iV x :: st) ws := fun H locs ls hP hD hS hl => lv_if_ne F.hx F.hb hd ht (fun h => kt (fun z => h ((ti_eq hx ti_0).mpr z)) H locs ls hP hD hS hl) (fun h => kf ((ti_eq hx ti_0).mp h) H locs ls hP hD hS hl)
theorem q_if_lt (F : mF X E own cc Ts) {x : Int} (hx : inR x) {off : Int} (tgt : Nat) (hd : decode cc pc = .ok (.ifCond .lt off, 3)) (ht : (pc : Int) + off = (tgt : Int)) (kt : x < 0 → cW X nc ns tgt lv st ws) (kf : ¬ x < 0 → cW X nc ns (pc + 3) lv st ws) : cW X nc ns pc lv (iV x :: st) ws := fun H locs ls hP hD hS hl => lv_if_lt F.hx F.hb hd ht (fun h => kt ((ti_lt hx ti_0).mp h) H locs ls hP hD hS hl) (fun h => kf (fun z => h ((ti_lt hx ti_0).mpr z)) H locs ls hP hD hS hl)
theorem q_if_ge (F : mF X E own cc Ts) {x : Int} (hx : inR x) {off : Int} (tgt : Nat) (hd : decode cc pc = .ok (.ifCond .ge off, 3)) (ht : (pc : Int) + off = (tgt : Int)) (kt : 0 ≤ x → cW X nc ns tgt lv st ws) (kf : ¬ 0 ≤ x → cW X nc ns (pc + 3) lv st ws) : cW X nc ns pc lv (iV x :: st) ws := fun H locs ls hP hD hS hl => lv_if_ge F.hx F.hb hd ht (fun h => kt ((ti_le ti_0 hx).mp h) H locs ls hP hD hS hl) (fun h => kf (fun z => h ((ti_le ti_0 hx).mpr z)) H locs ls hP hD hS hl)
theorem q_if_gt (F : mF X E own cc Ts) {x : Int} (hx : inR x) {off : Int} (tgt : Nat) (hd : decode cc pc = .ok (.ifCond .gt off, 3)) (ht : (pc : Int) + off = (tgt : Int)) (kt : 0 < x → cW X nc ns tgt lv st ws) (kf : ¬ 0 < x → cW X nc ns (pc + 3) lv st ws) : cW X nc ns pc lv (iV x :: st) ws := fun H locs ls hP hD hS hl => lv_if_gt F.hx F.hb hd ht (fun h => kt ((ti_lt ti_0 hx).mp h) H locs ls hP hD hS hl) (fun h => kf (fun z => h ((ti_lt ti_0 hx).mpr z)) H locs ls hP hD hS hl)
theorem q_if_le (F : mF X E own cc Ts) {x : Int} (hx : inR x) {off : Int} (tgt : Nat) (hd : decode cc pc = .ok (.ifCond .le off, 3)) (ht : (pc : Int) + off = (tgt : Int)) (kt : x ≤ 0 → cW X nc ns tgt lv st ws) (kf : ¬ x ≤ 0 → cW X nc ns (pc + 3) lv st ws) : cW X nc ns pc lv (iV x :: st) ws := fun H locs ls hP hD hS hl => lv_if_le F.hx F.hb hd ht (fun h => kt ((ti_le hx ti_0).mp h) H locs ls hP hD hS hl) (fun h => kf (fun z => h ((ti_le hx ti_0).mpr z)) H locs ls hP hD hS hl)
theorem q_icmp_eq (F : mF X E own cc Ts) {x y : Int} (hx : inR x) (hy : inR y) {off : Int} (tgt : Nat) (hd : decode cc pc = .ok (.if_icmp .eq off, 3)) (ht : (pc : Int) + off = (tgt : Int)) (kt : x = y → cW X nc ns tgt lv st ws) (kf : ¬ x = y → cW X nc ns (pc + 3) lv st ws) : cW X nc ns pc lv (iV y :: iV x :: st) ws := fun H locs ls hP hD hS hl => lv_icmp_eq F.hx F.hb hd ht (fun h => kt ((ti_eq hx hy).mp h) H locs ls hP hD hS hl) (fun h => kf (fun z => h ((ti_eq hx hy).mpr z)) H locs ls hP hD hS hl)
theorem q_icmp_ne (F : mF X E own cc Ts) {x y : Int} (hx : inR x) (hy : inR y) {off : Int} (tgt : Nat) (hd : decode cc pc = .ok (.if_icmp .ne off, 3)) (ht : (pc : Int) + off = (tgt : Int)) (kt : ¬ x = y → cW X nc ns tgt lv st ws) (kf : x = y → cW X nc ns (pc + 3) lv st ws) : cW X nc ns pc lv (iV y :: iV x :: st) ws := fun H locs ls hP hD hS hl => lv_icmp_ne F.hx F.hb hd ht (fun h => kt (fun z => h ((ti_eq hx hy).mpr z)) H locs ls hP hD hS hl) (fun h => kf ((ti_eq hx hy).mp h) H locs ls hP hD hS hl)
theorem q_icmp_lt (F : mF X E own cc Ts) {x y : Int} (hx : inR x) (hy : inR y) {off : Int} (tgt : Nat) (hd : decode cc pc = .ok (.if_icmp .lt off, 3)) (ht : (pc : Int) + off = (tgt : Int)) (kt : x < y → cW X nc ns tgt lv st ws) (kf : ¬ x < y → cW X nc ns (pc + 3) lv st ws) : cW X nc ns pc lv (iV y :: iV x :: st) ws := fun H locs ls hP hD hS hl => lv_icmp_lt F.hx F.hb hd ht (fun h => kt ((ti_lt hx hy).mp h) H locs ls hP hD hS hl) (fun h => kf (fun z => h ((ti_lt hx hy).mpr z)) H locs ls hP hD hS hl)
theorem q_icmp_ge (F : mF X E own cc Ts) {x y : Int} (hx : inR x) (hy : inR y) {off : Int} (tgt : Nat) (hd : decode cc pc = .ok (.if_icmp .ge off, 3)) (ht : (pc : Int) + off = (tgt : Int)) (kt : y ≤ x → cW X nc ns tgt lv st ws) (kf : ¬ y ≤ x → cW X nc ns (pc + 3) lv st ws) : cW X nc ns pc lv (iV y :: iV x :: st) ws := fun H locs ls hP hD hS hl => lv_icmp_ge F.hx F.hb hd ht (fun h => kt ((ti_le hy hx).mp h) H locs ls hP hD hS hl) (fun h => kf (fun z => h ((ti_le hy hx).mpr z)) H locs ls hP hD hS hl)
theorem q_icmp_gt (F : mF X E own cc Ts) {x y : Int} (hx : inR x) (hy : inR y) {off : Int} (tgt : Nat) (hd : decode cc pc = .ok (.if_icmp .gt off, 3)) (ht : (pc : Int) + off = (tgt : Int)) (kt : y < x → cW X nc ns tgt lv st ws) (kf : ¬ y < x → cW X nc ns (pc + 3) lv st ws) : cW X nc ns pc lv (iV y :: iV x :: st) ws := fun H locs ls hP hD hS hl => lv_icmp_gt F.hx F.hb hd ht (fun h => kt ((ti_lt hy hx).mp h) H locs ls hP hD hS hl) (fun h => kf (fun z => h ((ti_lt hy hx).mpr z)) H locs ls hP hD hS hl)
theorem q_icmp_le (F : mF X E own cc Ts) {x y : Int} (hx : inR x) (hy : inR y) {off : Int} (tgt : Nat) (hd : decode cc pc = .ok (.if_icmp .le off, 3)) (ht : (pc : Int) + off = (tgt : Int)) (kt : x ≤ y → cW X nc ns tgt lv st ws) (kf : ¬ x ≤ y → cW X nc ns (pc + 3) lv st ws) : cW X nc ns pc lv (iV y :: iV x :: st) ws := fun H locs ls hP hD hS hl => lv_icmp_le F.hx F.hb hd ht (fun h => kt ((ti_le hx hy).mp h) H locs ls hP hD hS hl) (fun h => kf (fun z => h ((ti_le hx hy).mpr z)) H locs ls hP hD hS hl)
/-- a switch on one of its numbers, or on another one -/
theorem q_swIn (F : mF X E own cc Ts) {x : Int} (j : Nat) (hx : inR x) {dflt lo hi off : Int} {offs : Array Int} {len : Nat} (tgt : Nat) (hd : decode cc pc = .ok (.tableswitch dflt lo hi offs, len)) (hj : x = lo + j) (hh : ¬ hi < lo + j) (ho : offs[j]? = some off) (ht : (pc : Int) + off = (tgt : Int)) (k : cW X nc ns tgt lv st ws) : cW X nc ns pc lv (iV x :: st) ws := fun H locs ls hP hD hS hl => lv_tableIn F.hx F.hb hd (by rw [ti_of hx]; omega) (by rw [ti_of hx]; omega) (by rw [ti_of hx, hj, show (lo + (j : Int) - lo).toNat = j by omega]; exact ho) ht (k H locs ls hP hD hS hl)
theorem q_swOut (F : mF X E own cc Ts) {x : Int} (hx : inR x) {dflt lo hi : Int} {offs : Array Int} {len : Nat} (tgt : Nat) (hd : decode cc pc = .ok (.tableswitch dflt lo hi offs, len)) (h : x < lo ∨ hi < x) (ht : (pc : Int) + dflt = (tgt : Int)) (k : cW X nc ns tgt lv st ws) : cW X nc ns pc lv (iV x :: st) ws := fun H locs ls hP hD hS hl => lv_tableOut F.hx F.hb hd (by rw [ti_of hx]; exact h) ht (k H locs ls hP hD hS hl)
end ROWS
end
section
/-! ===== worlds of numbered things ===== -/
def gw (ad : Nat → Nat) (ids : List Nat) (e : Nat → va_E) : va_W := ids.map (fun i => (ad i, e i))
def gA (ad : Nat → Nat) (ids : List Nat) (sz : Nat) : Nat → Prop := fun q => (∃ i, i ∈ ids ∧ q = ad i) ∨ sz ≤ q
theorem gw_get {ad : Nat → Nat} {ids : List Nat} {e : Nat → va_E} {T : va_W} {i : Nat} (hi : i ∈ ids) : ∃ k : Nat, (gw ad ids e ++ T)[k]? = some (ad i, e i) ∧ ids[k]? = some i := by
  obtain ⟨k, hk⟩ := List.getElem?_of_mem hi
  refine ⟨k, ?_, hk⟩
  have hl : k < (gw ad ids e).length := by unfold gw; rw [List.length_map]; exact (List.getElem?_eq_some_iff.mp hk).1
  rw [List.getElem?_append_left hl]
  unfold gw
  rw [List.getElem?_map, hk]
  rfl
theorem gw_tmp {ad : Nat → Nat} {ids : List Nat} {e : Nat → va_E} {T : va_W} (j : Nat) {x : Nat × va_E} (h : T[j]? = some x) : (gw ad ids e ++ T)[ids.length + j]? = some x := by
  have hl : (gw ad ids e).length = ids.length := by unfold gw; rw [List.length_map]
  rw [List.getElem?_append_right (by omega), hl, Nat.add_sub_cancel_left]
  exact h
theorem gw_setT {ad : Nat → Nat} {ids : List Nat} {e : Nat → va_E} {T : va_W} (j : Nat) (x : Nat × va_E) : (gw ad ids e ++ T).set (ids.length + j) x = gw ad ids e ++ T.set j x := by
  have hl : (gw ad ids e).length = ids.length := by unfold gw; rw [List.length_map]
  rw [List.set_append_right _ _ (by omega), hl, Nat.add_sub_cancel_left]
theorem gw_set {ad : Nat → Nat} {ids : List Nat} {e e' : Nat → va_E} {T : va_W} {i k : Nat} {x : va_E} (hnd : ids.Nodup) (hk : ids[k]? = some i) (hx : e' i = x) (hne : ∀ j, j ≠ i → e' j = e j) : (gw ad ids e ++ T).set k (ad i, x) = gw ad ids e' ++ T := by
  have hkl : k < ids.length := (List.getElem?_eq_some_iff.mp hk).1
  have hl : (gw ad ids e).length = ids.length := by unfold gw; rw [List.length_map]
  rw [List.set_append_left _ _ (by omega)]
  congr 1
  apply List.ext_getElem?
  intro j
  unfold gw
  rw [List.getElem?_map]
  by_cases hj : j = k
  · subst hj
    rw [List.getElem?_set_self (by rw [List.length_map]; exact hkl), hk, ← hx]
    rfl
  · rw [List.getElem?_set_ne (fun z => hj z.symm), List.getElem?_map]
    cases hq : ids[j]? with
    | none => rfl
    | some a =>
      have ha : a ≠ i := fun z => hj ((List.getElem?_inj (List.getElem?_eq_some_iff.mp hq).1 hnd).mp (hq.trans (by rw [z, hk])))
      show some (ad a, e a) = some (ad a, e' a)
      rw [hne a ha]
theorem gw_D {ad : Nat → Nat} {ids : List Nat} {e e' : Nat → va_E} {A : Nat → Prop} (h : va_D A (gw ad ids e)) : va_D A (gw ad ids e') := by
  have key : ∀ (f : Nat → va_E) (k : Nat) (q : Nat × va_E), (gw ad ids f)[k]? = some q → ∃ i, ids[k]? = some i ∧ q = (ad i, f i) := by
    intro f k q hq
    unfold gw at hq
    rw [List.getElem?_map] at hq
    cases hk : ids[k]? with
    | none => rw [hk] at hq; cases hq
    | some i => rw [hk] at hq; exact ⟨i, rfl, (Option.some.inj hq).symm⟩
  have back : ∀ (k i : Nat), ids[k]? = some i → (gw ad ids e)[k]? = some (ad i, e i) := by
    intro k i hk
    unfold gw
    rw [List.getElem?_map, hk]
    rfl
  refine ⟨fun i j p q hp hq hpq => ?_, fun k q hq => ?_⟩
  · obtain ⟨a, ha, rfl⟩ := key _ i p hp
    obtain ⟨b, hb, rfl⟩ := key _ j q hq
    exact h.1 i j _ _ (back i a ha) (back j b hb) hpq
  · obtain ⟨a, ha, rfl⟩ := key _ k q hq
    have := h.2 k _ (back k a ha)
    exact this
theorem gw_A {ad : Nat → Nat} {ids : List Nat} {e : Nat → va_E} {A : Nat → Prop} {sz : Nat} (h : va_D A (gw ad ids e)) : va_D (gA ad ids sz) (gw ad ids e) := by
  refine ⟨h.1, fun k q hq => Or.inl ?_⟩
  unfold gw at hq
  rw [List.getElem?_map] at hq
  cases hk : ids[k]? with
  | none => rw [hk] at hq; cases hq
  | some i =>
    rw [hk] at hq
    cases hq
    exact ⟨i, List.mem_of_getElem? hk, rfl⟩
theorem gw_left {ad : Nat → Nat} {ids : List Nat} {e : Nat → va_E} {T : va_W} {A : Nat → Prop} (h : va_D A (gw ad ids e ++ T)) : va_D A (gw ad ids e) := by
  have key : ∀ (k : Nat) (q : Nat × va_E), (gw ad ids e)[k]? = some q → (gw ad ids e ++ T)[k]? = some q := by
    intro k q hq
    rw [List.getElem?_append_left (List.getElem?_eq_some_iff.mp hq).1]
    exact hq
  exact ⟨fun i j p q hp hq hpq => h.1 i j p q (key i p hp) (key j q hq) hpq, fun k q hq => h.2 k q (key k q hq)⟩
theorem gP_left {D : va_G} {w T : va_W} {H : Heap} (h : va_P D vwCl (w ++ T) H) : va_P D vwCl w H := fun k q hq => h k q (by rw [List.getElem?_append_left (List.getElem?_eq_some_iff.mp hq).1]; exact hq)
theorem gP_right {D : va_G} {w T : va_W} {H : Heap} (h : va_P D vwCl (w ++ T) H) : va_P D vwCl T H := fun k q hq => h (w.length + k) q (by rw [List.getElem?_append_right (by omega), Nat.add_sub_cancel_left]; exact hq)
/-- behind a call that may change the numbered things alone: what stands beside them stays -/
theorem gP_join {D : va_G} {ad : Nat → Nat} {ids : List Nat} {e e' : Nat → va_E} {T : va_W} {A : Nat → Prop} {H H1 : Heap} (hP : va_P D vwCl (gw ad ids e ++ T) H) (hD : va_D A (gw ad ids e ++ T)) (hk : ∀ q : Nat, q < H.size → ¬ gA ad ids H.size q → H1[q]? = H[q]?) (hP1 : va_P D vwCl (gw ad ids e') H1) : va_P D vwCl (gw ad ids e' ++ T) H1 := by
  refine va_P.app hP1 (va_P.kept (gP_right hP) (fun k q hq => ?_))
  have hat : (gw ad ids e ++ T)[(gw ad ids e).length + k]? = some q := by rw [List.getElem?_append_right (by omega), Nat.add_sub_cancel_left]; exact hq
  refine hk q.1 ((gP_right hP k q hq).lt) (fun z => ?_)
  rcases z with ⟨i, hi, hqi⟩ | z
  · obtain ⟨k2, h2, -⟩ := gw_get (ad := ad) (e := e) (T := T) hi
    have hl2 : k2 < (gw ad ids e).length ∨ ¬ k2 < (gw ad ids e).length := Classical.em _
    obtain ⟨k3, h3⟩ := List.getElem?_of_mem hi
    have h4 : (gw ad ids e ++ T)[k3]? = some (ad i, e i) := by
      have hl3 : k3 < (gw ad ids e).length := by unfold gw; rw [List.length_map]; exact (List.getElem?_eq_some_iff.mp h3).1
      rw [List.getElem?_append_left hl3]
      unfold gw
      rw [List.getElem?_map, h3]
      rfl
    have hl3 : k3 < (gw ad ids e).length := by unfold gw; rw [List.length_map]; exact (List.getElem?_eq_some_iff.mp h3).1
    have := hD.1 _ _ _ _ hat h4 hqi
    omega
  · have := (gP_right hP k q hq).lt
    omega
theorem gD_join {ad : Nat → Nat} {ids : List Nat} {e e' : Nat → va_E} {T : va_W} {A : Nat → Prop} (hD : va_D A (gw ad ids e ++ T)) : va_D A (gw ad ids e' ++ T) := by
  have key : ∀ (k : Nat) (q : Nat × va_E), (gw ad ids e' ++ T)[k]? = some q → ∃ q', (gw ad ids e ++ T)[k]? = some q' ∧ q'.1 = q.1 := by
    intro k q hq
    have hl : (gw ad ids e).length = (gw ad ids e').length := by unfold gw; rw [List.length_map, List.length_map]
    by_cases h : k < (gw ad ids e').length
    · rw [List.getElem?_append_left h] at hq
      unfold gw at hq
      rw [List.getElem?_map] at hq
      cases hk : ids[k]? with
      | none => rw [hk] at hq; cases hq
      | some i =>
        rw [hk] at hq
        cases hq
        refine ⟨(ad i, e i), ?_, rfl⟩
        rw [List.getElem?_append_left (by omega)]
        unfold gw
        rw [List.getElem?_map, hk]
        rfl
    · rw [List.getElem?_append_right (by omega)] at hq
      exact ⟨q, by rw [List.getElem?_append_right (by omega), hl]; exact hq, rfl⟩
  refine ⟨fun i j p q hp hq hpq => ?_, fun k q hq => ?_⟩
  · obtain ⟨p', h1, h2⟩ := key i p hp
    obtain ⟨q', h3, h4⟩ := key j q hq
    exact hD.1 i j p' q' h1 h3 (h2.trans (hpq.trans h4.symm))
  · obtain ⟨q', h1, h2⟩ := key k q hq
    rw [← h2]
    exact hD.2 k q' h1
/-- rows of numbers, of references to numbered things -/
abbrev iA (E : cE) (n : Nat) (g : Int → Int) : va_E := .inl ((yI E), n, .inl (fun j => Int32.ofInt (g (j : Int))))
abbrev rA (E : cE) (c : ClassId) (n : Nat) (g : Int → Nat) : va_E := .inl (c, n, .inr (.inr (.inr (.inr (fun j => some (E.1 (g (j : Int))))))))
section GROWS
variable {X : xC} {E : cE} {own : String} {cc : ByteArray} {Ts : List Cond} {nc ns pc : Nat} {lv lv' : List (Nat × Value)} {st : List Value} {ids : List Nat} {e e' : Nat → va_E} {T : va_W} {i : Nat}
theorem g_get (F : mF X E own cc Ts) (hi : i ∈ ids) {ci : Nat} {fs : List Value} (he : e i = .inr (ci, fs)) {C ref : String} {TT : u_T} {N index : Nat} (hc : vwCl[ci]? = some (C, TT, N)) (hin : ∀ w ∈ u_ws C TT N, w ∈ Ts) (k : Nat) (hk : k < N) (hl : Cond.fieldLink own index ref (TT k).2.1 (TT k).2.2.1 ∈ Ts) (hr : (TT k).1 = ref) {v : Value} (hv : fs[k]? = some v) (hd : decode cc pc = .ok (.getfield index, 3))
    (kk : cW X nc ns (pc + 3) lv (v :: st) (gw E.1 ids e ++ T)) : cW X nc ns pc lv (.ref (E.1 i) :: st) (gw E.1 ids e ++ T) := by
  intro H locs ls hP hD hS hlv
  obtain ⟨q, hq, -⟩ := gw_get (ad := E.1) (e := e) (T := T) hi
  rw [he] at hq
  exact va_get F.hx F.hb F.ht hin F.ho F.hK hP q hq hc k hk (F.ht _ hl) (fun x h => by rw [← hr]; exact h) hv hd (kk H locs ls hP hD hS hlv)
theorem g_put (F : mF X E own cc Ts) (hnd : ids.Nodup) (hi : i ∈ ids) {ci : Nat} {fs : List Value} (he : e i = .inr (ci, fs)) {C ref : String} {TT : u_T} {N index : Nat} (hc : vwCl[ci]? = some (C, TT, N)) (hin : ∀ w ∈ u_ws C TT N, w ∈ Ts) (ty0 : Nat → FieldType) (hty : ∀ k, k < N → parseFieldDescriptor (TT k).2.2.1 = some (ty0 k)) (hnm : ∀ a, a < N → ∀ b, b < N → a ≠ b → (TT a).2.1 ≠ (TT b).2.1) (k : Nat) (hk : k < N) (hl : Cond.fieldLink own index ref (TT k).2.1 (TT k).2.2.1 ∈ Ts) (hr : (TT k).1 = ref) (hfin : (TT k).2.2.2 = false) {ty : FieldType} {v : Value} (hdd : parseFieldDescriptor (TT k).2.2.1 = some ty) (hn : narrow ty v = v) (hfit : fits ty v = true) (hlen : k < fs.length)
    (hset : e' i = .inr (ci, fs.set k v)) (hne : ∀ j, j ≠ i → e' j = e j) (hd : decode cc pc = .ok (.putfield index, 3))
    (kk : cW X nc ns (pc + 3) lv st (gw E.1 ids e' ++ T)) : cW X nc ns pc lv (v :: .ref (E.1 i) :: st) (gw E.1 ids e ++ T) := by
  intro H locs ls hP hD hS hlv
  obtain ⟨q, hq, hqi⟩ := gw_get (ad := E.1) (e := e) (T := T) hi
  rw [he] at hq
  refine va_put F.hx F.hb F.ht hin ty0 hty hnm F.ho F.hK hP hD hS q hq hc k hk (F.ht _ hl) (fun x h => by rw [← hr]; exact h) hfin hdd hn hfit hlen hd (fun H1 locs1 hP1 hD1 hS1 => ?_)
  rw [gw_set hnd hqi hset hne] at hP1 hD1
  exact kk H1 locs1 ls hP1 hD1 hS1 hlv
theorem g_ald (F : mF X E own cc Ts) (hi : i ∈ ids) {n : Nat} {g : Int → Int} (he : e i = iA E n g) {x : Int} (h : 0 ≤ x ∧ x < n) (hn : n < 2147483648) (hd : decode cc pc = .ok (.iaload, 1))
    (kk : cW X nc ns (pc + 1) lv (iV (g x) :: st) (gw E.1 ids e ++ T)) : cW X nc ns pc lv (iV x :: .ref (E.1 i) :: st) (gw E.1 ids e ++ T) := by
  intro H locs ls hP hD hS hlv
  obtain ⟨q, hq, -⟩ := gw_get (ad := E.1) (e := e) (T := T) hi
  rw [he] at hq
  refine va_iald F.hx F.hb F.hK hP q 0 hq rfl (ti_in h.1 h.2 hn) hd ?_
  rw [ti_cln h.1 h.2 hn, Int.toNat_of_nonneg h.1]
  exact kk H locs ls hP hD hS hlv
theorem g_ast (F : mF X E own cc Ts) (hnd : ids.Nodup) (hi : i ∈ ids) {n : Nat} {g : Int → Int} (he : e i = iA E n g) {x y : Int} (h : 0 ≤ x ∧ x < n) (hn : n < 2147483648) (hset : e' i = iA E n (fun j => if j = x then y else g j)) (hne : ∀ j, j ≠ i → e' j = e j) (hd : decode cc pc = .ok (.iastore, 1))
    (kk : cW X nc ns (pc + 1) lv st (gw E.1 ids e' ++ T)) : cW X nc ns pc lv (iV y :: iV x :: .ref (E.1 i) :: st) (gw E.1 ids e ++ T) := by
  intro H locs ls hP hD hS hlv
  obtain ⟨q, hq, hqi⟩ := gw_get (ad := E.1) (e := e) (T := T) hi
  rw [he] at hq
  refine va_iast F.hx F.hb F.hK hP hD hS q 0 hq rfl (ti_in h.1 h.2 hn) hd (fun H1 locs1 hP1 hD1 hS1 => ?_)
  have hu : upd (fun j : Nat => Int32.ofInt (g (j : Int))) (Int32.ofInt x).toNatClampNeg (Int32.ofInt y) = fun j : Nat => Int32.ofInt (if (j : Int) = x then y else g (j : Int)) := by
    rw [ti_cln h.1 h.2 hn]
    funext j
    unfold upd
    by_cases hj : j = x.toNat
    · rw [if_pos hj, if_pos (by omega)]
    · rw [if_neg hj, if_neg (by omega)]
  rw [hu] at hP1 hD1
  rw [gw_set hnd hqi hset hne] at hP1 hD1
  exact kk H1 locs1 ls hP1 hD1 hS1 hlv
theorem g_alen (F : mF X E own cc Ts) (hi : i ∈ ids) {n : Nat} {g : Int → Int} (he : e i = iA E n g) (hd : decode cc pc = .ok (.arraylength, 1))
    (kk : cW X nc ns (pc + 1) lv (iV n :: st) (gw E.1 ids e ++ T)) : cW X nc ns pc lv (.ref (E.1 i) :: st) (gw E.1 ids e ++ T) := by
  intro H locs ls hP hD hS hlv
  obtain ⟨q, hq, -⟩ := gw_get (ad := E.1) (e := e) (T := T) hi
  rw [he] at hq
  exact va_alen F.hx F.hb F.hK hP q 0 hq rfl (Int32.ofInt_eq_ofNat.symm) hd (kk H locs ls hP hD hS hlv)
/-- the row of rules -/
theorem g_rlen (F : mF X E own cc Ts) (hi : i ∈ ids) {n : Nat} {g : Int → Nat} (he : e i = rA E (yR E) n g) (hd : decode cc pc = .ok (.arraylength, 1))
    (kk : cW X nc ns (pc + 1) lv (iV n :: st) (gw E.1 ids e ++ T)) : cW X nc ns pc lv (.ref (E.1 i) :: st) (gw E.1 ids e ++ T) := by
  intro H locs ls hP hD hS hlv
  obtain ⟨q, hq, -⟩ := gw_get (ad := E.1) (e := e) (T := T) hi
  rw [he] at hq
  exact va_alen F.hx F.hb F.hK hP q 1 hq rfl (Int32.ofInt_eq_ofNat.symm) hd (kk H locs ls hP hD hS hlv)
theorem g_rld (F : mF X E own cc Ts) (hi : i ∈ ids) {n : Nat} {g : Int → Nat} (he : e i = rA E (yR E) n g) {x : Int} (h : 0 ≤ x ∧ x < n) (hn : n < 2147483648) (hd : decode cc pc = .ok (.aaload, 1))
    (kk : cW X nc ns (pc + 1) lv (.ref (E.1 (g x)) :: st) (gw E.1 ids e ++ T)) : cW X nc ns pc lv (iV x :: .ref (E.1 i) :: st) (gw E.1 ids e ++ T) := by
  intro H locs ls hP hD hS hlv
  obtain ⟨q, hq, -⟩ := gw_get (ad := E.1) (e := e) (T := T) hi
  rw [he] at hq
  refine va_aldq F.hx F.hb F.hK hP q 1 hq rfl (ti_in h.1 h.2 hn) hd ?_
  rw [ti_cln h.1 h.2 hn, Int.toNat_of_nonneg h.1]
  exact kk H locs ls hP hD hS hlv
theorem g_rst (F : mF X E own cc Ts) (hnd : ids.Nodup) (hi : i ∈ ids) {n : Nat} {g : Int → Nat} (he : e i = rA E (yR E) n g) {x : Int} {y : Nat} (h : 0 ≤ x ∧ x < n) (hn : n < 2147483648) (hy : y ∈ ids) {fs : List Value} (hey : e y = .inr (5, fs)) (hset : e' i = rA E (yR E) n (fun j => if j = x then y else g j)) (hne : ∀ j, j ≠ i → e' j = e j) (hd : decode cc pc = .ok (.aastore, 1))
    (kk : cW X nc ns (pc + 1) lv st (gw E.1 ids e' ++ T)) : cW X nc ns pc lv (.ref (E.1 y) :: iV x :: .ref (E.1 i) :: st) (gw E.1 ids e ++ T) := by
  intro H locs ls hP hD hS hlv
  obtain ⟨q, hq, hqi⟩ := gw_get (ad := E.1) (e := e) (T := T) hi
  obtain ⟨q2, hq2, -⟩ := gw_get (ad := E.1) (e := e) (T := T) hy
  rw [he] at hq
  rw [hey] at hq2
  refine va_astq (r := (RX7, TX7, 6)) F.hx F.hb F.hK hP hD hS q 1 q2 5 hq rfl hq2 rfl (ti_in h.1 h.2 hn) hd (fun H1 locs1 hP1 hD1 hS1 => ?_)
  have hu : va_up (fun j : Nat => some (E.1 (g (j : Int)))) (Int32.ofInt x).toNatClampNeg (some (E.1 y)) = fun j : Nat => some (E.1 (if (j : Int) = x then y else g (j : Int))) := by
    rw [ti_cln h.1 h.2 hn]
    funext j
    unfold va_up
    by_cases hj : j = x.toNat
    · rw [if_pos hj, if_pos (by omega)]
    · rw [if_neg hj, if_neg (by omega)]
  rw [hu] at hP1 hD1
  rw [gw_set hnd hqi hset hne] at hP1 hD1
  exact kk H1 locs1 ls hP1 hD1 hS1 hlv
/-- the row of rows -/
theorem g_qld (F : mF X E own cc Ts) (hi : i ∈ ids) {n : Nat} {g : Int → Nat} (he : e i = rA E (yA E) n g) {x : Int} (h : 0 ≤ x ∧ x < n) (hn : n < 2147483648) (hd : decode cc pc = .ok (.aaload, 1))
    (kk : cW X nc ns (pc + 1) lv (.ref (E.1 (g x)) :: st) (gw E.1 ids e ++ T)) : cW X nc ns pc lv (iV x :: .ref (E.1 i) :: st) (gw E.1 ids e ++ T) := by
  intro H locs ls hP hD hS hlv
  obtain ⟨q, hq, -⟩ := gw_get (ad := E.1) (e := e) (T := T) hi
  rw [he] at hq
  have hlt : x.toNat < n := by omega
  have hin := ti_in h.1 h.2 hn
  have hg : (.ref (E.1 (g x)) : Value) = va_rf (some (E.1 (g ((x.toNat : Nat) : Int)))) := by rw [Int.toNat_of_nonneg h.1]; rfl
  refine W.aald (v := .ref (E.1 (g x))) (ty := .array .int) F.hx F.hb (hP q _ hq) ((F.hK.2 2 _ rfl).1 n (fun j => va_rf (some (E.1 (g (j : Int)))))) rfl (fun q => by cases q) (by show ¬ (_ < _ ∨ (arrV _ _ _).slots.size ≤ _); rw [arrV_size]; exact hin) (by show (arrV _ _ _).slots[_]? = _; rw [ti_cln h.1 h.2 hn, arrV_read _ _ hlt, hg]) rfl rfl hd (kk H locs ls hP hD hS hlv)
theorem g_qlen (F : mF X E own cc Ts) (hi : i ∈ ids) {n : Nat} {g : Int → Nat} (he : e i = rA E (yA E) n g) (hd : decode cc pc = .ok (.arraylength, 1))
    (kk : cW X nc ns (pc + 1) lv (iV n :: st) (gw E.1 ids e ++ T)) : cW X nc ns pc lv (.ref (E.1 i) :: st) (gw E.1 ids e ++ T) := by
  intro H locs ls hP hD hS hlv
  obtain ⟨q, hq, -⟩ := gw_get (ad := E.1) (e := e) (T := T) hi
  rw [he] at hq
  exact va_alen F.hx F.hb F.hK hP q 2 hq rfl (Int32.ofInt_eq_ofNat.symm) hd (kk H locs ls hP hD hS hlv)
/-- a row that the method has made, beside the world -/
theorem g_tald (F : mF X E own cc Ts) (j : Nat) {q n : Nat} {g : Int → Int} (ht : T[j]? = some (q, iA E n g)) {x : Int} (h : 0 ≤ x ∧ x < n) (hn : n < 2147483648) (hd : decode cc pc = .ok (.iaload, 1))
    (kk : cW X nc ns (pc + 1) lv (iV (g x) :: st) (gw E.1 ids e ++ T)) : cW X nc ns pc lv (iV x :: .ref q :: st) (gw E.1 ids e ++ T) := by
  intro H locs ls hP hD hS hlv
  refine va_iald F.hx F.hb F.hK hP _ 0 (gw_tmp j ht) rfl (ti_in h.1 h.2 hn) hd ?_
  rw [ti_cln h.1 h.2 hn, Int.toNat_of_nonneg h.1]
  exact kk H locs ls hP hD hS hlv
theorem g_tast (F : mF X E own cc Ts) (j : Nat) {q n : Nat} {g : Int → Int} (ht : T[j]? = some (q, iA E n g)) {x y : Int} (h : 0 ≤ x ∧ x < n) (hn : n < 2147483648) {T' : va_W} (hT : T.set j (q, iA E n (fun z => if z = x then y else g z)) = T') (hd : decode cc pc = .ok (.iastore, 1))
    (kk : cW X nc ns (pc + 1) lv st (gw E.1 ids e ++ T')) : cW X nc ns pc lv (iV y :: iV x :: .ref q :: st) (gw E.1 ids e ++ T) := by
  intro H locs ls hP hD hS hlv
  refine va_iast F.hx F.hb F.hK hP hD hS _ 0 (gw_tmp j ht) rfl (ti_in h.1 h.2 hn) hd (fun H1 locs1 hP1 hD1 hS1 => ?_)
  have hu : upd (fun j : Nat => Int32.ofInt (g (j : Int))) (Int32.ofInt x).toNatClampNeg (Int32.ofInt y) = fun j : Nat => Int32.ofInt (if (j : Int) = x then y else g (j : Int)) := by
    rw [ti_cln h.1 h.2 hn]
    funext j
    unfold upd
    by_cases hj : j = x.toNat
    · rw [if_pos hj, if_pos (by omega)]
    · rw [if_neg hj, if_neg (by omega)]
  rw [hu] at hP1 hD1
  rw [gw_setT, hT] at hP1 hD1
  exact kk H1 locs1 ls hP1 hD1 hS1 hlv
theorem g_talen (F : mF X E own cc Ts) (j : Nat) {q n : Nat} {g : Int → Int} (ht : T[j]? = some (q, iA E n g)) (hd : decode cc pc = .ok (.arraylength, 1))
    (kk : cW X nc ns (pc + 1) lv (iV n :: st) (gw E.1 ids e ++ T)) : cW X nc ns pc lv (.ref q :: st) (gw E.1 ids e ++ T) := by
  intro H locs ls hP hD hS hlv
  exact va_alen F.hx F.hb F.hK hP _ 0 (gw_tmp j ht) rfl (Int32.ofInt_eq_ofNat.symm) hd (kk H locs ls hP hD hS hlv)
/-- new int[n] -/
theorem g_tnew (F : mF X E own cc Ts) (harr : Cond.arrayClass .int ∈ Ts) {x : Int} (n : Nat) (hx : x = n) (hn : n ≤ 100000) (hc : nc + 1 ≤ X.1.2.2.2.cells) (hs : ns + n ≤ X.1.2.2.2.slots) (hd : decode cc pc = .ok (.newarray .int, 2)) {T' : Nat → va_W} (hT : ∀ q, T ++ [(q, iA E n (fun _ => 0))] = T' q)
    (kk : ∀ q : Nat, cW X (nc + 1) (ns + n) (pc + 2) lv (.ref q :: st) (gw E.1 ids e ++ T' q)) : cW X nc ns pc lv (iV x :: st) (gw E.1 ids e ++ T) := by
  intro H locs ls hP hD hS hlv
  subst hx
  have hr : inR (n : Int) := by unfold inR; omega
  refine va_newa (atype := .int) (ty := .int) F.hx F.hb (F.ht _ harr) rfl F.hK hP hD hS F.hA (n := Int32.ofInt n) (N' := n) (a0 := (n, .inl (fun _ => Int32.ofInt 0))) (fun cA => rfl) (fun z => ?_) ((ti_cl hr).trans (by omega)) (by show n * 4 ≤ _; omega) hc hs hd (fun q cA H1 hK1 hP1 hD1 hS1 => ?_)
  · have : Int32.ofInt (n : Int) < Int32.ofInt 0 := z
    rw [ti_lt hr ti_0] at this
    omega
  · have hcA : cA = yI E := by
      have h1 := (hK1.2 (cty E).length (cA, .int) (by rw [List.getElem?_append_right (Nat.le_refl _), Nat.sub_self]; rfl)).2
      have h2 := (F.hK.2 0 (yI E, .int) rfl).2
      exact Option.some.inj (h1.symm.trans h2)
    rw [hcA, List.append_assoc] at hP1 hD1
    have hq : T ++ [(q, .inl (yI E, n, .inl (fun _ => Int32.ofInt 0)))] = T' q := hT q
    rw [hq] at hP1 hD1
    exact kk q H1 locs ls hP1 hD1 hS1 hlv
end GROWS
end
section
/-! ===== calls and contracts over such worlds ===== -/
def gP (D : va_G) (E : cE) (ids : List Nat) (sz : Nat) (w : va_W) (U : State) : Prop := U.heap.size = sz ∧ va_P D vwCl w U.heap ∧ va_D (fun _ => True) w ∧ va_K D vwCl (cty E) U ∧ sS E (gA E.1 ids sz) U U.heap
theorem gP_blind {av : List Value} {D : va_G} {E : cE} {ids : List Nat} {sz : Nat} {w : va_W} : FrameBlind (va_Pc av (gP D E ids sz w)) := by
  intro a U g mk h
  obtain ⟨h0, h1, h2, h3, h4, h5⟩ := h
  exact ⟨h0, h1, h2, h3, va_K.moved (u := U) (U := U.calling g mk a) (Vm.Alike.refl U.vm) h4, h5.1, sS1.moved (u := U) (U := U.calling g mk a) (Vm.Alike.refl U.vm) h5.2.1, sS2.same (u := U) (U := U.calling g mk a) rfl h5.2.2⟩
/-- what a method leaves: an answer, numbers u, the world of u; nothing else is changed -/
def gQ {σ : Type} (D : va_G) (wf : σ → va_W) (post : Option Value → σ → Prop) (A : Nat → Prop) : Array Value → State → Outcome → State → Prop :=
  fun _ s o t => (∃ (v : Option Value) (u : σ), o = .returned v ∧ post v u ∧ va_P D vwCl (wf u) t.heap) ∧ va_F A s t
def gX {σ : Type} (D : va_G) (wf : σ → va_W) (px : String → σ → Prop) (A : Nat → Prop) : String → State → State → Prop :=
  fun E s t => (∃ u : σ, px E u ∧ va_P D vwCl (wf u) t.heap) ∧ va_F A s t
section GC
variable {p : Program} {l : Launch} {e : Env} {R : Room} {s : State} {m : MethodId} {args : Array Value} {below : List Frame} {meth : Method} {c : Code} {H : Heap} {locs : List Loc} {cells slots : Nat} {Q : State → Prop}
variable {pc : Nat} {ls : Array Slot} {rest st0 : List Value} {a : Array Value} {A0 A1 : Nat → Prop} {H0 : Heap} {mc ms : Nat} {free : Addr → Prop} {D : va_G}
theorem g_callq {S : Type} {post : Option Value → S → Prop} {wf : S → va_W} (hr : va_Run p l e R s m args below meth c H locs cells slots mc ms (F0 m pc ls st0) rest (gQ D wf post A1 a) free) (hS : va_S A0 H0 H locs) (hA : ∀ q, q < H.size → A1 q → A0 q) (hf : ∀ q, free q → A0 q)
    (kk : ∀ (v : Option Value) (u : S) (H1 : Heap) (locs1 : List Loc), post v u → va_P D vwCl (wf u) H1 → (∀ q : Nat, q < H.size → ¬ A1 q → H1[q]? = H[q]?) → va_S A0 H0 H1 locs1 → W p l e R s m args below meth c H1 locs1 (cells + mc) (slots + ms) Q (F0 m (pc + 3) ls (v.toList ++ rest))) : W p l e R s m args below meth c H locs cells slots Q (F0 m pc ls st0) := by
  intro T hT X
  obtain ⟨v, st₀, t, T', L, h0, X', hL, e1, e2, ⟨⟨v', u, hv, hp, hb⟩, hF⟩, st⟩ := hr T hT X
  cases hv
  obtain ⟨k1, k2, k3⟩ := vx_keep h0 e1 hS hA hf hL hF
  obtain ⟨t2, a1, b1⟩ := kk v u T'.heap (locs ++ L) hp (by rw [e1]; exact hb) k2 k3 T' rfl X'
  exact ⟨t2, st t2 a1, b1⟩
theorem g_callx {S : Type} {post : Option Value → S → Prop} {px : String → S → Prop} {wf : S → va_W} (hr : vx_Run p l e R s m args below meth c H locs cells slots mc ms (F0 m pc ls st0) rest (gQ D wf post A1 a) (gX D wf px A1) free) (hS : va_S A0 H0 H locs) (hA : ∀ q, q < H.size → A1 q → A0 q) (hf : ∀ q, free q → A0 q)
    (kx : ∀ (E : String) (ce : Cell) (q9 : Addr) (u : S) (H1 : Heap) (locs1 : List Loc), px E u → va_P D vwCl (wf u) H1 → (∀ q : Nat, q < H.size → ¬ A1 q → H1[q]? = H[q]?) → va_S A0 H0 H1 locs1 → H1[q9]? = some ce → ce.vm = .none → s.vm.findClass E = some ce.cls → vx_W p l e R s m args below meth c H1 locs1 (cells + mc) (slots + ms) Q (F0 m pc ls rest) q9)
    (kk : ∀ (v : Option Value) (u : S) (H1 : Heap) (locs1 : List Loc), post v u → va_P D vwCl (wf u) H1 → (∀ q : Nat, q < H.size → ¬ A1 q → H1[q]? = H[q]?) → va_S A0 H0 H1 locs1 → W p l e R s m args below meth c H1 locs1 (cells + mc) (slots + ms) Q (F0 m (pc + 3) ls (v.toList ++ rest))) : W p l e R s m args below meth c H locs cells slots Q (F0 m pc ls st0) := by
  intro T hT X
  rcases hr T hT X with ⟨v, st₀, t, T', L, h0, X', hL, e1, e2, ⟨⟨v', u, hv, hp, hb⟩, hF⟩, st⟩ | ⟨q, st₀, t, T', L, E, ce, h0, X', hL, e1, e2, ⟨⟨u, hp, hb⟩, hF⟩, hce, hcv, hcl, st⟩
  · cases hv
    obtain ⟨k1, k2, k3⟩ := vx_keep h0 e1 hS hA hf hL hF
    obtain ⟨t2, a1, b1⟩ := kk v u T'.heap (locs ++ L) hp (by rw [e1]; exact hb) k2 k3 T' rfl X'
    exact ⟨t2, st t2 a1, b1⟩
  · obtain ⟨k1, k2, k3⟩ := vx_keep h0 e1 hS hA hf hL hF
    obtain ⟨t2, a1, b1⟩ := kx E ce q u T'.heap (locs ++ L) hp (by rw [e1]; exact hb) k2 k3 (by rw [e1]; exact hce) hcv hcl T' rfl X'
    exact ⟨t2, st.trans a1, b1⟩
end GC
/-- a contract, of a method that returns -/
def gM {σ : Type} (l : Launch) (D : va_G) (E : cE) (ids : List Nat) (y : MethodName) (ws : List Cond) (rm : Room) (av : List Value) (e : Nat → va_E) (ef : σ → Nat → va_E) (post : Option Value → σ → Prop) (mc ms : Nat) : Prop :=
  ∀ sz : Nat, Met l y ws rm (va_Pc av (gP D E ids sz (gw E.1 ids e))) (gQ D (fun u => gw E.1 ids (ef u)) post (gA E.1 ids sz)) mc ms (gA E.1 ids sz)
/-- .. that may throw -/
def gMx {σ : Type} (l : Launch) (D : va_G) (E : cE) (ids : List Nat) (y : MethodName) (ws : List Cond) (rm : Room) (av : List Value) (e : Nat → va_E) (ef : σ → Nat → va_E) (post : Option Value → σ → Prop) (px : String → σ → Prop) (mc ms : Nat) : Prop :=
  ∀ sz : Nat, vx_Met l y ws rm (va_Pc av (gP D E ids sz (gw E.1 ids e))) (gQ D (fun u => gw E.1 ids (ef u)) post (gA E.1 ids sz)) (gX D (fun u => gw E.1 ids (ef u)) px (gA E.1 ids sz)) mc ms (gA E.1 ids sz)
/-- what a body knows of its contract -/
def kX {σ : Type} (X : xC) (E : cE) (ids : List Nat) (ret : Option FieldType) (ef : σ → Nat → va_E) (post : Option Value → σ → Prop) (mc ms : Nat) : Prop :=
  X.2.2.2.1 = gA E.1 ids X.2.1.1.heap.size ∧ X.2.2.1.1.sig.returnType = ret ∧ X.2.2.1.2.2.1 = MQ X.2.1.2.2.2 (gQ X.2.2.2.2 (fun u => gw E.1 ids (ef u)) post (gA E.1 ids X.2.1.1.heap.size)) X.2.1.2.2.1 X.2.1.1 mc ms (gA E.1 ids X.2.1.1.heap.size)
def kXx {σ : Type} (X : xC) (E : cE) (ids : List Nat) (ret : Option FieldType) (ef : σ → Nat → va_E) (post : Option Value → σ → Prop) (px : String → σ → Prop) (mc ms : Nat) : Prop :=
  X.2.2.2.1 = gA E.1 ids X.2.1.1.heap.size ∧ X.2.2.1.1.sig.returnType = ret ∧ X.2.2.1.2.2.1 = vx_MQ X.2.1.2.2.2 (gQ X.2.2.2.2 (fun u => gw E.1 ids (ef u)) post (gA E.1 ids X.2.1.1.heap.size)) (gX X.2.2.2.2 (fun u => gw E.1 ids (ef u)) px (gA E.1 ids X.2.1.1.heap.size)) X.2.1.2.2.1 X.2.1.1 mc ms (gA E.1 ids X.2.1.1.heap.size) ∧ (∀ x ∈ X.2.2.1.2.1.exceptionTable.toList, False) ∧ X.1.2.1.stackTraces = false
theorem k_ofW {σ : Type} {l : Launch} {D : va_G} {E : cE} {ids : List Nat} {y : MethodName} {ws : List Cond} {rm : Room} {av : List Value} {e : Nat → va_E} {ef : σ → Nat → va_E} {post : Option Value → σ → Prop} {mc ms : Nat} {own : String} {cc : ByteArray} {maxL : Nat} {ret : Option FieldType} {lv : List (Nat × Value)}
    (hy : plainName y.cls = true) (hw : ws = Cond.code y cc maxL ret :: bG) (hown : y.cls = own) (hlen : (lg_sl av).length ≤ maxL) (hlv : lv_args 0 av = lv)
    (body : ∀ X : xC, X.1.2.1 = l → X.1.2.2.2 = rm → X.2.2.1.2.2.2 = maxL → X.2.2.2.2 = D → mF X E own cc bG → kX X E ids ret ef post mc ms → cW X 0 0 0 lv [] (gw E.1 ids e ++ [])) : gM l D E ids y ws rm av e ef post mc ms := by
  intro sz
  refine Met.ofW (cc := cc) (maxL := maxL) (ret := ret) hy hw ?_
  intro p e s m args below meth c s₁ B hml hv
  obtain ⟨rfl, rfl, hP, hD, hK, hS⟩ := hv
  have hts := atoms_spec (ws := ws) B.pre
  have ho : s.vm.findClass own = some m.cls := by rw [← hown]; exact findClass_of_methodNamed B.named
  have hl := lv_entry av (n := maxL) hlen
  rw [hlv] at hl
  rw [lg_entry_eq]
  generalize (lg_sl av ++ List.replicate (maxL - (lg_sl av).length) Slot.unset).toArray = ls at hl ⊢
  exact body ((p, l, e, rm), (s, m, av.toArray, below), (meth, c, MQ below (gQ D (fun u => gw E.1 ids (ef u)) post (gA E.1 ids s.heap.size)) av.toArray s mc ms (gA E.1 ids s.heap.size), maxL), (gA E.1 ids s.heap.size, D)) rfl rfl rfl rfl
    ⟨B.exec, B.bytes, hml, ho, fun w h => hts w (by rw [hw]; exact List.mem_cons_of_mem _ h), hK, fun q h => Or.inr h, B.notSynchronized, hS⟩ ⟨rfl, B.returns, rfl⟩ s.heap [] ls (by rw [List.append_nil]; exact hP) (by rw [List.append_nil]; exact gw_A hD) va_S.rf hl
theorem k_ofWx {σ : Type} {l : Launch} (hfl : l.stackTraces = false) {D : va_G} {E : cE} {ids : List Nat} {y : MethodName} {ws : List Cond} {rm : Room} {av : List Value} {e : Nat → va_E} {ef : σ → Nat → va_E} {post : Option Value → σ → Prop} {px : String → σ → Prop} {mc ms : Nat} {own : String} {cc : ByteArray} {maxL : Nat} {ret : Option FieldType} {lv : List (Nat × Value)}
    (hy : plainName y.cls = true) (hw : ws = Cond.code y cc maxL ret :: bG) (hown : y.cls = own) (hlen : (lg_sl av).length ≤ maxL) (hlv : lv_args 0 av = lv)
    (body : ∀ X : xC, X.1.2.1 = l → X.1.2.2.2 = rm → X.2.2.1.2.2.2 = maxL → X.2.2.2.2 = D → mF X E own cc bG → kXx X E ids ret ef post px mc ms → cW X 0 0 0 lv [] (gw E.1 ids e ++ [])) : gMx l D E ids y ws rm av e ef post px mc ms := by
  intro sz
  refine vx_ofW (cc := cc) (maxL := maxL) (ret := ret) hy hw ?_
  intro p e s m args below meth c s₁ B hml htb hv
  obtain ⟨rfl, rfl, hP, hD, hK, hS⟩ := hv
  have hts := atoms_spec (ws := ws) B.pre
  have ho : s.vm.findClass own = some m.cls := by rw [← hown]; exact findClass_of_methodNamed B.named
  have hl := lv_entry av (n := maxL) hlen
  rw [hlv] at hl
  rw [lg_entry_eq]
  generalize (lg_sl av ++ List.replicate (maxL - (lg_sl av).length) Slot.unset).toArray = ls at hl ⊢
  exact body ((p, l, e, rm), (s, m, av.toArray, below), (meth, c, vx_MQ below (gQ D (fun u => gw E.1 ids (ef u)) post (gA E.1 ids s.heap.size)) (gX D (fun u => gw E.1 ids (ef u)) px (gA E.1 ids s.heap.size)) av.toArray s mc ms (gA E.1 ids s.heap.size), maxL), (gA E.1 ids s.heap.size, D)) rfl rfl rfl rfl
    ⟨B.exec, B.bytes, hml, ho, fun w h => hts w (by rw [hw]; exact List.mem_cons_of_mem _ h), hK, fun q h => Or.inr h, B.notSynchronized, hS⟩ ⟨rfl, B.returns, rfl, htb, hfl⟩ s.heap [] ls (by rw [List.append_nil]; exact hP) (by rw [List.append_nil]; exact gw_A hD) va_S.rf hl
section KR
variable {σ : Type} {X : xC} {E : cE} {ids : List Nat} {own : String} {cc : ByteArray} {Ts : List Cond} {ret : Option FieldType} {ef : σ → Nat → va_E} {post : Option Value → σ → Prop} {px : String → σ → Prop} {mc ms pc : Nat} {lv : List (Nat × Value)} {st : List Value} {T : va_W} {u : σ} {e : Nat → va_E} {nc ns : Nat}
theorem k_q {t : State} {H : Heap} {v : Option Value} {locs : List Loc} (hA : X.2.2.2.1 = gA E.1 ids X.2.1.1.heap.size) (hq : post v u) (hP : va_P X.2.2.2.2 vwCl (gw E.1 ids (ef u) ++ T) H) (hS : va_S X.2.2.2.1 X.2.1.1.heap H locs) (ht : t.heap = H) (a : Array Value) : gQ X.2.2.2.2 (fun u => gw E.1 ids (ef u)) post (gA E.1 ids X.2.1.1.heap.size) a X.2.1.1 (.returned v) t := by
  rw [hA] at hS
  exact ⟨⟨v, u, rfl, hq, by rw [ht]; exact gP_left hP⟩, hS.F ht⟩
theorem k_reti (F : mF X E own cc Ts) (K : kX X E ids ret ef post mc ms) {ty : FieldType} (hr : ret = some ty) {x : Int} (hn : narrow ty (iV x) = iV x) (hd : decode cc pc = .ok (.ireturn, 1)) (hq : post (some (iV x)) u) : cW X mc ms pc lv [iV x] (gw E.1 ids (ef u) ++ T) := by
  intro H locs ls hP hD hS hl
  rw [K.2.2]
  exact W.zret F.hx F.hb (K.2.1.trans hr) hn (fun t ht hW => k_q K.1 hq hP hS ht _) (by have h := hS.2.2; rw [K.1] at h; exact h) hd F.hl
theorem k_retv (F : mF X E own cc Ts) (K : kX X E ids ret ef post mc ms) (hr : ret = none) (hd : decode cc pc = .ok (.return_, 1)) (hq : post none u) : cW X mc ms pc lv [] (gw E.1 ids (ef u) ++ T) := by
  intro H locs ls hP hD hS hl
  rw [K.2.2]
  exact W.vret F.hx F.hb (K.2.1.trans hr) (fun t ht hW => k_q K.1 hq hP hS ht _) (by have h := hS.2.2; rw [K.1] at h; exact h) hd F.hl
theorem k_reta (F : mF X E own cc Ts) (K : kX X E ids ret ef post mc ms) {C : String} (hr : ret = some (.object C)) {a : Nat} (hd : decode cc pc = .ok (.areturn, 1)) (hq : post (some (.ref a)) u) : cW X mc ms pc lv [.ref a] (gw E.1 ids (ef u) ++ T) := by
  intro H locs ls hP hD hS hl
  rw [K.2.2]
  exact W.aret F.hx F.hb (K.2.1.trans hr) (Or.inl ⟨C, rfl⟩) (Or.inr ⟨a, rfl⟩) (fun t ht hW => k_q K.1 hq hP hS ht _) (by have h := hS.2.2; rw [K.1] at h; exact h) hd F.hl
theorem k_xreti (F : mF X E own cc Ts) (K : kXx X E ids ret ef post px mc ms) {ty : FieldType} (hr : ret = some ty) {x : Int} (hn : narrow ty (iV x) = iV x) (hd : decode cc pc = .ok (.ireturn, 1)) (hq : post (some (iV x)) u) : cW X mc ms pc lv [iV x] (gw E.1 ids (ef u) ++ T) := by
  intro H locs ls hP hD hS hl
  rw [K.2.2.1]
  exact vx_ret (W.zret F.hx F.hb (K.2.1.trans hr) hn (fun t ht hW => k_q K.1 hq hP hS ht _) (by have h := hS.2.2; rw [K.1] at h; exact h) hd F.hl)
theorem k_xretv (F : mF X E own cc Ts) (K : kXx X E ids ret ef post px mc ms) (hr : ret = none) (hd : decode cc pc = .ok (.return_, 1)) (hq : post none u) : cW X mc ms pc lv [] (gw E.1 ids (ef u) ++ T) := by
  intro H locs ls hP hD hS hl
  rw [K.2.2.1]
  exact vx_ret (W.vret F.hx F.hb (K.2.1.trans hr) (fun t ht hW => k_q K.1 hq hP hS ht _) (by have h := hS.2.2; rw [K.1] at h; exact h) hd F.hl)
/-- what a caller's world lets a callee change is the caller's own -/
theorem k_own {A : Nat → Prop} {H0 H : Heap} {locs : List Loc} (hA : ∀ q, H0.size ≤ q → A q) (hD : va_D A (gw E.1 ids e ++ T)) (hS : va_S A H0 H locs) : ∀ q, gA E.1 ids H.size q → A q := by
  intro q h
  rcases h with ⟨i, hi, rfl⟩ | h
  · obtain ⟨k, hk, -⟩ := gw_get (ad := E.1) (e := e) (T := T) hi
    exact hD.2 k _ hk
  · exact hA q (Nat.le_trans hS.1 h)
theorem k_pre (F : mF X E own cc Ts) {H : Heap} {locs : List Loc} (hP : va_P X.2.2.2.2 vwCl (gw E.1 ids e ++ T) H) (hD : va_D X.2.2.2.1 (gw E.1 ids e ++ T)) (hS : va_S X.2.2.2.1 X.2.1.1.heap H locs) (av : List Value) : ∀ U : State, U.heap = H → X.2.1.1.WarmedH U.vm → va_Pc av (gP X.2.2.2.2 E ids H.size (gw E.1 ids e)) av.toArray U := by
  intro U hU hW
  subst hU
  exact ⟨rfl, rfl, gP_left hP, (gw_left hD).weaken (fun _ _ _ _ => trivial), va_K.moved hW.alike F.hK, F.hS.go hS.2.1 (k_own F.hA hD hS) hW⟩
/-- a call of a method of a thing of the world -/
theorem q_cV (F : mF X E own cc Ts) {τ : Type} {ef : τ → Nat → va_E} {post : Option Value → τ → Prop} {y : MethodName} {bytes : ByteArray} {maxL n index i ci N : Nat} {rt : Option FieldType} {wsY wsY' : List Cond} {rm : Room} {av st0 : List Value} {fs : List Value} {C : String} {TT : u_T}
    (hM : gM X.1.2.1 X.2.2.2.2 E ids y wsY rm (.ref (E.1 i) :: av) e ef post mc ms) (hi : i ∈ ids) (he : e i = .inr (ci, fs)) (hc : vwCl[ci]? = some (C, TT, N)) (hg : GoodIn Ts (wsV own index C y wsY)) (hw : wsY = Cond.code y bytes maxL rt :: wsY') (hrc : rm.cells = mc ∧ rm.slots = ms)
    (hy : y.cls = C ∧ y.cls ≠ "java/lang/invoke/MethodHandle" ∧ y.cls ≠ "java/lang/invoke/VarHandle" ∧ (parseMethodDescriptor y.desc).map (fun d => d.parameters.length) = some n) (hR : rm.frames + 1 ≤ X.1.2.2.2.frames ∧ 8 + (maxL + 11) + rm.locals ≤ X.1.2.2.2.locals)
    (hn : av.length = n) (hst : st0 = av.reverse ++ .ref (E.1 i) :: st) (hcat : (st.map fun v => v.category).sum ≤ 8) (hd : decode cc pc = .ok (.invokevirtual index, 3)) (hcs : nc + mc ≤ X.1.2.2.2.cells ∧ ns + ms ≤ X.1.2.2.2.slots)
    (kk : ∀ (v : Option Value) (u : τ), post v u → cW X (nc + mc) (ns + ms) (pc + 3) lv (v.toList ++ st) (gw E.1 ids (ef u) ++ T)) : cW X nc ns pc lv st0 (gw E.1 ids e ++ T) := by
  intro H locs ls hP hD hS hlv
  obtain ⟨q, hq, -⟩ := gw_get (ad := E.1) (e := e) (T := T) hi
  rw [he] at hq
  have ho := k_own F.hA hD hS
  refine g_callq (va_runV (As := av) (rest := st) ⟨F.hx, F.hb, F.hml, F.ho, F.ht⟩ (hM H.size) (cwV n F.ht hg hw hrc.1 hrc.2 hy hR) ⟨gP_blind, va_recv F.hK hP hc hq, k_pre F hP hD hS _⟩ rfl hn hlv.1 hst (lv_room hcat) hd hcs) hS (fun z _ h => ho z h) ho (fun v u H1 locs1 hp hB hk hS1 => ?_)
  exact kk v u hp H1 locs1 ls (gP_join hP hD hk hB) (gD_join hD) hS1 hlv
theorem q_cS (F : mF X E own cc Ts) {τ : Type} {ef : τ → Nat → va_E} {post : Option Value → τ → Prop} {y : MethodName} {bytes : ByteArray} {maxL n index : Nat} {rt : Option FieldType} {wsY wsY' : List Cond} {rm : Room} {av st0 : List Value}
    (hM : gM X.1.2.1 X.2.2.2.2 E ids y wsY rm av e ef post mc ms) (hg : GoodIn Ts (va_wsS own index y wsY)) (hw : wsY = Cond.code y bytes maxL rt :: wsY') (hrc : rm.cells = mc ∧ rm.slots = ms)
    (hy : y.cls ≠ "java/lang/invoke/MethodHandle" ∧ y.cls ≠ "java/lang/invoke/VarHandle" ∧ (parseMethodDescriptor y.desc).map (fun d => d.parameters.length) = some n) (hR : rm.frames + 1 ≤ X.1.2.2.2.frames ∧ 8 + (maxL + 11) + rm.locals ≤ X.1.2.2.2.locals)
    (hn : av.length = n) (hst : st0 = av.reverse ++ st) (hcat : (st.map fun v => v.category).sum ≤ 8) (hd : decode cc pc = .ok (.invokestatic index, 3)) (hcs : nc + mc ≤ X.1.2.2.2.cells ∧ ns + ms ≤ X.1.2.2.2.slots)
    (kk : ∀ (v : Option Value) (u : τ), post v u → cW X (nc + mc) (ns + ms) (pc + 3) lv (v.toList ++ st) (gw E.1 ids (ef u) ++ T)) : cW X nc ns pc lv st0 (gw E.1 ids e ++ T) := by
  intro H locs ls hP hD hS hlv
  have ho := k_own F.hA hD hS
  refine g_callq (va_runS (As := av) (rest := st) ⟨F.hx, F.hb, F.hml, F.ho, F.ht⟩ (hM H.size) (va_cwS n F.ht hg hw hrc.1 hrc.2 hy hR) ⟨gP_blind, k_pre F hP hD hS _⟩ rfl hn hlv.1 hst (lv_room hcat) hd hcs) hS (fun z _ h => ho z h) ho (fun v u H1 locs1 hp hB hk hS1 => ?_)
  exact kk v u hp H1 locs1 ls (gP_join hP hD hk hB) (gD_join hD) hS1 hlv
/-- a call that may throw, in a body that lets it pass -/
theorem q_cVx (F : mF X E own cc Ts) (K : kXx X E ids ret ef post px mc ms) {qx : String → σ → Prop} {qo : Option Value → σ → Prop} {y : MethodName} {bytes : ByteArray} {maxL n index i ci N kc ks : Nat} {rt : Option FieldType} {wsY wsY' : List Cond} {rm : Room} {av st0 : List Value} {fs : List Value} {C : String} {TT : u_T}
    (hM : gMx X.1.2.1 X.2.2.2.2 E ids y wsY rm (.ref (E.1 i) :: av) e ef qo qx kc ks) (hi : i ∈ ids) (he : e i = .inr (ci, fs)) (hc : vwCl[ci]? = some (C, TT, N)) (hg : GoodIn Ts (wsV own index C y wsY)) (hw : wsY = Cond.code y bytes maxL rt :: wsY') (hrc : rm.cells = kc ∧ rm.slots = ks)
    (hy : y.cls = C ∧ y.cls ≠ "java/lang/invoke/MethodHandle" ∧ y.cls ≠ "java/lang/invoke/VarHandle" ∧ (parseMethodDescriptor y.desc).map (fun d => d.parameters.length) = some n) (hR : rm.frames + 1 ≤ X.1.2.2.2.frames ∧ 8 + (maxL + 11) + rm.locals ≤ X.1.2.2.2.locals)
    (hn : av.length = n) (hst : st0 = av.reverse ++ .ref (E.1 i) :: st) (hcat : (st.map fun v => v.category).sum ≤ 8) (hd : decode cc pc = .ok (.invokevirtual index, 3)) (hcs : nc + kc ≤ X.1.2.2.2.cells ∧ ns + ks ≤ X.1.2.2.2.slots) (hcm : nc + kc ≤ mc ∧ ns + ks ≤ ms)
    (hx : ∀ (c : String) (u : σ), qx c u → px c u)
    (kk : ∀ (v : Option Value) (u : σ), qo v u → cW X (nc + kc) (ns + ks) (pc + 3) lv (v.toList ++ st) (gw E.1 ids (ef u) ++ [])) : cW X nc ns pc lv st0 (gw E.1 ids e ++ []) := by
  intro H locs ls hP hD hS hlv
  obtain ⟨q, hq, -⟩ := gw_get (ad := E.1) (e := e) (T := []) hi
  rw [he] at hq
  have ho := k_own F.hA hD hS
  refine g_callx (vx_runV (As := av) (rest := st) ⟨F.hx, F.hb, F.hml, F.ho, F.ht⟩ (hM H.size) (cwV n F.ht hg hw hrc.1 hrc.2 hy hR) ⟨gP_blind, va_recv F.hK hP hc hq, k_pre F hP hD hS _⟩ rfl hn hlv.1 hst (lv_room hcat) hd hcs) hS (fun z _ h => ho z h) ho (fun c9 ce q9 u H1 locs1 hp hB hk hS1 hce hcv hcl => ?_) (fun v u H1 locs1 hp hB hk hS1 => ?_)
  · rw [K.2.2.1]
    refine vx_out (fun x hx => absurd hx (fun z => (K.2.2.2.1 x z).elim)) F.hl hce hcv hcl (fun t ht hvm => ?_) (by have h := hS1.2.2; rw [K.1] at h; exact h) hcm.1 hcm.2
    rw [K.1] at hS1
    exact ⟨⟨u, hx c9 u hp, by rw [ht]; exact hB⟩, hS1.F ht⟩
  · exact kk v u hp H1 locs1 ls (gP_join hP hD hk hB) (gD_join hD) hS1 hlv
end KR
end
section
/-! ===== the things of the class, each by its number: 0 the mill, 1 tape, 2 its bytes, 3 reader, 4 tokens (5, 6, 7), 8 paper (9), 10 and 45 searches (s + 1 the rows s + 5 .., s + 2, s + 3, s + 4), 80 reasoner (81, 82), 83 maker (84), 85 and 89 puzzles (p + 1 grid, p + 2 rules, p + 3 places), 93 .. 222 rules (r + 130 cells) ===== -/
abbrev cI : Type := Nat → Int → Int
abbrev cR : Type := Nat → Int → Nat
def up2 {α : Type} (I : Nat → Int → α) (a : Nat) (x : Int) (v : α) : Nat → Int → α := fun b y => if b = a ∧ y = x then v else I b y
theorem up2_at {α : Type} {I : Nat → Int → α} {a : Nat} {x : Int} {v : α} : up2 I a x v a = fun y => if y = x then v else I a y := by
  funext y
  unfold up2
  by_cases h : y = x
  · rw [if_pos ⟨rfl, h⟩, if_pos h]
  · rw [if_neg (fun z => h z.2), if_neg h]
theorem up2_ne {α : Type} {I : Nat → Int → α} {a b : Nat} {x : Int} {v : α} (h : b ≠ a) : up2 I a x v b = I b := by
  funext y
  unfold up2
  rw [if_neg (fun z => h z.1)]
abbrev cIds : List Nat := List.range 353
theorem cIds_nd : cIds.Nodup := List.nodup_range
theorem cIds_in {i : Nat} (h : i < 353) : i ∈ cIds := List.mem_range.mpr h
def ckT : List Nat := [9, 7, 11, 3, 8, 11, 11, 11, 1, 11, 6, 13, 11, 11, 11] ++ List.replicate 30 11 ++ [6, 13, 11, 11, 11] ++ List.replicate 30 11 ++ [4, 11, 11, 0, 11, 2, 11, 12, 11, 2, 11, 12, 11]
def ckd (i : Nat) : Nat := if i < 93 then ckT.getD i 11 else if i < 223 then 5 else 11
def cln (i : Nat) : Nat := if i < 93 then (if i = 2 then 1600 else if i = 9 then 1980 else if 5 ≤ i ∧ i ≤ 7 then 1601 else 25) else 5
def isP (p : Nat) : Prop := p = 85 ∨ p = 89
def isS (s : Nat) : Prop := s = 10 ∨ s = 45
def isR (r : Nat) : Prop := 93 ≤ r ∧ r < 223
def isV (v : Nat) : Prop := v = 86 ∨ v = 90 ∨ v = 12 ∨ v = 47 ∨ v = 82
/-- a row of numbers, n long -/
def isA (n a : Nat) : Prop := ckd a = 11 ∧ cln a = n ∧ a < 353
theorem kP0 {p : Nat} (h : isP p) : ckd p = 2 ∧ p < 353 := by rcases h with rfl | rfl <;> decide
theorem kP1 {p : Nat} (h : isP p) : isA 25 (p + 1) := by rcases h with rfl | rfl <;> (unfold isA; decide)
theorem kP2 {p : Nat} (h : isP p) : ckd (p + 2) = 12 ∧ p + 2 < 353 := by rcases h with rfl | rfl <;> decide
theorem kP3 {p : Nat} (h : isP p) : isA 25 (p + 3) := by rcases h with rfl | rfl <;> (unfold isA; decide)
theorem kS0 {s : Nat} (h : isS s) : ckd s = 6 ∧ s < 353 := by rcases h with rfl | rfl <;> decide
theorem kS1 {s : Nat} (h : isS s) : ckd (s + 1) = 13 ∧ s + 1 < 353 := by rcases h with rfl | rfl <;> decide
theorem kS2 {s : Nat} (h : isS s) : isA 25 (s + 2) := by rcases h with rfl | rfl <;> (unfold isA; decide)
theorem kS3 {s : Nat} (h : isS s) : isA 25 (s + 3) := by rcases h with rfl | rfl <;> (unfold isA; decide)
theorem kS4 {s : Nat} (h : isS s) : isA 25 (s + 4) := by rcases h with rfl | rfl <;> (unfold isA; decide)
theorem kS5a : ∀ j : Nat, j < 30 → isA 25 (10 + 5 + j) ∧ isA 25 (45 + 5 + j) := by unfold isA; decide +kernel
theorem kS5 {s : Nat} (h : isS s) {x : Int} (hx : 0 ≤ x ∧ x < 30) : isA 25 (s + 5 + x.toNat) := by
  have h1 := kS5a x.toNat (by omega)
  rcases h with rfl | rfl
  · exact h1.1
  · exact h1.2
theorem kR0 {r : Nat} (h : isR r) : ckd r = 5 ∧ r < 353 := by
  unfold isR at h
  unfold ckd
  rw [if_neg (by omega), if_pos h.2]
  omega
theorem kR4 {r : Nat} (h : isR r) : isA 5 (r + 130) := by
  unfold isR at h
  unfold isA ckd cln
  rw [if_neg (by omega), if_neg (by omega), if_neg (by omega)]
  exact ⟨rfl, rfl, by omega⟩
theorem kV {v : Nat} (h : isV v) : isA 25 v := by rcases h with rfl | rfl | rfl | rfl | rfl <;> (unfold isA; decide)

def cent (E : cE) (i : Nat) (f : Int → Int) (g : Int → Nat) : va_E := match ckd i with
  | 0 => .inr (0, [.ref (E.1 (i + 1)), iV (f 1)])
  | 1 => .inr (1, [.ref (E.1 (i + 1)), iV (f 1)])
  | 2 => .inr (2, [iV (f 0), iV (f 1), iV (f 2), .ref (E.1 (i + 1)), .ref (E.1 (i + 2)), iV (f 5), .ref (E.1 (i + 3))])
  | 3 => .inr (3, [iV (f 0), iV (f 1), .ref (E.1 (i + 1)), iV (f 3)])
  | 4 => .inr (4, [.ref (E.1 (i + 1)), iV (f 1), iV (f 2), iV (f 3), iV (f 4), iV (f 5), iV (f 6), .ref (E.1 (i + 2))])
  | 5 => .inr (5, [.ref (E.2.1 0 (g 0)), iV (f 1), iV (f 2), iV (f 3), .ref (E.1 (i + 130)), iV (f 5)])
  | 6 => .inr (6, [.ref (E.1 (i + 1)), iV (f 1), iV (f 2), .ref (E.1 (i + 2)), .ref (E.1 (i + 3)), .ref (E.1 (i + 4)), iV (f 6), iV (f 7), iV (f 8)])
  | 7 => .inr (7, [iV (f 0), .ref (E.1 (i + 1))])
  | 8 => .inr (8, [iV (f 0), .ref (E.1 (i + 1)), .ref (E.1 (i + 2)), .ref (E.1 (i + 3))])
  | 9 => .inr (9, [.ref (E.1 1), .ref (E.1 3), .ref (E.1 8), .ref (E.1 10), .ref (E.1 45), .ref (E.1 80), .ref (E.1 83), .ref (E.1 (g 7)), .ref (E.1 (g 8))])
  | 12 => rA E (yR E) 65 g
  | 13 => rA E (yA E) 30 (fun j => i + 4 + j.toNat)
  | _ => iA E (cln i) f
def cef (E : cE) (u : cI × cR) : Nat → va_E := fun i => cent E i (u.1 i) (u.2 i)
theorem ceMaker {E : cE} {i : Nat} {f : Int → Int} {g : Int → Nat} (h : ckd i = 0) : cent E i f g = .inr (0, [.ref (E.1 (i + 1)), iV (f 1)]) := by unfold cent; rw [h]; rfl
theorem cePaper {E : cE} {i : Nat} {f : Int → Int} {g : Int → Nat} (h : ckd i = 1) : cent E i f g = .inr (1, [.ref (E.1 (i + 1)), iV (f 1)]) := by unfold cent; rw [h]; rfl
theorem cePuzzle {E : cE} {i : Nat} {f : Int → Int} {g : Int → Nat} (h : ckd i = 2) : cent E i f g = .inr (2, [iV (f 0), iV (f 1), iV (f 2), .ref (E.1 (i + 1)), .ref (E.1 (i + 2)), iV (f 5), .ref (E.1 (i + 3))]) := by unfold cent; rw [h]; rfl
theorem ceReader {E : cE} {i : Nat} {f : Int → Int} {g : Int → Nat} (h : ckd i = 3) : cent E i f g = .inr (3, [iV (f 0), iV (f 1), .ref (E.1 (i + 1)), iV (f 3)]) := by unfold cent; rw [h]; rfl
theorem ceReasoner {E : cE} {i : Nat} {f : Int → Int} {g : Int → Nat} (h : ckd i = 4) : cent E i f g = .inr (4, [.ref (E.1 (i + 1)), iV (f 1), iV (f 2), iV (f 3), iV (f 4), iV (f 5), iV (f 6), .ref (E.1 (i + 2))]) := by unfold cent; rw [h]; rfl
theorem ceRule {E : cE} {i : Nat} {f : Int → Int} {g : Int → Nat} (h : ckd i = 5) : cent E i f g = .inr (5, [.ref (E.2.1 0 (g 0)), iV (f 1), iV (f 2), iV (f 3), .ref (E.1 (i + 130)), iV (f 5)]) := by unfold cent; rw [h]; rfl
theorem ceSearch {E : cE} {i : Nat} {f : Int → Int} {g : Int → Nat} (h : ckd i = 6) : cent E i f g = .inr (6, [.ref (E.1 (i + 1)), iV (f 1), iV (f 2), .ref (E.1 (i + 2)), .ref (E.1 (i + 3)), .ref (E.1 (i + 4)), iV (f 6), iV (f 7), iV (f 8)]) := by unfold cent; rw [h]; rfl
theorem ceTape {E : cE} {i : Nat} {f : Int → Int} {g : Int → Nat} (h : ckd i = 7) : cent E i f g = .inr (7, [iV (f 0), .ref (E.1 (i + 1))]) := by unfold cent; rw [h]; rfl
theorem ceTokens {E : cE} {i : Nat} {f : Int → Int} {g : Int → Nat} (h : ckd i = 8) : cent E i f g = .inr (8, [iV (f 0), .ref (E.1 (i + 1)), .ref (E.1 (i + 2)), .ref (E.1 (i + 3))]) := by unfold cent; rw [h]; rfl
theorem ceMill {E : cE} {i : Nat} {f : Int → Int} {g : Int → Nat} (h : ckd i = 9) : cent E i f g = .inr (9, [.ref (E.1 1), .ref (E.1 3), .ref (E.1 8), .ref (E.1 10), .ref (E.1 45), .ref (E.1 80), .ref (E.1 83), .ref (E.1 (g 7)), .ref (E.1 (g 8))]) := by unfold cent; rw [h]; rfl
theorem ceRow {E : cE} {i : Nat} {f : Int → Int} {g : Int → Nat} {n : Nat} (h : isA n i) : cent E i f g = iA E n f := by
  unfold cent
  rw [h.1]
  show iA E (cln i) f = _
  rw [h.2.1]
theorem ceRules {E : cE} {i : Nat} {f : Int → Int} {g : Int → Nat} (h : ckd i = 12) : cent E i f g = rA E (yR E) 65 g := by unfold cent; rw [h]; rfl
theorem ceSols {E : cE} {i : Nat} {f : Int → Int} {g : Int → Nat} (h : ckd i = 13) : cent E i f g = rA E (yA E) 30 (fun j => i + 4 + j.toNat) := by unfold cent; rw [h]; rfl
theorem cef_neI {E : cE} {I : cI} {R : cR} {a : Nat} {x v : Int} : ∀ j, j ≠ a → cef E (up2 I a x v, R) j = cef E (I, R) j := fun j h => by
  show cent E j (up2 I a x v j) (R j) = cent E j (I j) (R j)
  rw [up2_ne h]
theorem cef_neR {E : cE} {I : cI} {R : cR} {a : Nat} {x : Int} {v : Nat} : ∀ j, j ≠ a → cef E (I, up2 R a x v) j = cef E (I, R) j := fun j h => by
  show cent E j (I j) (up2 R a x v j) = cent E j (I j) (R j)
  rw [up2_ne h]
/-- every number is one of the machine's; references are of their kind -/
def cM (I : cI) (R : cR) : Prop := (∀ a x, inR (I a x)) ∧ isP (R 0 7) ∧ isP (R 0 8) ∧ (∀ p, isP p → ∀ j : Int, 0 ≤ j ∧ j < 65 → isR (R (p + 2) j)) ∧ ∀ r, isR r → R r 0 < 12
theorem cM_I {I I' : cI} {R : cR} {a : Nat} {x v : Int} (h : cM I R) (e : I' = up2 I a x v) (hv : inR v) : cM I' R := by
  refine ⟨fun b y => ?_, h.2⟩
  rw [e]
  unfold up2
  by_cases q : b = a ∧ y = x
  · rw [if_pos q]; exact hv
  · rw [if_neg q]; exact h.1 b y
theorem cM_kind {I : cI} {R R' : cR} {r j : Nat} (h : cM I R) (hr : isR r) (e : R' = up2 R r 0 j) (hj : j < 12) : cM I R' := by
  subst e
  unfold isR at hr
  refine ⟨h.1, ?_, ?_, fun p hp i hi => ?_, fun q hq => ?_⟩
  · rw [up2_ne (by omega)]; exact h.2.1
  · rw [up2_ne (by omega)]; exact h.2.2.1
  · rw [up2_ne (by rcases hp with rfl | rfl <;> omega)]; exact h.2.2.2.1 p hp i hi
  · unfold up2
    by_cases q2 : q = r ∧ (0 : Int) = 0
    · rw [if_pos q2]; exact hj
    · rw [if_neg q2]; exact h.2.2.2.2 q hq
theorem cM_rules {I : cI} {R R' : cR} {p r : Nat} {x : Int} (h : cM I R) (hp : isP p) (hr : isR r) (e : R' = up2 R (p + 2) x r) : cM I R' := by
  subst e
  refine ⟨h.1, ?_, ?_, fun q hq i hi => ?_, fun q hq => ?_⟩
  · rw [up2_ne (by rcases hp with rfl | rfl <;> omega)]; exact h.2.1
  · rw [up2_ne (by rcases hp with rfl | rfl <;> omega)]; exact h.2.2.1
  · unfold up2
    by_cases q2 : q + 2 = p + 2 ∧ i = x
    · rw [if_pos q2]; exact hr
    · rw [if_neg q2]; exact h.2.2.2.1 q hq i hi
  · have hq' := hq
    unfold isR at hq'
    rw [up2_ne (by rcases hp with rfl | rfl <;> omega)]; exact h.2.2.2.2 q hq
theorem cM_puz {I : cI} {R R' : cR} {p : Nat} {x : Int} (h : cM I R) (hp : isP p) (hx : x = 7 ∨ x = 8) (e : R' = up2 R 0 x p) : cM I R' := by
  subst e
  refine ⟨h.1, ?_, ?_, fun q hq i hi => ?_, fun q hq => ?_⟩
  · unfold up2
    by_cases q2 : 0 = 0 ∧ (7 : Int) = x
    · rw [if_pos q2]; exact hp
    · rw [if_neg q2]; exact h.2.1
  · unfold up2
    by_cases q2 : 0 = 0 ∧ (8 : Int) = x
    · rw [if_pos q2]; exact hp
    · rw [if_neg q2]; exact h.2.2.1
  · rw [up2_ne (by omega)]; exact h.2.2.2.1 q hq i hi
  · have hq' := hq
    unfold isR at hq'
    rw [up2_ne (by omega)]; exact h.2.2.2.2 q hq
/-- what comes back: a number, nothing, a rule, a long -/
def pI (Q : Int → cI → cR → Prop) : Option Value → cI × cR → Prop := fun v u => ∃ x, v = some (iV x) ∧ inR x ∧ cM u.1 u.2 ∧ Q x u.1 u.2
def pV (Q : cI → cR → Prop) : Option Value → cI × cR → Prop := fun v u => v = none ∧ cM u.1 u.2 ∧ Q u.1 u.2
def pR (E : cE) (Q : Nat → cI → cR → Prop) : Option Value → cI × cR → Prop := fun v u => ∃ r, v = some (.ref (E.1 r)) ∧ isR r ∧ cM u.1 u.2 ∧ Q r u.1 u.2
def pJ (Q : Int → cI → cR → Prop) : Option Value → cI × cR → Prop := fun v u => ∃ x, v = some (jV x) ∧ cM u.1 u.2 ∧ Q x u.1 u.2
/-- what is thrown -/
def xN : List String := ["java/lang/IllegalStateException", "java/lang/IllegalArgumentException", "java/lang/IndexOutOfBoundsException"]
def pX (Q : Nat → cI → cR → Prop) : String → cI × cR → Prop := fun c u => ∃ k, k < 3 ∧ c = xN.getD k "" ∧ cM u.1 u.2 ∧ Q k u.1 u.2
theorem ex1 {α : Sort _} (x : α) : ∃ y, y = x := ⟨x, rfl⟩
def rmK (k mc ms : Nat) : Room := { frames := k, cells := mc, slots := ms, locals := 60 * k }
theorem rmK_le {k k' mc ms mc' ms' n : Nat} {R : Room} (hR : R = rmK k' mc' ms') (h : k + 1 ≤ k') (hn : n ≤ 41) : (rmK k mc ms).frames + 1 ≤ R.frames ∧ 8 + (n + 11) + (rmK k mc ms).locals ≤ R.locals := by
  subst hR
  refine ⟨h, ?_⟩
  show 8 + (n + 11) + 60 * k ≤ 60 * k'
  omega
theorem rmK_cs {k mc ms nc ns a b : Nat} {R : Room} (hR : R = rmK k mc ms) (h1 : nc + a ≤ mc) (h2 : ns + b ≤ ms) : nc + a ≤ R.cells ∧ ns + b ≤ R.slots := by
  subst hR
  exact ⟨h1, h2⟩

section THINGS
variable {X : xC} {E : cE} {own : String} {cc : ByteArray} {Ts : List Cond} {nc ns pc index : Nat} {lv lv' : List (Nat × Value)} {st : List Value} {T : va_W} {a : Nat} {I I' : cI} {R R' : cR}
theorem t_g_Maker_firstValues (F : mF X E own cc Ts) (hk : ckd a = 0 ∧ a < 353) (hin : ∀ w ∈ wsX20, w ∈ Ts) (hl : Cond.fieldLink own index "RiddleMill$Maker" "firstValues" "[I" ∈ Ts) (b : Nat) (hb : a + 1 = b) (hd : decode cc pc = .ok (.getfield index, 3)) (kk : cW X nc ns (pc + 3) lv (.ref (E.1 b) :: st) (gw E.1 cIds (cef E (I, R)) ++ T)) : cW X nc ns pc lv (.ref (E.1 a) :: st) (gw E.1 cIds (cef E (I, R)) ++ T) := by
  subst hb
  exact g_get F (cIds_in hk.2) (ceMaker hk.1) (ci := 0) rfl hin 0 (by decide) hl rfl rfl hd kk
theorem t_g_Maker_seed (F : mF X E own cc Ts) (hk : ckd a = 0 ∧ a < 353) (hin : ∀ w ∈ wsX20, w ∈ Ts) (hl : Cond.fieldLink own index "RiddleMill$Maker" "seed" "I" ∈ Ts) (hd : decode cc pc = .ok (.getfield index, 3)) (kk : cW X nc ns (pc + 3) lv (iV (I a 1) :: st) (gw E.1 cIds (cef E (I, R)) ++ T)) : cW X nc ns pc lv (.ref (E.1 a) :: st) (gw E.1 cIds (cef E (I, R)) ++ T) := by
  exact g_get F (cIds_in hk.2) (ceMaker hk.1) (ci := 0) rfl hin 1 (by decide) hl rfl rfl hd kk
theorem t_p_Maker_seed (F : mF X E own cc Ts) (hk : ckd a = 0 ∧ a < 353) (hin : ∀ w ∈ wsX20, w ∈ Ts) (hl : Cond.fieldLink own index "RiddleMill$Maker" "seed" "I" ∈ Ts) {v : Int} (hI : I' = up2 I a 1 v) (hd : decode cc pc = .ok (.putfield index, 3)) (kk : cW X nc ns (pc + 3) lv st (gw E.1 cIds (cef E (I', R)) ++ T)) : cW X nc ns pc lv (iV v :: .ref (E.1 a) :: st) (gw E.1 cIds (cef E (I, R)) ++ T) := by
  subst hI
  refine g_put F cIds_nd (cIds_in hk.2) (ceMaker hk.1) (ci := 0) rfl hin tyX2 tyX2_ok nmX2 1 (by decide) hl rfl rfl (ty := .int) rfl rfl rfl (Nat.le_of_ble_eq_true rfl) ?_ cef_neI hd kk
  rw [cef, ceMaker hk.1]
  simp [up2_at]
theorem t_g_Paper_bytes (F : mF X E own cc Ts) (hk : ckd a = 1 ∧ a < 353) (hin : ∀ w ∈ wsX30, w ∈ Ts) (hl : Cond.fieldLink own index "RiddleMill$Paper" "bytes" "[I" ∈ Ts) (b : Nat) (hb : a + 1 = b) (hd : decode cc pc = .ok (.getfield index, 3)) (kk : cW X nc ns (pc + 3) lv (.ref (E.1 b) :: st) (gw E.1 cIds (cef E (I, R)) ++ T)) : cW X nc ns pc lv (.ref (E.1 a) :: st) (gw E.1 cIds (cef E (I, R)) ++ T) := by
  subst hb
  exact g_get F (cIds_in hk.2) (cePaper hk.1) (ci := 1) rfl hin 0 (by decide) hl rfl rfl hd kk
theorem t_g_Paper_length (F : mF X E own cc Ts) (hk : ckd a = 1 ∧ a < 353) (hin : ∀ w ∈ wsX30, w ∈ Ts) (hl : Cond.fieldLink own index "RiddleMill$Paper" "length" "I" ∈ Ts) (hd : decode cc pc = .ok (.getfield index, 3)) (kk : cW X nc ns (pc + 3) lv (iV (I a 1) :: st) (gw E.1 cIds (cef E (I, R)) ++ T)) : cW X nc ns pc lv (.ref (E.1 a) :: st) (gw E.1 cIds (cef E (I, R)) ++ T) := by
  exact g_get F (cIds_in hk.2) (cePaper hk.1) (ci := 1) rfl hin 1 (by decide) hl rfl rfl hd kk
theorem t_p_Paper_length (F : mF X E own cc Ts) (hk : ckd a = 1 ∧ a < 353) (hin : ∀ w ∈ wsX30, w ∈ Ts) (hl : Cond.fieldLink own index "RiddleMill$Paper" "length" "I" ∈ Ts) {v : Int} (hI : I' = up2 I a 1 v) (hd : decode cc pc = .ok (.putfield index, 3)) (kk : cW X nc ns (pc + 3) lv st (gw E.1 cIds (cef E (I', R)) ++ T)) : cW X nc ns pc lv (iV v :: .ref (E.1 a) :: st) (gw E.1 cIds (cef E (I, R)) ++ T) := by
  subst hI
  refine g_put F cIds_nd (cIds_in hk.2) (cePaper hk.1) (ci := 1) rfl hin tyX3 tyX3_ok nmX3 1 (by decide) hl rfl rfl (ty := .int) rfl rfl rfl (Nat.le_of_ble_eq_true rfl) ?_ cef_neI hd kk
  rw [cef, cePaper hk.1]
  simp [up2_at]
theorem t_g_Puzzle_columns (F : mF X E own cc Ts) (hk : ckd a = 2 ∧ a < 353) (hin : ∀ w ∈ wsX40, w ∈ Ts) (hl : Cond.fieldLink own index "RiddleMill$Puzzle" "columns" "I" ∈ Ts) (hd : decode cc pc = .ok (.getfield index, 3)) (kk : cW X nc ns (pc + 3) lv (iV (I a 0) :: st) (gw E.1 cIds (cef E (I, R)) ++ T)) : cW X nc ns pc lv (.ref (E.1 a) :: st) (gw E.1 cIds (cef E (I, R)) ++ T) := by
  exact g_get F (cIds_in hk.2) (cePuzzle hk.1) (ci := 2) rfl hin 0 (by decide) hl rfl rfl hd kk
theorem t_p_Puzzle_columns (F : mF X E own cc Ts) (hk : ckd a = 2 ∧ a < 353) (hin : ∀ w ∈ wsX40, w ∈ Ts) (hl : Cond.fieldLink own index "RiddleMill$Puzzle" "columns" "I" ∈ Ts) {v : Int} (hI : I' = up2 I a 0 v) (hd : decode cc pc = .ok (.putfield index, 3)) (kk : cW X nc ns (pc + 3) lv st (gw E.1 cIds (cef E (I', R)) ++ T)) : cW X nc ns pc lv (iV v :: .ref (E.1 a) :: st) (gw E.1 cIds (cef E (I, R)) ++ T) := by
  subst hI
  refine g_put F cIds_nd (cIds_in hk.2) (cePuzzle hk.1) (ci := 2) rfl hin tyX4 tyX4_ok nmX4 0 (by decide) hl rfl rfl (ty := .int) rfl rfl rfl (Nat.le_of_ble_eq_true rfl) ?_ cef_neI hd kk
  rw [cef, cePuzzle hk.1]
  simp [up2_at]
theorem t_g_Puzzle_rows (F : mF X E own cc Ts) (hk : ckd a = 2 ∧ a < 353) (hin : ∀ w ∈ wsX40, w ∈ Ts) (hl : Cond.fieldLink own index "RiddleMill$Puzzle" "rows" "I" ∈ Ts) (hd : decode cc pc = .ok (.getfield index, 3)) (kk : cW X nc ns (pc + 3) lv (iV (I a 1) :: st) (gw E.1 cIds (cef E (I, R)) ++ T)) : cW X nc ns pc lv (.ref (E.1 a) :: st) (gw E.1 cIds (cef E (I, R)) ++ T) := by
  exact g_get F (cIds_in hk.2) (cePuzzle hk.1) (ci := 2) rfl hin 1 (by decide) hl rfl rfl hd kk
theorem t_p_Puzzle_rows (F : mF X E own cc Ts) (hk : ckd a = 2 ∧ a < 353) (hin : ∀ w ∈ wsX40, w ∈ Ts) (hl : Cond.fieldLink own index "RiddleMill$Puzzle" "rows" "I" ∈ Ts) {v : Int} (hI : I' = up2 I a 1 v) (hd : decode cc pc = .ok (.putfield index, 3)) (kk : cW X nc ns (pc + 3) lv st (gw E.1 cIds (cef E (I', R)) ++ T)) : cW X nc ns pc lv (iV v :: .ref (E.1 a) :: st) (gw E.1 cIds (cef E (I, R)) ++ T) := by
  subst hI
  refine g_put F cIds_nd (cIds_in hk.2) (cePuzzle hk.1) (ci := 2) rfl hin tyX4 tyX4_ok nmX4 1 (by decide) hl rfl rfl (ty := .int) rfl rfl rfl (Nat.le_of_ble_eq_true rfl) ?_ cef_neI hd kk
  rw [cef, cePuzzle hk.1]
  simp [up2_at]
theorem t_g_Puzzle_highest (F : mF X E own cc Ts) (hk : ckd a = 2 ∧ a < 353) (hin : ∀ w ∈ wsX40, w ∈ Ts) (hl : Cond.fieldLink own index "RiddleMill$Puzzle" "highest" "I" ∈ Ts) (hd : decode cc pc = .ok (.getfield index, 3)) (kk : cW X nc ns (pc + 3) lv (iV (I a 2) :: st) (gw E.1 cIds (cef E (I, R)) ++ T)) : cW X nc ns pc lv (.ref (E.1 a) :: st) (gw E.1 cIds (cef E (I, R)) ++ T) := by
  exact g_get F (cIds_in hk.2) (cePuzzle hk.1) (ci := 2) rfl hin 2 (by decide) hl rfl rfl hd kk
theorem t_p_Puzzle_highest (F : mF X E own cc Ts) (hk : ckd a = 2 ∧ a < 353) (hin : ∀ w ∈ wsX40, w ∈ Ts) (hl : Cond.fieldLink own index "RiddleMill$Puzzle" "highest" "I" ∈ Ts) {v : Int} (hI : I' = up2 I a 2 v) (hd : decode cc pc = .ok (.putfield index, 3)) (kk : cW X nc ns (pc + 3) lv st (gw E.1 cIds (cef E (I', R)) ++ T)) : cW X nc ns pc lv (iV v :: .ref (E.1 a) :: st) (gw E.1 cIds (cef E (I, R)) ++ T) := by
  subst hI
  refine g_put F cIds_nd (cIds_in hk.2) (cePuzzle hk.1) (ci := 2) rfl hin tyX4 tyX4_ok nmX4 2 (by decide) hl rfl rfl (ty := .int) rfl rfl rfl (Nat.le_of_ble_eq_true rfl) ?_ cef_neI hd kk
  rw [cef, cePuzzle hk.1]
  simp [up2_at]
theorem t_g_Puzzle_grid (F : mF X E own cc Ts) (hk : ckd a = 2 ∧ a < 353) (hin : ∀ w ∈ wsX40, w ∈ Ts) (hl : Cond.fieldLink own index "RiddleMill$Puzzle" "grid" "[I" ∈ Ts) (b : Nat) (hb : a + 1 = b) (hd : decode cc pc = .ok (.getfield index, 3)) (kk : cW X nc ns (pc + 3) lv (.ref (E.1 b) :: st) (gw E.1 cIds (cef E (I, R)) ++ T)) : cW X nc ns pc lv (.ref (E.1 a) :: st) (gw E.1 cIds (cef E (I, R)) ++ T) := by
  subst hb
  exact g_get F (cIds_in hk.2) (cePuzzle hk.1) (ci := 2) rfl hin 3 (by decide) hl rfl rfl hd kk
theorem t_g_Puzzle_rules (F : mF X E own cc Ts) (hk : ckd a = 2 ∧ a < 353) (hin : ∀ w ∈ wsX40, w ∈ Ts) (hl : Cond.fieldLink own index "RiddleMill$Puzzle" "rules" "[LRiddleMill$Rule;" ∈ Ts) (b : Nat) (hb : a + 2 = b) (hd : decode cc pc = .ok (.getfield index, 3)) (kk : cW X nc ns (pc + 3) lv (.ref (E.1 b) :: st) (gw E.1 cIds (cef E (I, R)) ++ T)) : cW X nc ns pc lv (.ref (E.1 a) :: st) (gw E.1 cIds (cef E (I, R)) ++ T) := by
  subst hb
  exact g_get F (cIds_in hk.2) (cePuzzle hk.1) (ci := 2) rfl hin 4 (by decide) hl rfl rfl hd kk
theorem t_g_Puzzle_ruleCount (F : mF X E own cc Ts) (hk : ckd a = 2 ∧ a < 353) (hin : ∀ w ∈ wsX40, w ∈ Ts) (hl : Cond.fieldLink own index "RiddleMill$Puzzle" "ruleCount" "I" ∈ Ts) (hd : decode cc pc = .ok (.getfield index, 3)) (kk : cW X nc ns (pc + 3) lv (iV (I a 5) :: st) (gw E.1 cIds (cef E (I, R)) ++ T)) : cW X nc ns pc lv (.ref (E.1 a) :: st) (gw E.1 cIds (cef E (I, R)) ++ T) := by
  exact g_get F (cIds_in hk.2) (cePuzzle hk.1) (ci := 2) rfl hin 5 (by decide) hl rfl rfl hd kk
theorem t_p_Puzzle_ruleCount (F : mF X E own cc Ts) (hk : ckd a = 2 ∧ a < 353) (hin : ∀ w ∈ wsX40, w ∈ Ts) (hl : Cond.fieldLink own index "RiddleMill$Puzzle" "ruleCount" "I" ∈ Ts) {v : Int} (hI : I' = up2 I a 5 v) (hd : decode cc pc = .ok (.putfield index, 3)) (kk : cW X nc ns (pc + 3) lv st (gw E.1 cIds (cef E (I', R)) ++ T)) : cW X nc ns pc lv (iV v :: .ref (E.1 a) :: st) (gw E.1 cIds (cef E (I, R)) ++ T) := by
  subst hI
  refine g_put F cIds_nd (cIds_in hk.2) (cePuzzle hk.1) (ci := 2) rfl hin tyX4 tyX4_ok nmX4 5 (by decide) hl rfl rfl (ty := .int) rfl rfl rfl (Nat.le_of_ble_eq_true rfl) ?_ cef_neI hd kk
  rw [cef, cePuzzle hk.1]
  simp [up2_at]
theorem t_g_Puzzle_places (F : mF X E own cc Ts) (hk : ckd a = 2 ∧ a < 353) (hin : ∀ w ∈ wsX40, w ∈ Ts) (hl : Cond.fieldLink own index "RiddleMill$Puzzle" "places" "[I" ∈ Ts) (b : Nat) (hb : a + 3 = b) (hd : decode cc pc = .ok (.getfield index, 3)) (kk : cW X nc ns (pc + 3) lv (.ref (E.1 b) :: st) (gw E.1 cIds (cef E (I, R)) ++ T)) : cW X nc ns pc lv (.ref (E.1 a) :: st) (gw E.1 cIds (cef E (I, R)) ++ T) := by
  subst hb
  exact g_get F (cIds_in hk.2) (cePuzzle hk.1) (ci := 2) rfl hin 6 (by decide) hl rfl rfl hd kk
theorem t_g_Reader_error (F : mF X E own cc Ts) (hk : ckd a = 3 ∧ a < 353) (hin : ∀ w ∈ wsX50, w ∈ Ts) (hl : Cond.fieldLink own index "RiddleMill$PuzzleReader" "error" "I" ∈ Ts) (hd : decode cc pc = .ok (.getfield index, 3)) (kk : cW X nc ns (pc + 3) lv (iV (I a 0) :: st) (gw E.1 cIds (cef E (I, R)) ++ T)) : cW X nc ns pc lv (.ref (E.1 a) :: st) (gw E.1 cIds (cef E (I, R)) ++ T) := by
  exact g_get F (cIds_in hk.2) (ceReader hk.1) (ci := 3) rfl hin 0 (by decide) hl rfl rfl hd kk
theorem t_p_Reader_error (F : mF X E own cc Ts) (hk : ckd a = 3 ∧ a < 353) (hin : ∀ w ∈ wsX50, w ∈ Ts) (hl : Cond.fieldLink own index "RiddleMill$PuzzleReader" "error" "I" ∈ Ts) {v : Int} (hI : I' = up2 I a 0 v) (hd : decode cc pc = .ok (.putfield index, 3)) (kk : cW X nc ns (pc + 3) lv st (gw E.1 cIds (cef E (I', R)) ++ T)) : cW X nc ns pc lv (iV v :: .ref (E.1 a) :: st) (gw E.1 cIds (cef E (I, R)) ++ T) := by
  subst hI
  refine g_put F cIds_nd (cIds_in hk.2) (ceReader hk.1) (ci := 3) rfl hin tyX5 tyX5_ok nmX5 0 (by decide) hl rfl rfl (ty := .int) rfl rfl rfl (Nat.le_of_ble_eq_true rfl) ?_ cef_neI hd kk
  rw [cef, ceReader hk.1]
  simp [up2_at]
theorem t_g_Reader_errorAt (F : mF X E own cc Ts) (hk : ckd a = 3 ∧ a < 353) (hin : ∀ w ∈ wsX50, w ∈ Ts) (hl : Cond.fieldLink own index "RiddleMill$PuzzleReader" "errorAt" "I" ∈ Ts) (hd : decode cc pc = .ok (.getfield index, 3)) (kk : cW X nc ns (pc + 3) lv (iV (I a 1) :: st) (gw E.1 cIds (cef E (I, R)) ++ T)) : cW X nc ns pc lv (.ref (E.1 a) :: st) (gw E.1 cIds (cef E (I, R)) ++ T) := by
  exact g_get F (cIds_in hk.2) (ceReader hk.1) (ci := 3) rfl hin 1 (by decide) hl rfl rfl hd kk
theorem t_p_Reader_errorAt (F : mF X E own cc Ts) (hk : ckd a = 3 ∧ a < 353) (hin : ∀ w ∈ wsX50, w ∈ Ts) (hl : Cond.fieldLink own index "RiddleMill$PuzzleReader" "errorAt" "I" ∈ Ts) {v : Int} (hI : I' = up2 I a 1 v) (hd : decode cc pc = .ok (.putfield index, 3)) (kk : cW X nc ns (pc + 3) lv st (gw E.1 cIds (cef E (I', R)) ++ T)) : cW X nc ns pc lv (iV v :: .ref (E.1 a) :: st) (gw E.1 cIds (cef E (I, R)) ++ T) := by
  subst hI
  refine g_put F cIds_nd (cIds_in hk.2) (ceReader hk.1) (ci := 3) rfl hin tyX5 tyX5_ok nmX5 1 (by decide) hl rfl rfl (ty := .int) rfl rfl rfl (Nat.le_of_ble_eq_true rfl) ?_ cef_neI hd kk
  rw [cef, ceReader hk.1]
  simp [up2_at]
theorem t_g_Reader_tokens (F : mF X E own cc Ts) (hk : ckd a = 3 ∧ a < 353) (hin : ∀ w ∈ wsX50, w ∈ Ts) (hl : Cond.fieldLink own index "RiddleMill$PuzzleReader" "tokens" "LRiddleMill$Tokens;" ∈ Ts) (b : Nat) (hb : a + 1 = b) (hd : decode cc pc = .ok (.getfield index, 3)) (kk : cW X nc ns (pc + 3) lv (.ref (E.1 b) :: st) (gw E.1 cIds (cef E (I, R)) ++ T)) : cW X nc ns pc lv (.ref (E.1 a) :: st) (gw E.1 cIds (cef E (I, R)) ++ T) := by
  subst hb
  exact g_get F (cIds_in hk.2) (ceReader hk.1) (ci := 3) rfl hin 2 (by decide) hl rfl rfl hd kk
theorem t_g_Reader_place (F : mF X E own cc Ts) (hk : ckd a = 3 ∧ a < 353) (hin : ∀ w ∈ wsX50, w ∈ Ts) (hl : Cond.fieldLink own index "RiddleMill$PuzzleReader" "place" "I" ∈ Ts) (hd : decode cc pc = .ok (.getfield index, 3)) (kk : cW X nc ns (pc + 3) lv (iV (I a 3) :: st) (gw E.1 cIds (cef E (I, R)) ++ T)) : cW X nc ns pc lv (.ref (E.1 a) :: st) (gw E.1 cIds (cef E (I, R)) ++ T) := by
  exact g_get F (cIds_in hk.2) (ceReader hk.1) (ci := 3) rfl hin 3 (by decide) hl rfl rfl hd kk
theorem t_p_Reader_place (F : mF X E own cc Ts) (hk : ckd a = 3 ∧ a < 353) (hin : ∀ w ∈ wsX50, w ∈ Ts) (hl : Cond.fieldLink own index "RiddleMill$PuzzleReader" "place" "I" ∈ Ts) {v : Int} (hI : I' = up2 I a 3 v) (hd : decode cc pc = .ok (.putfield index, 3)) (kk : cW X nc ns (pc + 3) lv st (gw E.1 cIds (cef E (I', R)) ++ T)) : cW X nc ns pc lv (iV v :: .ref (E.1 a) :: st) (gw E.1 cIds (cef E (I, R)) ++ T) := by
  subst hI
  refine g_put F cIds_nd (cIds_in hk.2) (ceReader hk.1) (ci := 3) rfl hin tyX5 tyX5_ok nmX5 3 (by decide) hl rfl rfl (ty := .int) rfl rfl rfl (Nat.le_of_ble_eq_true rfl) ?_ cef_neI hd kk
  rw [cef, ceReader hk.1]
  simp [up2_at]
theorem t_g_Reasoner_sets (F : mF X E own cc Ts) (hk : ckd a = 4 ∧ a < 353) (hin : ∀ w ∈ wsX60, w ∈ Ts) (hl : Cond.fieldLink own index "RiddleMill$Reasoner" "sets" "[I" ∈ Ts) (b : Nat) (hb : a + 1 = b) (hd : decode cc pc = .ok (.getfield index, 3)) (kk : cW X nc ns (pc + 3) lv (.ref (E.1 b) :: st) (gw E.1 cIds (cef E (I, R)) ++ T)) : cW X nc ns pc lv (.ref (E.1 a) :: st) (gw E.1 cIds (cef E (I, R)) ++ T) := by
  subst hb
  exact g_get F (cIds_in hk.2) (ceReasoner hk.1) (ci := 4) rfl hin 0 (by decide) hl rfl rfl hd kk
theorem t_g_Reasoner_passes (F : mF X E own cc Ts) (hk : ckd a = 4 ∧ a < 353) (hin : ∀ w ∈ wsX60, w ∈ Ts) (hl : Cond.fieldLink own index "RiddleMill$Reasoner" "passes" "I" ∈ Ts) (hd : decode cc pc = .ok (.getfield index, 3)) (kk : cW X nc ns (pc + 3) lv (iV (I a 1) :: st) (gw E.1 cIds (cef E (I, R)) ++ T)) : cW X nc ns pc lv (.ref (E.1 a) :: st) (gw E.1 cIds (cef E (I, R)) ++ T) := by
  exact g_get F (cIds_in hk.2) (ceReasoner hk.1) (ci := 4) rfl hin 1 (by decide) hl rfl rfl hd kk
theorem t_p_Reasoner_passes (F : mF X E own cc Ts) (hk : ckd a = 4 ∧ a < 353) (hin : ∀ w ∈ wsX60, w ∈ Ts) (hl : Cond.fieldLink own index "RiddleMill$Reasoner" "passes" "I" ∈ Ts) {v : Int} (hI : I' = up2 I a 1 v) (hd : decode cc pc = .ok (.putfield index, 3)) (kk : cW X nc ns (pc + 3) lv st (gw E.1 cIds (cef E (I', R)) ++ T)) : cW X nc ns pc lv (iV v :: .ref (E.1 a) :: st) (gw E.1 cIds (cef E (I, R)) ++ T) := by
  subst hI
  refine g_put F cIds_nd (cIds_in hk.2) (ceReasoner hk.1) (ci := 4) rfl hin tyX6 tyX6_ok nmX6 1 (by decide) hl rfl rfl (ty := .int) rfl rfl rfl (Nat.le_of_ble_eq_true rfl) ?_ cef_neI hd kk
  rw [cef, ceReasoner hk.1]
  simp [up2_at]
theorem t_g_Reasoner_greatestGrade (F : mF X E own cc Ts) (hk : ckd a = 4 ∧ a < 353) (hin : ∀ w ∈ wsX60, w ∈ Ts) (hl : Cond.fieldLink own index "RiddleMill$Reasoner" "greatestGrade" "I" ∈ Ts) (hd : decode cc pc = .ok (.getfield index, 3)) (kk : cW X nc ns (pc + 3) lv (iV (I a 2) :: st) (gw E.1 cIds (cef E (I, R)) ++ T)) : cW X nc ns pc lv (.ref (E.1 a) :: st) (gw E.1 cIds (cef E (I, R)) ++ T) := by
  exact g_get F (cIds_in hk.2) (ceReasoner hk.1) (ci := 4) rfl hin 2 (by decide) hl rfl rfl hd kk
theorem t_p_Reasoner_greatestGrade (F : mF X E own cc Ts) (hk : ckd a = 4 ∧ a < 353) (hin : ∀ w ∈ wsX60, w ∈ Ts) (hl : Cond.fieldLink own index "RiddleMill$Reasoner" "greatestGrade" "I" ∈ Ts) {v : Int} (hI : I' = up2 I a 2 v) (hd : decode cc pc = .ok (.putfield index, 3)) (kk : cW X nc ns (pc + 3) lv st (gw E.1 cIds (cef E (I', R)) ++ T)) : cW X nc ns pc lv (iV v :: .ref (E.1 a) :: st) (gw E.1 cIds (cef E (I, R)) ++ T) := by
  subst hI
  refine g_put F cIds_nd (cIds_in hk.2) (ceReasoner hk.1) (ci := 4) rfl hin tyX6 tyX6_ok nmX6 2 (by decide) hl rfl rfl (ty := .int) rfl rfl rfl (Nat.le_of_ble_eq_true rfl) ?_ cef_neI hd kk
  rw [cef, ceReasoner hk.1]
  simp [up2_at]
theorem t_g_Reasoner_firstRule (F : mF X E own cc Ts) (hk : ckd a = 4 ∧ a < 353) (hin : ∀ w ∈ wsX60, w ∈ Ts) (hl : Cond.fieldLink own index "RiddleMill$Reasoner" "firstRule" "I" ∈ Ts) (hd : decode cc pc = .ok (.getfield index, 3)) (kk : cW X nc ns (pc + 3) lv (iV (I a 3) :: st) (gw E.1 cIds (cef E (I, R)) ++ T)) : cW X nc ns pc lv (.ref (E.1 a) :: st) (gw E.1 cIds (cef E (I, R)) ++ T) := by
  exact g_get F (cIds_in hk.2) (ceReasoner hk.1) (ci := 4) rfl hin 3 (by decide) hl rfl rfl hd kk
theorem t_p_Reasoner_firstRule (F : mF X E own cc Ts) (hk : ckd a = 4 ∧ a < 353) (hin : ∀ w ∈ wsX60, w ∈ Ts) (hl : Cond.fieldLink own index "RiddleMill$Reasoner" "firstRule" "I" ∈ Ts) {v : Int} (hI : I' = up2 I a 3 v) (hd : decode cc pc = .ok (.putfield index, 3)) (kk : cW X nc ns (pc + 3) lv st (gw E.1 cIds (cef E (I', R)) ++ T)) : cW X nc ns pc lv (iV v :: .ref (E.1 a) :: st) (gw E.1 cIds (cef E (I, R)) ++ T) := by
  subst hI
  refine g_put F cIds_nd (cIds_in hk.2) (ceReasoner hk.1) (ci := 4) rfl hin tyX6 tyX6_ok nmX6 3 (by decide) hl rfl rfl (ty := .int) rfl rfl rfl (Nat.le_of_ble_eq_true rfl) ?_ cef_neI hd kk
  rw [cef, ceReasoner hk.1]
  simp [up2_at]
theorem t_g_Reasoner_firstCell (F : mF X E own cc Ts) (hk : ckd a = 4 ∧ a < 353) (hin : ∀ w ∈ wsX60, w ∈ Ts) (hl : Cond.fieldLink own index "RiddleMill$Reasoner" "firstCell" "I" ∈ Ts) (hd : decode cc pc = .ok (.getfield index, 3)) (kk : cW X nc ns (pc + 3) lv (iV (I a 4) :: st) (gw E.1 cIds (cef E (I, R)) ++ T)) : cW X nc ns pc lv (.ref (E.1 a) :: st) (gw E.1 cIds (cef E (I, R)) ++ T) := by
  exact g_get F (cIds_in hk.2) (ceReasoner hk.1) (ci := 4) rfl hin 4 (by decide) hl rfl rfl hd kk
theorem t_p_Reasoner_firstCell (F : mF X E own cc Ts) (hk : ckd a = 4 ∧ a < 353) (hin : ∀ w ∈ wsX60, w ∈ Ts) (hl : Cond.fieldLink own index "RiddleMill$Reasoner" "firstCell" "I" ∈ Ts) {v : Int} (hI : I' = up2 I a 4 v) (hd : decode cc pc = .ok (.putfield index, 3)) (kk : cW X nc ns (pc + 3) lv st (gw E.1 cIds (cef E (I', R)) ++ T)) : cW X nc ns pc lv (iV v :: .ref (E.1 a) :: st) (gw E.1 cIds (cef E (I, R)) ++ T) := by
  subst hI
  refine g_put F cIds_nd (cIds_in hk.2) (ceReasoner hk.1) (ci := 4) rfl hin tyX6 tyX6_ok nmX6 4 (by decide) hl rfl rfl (ty := .int) rfl rfl rfl (Nat.le_of_ble_eq_true rfl) ?_ cef_neI hd kk
  rw [cef, ceReasoner hk.1]
  simp [up2_at]
theorem t_g_Reasoner_firstValue (F : mF X E own cc Ts) (hk : ckd a = 4 ∧ a < 353) (hin : ∀ w ∈ wsX60, w ∈ Ts) (hl : Cond.fieldLink own index "RiddleMill$Reasoner" "firstValue" "I" ∈ Ts) (hd : decode cc pc = .ok (.getfield index, 3)) (kk : cW X nc ns (pc + 3) lv (iV (I a 5) :: st) (gw E.1 cIds (cef E (I, R)) ++ T)) : cW X nc ns pc lv (.ref (E.1 a) :: st) (gw E.1 cIds (cef E (I, R)) ++ T) := by
  exact g_get F (cIds_in hk.2) (ceReasoner hk.1) (ci := 4) rfl hin 5 (by decide) hl rfl rfl hd kk
theorem t_p_Reasoner_firstValue (F : mF X E own cc Ts) (hk : ckd a = 4 ∧ a < 353) (hin : ∀ w ∈ wsX60, w ∈ Ts) (hl : Cond.fieldLink own index "RiddleMill$Reasoner" "firstValue" "I" ∈ Ts) {v : Int} (hI : I' = up2 I a 5 v) (hd : decode cc pc = .ok (.putfield index, 3)) (kk : cW X nc ns (pc + 3) lv st (gw E.1 cIds (cef E (I', R)) ++ T)) : cW X nc ns pc lv (iV v :: .ref (E.1 a) :: st) (gw E.1 cIds (cef E (I, R)) ++ T) := by
  subst hI
  refine g_put F cIds_nd (cIds_in hk.2) (ceReasoner hk.1) (ci := 4) rfl hin tyX6 tyX6_ok nmX6 5 (by decide) hl rfl rfl (ty := .int) rfl rfl rfl (Nat.le_of_ble_eq_true rfl) ?_ cef_neI hd kk
  rw [cef, ceReasoner hk.1]
  simp [up2_at]
theorem t_g_Reasoner_firstGrade (F : mF X E own cc Ts) (hk : ckd a = 4 ∧ a < 353) (hin : ∀ w ∈ wsX60, w ∈ Ts) (hl : Cond.fieldLink own index "RiddleMill$Reasoner" "firstGrade" "I" ∈ Ts) (hd : decode cc pc = .ok (.getfield index, 3)) (kk : cW X nc ns (pc + 3) lv (iV (I a 6) :: st) (gw E.1 cIds (cef E (I, R)) ++ T)) : cW X nc ns pc lv (.ref (E.1 a) :: st) (gw E.1 cIds (cef E (I, R)) ++ T) := by
  exact g_get F (cIds_in hk.2) (ceReasoner hk.1) (ci := 4) rfl hin 6 (by decide) hl rfl rfl hd kk
theorem t_p_Reasoner_firstGrade (F : mF X E own cc Ts) (hk : ckd a = 4 ∧ a < 353) (hin : ∀ w ∈ wsX60, w ∈ Ts) (hl : Cond.fieldLink own index "RiddleMill$Reasoner" "firstGrade" "I" ∈ Ts) {v : Int} (hI : I' = up2 I a 6 v) (hd : decode cc pc = .ok (.putfield index, 3)) (kk : cW X nc ns (pc + 3) lv st (gw E.1 cIds (cef E (I', R)) ++ T)) : cW X nc ns pc lv (iV v :: .ref (E.1 a) :: st) (gw E.1 cIds (cef E (I, R)) ++ T) := by
  subst hI
  refine g_put F cIds_nd (cIds_in hk.2) (ceReasoner hk.1) (ci := 4) rfl hin tyX6 tyX6_ok nmX6 6 (by decide) hl rfl rfl (ty := .int) rfl rfl rfl (Nat.le_of_ble_eq_true rfl) ?_ cef_neI hd kk
  rw [cef, ceReasoner hk.1]
  simp [up2_at]
theorem t_g_Reasoner_values (F : mF X E own cc Ts) (hk : ckd a = 4 ∧ a < 353) (hin : ∀ w ∈ wsX60, w ∈ Ts) (hl : Cond.fieldLink own index "RiddleMill$Reasoner" "values" "[I" ∈ Ts) (b : Nat) (hb : a + 2 = b) (hd : decode cc pc = .ok (.getfield index, 3)) (kk : cW X nc ns (pc + 3) lv (.ref (E.1 b) :: st) (gw E.1 cIds (cef E (I, R)) ++ T)) : cW X nc ns pc lv (.ref (E.1 a) :: st) (gw E.1 cIds (cef E (I, R)) ++ T) := by
  subst hb
  exact g_get F (cIds_in hk.2) (ceReasoner hk.1) (ci := 4) rfl hin 7 (by decide) hl rfl rfl hd kk
theorem t_g_Rule_kind (F : mF X E own cc Ts) (hk : ckd a = 5 ∧ a < 353) (hin : ∀ w ∈ wsX70, w ∈ Ts) (hl : Cond.fieldLink own index "RiddleMill$Rule" "kind" "LRiddleMill$Kind;" ∈ Ts) (hd : decode cc pc = .ok (.getfield index, 3)) (kk : cW X nc ns (pc + 3) lv (.ref (E.2.1 0 (R a 0)) :: st) (gw E.1 cIds (cef E (I, R)) ++ T)) : cW X nc ns pc lv (.ref (E.1 a) :: st) (gw E.1 cIds (cef E (I, R)) ++ T) := by
  exact g_get F (cIds_in hk.2) (ceRule hk.1) (ci := 5) rfl hin 0 (by decide) hl rfl rfl hd kk
theorem t_p_Rule_kind (F : mF X E own cc Ts) (hk : ckd a = 5 ∧ a < 353) (hin : ∀ w ∈ wsX70, w ∈ Ts) (hl : Cond.fieldLink own index "RiddleMill$Rule" "kind" "LRiddleMill$Kind;" ∈ Ts) {v : Nat} (hR : R' = up2 R a 0 v) (hd : decode cc pc = .ok (.putfield index, 3)) (kk : cW X nc ns (pc + 3) lv st (gw E.1 cIds (cef E (I, R')) ++ T)) : cW X nc ns pc lv (.ref (E.2.1 0 v) :: .ref (E.1 a) :: st) (gw E.1 cIds (cef E (I, R)) ++ T) := by
  subst hR
  refine g_put F cIds_nd (cIds_in hk.2) (ceRule hk.1) (ci := 5) rfl hin tyX7 tyX7_ok nmX7 0 (by decide) hl rfl rfl (ty := .object "RiddleMill$Kind") rfl rfl rfl (Nat.le_of_ble_eq_true rfl) ?_ cef_neR hd kk
  rw [cef, ceRule hk.1]
  simp [up2_at]
theorem t_g_Rule_number (F : mF X E own cc Ts) (hk : ckd a = 5 ∧ a < 353) (hin : ∀ w ∈ wsX70, w ∈ Ts) (hl : Cond.fieldLink own index "RiddleMill$Rule" "number" "I" ∈ Ts) (hd : decode cc pc = .ok (.getfield index, 3)) (kk : cW X nc ns (pc + 3) lv (iV (I a 1) :: st) (gw E.1 cIds (cef E (I, R)) ++ T)) : cW X nc ns pc lv (.ref (E.1 a) :: st) (gw E.1 cIds (cef E (I, R)) ++ T) := by
  exact g_get F (cIds_in hk.2) (ceRule hk.1) (ci := 5) rfl hin 1 (by decide) hl rfl rfl hd kk
theorem t_p_Rule_number (F : mF X E own cc Ts) (hk : ckd a = 5 ∧ a < 353) (hin : ∀ w ∈ wsX70, w ∈ Ts) (hl : Cond.fieldLink own index "RiddleMill$Rule" "number" "I" ∈ Ts) {v : Int} (hI : I' = up2 I a 1 v) (hd : decode cc pc = .ok (.putfield index, 3)) (kk : cW X nc ns (pc + 3) lv st (gw E.1 cIds (cef E (I', R)) ++ T)) : cW X nc ns pc lv (iV v :: .ref (E.1 a) :: st) (gw E.1 cIds (cef E (I, R)) ++ T) := by
  subst hI
  refine g_put F cIds_nd (cIds_in hk.2) (ceRule hk.1) (ci := 5) rfl hin tyX7 tyX7_ok nmX7 1 (by decide) hl rfl rfl (ty := .int) rfl rfl rfl (Nat.le_of_ble_eq_true rfl) ?_ cef_neI hd kk
  rw [cef, ceRule hk.1]
  simp [up2_at]
theorem t_g_Rule_times (F : mF X E own cc Ts) (hk : ckd a = 5 ∧ a < 353) (hin : ∀ w ∈ wsX70, w ∈ Ts) (hl : Cond.fieldLink own index "RiddleMill$Rule" "times" "I" ∈ Ts) (hd : decode cc pc = .ok (.getfield index, 3)) (kk : cW X nc ns (pc + 3) lv (iV (I a 2) :: st) (gw E.1 cIds (cef E (I, R)) ++ T)) : cW X nc ns pc lv (.ref (E.1 a) :: st) (gw E.1 cIds (cef E (I, R)) ++ T) := by
  exact g_get F (cIds_in hk.2) (ceRule hk.1) (ci := 5) rfl hin 2 (by decide) hl rfl rfl hd kk
theorem t_p_Rule_times (F : mF X E own cc Ts) (hk : ckd a = 5 ∧ a < 353) (hin : ∀ w ∈ wsX70, w ∈ Ts) (hl : Cond.fieldLink own index "RiddleMill$Rule" "times" "I" ∈ Ts) {v : Int} (hI : I' = up2 I a 2 v) (hd : decode cc pc = .ok (.putfield index, 3)) (kk : cW X nc ns (pc + 3) lv st (gw E.1 cIds (cef E (I', R)) ++ T)) : cW X nc ns pc lv (iV v :: .ref (E.1 a) :: st) (gw E.1 cIds (cef E (I, R)) ++ T) := by
  subst hI
  refine g_put F cIds_nd (cIds_in hk.2) (ceRule hk.1) (ci := 5) rfl hin tyX7 tyX7_ok nmX7 2 (by decide) hl rfl rfl (ty := .int) rfl rfl rfl (Nat.le_of_ble_eq_true rfl) ?_ cef_neI hd kk
  rw [cef, ceRule hk.1]
  simp [up2_at]
theorem t_g_Rule_size (F : mF X E own cc Ts) (hk : ckd a = 5 ∧ a < 353) (hin : ∀ w ∈ wsX70, w ∈ Ts) (hl : Cond.fieldLink own index "RiddleMill$Rule" "size" "I" ∈ Ts) (hd : decode cc pc = .ok (.getfield index, 3)) (kk : cW X nc ns (pc + 3) lv (iV (I a 3) :: st) (gw E.1 cIds (cef E (I, R)) ++ T)) : cW X nc ns pc lv (.ref (E.1 a) :: st) (gw E.1 cIds (cef E (I, R)) ++ T) := by
  exact g_get F (cIds_in hk.2) (ceRule hk.1) (ci := 5) rfl hin 3 (by decide) hl rfl rfl hd kk
theorem t_p_Rule_size (F : mF X E own cc Ts) (hk : ckd a = 5 ∧ a < 353) (hin : ∀ w ∈ wsX70, w ∈ Ts) (hl : Cond.fieldLink own index "RiddleMill$Rule" "size" "I" ∈ Ts) {v : Int} (hI : I' = up2 I a 3 v) (hd : decode cc pc = .ok (.putfield index, 3)) (kk : cW X nc ns (pc + 3) lv st (gw E.1 cIds (cef E (I', R)) ++ T)) : cW X nc ns pc lv (iV v :: .ref (E.1 a) :: st) (gw E.1 cIds (cef E (I, R)) ++ T) := by
  subst hI
  refine g_put F cIds_nd (cIds_in hk.2) (ceRule hk.1) (ci := 5) rfl hin tyX7 tyX7_ok nmX7 3 (by decide) hl rfl rfl (ty := .int) rfl rfl rfl (Nat.le_of_ble_eq_true rfl) ?_ cef_neI hd kk
  rw [cef, ceRule hk.1]
  simp [up2_at]
theorem t_g_Rule_cells (F : mF X E own cc Ts) (hk : ckd a = 5 ∧ a < 353) (hin : ∀ w ∈ wsX70, w ∈ Ts) (hl : Cond.fieldLink own index "RiddleMill$Rule" "cells" "[I" ∈ Ts) (b : Nat) (hb : a + 130 = b) (hd : decode cc pc = .ok (.getfield index, 3)) (kk : cW X nc ns (pc + 3) lv (.ref (E.1 b) :: st) (gw E.1 cIds (cef E (I, R)) ++ T)) : cW X nc ns pc lv (.ref (E.1 a) :: st) (gw E.1 cIds (cef E (I, R)) ++ T) := by
  subst hb
  exact g_get F (cIds_in hk.2) (ceRule hk.1) (ci := 5) rfl hin 4 (by decide) hl rfl rfl hd kk
theorem t_g_Rule_mask (F : mF X E own cc Ts) (hk : ckd a = 5 ∧ a < 353) (hin : ∀ w ∈ wsX70, w ∈ Ts) (hl : Cond.fieldLink own index "RiddleMill$Rule" "mask" "I" ∈ Ts) (hd : decode cc pc = .ok (.getfield index, 3)) (kk : cW X nc ns (pc + 3) lv (iV (I a 5) :: st) (gw E.1 cIds (cef E (I, R)) ++ T)) : cW X nc ns pc lv (.ref (E.1 a) :: st) (gw E.1 cIds (cef E (I, R)) ++ T) := by
  exact g_get F (cIds_in hk.2) (ceRule hk.1) (ci := 5) rfl hin 5 (by decide) hl rfl rfl hd kk
theorem t_p_Rule_mask (F : mF X E own cc Ts) (hk : ckd a = 5 ∧ a < 353) (hin : ∀ w ∈ wsX70, w ∈ Ts) (hl : Cond.fieldLink own index "RiddleMill$Rule" "mask" "I" ∈ Ts) {v : Int} (hI : I' = up2 I a 5 v) (hd : decode cc pc = .ok (.putfield index, 3)) (kk : cW X nc ns (pc + 3) lv st (gw E.1 cIds (cef E (I', R)) ++ T)) : cW X nc ns pc lv (iV v :: .ref (E.1 a) :: st) (gw E.1 cIds (cef E (I, R)) ++ T) := by
  subst hI
  refine g_put F cIds_nd (cIds_in hk.2) (ceRule hk.1) (ci := 5) rfl hin tyX7 tyX7_ok nmX7 5 (by decide) hl rfl rfl (ty := .int) rfl rfl rfl (Nat.le_of_ble_eq_true rfl) ?_ cef_neI hd kk
  rw [cef, ceRule hk.1]
  simp [up2_at]
theorem t_g_Search_solutions (F : mF X E own cc Ts) (hk : ckd a = 6 ∧ a < 353) (hin : ∀ w ∈ wsX80, w ∈ Ts) (hl : Cond.fieldLink own index "RiddleMill$Search" "solutions" "[[I" ∈ Ts) (b : Nat) (hb : a + 1 = b) (hd : decode cc pc = .ok (.getfield index, 3)) (kk : cW X nc ns (pc + 3) lv (.ref (E.1 b) :: st) (gw E.1 cIds (cef E (I, R)) ++ T)) : cW X nc ns pc lv (.ref (E.1 a) :: st) (gw E.1 cIds (cef E (I, R)) ++ T) := by
  subst hb
  exact g_get F (cIds_in hk.2) (ceSearch hk.1) (ci := 6) rfl hin 0 (by decide) hl rfl rfl hd kk
theorem t_g_Search_found (F : mF X E own cc Ts) (hk : ckd a = 6 ∧ a < 353) (hin : ∀ w ∈ wsX80, w ∈ Ts) (hl : Cond.fieldLink own index "RiddleMill$Search" "found" "I" ∈ Ts) (hd : decode cc pc = .ok (.getfield index, 3)) (kk : cW X nc ns (pc + 3) lv (iV (I a 1) :: st) (gw E.1 cIds (cef E (I, R)) ++ T)) : cW X nc ns pc lv (.ref (E.1 a) :: st) (gw E.1 cIds (cef E (I, R)) ++ T) := by
  exact g_get F (cIds_in hk.2) (ceSearch hk.1) (ci := 6) rfl hin 1 (by decide) hl rfl rfl hd kk
theorem t_p_Search_found (F : mF X E own cc Ts) (hk : ckd a = 6 ∧ a < 353) (hin : ∀ w ∈ wsX80, w ∈ Ts) (hl : Cond.fieldLink own index "RiddleMill$Search" "found" "I" ∈ Ts) {v : Int} (hI : I' = up2 I a 1 v) (hd : decode cc pc = .ok (.putfield index, 3)) (kk : cW X nc ns (pc + 3) lv st (gw E.1 cIds (cef E (I', R)) ++ T)) : cW X nc ns pc lv (iV v :: .ref (E.1 a) :: st) (gw E.1 cIds (cef E (I, R)) ++ T) := by
  subst hI
  refine g_put F cIds_nd (cIds_in hk.2) (ceSearch hk.1) (ci := 6) rfl hin tyX8 tyX8_ok nmX8 1 (by decide) hl rfl rfl (ty := .int) rfl rfl rfl (Nat.le_of_ble_eq_true rfl) ?_ cef_neI hd kk
  rw [cef, ceSearch hk.1]
  simp [up2_at]
theorem t_g_Search_tries (F : mF X E own cc Ts) (hk : ckd a = 6 ∧ a < 353) (hin : ∀ w ∈ wsX80, w ∈ Ts) (hl : Cond.fieldLink own index "RiddleMill$Search" "tries" "I" ∈ Ts) (hd : decode cc pc = .ok (.getfield index, 3)) (kk : cW X nc ns (pc + 3) lv (iV (I a 2) :: st) (gw E.1 cIds (cef E (I, R)) ++ T)) : cW X nc ns pc lv (.ref (E.1 a) :: st) (gw E.1 cIds (cef E (I, R)) ++ T) := by
  exact g_get F (cIds_in hk.2) (ceSearch hk.1) (ci := 6) rfl hin 2 (by decide) hl rfl rfl hd kk
theorem t_p_Search_tries (F : mF X E own cc Ts) (hk : ckd a = 6 ∧ a < 353) (hin : ∀ w ∈ wsX80, w ∈ Ts) (hl : Cond.fieldLink own index "RiddleMill$Search" "tries" "I" ∈ Ts) {v : Int} (hI : I' = up2 I a 2 v) (hd : decode cc pc = .ok (.putfield index, 3)) (kk : cW X nc ns (pc + 3) lv st (gw E.1 cIds (cef E (I', R)) ++ T)) : cW X nc ns pc lv (iV v :: .ref (E.1 a) :: st) (gw E.1 cIds (cef E (I, R)) ++ T) := by
  subst hI
  refine g_put F cIds_nd (cIds_in hk.2) (ceSearch hk.1) (ci := 6) rfl hin tyX8 tyX8_ok nmX8 2 (by decide) hl rfl rfl (ty := .int) rfl rfl rfl (Nat.le_of_ble_eq_true rfl) ?_ cef_neI hd kk
  rw [cef, ceSearch hk.1]
  simp [up2_at]
theorem t_g_Search_values (F : mF X E own cc Ts) (hk : ckd a = 6 ∧ a < 353) (hin : ∀ w ∈ wsX80, w ∈ Ts) (hl : Cond.fieldLink own index "RiddleMill$Search" "values" "[I" ∈ Ts) (b : Nat) (hb : a + 2 = b) (hd : decode cc pc = .ok (.getfield index, 3)) (kk : cW X nc ns (pc + 3) lv (.ref (E.1 b) :: st) (gw E.1 cIds (cef E (I, R)) ++ T)) : cW X nc ns pc lv (.ref (E.1 a) :: st) (gw E.1 cIds (cef E (I, R)) ++ T) := by
  subst hb
  exact g_get F (cIds_in hk.2) (ceSearch hk.1) (ci := 6) rfl hin 3 (by decide) hl rfl rfl hd kk
theorem t_g_Search_only (F : mF X E own cc Ts) (hk : ckd a = 6 ∧ a < 353) (hin : ∀ w ∈ wsX80, w ∈ Ts) (hl : Cond.fieldLink own index "RiddleMill$Search" "only" "[I" ∈ Ts) (b : Nat) (hb : a + 3 = b) (hd : decode cc pc = .ok (.getfield index, 3)) (kk : cW X nc ns (pc + 3) lv (.ref (E.1 b) :: st) (gw E.1 cIds (cef E (I, R)) ++ T)) : cW X nc ns pc lv (.ref (E.1 a) :: st) (gw E.1 cIds (cef E (I, R)) ++ T) := by
  subst hb
  exact g_get F (cIds_in hk.2) (ceSearch hk.1) (ci := 6) rfl hin 4 (by decide) hl rfl rfl hd kk
theorem t_g_Search_first (F : mF X E own cc Ts) (hk : ckd a = 6 ∧ a < 353) (hin : ∀ w ∈ wsX80, w ∈ Ts) (hl : Cond.fieldLink own index "RiddleMill$Search" "first" "[I" ∈ Ts) (b : Nat) (hb : a + 4 = b) (hd : decode cc pc = .ok (.getfield index, 3)) (kk : cW X nc ns (pc + 3) lv (.ref (E.1 b) :: st) (gw E.1 cIds (cef E (I, R)) ++ T)) : cW X nc ns pc lv (.ref (E.1 a) :: st) (gw E.1 cIds (cef E (I, R)) ++ T) := by
  subst hb
  exact g_get F (cIds_in hk.2) (ceSearch hk.1) (ci := 6) rfl hin 5 (by decide) hl rfl rfl hd kk
theorem t_g_Search_without (F : mF X E own cc Ts) (hk : ckd a = 6 ∧ a < 353) (hin : ∀ w ∈ wsX80, w ∈ Ts) (hl : Cond.fieldLink own index "RiddleMill$Search" "without" "I" ∈ Ts) (hd : decode cc pc = .ok (.getfield index, 3)) (kk : cW X nc ns (pc + 3) lv (iV (I a 6) :: st) (gw E.1 cIds (cef E (I, R)) ++ T)) : cW X nc ns pc lv (.ref (E.1 a) :: st) (gw E.1 cIds (cef E (I, R)) ++ T) := by
  exact g_get F (cIds_in hk.2) (ceSearch hk.1) (ci := 6) rfl hin 6 (by decide) hl rfl rfl hd kk
theorem t_p_Search_without (F : mF X E own cc Ts) (hk : ckd a = 6 ∧ a < 353) (hin : ∀ w ∈ wsX80, w ∈ Ts) (hl : Cond.fieldLink own index "RiddleMill$Search" "without" "I" ∈ Ts) {v : Int} (hI : I' = up2 I a 6 v) (hd : decode cc pc = .ok (.putfield index, 3)) (kk : cW X nc ns (pc + 3) lv st (gw E.1 cIds (cef E (I', R)) ++ T)) : cW X nc ns pc lv (iV v :: .ref (E.1 a) :: st) (gw E.1 cIds (cef E (I, R)) ++ T) := by
  subst hI
  refine g_put F cIds_nd (cIds_in hk.2) (ceSearch hk.1) (ci := 6) rfl hin tyX8 tyX8_ok nmX8 6 (by decide) hl rfl rfl (ty := .int) rfl rfl rfl (Nat.le_of_ble_eq_true rfl) ?_ cef_neI hd kk
  rw [cef, ceSearch hk.1]
  simp [up2_at]
theorem t_g_Search_most (F : mF X E own cc Ts) (hk : ckd a = 6 ∧ a < 353) (hin : ∀ w ∈ wsX80, w ∈ Ts) (hl : Cond.fieldLink own index "RiddleMill$Search" "most" "I" ∈ Ts) (hd : decode cc pc = .ok (.getfield index, 3)) (kk : cW X nc ns (pc + 3) lv (iV (I a 7) :: st) (gw E.1 cIds (cef E (I, R)) ++ T)) : cW X nc ns pc lv (.ref (E.1 a) :: st) (gw E.1 cIds (cef E (I, R)) ++ T) := by
  exact g_get F (cIds_in hk.2) (ceSearch hk.1) (ci := 6) rfl hin 7 (by decide) hl rfl rfl hd kk
theorem t_p_Search_most (F : mF X E own cc Ts) (hk : ckd a = 6 ∧ a < 353) (hin : ∀ w ∈ wsX80, w ∈ Ts) (hl : Cond.fieldLink own index "RiddleMill$Search" "most" "I" ∈ Ts) {v : Int} (hI : I' = up2 I a 7 v) (hd : decode cc pc = .ok (.putfield index, 3)) (kk : cW X nc ns (pc + 3) lv st (gw E.1 cIds (cef E (I', R)) ++ T)) : cW X nc ns pc lv (iV v :: .ref (E.1 a) :: st) (gw E.1 cIds (cef E (I, R)) ++ T) := by
  subst hI
  refine g_put F cIds_nd (cIds_in hk.2) (ceSearch hk.1) (ci := 6) rfl hin tyX8 tyX8_ok nmX8 7 (by decide) hl rfl rfl (ty := .int) rfl rfl rfl (Nat.le_of_ble_eq_true rfl) ?_ cef_neI hd kk
  rw [cef, ceSearch hk.1]
  simp [up2_at]
theorem t_g_Search_hasGivenUp (F : mF X E own cc Ts) (hk : ckd a = 6 ∧ a < 353) (hin : ∀ w ∈ wsX80, w ∈ Ts) (hl : Cond.fieldLink own index "RiddleMill$Search" "hasGivenUp" "Z" ∈ Ts) (hd : decode cc pc = .ok (.getfield index, 3)) (kk : cW X nc ns (pc + 3) lv (iV (I a 8) :: st) (gw E.1 cIds (cef E (I, R)) ++ T)) : cW X nc ns pc lv (.ref (E.1 a) :: st) (gw E.1 cIds (cef E (I, R)) ++ T) := by
  exact g_get F (cIds_in hk.2) (ceSearch hk.1) (ci := 6) rfl hin 8 (by decide) hl rfl rfl hd kk
theorem t_p_Search_hasGivenUp (F : mF X E own cc Ts) (hk : ckd a = 6 ∧ a < 353) (hin : ∀ w ∈ wsX80, w ∈ Ts) (hl : Cond.fieldLink own index "RiddleMill$Search" "hasGivenUp" "Z" ∈ Ts) {v : Int} (hb : v = 0 ∨ v = 1) (hI : I' = up2 I a 8 v) (hd : decode cc pc = .ok (.putfield index, 3)) (kk : cW X nc ns (pc + 3) lv st (gw E.1 cIds (cef E (I', R)) ++ T)) : cW X nc ns pc lv (iV v :: .ref (E.1 a) :: st) (gw E.1 cIds (cef E (I, R)) ++ T) := by
  subst hI
  refine g_put F cIds_nd (cIds_in hk.2) (ceSearch hk.1) (ci := 6) rfl hin tyX8 tyX8_ok nmX8 8 (by decide) hl rfl rfl (ty := .boolean) rfl (by rcases hb with rfl | rfl <;> decide) (by rcases hb with rfl | rfl <;> decide) (Nat.le_of_ble_eq_true rfl) ?_ cef_neI hd kk
  rw [cef, ceSearch hk.1]
  simp [up2_at]
theorem t_g_Tape_length (F : mF X E own cc Ts) (hk : ckd a = 7 ∧ a < 353) (hin : ∀ w ∈ wsX90, w ∈ Ts) (hl : Cond.fieldLink own index "RiddleMill$Tape" "length" "I" ∈ Ts) (hd : decode cc pc = .ok (.getfield index, 3)) (kk : cW X nc ns (pc + 3) lv (iV (I a 0) :: st) (gw E.1 cIds (cef E (I, R)) ++ T)) : cW X nc ns pc lv (.ref (E.1 a) :: st) (gw E.1 cIds (cef E (I, R)) ++ T) := by
  exact g_get F (cIds_in hk.2) (ceTape hk.1) (ci := 7) rfl hin 0 (by decide) hl rfl rfl hd kk
theorem t_p_Tape_length (F : mF X E own cc Ts) (hk : ckd a = 7 ∧ a < 353) (hin : ∀ w ∈ wsX90, w ∈ Ts) (hl : Cond.fieldLink own index "RiddleMill$Tape" "length" "I" ∈ Ts) {v : Int} (hI : I' = up2 I a 0 v) (hd : decode cc pc = .ok (.putfield index, 3)) (kk : cW X nc ns (pc + 3) lv st (gw E.1 cIds (cef E (I', R)) ++ T)) : cW X nc ns pc lv (iV v :: .ref (E.1 a) :: st) (gw E.1 cIds (cef E (I, R)) ++ T) := by
  subst hI
  refine g_put F cIds_nd (cIds_in hk.2) (ceTape hk.1) (ci := 7) rfl hin tyX9 tyX9_ok nmX9 0 (by decide) hl rfl rfl (ty := .int) rfl rfl rfl (Nat.le_of_ble_eq_true rfl) ?_ cef_neI hd kk
  rw [cef, ceTape hk.1]
  simp [up2_at]
theorem t_g_Tape_bytes (F : mF X E own cc Ts) (hk : ckd a = 7 ∧ a < 353) (hin : ∀ w ∈ wsX90, w ∈ Ts) (hl : Cond.fieldLink own index "RiddleMill$Tape" "bytes" "[I" ∈ Ts) (b : Nat) (hb : a + 1 = b) (hd : decode cc pc = .ok (.getfield index, 3)) (kk : cW X nc ns (pc + 3) lv (.ref (E.1 b) :: st) (gw E.1 cIds (cef E (I, R)) ++ T)) : cW X nc ns pc lv (.ref (E.1 a) :: st) (gw E.1 cIds (cef E (I, R)) ++ T) := by
  subst hb
  exact g_get F (cIds_in hk.2) (ceTape hk.1) (ci := 7) rfl hin 1 (by decide) hl rfl rfl hd kk
theorem t_g_Tokens_count (F : mF X E own cc Ts) (hk : ckd a = 8 ∧ a < 353) (hin : ∀ w ∈ wsX100, w ∈ Ts) (hl : Cond.fieldLink own index "RiddleMill$Tokens" "count" "I" ∈ Ts) (hd : decode cc pc = .ok (.getfield index, 3)) (kk : cW X nc ns (pc + 3) lv (iV (I a 0) :: st) (gw E.1 cIds (cef E (I, R)) ++ T)) : cW X nc ns pc lv (.ref (E.1 a) :: st) (gw E.1 cIds (cef E (I, R)) ++ T) := by
  exact g_get F (cIds_in hk.2) (ceTokens hk.1) (ci := 8) rfl hin 0 (by decide) hl rfl rfl hd kk
theorem t_p_Tokens_count (F : mF X E own cc Ts) (hk : ckd a = 8 ∧ a < 353) (hin : ∀ w ∈ wsX100, w ∈ Ts) (hl : Cond.fieldLink own index "RiddleMill$Tokens" "count" "I" ∈ Ts) {v : Int} (hI : I' = up2 I a 0 v) (hd : decode cc pc = .ok (.putfield index, 3)) (kk : cW X nc ns (pc + 3) lv st (gw E.1 cIds (cef E (I', R)) ++ T)) : cW X nc ns pc lv (iV v :: .ref (E.1 a) :: st) (gw E.1 cIds (cef E (I, R)) ++ T) := by
  subst hI
  refine g_put F cIds_nd (cIds_in hk.2) (ceTokens hk.1) (ci := 8) rfl hin tyX10 tyX10_ok nmX10 0 (by decide) hl rfl rfl (ty := .int) rfl rfl rfl (Nat.le_of_ble_eq_true rfl) ?_ cef_neI hd kk
  rw [cef, ceTokens hk.1]
  simp [up2_at]
theorem t_g_Tokens_types (F : mF X E own cc Ts) (hk : ckd a = 8 ∧ a < 353) (hin : ∀ w ∈ wsX100, w ∈ Ts) (hl : Cond.fieldLink own index "RiddleMill$Tokens" "types" "[I" ∈ Ts) (b : Nat) (hb : a + 1 = b) (hd : decode cc pc = .ok (.getfield index, 3)) (kk : cW X nc ns (pc + 3) lv (.ref (E.1 b) :: st) (gw E.1 cIds (cef E (I, R)) ++ T)) : cW X nc ns pc lv (.ref (E.1 a) :: st) (gw E.1 cIds (cef E (I, R)) ++ T) := by
  subst hb
  exact g_get F (cIds_in hk.2) (ceTokens hk.1) (ci := 8) rfl hin 1 (by decide) hl rfl rfl hd kk
theorem t_g_Tokens_starts (F : mF X E own cc Ts) (hk : ckd a = 8 ∧ a < 353) (hin : ∀ w ∈ wsX100, w ∈ Ts) (hl : Cond.fieldLink own index "RiddleMill$Tokens" "starts" "[I" ∈ Ts) (b : Nat) (hb : a + 2 = b) (hd : decode cc pc = .ok (.getfield index, 3)) (kk : cW X nc ns (pc + 3) lv (.ref (E.1 b) :: st) (gw E.1 cIds (cef E (I, R)) ++ T)) : cW X nc ns pc lv (.ref (E.1 a) :: st) (gw E.1 cIds (cef E (I, R)) ++ T) := by
  subst hb
  exact g_get F (cIds_in hk.2) (ceTokens hk.1) (ci := 8) rfl hin 2 (by decide) hl rfl rfl hd kk
theorem t_g_Tokens_numbers (F : mF X E own cc Ts) (hk : ckd a = 8 ∧ a < 353) (hin : ∀ w ∈ wsX100, w ∈ Ts) (hl : Cond.fieldLink own index "RiddleMill$Tokens" "numbers" "[I" ∈ Ts) (b : Nat) (hb : a + 3 = b) (hd : decode cc pc = .ok (.getfield index, 3)) (kk : cW X nc ns (pc + 3) lv (.ref (E.1 b) :: st) (gw E.1 cIds (cef E (I, R)) ++ T)) : cW X nc ns pc lv (.ref (E.1 a) :: st) (gw E.1 cIds (cef E (I, R)) ++ T) := by
  subst hb
  exact g_get F (cIds_in hk.2) (ceTokens hk.1) (ci := 8) rfl hin 3 (by decide) hl rfl rfl hd kk
theorem t_g_Mill_tape (F : mF X E own cc Ts) (hk : ckd a = 9 ∧ a < 353) (hin : ∀ w ∈ wsX110, w ∈ Ts) (hl : Cond.fieldLink own index "RiddleMill" "tape" "LRiddleMill$Tape;" ∈ Ts) (hd : decode cc pc = .ok (.getfield index, 3)) (kk : cW X nc ns (pc + 3) lv (.ref (E.1 1) :: st) (gw E.1 cIds (cef E (I, R)) ++ T)) : cW X nc ns pc lv (.ref (E.1 a) :: st) (gw E.1 cIds (cef E (I, R)) ++ T) := by
  exact g_get F (cIds_in hk.2) (ceMill hk.1) (ci := 9) rfl hin 0 (by decide) hl rfl rfl hd kk
theorem t_g_Mill_reader (F : mF X E own cc Ts) (hk : ckd a = 9 ∧ a < 353) (hin : ∀ w ∈ wsX110, w ∈ Ts) (hl : Cond.fieldLink own index "RiddleMill" "reader" "LRiddleMill$PuzzleReader;" ∈ Ts) (hd : decode cc pc = .ok (.getfield index, 3)) (kk : cW X nc ns (pc + 3) lv (.ref (E.1 3) :: st) (gw E.1 cIds (cef E (I, R)) ++ T)) : cW X nc ns pc lv (.ref (E.1 a) :: st) (gw E.1 cIds (cef E (I, R)) ++ T) := by
  exact g_get F (cIds_in hk.2) (ceMill hk.1) (ci := 9) rfl hin 1 (by decide) hl rfl rfl hd kk
theorem t_g_Mill_paper (F : mF X E own cc Ts) (hk : ckd a = 9 ∧ a < 353) (hin : ∀ w ∈ wsX110, w ∈ Ts) (hl : Cond.fieldLink own index "RiddleMill" "paper" "LRiddleMill$Paper;" ∈ Ts) (hd : decode cc pc = .ok (.getfield index, 3)) (kk : cW X nc ns (pc + 3) lv (.ref (E.1 8) :: st) (gw E.1 cIds (cef E (I, R)) ++ T)) : cW X nc ns pc lv (.ref (E.1 a) :: st) (gw E.1 cIds (cef E (I, R)) ++ T) := by
  exact g_get F (cIds_in hk.2) (ceMill hk.1) (ci := 9) rfl hin 2 (by decide) hl rfl rfl hd kk
theorem t_g_Mill_kept (F : mF X E own cc Ts) (hk : ckd a = 9 ∧ a < 353) (hin : ∀ w ∈ wsX110, w ∈ Ts) (hl : Cond.fieldLink own index "RiddleMill" "kept" "LRiddleMill$Search;" ∈ Ts) (hd : decode cc pc = .ok (.getfield index, 3)) (kk : cW X nc ns (pc + 3) lv (.ref (E.1 10) :: st) (gw E.1 cIds (cef E (I, R)) ++ T)) : cW X nc ns pc lv (.ref (E.1 a) :: st) (gw E.1 cIds (cef E (I, R)) ++ T) := by
  exact g_get F (cIds_in hk.2) (ceMill hk.1) (ci := 9) rfl hin 3 (by decide) hl rfl rfl hd kk
theorem t_g_Mill_probe (F : mF X E own cc Ts) (hk : ckd a = 9 ∧ a < 353) (hin : ∀ w ∈ wsX110, w ∈ Ts) (hl : Cond.fieldLink own index "RiddleMill" "probe" "LRiddleMill$Search;" ∈ Ts) (hd : decode cc pc = .ok (.getfield index, 3)) (kk : cW X nc ns (pc + 3) lv (.ref (E.1 45) :: st) (gw E.1 cIds (cef E (I, R)) ++ T)) : cW X nc ns pc lv (.ref (E.1 a) :: st) (gw E.1 cIds (cef E (I, R)) ++ T) := by
  exact g_get F (cIds_in hk.2) (ceMill hk.1) (ci := 9) rfl hin 4 (by decide) hl rfl rfl hd kk
theorem t_g_Mill_reasoner (F : mF X E own cc Ts) (hk : ckd a = 9 ∧ a < 353) (hin : ∀ w ∈ wsX110, w ∈ Ts) (hl : Cond.fieldLink own index "RiddleMill" "reasoner" "LRiddleMill$Reasoner;" ∈ Ts) (hd : decode cc pc = .ok (.getfield index, 3)) (kk : cW X nc ns (pc + 3) lv (.ref (E.1 80) :: st) (gw E.1 cIds (cef E (I, R)) ++ T)) : cW X nc ns pc lv (.ref (E.1 a) :: st) (gw E.1 cIds (cef E (I, R)) ++ T) := by
  exact g_get F (cIds_in hk.2) (ceMill hk.1) (ci := 9) rfl hin 5 (by decide) hl rfl rfl hd kk
theorem t_g_Mill_maker (F : mF X E own cc Ts) (hk : ckd a = 9 ∧ a < 353) (hin : ∀ w ∈ wsX110, w ∈ Ts) (hl : Cond.fieldLink own index "RiddleMill" "maker" "LRiddleMill$Maker;" ∈ Ts) (hd : decode cc pc = .ok (.getfield index, 3)) (kk : cW X nc ns (pc + 3) lv (.ref (E.1 83) :: st) (gw E.1 cIds (cef E (I, R)) ++ T)) : cW X nc ns pc lv (.ref (E.1 a) :: st) (gw E.1 cIds (cef E (I, R)) ++ T) := by
  exact g_get F (cIds_in hk.2) (ceMill hk.1) (ci := 9) rfl hin 6 (by decide) hl rfl rfl hd kk
theorem t_g_Mill_puzzle (F : mF X E own cc Ts) (hk : ckd a = 9 ∧ a < 353) (hin : ∀ w ∈ wsX110, w ∈ Ts) (hl : Cond.fieldLink own index "RiddleMill" "puzzle" "LRiddleMill$Puzzle;" ∈ Ts) (hd : decode cc pc = .ok (.getfield index, 3)) (kk : cW X nc ns (pc + 3) lv (.ref (E.1 (R a 7)) :: st) (gw E.1 cIds (cef E (I, R)) ++ T)) : cW X nc ns pc lv (.ref (E.1 a) :: st) (gw E.1 cIds (cef E (I, R)) ++ T) := by
  exact g_get F (cIds_in hk.2) (ceMill hk.1) (ci := 9) rfl hin 7 (by decide) hl rfl rfl hd kk
theorem t_p_Mill_puzzle (F : mF X E own cc Ts) (hk : ckd a = 9 ∧ a < 353) (hin : ∀ w ∈ wsX110, w ∈ Ts) (hl : Cond.fieldLink own index "RiddleMill" "puzzle" "LRiddleMill$Puzzle;" ∈ Ts) {v : Nat} (hR : R' = up2 R a 7 v) (hd : decode cc pc = .ok (.putfield index, 3)) (kk : cW X nc ns (pc + 3) lv st (gw E.1 cIds (cef E (I, R')) ++ T)) : cW X nc ns pc lv (.ref (E.1 v) :: .ref (E.1 a) :: st) (gw E.1 cIds (cef E (I, R)) ++ T) := by
  subst hR
  refine g_put F cIds_nd (cIds_in hk.2) (ceMill hk.1) (ci := 9) rfl hin tyX11 tyX11_ok nmX11 7 (by decide) hl rfl rfl (ty := .object "RiddleMill$Puzzle") rfl rfl rfl (Nat.le_of_ble_eq_true rfl) ?_ cef_neR hd kk
  rw [cef, ceMill hk.1]
  simp [up2_at]
theorem t_g_Mill_draft (F : mF X E own cc Ts) (hk : ckd a = 9 ∧ a < 353) (hin : ∀ w ∈ wsX110, w ∈ Ts) (hl : Cond.fieldLink own index "RiddleMill" "draft" "LRiddleMill$Puzzle;" ∈ Ts) (hd : decode cc pc = .ok (.getfield index, 3)) (kk : cW X nc ns (pc + 3) lv (.ref (E.1 (R a 8)) :: st) (gw E.1 cIds (cef E (I, R)) ++ T)) : cW X nc ns pc lv (.ref (E.1 a) :: st) (gw E.1 cIds (cef E (I, R)) ++ T) := by
  exact g_get F (cIds_in hk.2) (ceMill hk.1) (ci := 9) rfl hin 8 (by decide) hl rfl rfl hd kk
theorem t_p_Mill_draft (F : mF X E own cc Ts) (hk : ckd a = 9 ∧ a < 353) (hin : ∀ w ∈ wsX110, w ∈ Ts) (hl : Cond.fieldLink own index "RiddleMill" "draft" "LRiddleMill$Puzzle;" ∈ Ts) {v : Nat} (hR : R' = up2 R a 8 v) (hd : decode cc pc = .ok (.putfield index, 3)) (kk : cW X nc ns (pc + 3) lv st (gw E.1 cIds (cef E (I, R')) ++ T)) : cW X nc ns pc lv (.ref (E.1 v) :: .ref (E.1 a) :: st) (gw E.1 cIds (cef E (I, R)) ++ T) := by
  subst hR
  refine g_put F cIds_nd (cIds_in hk.2) (ceMill hk.1) (ci := 9) rfl hin tyX11 tyX11_ok nmX11 8 (by decide) hl rfl rfl (ty := .object "RiddleMill$Puzzle") rfl rfl rfl (Nat.le_of_ble_eq_true rfl) ?_ cef_neR hd kk
  rw [cef, ceMill hk.1]
  simp [up2_at]
theorem t_ald (F : mF X E own cc Ts) (n : Nat) (hk : isA n a) {x : Int} (h : 0 ≤ x ∧ x < n) (hn : n < 2147483648) (hd : decode cc pc = .ok (.iaload, 1)) (kk : cW X nc ns (pc + 1) lv (iV (I a x) :: st) (gw E.1 cIds (cef E (I, R)) ++ T)) : cW X nc ns pc lv (iV x :: .ref (E.1 a) :: st) (gw E.1 cIds (cef E (I, R)) ++ T) :=
  g_ald F (cIds_in hk.2.2) (ceRow hk) h hn hd kk
theorem t_ast (F : mF X E own cc Ts) (n : Nat) (hk : isA n a) {x v : Int} (h : 0 ≤ x ∧ x < n) (hn : n < 2147483648) (hI : I' = up2 I a x v) (hd : decode cc pc = .ok (.iastore, 1)) (kk : cW X nc ns (pc + 1) lv st (gw E.1 cIds (cef E (I', R)) ++ T)) : cW X nc ns pc lv (iV v :: iV x :: .ref (E.1 a) :: st) (gw E.1 cIds (cef E (I, R)) ++ T) := by
  subst hI
  exact g_ast F cIds_nd (cIds_in hk.2.2) (ceRow hk) h hn (by rw [cef, ceRow hk]; show iA E n (up2 I a x v a) = _; rw [up2_at]) cef_neI hd kk
theorem t_alen (F : mF X E own cc Ts) (n : Nat) (hk : isA n a) (hd : decode cc pc = .ok (.arraylength, 1)) (kk : cW X nc ns (pc + 1) lv (iV (n : Int) :: st) (gw E.1 cIds (cef E (I, R)) ++ T)) : cW X nc ns pc lv (.ref (E.1 a) :: st) (gw E.1 cIds (cef E (I, R)) ++ T) :=
  g_alen F (cIds_in hk.2.2) (ceRow hk) hd kk
theorem t_rld (F : mF X E own cc Ts) (hk : ckd a = 12 ∧ a < 353) {x : Int} (h : 0 ≤ x ∧ x < 65) (hd : decode cc pc = .ok (.aaload, 1)) (kk : cW X nc ns (pc + 1) lv (.ref (E.1 (R a x)) :: st) (gw E.1 cIds (cef E (I, R)) ++ T)) : cW X nc ns pc lv (iV x :: .ref (E.1 a) :: st) (gw E.1 cIds (cef E (I, R)) ++ T) :=
  g_rld F (cIds_in hk.2) (ceRules hk.1) h (by decide) hd kk
theorem t_rst (F : mF X E own cc Ts) (hk : ckd a = 12 ∧ a < 353) {x : Int} {r : Nat} (h : 0 ≤ x ∧ x < 65) (hr : isR r) (hR : R' = up2 R a x r) (hd : decode cc pc = .ok (.aastore, 1)) (kk : cW X nc ns (pc + 1) lv st (gw E.1 cIds (cef E (I, R')) ++ T)) : cW X nc ns pc lv (.ref (E.1 r) :: iV x :: .ref (E.1 a) :: st) (gw E.1 cIds (cef E (I, R)) ++ T) := by
  subst hR
  exact g_rst F cIds_nd (cIds_in hk.2) (ceRules hk.1) h (by decide) (cIds_in (kR0 hr).2) (ceRule (kR0 hr).1) (by rw [cef, ceRules hk.1]; show rA E (yR E) 65 (up2 R a x r a) = _; rw [up2_at]) cef_neR hd kk
theorem t_rlen (F : mF X E own cc Ts) (hk : ckd a = 12 ∧ a < 353) (hd : decode cc pc = .ok (.arraylength, 1)) (kk : cW X nc ns (pc + 1) lv (iV 65 :: st) (gw E.1 cIds (cef E (I, R)) ++ T)) : cW X nc ns pc lv (.ref (E.1 a) :: st) (gw E.1 cIds (cef E (I, R)) ++ T) :=
  g_rlen F (cIds_in hk.2) (ceRules hk.1) hd kk
theorem t_qld (F : mF X E own cc Ts) (hk : ckd a = 13 ∧ a < 353) {x : Int} (h : 0 ≤ x ∧ x < 30) (b : Nat) (hb : a + 4 + x.toNat = b) (hd : decode cc pc = .ok (.aaload, 1)) (kk : cW X nc ns (pc + 1) lv (.ref (E.1 b) :: st) (gw E.1 cIds (cef E (I, R)) ++ T)) : cW X nc ns pc lv (iV x :: .ref (E.1 a) :: st) (gw E.1 cIds (cef E (I, R)) ++ T) := by
  subst hb
  exact g_qld F (cIds_in hk.2) (ceSols hk.1) h (by decide) hd kk
theorem t_qlen (F : mF X E own cc Ts) (hk : ckd a = 13 ∧ a < 353) (hd : decode cc pc = .ok (.arraylength, 1)) (kk : cW X nc ns (pc + 1) lv (iV 30 :: st) (gw E.1 cIds (cef E (I, R)) ++ T)) : cW X nc ns pc lv (.ref (E.1 a) :: st) (gw E.1 cIds (cef E (I, R)) ++ T) :=
  g_qlen F (cIds_in hk.2) (ceSols hk.1) hd kk
end THINGS
end
section
/-! ===== rows that the walks use ===== -/
theorem ib2 : ∀ w ∈ wsX20, w ∈ bG := fun w h => bm ((show ∀ w ∈ wsX20, w ∈ lw_tbl by decide +kernel) w h) ((show ∀ w ∈ wsX20, goodWord w = true by decide +kernel) w h)
theorem ib3 : ∀ w ∈ wsX30, w ∈ bG := fun w h => bm ((show ∀ w ∈ wsX30, w ∈ lw_tbl by decide +kernel) w h) ((show ∀ w ∈ wsX30, goodWord w = true by decide +kernel) w h)
theorem ib4 : ∀ w ∈ wsX40, w ∈ bG := fun w h => bm ((show ∀ w ∈ wsX40, w ∈ lw_tbl by decide +kernel) w h) ((show ∀ w ∈ wsX40, goodWord w = true by decide +kernel) w h)
theorem ib5 : ∀ w ∈ wsX50, w ∈ bG := fun w h => bm ((show ∀ w ∈ wsX50, w ∈ lw_tbl by decide +kernel) w h) ((show ∀ w ∈ wsX50, goodWord w = true by decide +kernel) w h)
theorem ib6 : ∀ w ∈ wsX60, w ∈ bG := fun w h => bm ((show ∀ w ∈ wsX60, w ∈ lw_tbl by decide +kernel) w h) ((show ∀ w ∈ wsX60, goodWord w = true by decide +kernel) w h)
theorem ib7 : ∀ w ∈ wsX70, w ∈ bG := fun w h => bm ((show ∀ w ∈ wsX70, w ∈ lw_tbl by decide +kernel) w h) ((show ∀ w ∈ wsX70, goodWord w = true by decide +kernel) w h)
theorem ib8 : ∀ w ∈ wsX80, w ∈ bG := fun w h => bm ((show ∀ w ∈ wsX80, w ∈ lw_tbl by decide +kernel) w h) ((show ∀ w ∈ wsX80, goodWord w = true by decide +kernel) w h)
theorem ib9 : ∀ w ∈ wsX90, w ∈ bG := fun w h => bm ((show ∀ w ∈ wsX90, w ∈ lw_tbl by decide +kernel) w h) ((show ∀ w ∈ wsX90, goodWord w = true by decide +kernel) w h)
theorem ib10 : ∀ w ∈ wsX100, w ∈ bG := fun w h => bm ((show ∀ w ∈ wsX100, w ∈ lw_tbl by decide +kernel) w h) ((show ∀ w ∈ wsX100, goodWord w = true by decide +kernel) w h)
theorem ib11 : ∀ w ∈ wsX110, w ∈ bG := fun w h => bm ((show ∀ w ∈ wsX110, w ∈ lw_tbl by decide +kernel) w h) ((show ∀ w ∈ wsX110, goodWord w = true by decide +kernel) w h)
theorem kA_2 : isA 1600 2 := by unfold isA; decide
theorem kA_5 : isA 1601 5 := by unfold isA; decide
theorem kA_6 : isA 1601 6 := by unfold isA; decide
theorem kA_7 : isA 1601 7 := by unfold isA; decide
theorem kA_9 : isA 1980 9 := by unfold isA; decide
theorem kA_12 : isA 25 12 := by unfold isA; decide
theorem kA_13 : isA 25 13 := by unfold isA; decide
theorem kA_14 : isA 25 14 := by unfold isA; decide
theorem kA_47 : isA 25 47 := by unfold isA; decide
theorem kA_48 : isA 25 48 := by unfold isA; decide
theorem kA_49 : isA 25 49 := by unfold isA; decide
theorem kA_81 : isA 25 81 := by unfold isA; decide
theorem kA_82 : isA 25 82 := by unfold isA; decide
theorem kA_84 : isA 25 84 := by unfold isA; decide

theorem bV {own C : String} {idx : Nat} {y : MethodName} {b : ByteArray} {n : Nat} {r : Option FieldType} (h1 : Cond.methodLink own idx y ∈ bG) (h2 : Cond.instanceMethod y ∈ bG) (h3 : Cond.selects C y y ∈ bG) (h4 : Cond.initialized C ∈ bG) (h5 : Cond.code y b n r ∈ bG) : GoodIn bG (wsV own idx C y (Cond.code y b n r :: bG)) := by
  have hm : ∀ w ∈ wsV own idx C y (Cond.code y b n r :: bG), w ∈ bG := by
    intro w h
    unfold wsV at h
    simp only [List.cons_append, List.nil_append, List.mem_cons] at h
    rcases h with rfl | rfl | rfl | rfl | rfl | h
    · exact h1
    · exact h2
    · exact h3
    · exact h4
    · exact h5
    · exact h
  exact fun w h => ⟨hm w h, good_of_word (List.mem_filter.mp (hm w h)).2⟩
theorem bS {own : String} {idx : Nat} {y : MethodName} {b : ByteArray} {n : Nat} {r : Option FieldType} (h1 : Cond.methodLink own idx y ∈ bG) (h2 : Cond.static y ∈ bG) (h4 : Cond.initialized y.cls ∈ bG) (h5 : Cond.code y b n r ∈ bG) : GoodIn bG (va_wsS own idx y (Cond.code y b n r :: bG)) := by
  have hm : ∀ w ∈ va_wsS own idx y (Cond.code y b n r :: bG), w ∈ bG := by
    intro w h
    unfold va_wsS at h
    simp only [List.cons_append, List.nil_append, List.mem_cons] at h
    rcases h with rfl | rfl | rfl | rfl | h
    · exact h1
    · exact h2
    · exact h4
    · exact h5
    · exact h
  exact fun w h => ⟨hm w h, good_of_word (List.mem_filter.mp (hm w h)).2⟩
/-- constants of Kind, the tables, texts: what they tell -/
def kN (j : Nat) : Int := (j : Int)
def kA (j : Nat) : Int := kAh.getD j 0
def kE (j : Nat) : Int := kEx.getD j 0
def swT (x : Int) : Int := swM.getD x.toNat 0
def nuT (x : Int) : Int := nuM.getD x.toNat 0
def txN (i : Nat) : Int := (txL.getD i 0 : Int)
def txC (i : Nat) (x : Int) : Int := (((txB.getD i []).getD x.toNat 0).toInt) % 256
theorem inR_b {x : Int} (h : 0 ≤ x ∧ x < 100000) : inR x := by unfold inR; omega
theorem kN_in {j : Nat} (h : j < 12) : inR (kN j) := inR_b (by unfold kN; omega)
theorem kA_in {j : Nat} (h : j < 12) : inR (kA j) := inR_b ((show ∀ j, j < 12 → 0 ≤ kA j ∧ kA j < 100000 by unfold kA; decide +kernel) j h)
theorem kE_in {j : Nat} (h : j < 12) : inR (kE j) := inR_b ((show ∀ j, j < 12 → 0 ≤ kE j ∧ kE j < 100000 by unfold kE; decide +kernel) j h)
theorem getD_in (l : List Int) (h : ∀ x ∈ l, 0 ≤ x ∧ x < 100000) (n : Nat) : inR (l.getD n 0) := by
  rw [List.getD_eq_getElem?_getD]
  cases e : l[n]? with
  | none => exact ti_0
  | some x => exact inR_b (h x (List.mem_of_getElem? e))
theorem swT_in (x : Int) : inR (swT x) := getD_in swM (by decide) _
theorem nuT_in (x : Int) : inR (nuT x) := getD_in nuM (by decide) _
theorem txN_in {i : Nat} (h : i < 33) : inR (txN i) := inR_b ((show ∀ j, j < 33 → 0 ≤ txN j ∧ txN j < 100000 by unfold txN; decide +kernel) i h)
theorem txC_in (i : Nat) (x : Int) : inR (txC i x) := by
  unfold txC
  exact inR_b (by omega)
theorem tN12 {x : Int} (h : 0 ≤ x ∧ x < 12) : x.toNat < 12 := by omega
theorem tN33 {x : Int} (h : 0 ≤ x ∧ x < 16) : 15 + x.toNat < 33 := by omega
def upF (f : Int → Int) (x v : Int) : Int → Int := fun z => if z = x then v else f z
theorem upF_in {f g : Int → Int} {x v : Int} (h : ∀ z, inR (f z)) (e : g = upF f x v) (hv : inR v) : ∀ z, inR (g z) := by
  intro z
  rw [e]
  unfold upF
  by_cases q : z = x
  · rw [if_pos q]; exact hv
  · rw [if_neg q]; exact h z
def imax (x y : Int) : Int := if x < y then y else x
def iabs (x : Int) : Int := if 0 ≤ x then x else -x
theorem imax_in {x y : Int} (hx : inR x) (hy : inR y) : inR (imax x y) := by
  unfold imax
  by_cases h : x < y
  · rw [if_pos h]; exact hy
  · rw [if_neg h]; exact hx
/-- how many bits of a number are 1, as the JDK counts them -/
def bcS (x y : Int32) : Int32 := (x.toUInt32 >>> (y.toUInt32 &&& Int32.toUInt32 31)).toInt32
def bcI (x0 : Int32) : Int32 :=
  let x1 := x0 - (bcS x0 1 &&& 1431655765)
  let x2 := (x1 &&& 858993459) + (bcS x1 2 &&& 858993459)
  let x3 := (x2 + bcS x2 4) &&& 252645135
  let x4 := x3 + bcS x3 8
  let x5 := x4 + bcS x4 16
  x5 &&& 63
def bc (x : Int) : Int := (bcI (Int32.ofInt x)).toInt
theorem bc_in (x : Int) : inR (bc x) := ti_rng _
section HROWS
variable {X : xC} {E : cE} {own : String} {cc : ByteArray} {Ts : List Cond} {nc ns pc index : Nat} {lv lv' : List (Nat × Value)} {st : List Value} {ws : va_W}
theorem q_top {x y : Int} (h : y = x) (k : cW X nc ns pc lv (iV y :: st) ws) : cW X nc ns pc lv (iV x :: st) ws := by rw [← h]; exact k
theorem q_n {i n m : Nat} (h : m = n) (hi : i < n) : i < m := by rw [h]; exact hi
theorem q_ldc_w (F : mF X E own cc Ts) {n : Int} (hc : Cond.constant own index (Int32.ofInt n) ∈ Ts) (hd : decode cc pc = .ok (.ldc_w index, 3)) (k : cW X nc ns (pc + 3) lv (iV n :: st) ws) : cW X nc ns pc lv st ws := fun H locs ls hP hD hS hl => lv_ldcw F.hx F.hb F.ho (F.ht _ hc) hd (k H locs ls hP hD hS hl)
theorem q_ldcT (F : mF X E own cc Ts) {tx : String} {q : Nat} (hZ : vk_R own index tx q X.2.1.1) (hd : decode cc pc = .ok (.ldc index, 2)) (k : cW X nc ns (pc + 2) lv (.ref q :: st) ws) : cW X nc ns pc lv st ws := fun H locs ls hP hD hS hl => va_ldcS F.hx F.hb F.ho hZ hd (k H locs ls hP hD hS hl)
theorem q_gs (F : mF X E own cc Ts) {C n d ref : String} {v : Value} (hZ : va_Z C n d v X.2.2.2.1 X.2.1.1 X.2.1.1.heap) (hl : Cond.fieldLink own index ref n d ∈ Ts) (hr : C = ref) (hd : decode cc pc = .ok (.getstatic index, 3)) (k : cW X nc ns (pc + 3) lv (v :: st) ws) : cW X nc ns pc lv st ws := fun H locs ls hP hD hS hl2 => va_gets F.hx F.hb hZ hS F.ho (F.ht _ hl) (fun x h => by rw [← hr]; exact h) hd (k H locs ls hP hD hS hl2)
theorem q_gsN (F : mF X E own cc Ts) {C n d ref host : String} {v : Value} (hZ : va_Z C n d v X.2.2.2.1 X.2.1.1 X.2.1.1.heap) (hl : va_Nw (.fieldLinkNest own index ref n d host) X.2.1.1) (hr : C = ref) (hd : decode cc pc = .ok (.getstatic index, 3)) (k : cW X nc ns (pc + 3) lv (v :: st) ws) : cW X nc ns pc lv st ws := fun H locs ls hP hD hS hl2 => va_getsN F.hx F.hb hZ hS F.ho (va_Nw.use rfl hl) (fun x h => by rw [← hr]; exact h) hd (k H locs ls hP hD hS hl2)
theorem q_gOF (F : mF X E own cc Ts) {o n d ref : String} {q : Nat} {v : Value} (hE : va_OF o n d v q X.2.2.2.1 X.2.1.1 X.2.1.1.heap) (hl : Cond.fieldLink own index ref n d ∈ Ts) (hr : o = ref) (hd : decode cc pc = .ok (.getfield index, 3)) (k : cW X nc ns (pc + 3) lv (v :: st) ws) : cW X nc ns pc lv (.ref q :: st) ws := fun H locs ls hP hD hS hl2 => vk_getf F.hx F.hb hE hS F.ho (F.ht _ hl) (fun x h => by rw [← hr]; exact h) hd (k H locs ls hP hD hS hl2)
theorem q_tlen (F : mF X E own cc Ts) {ty : FieldType} {t N : Nat} {f : Nat → Value} (hT : va_T ty t N f X.2.2.2.1 X.2.1.1 X.2.1.1.heap) (hd : decode cc pc = .ok (.arraylength, 1)) (k : cW X nc ns (pc + 1) lv (iV (N : Int) :: st) ws) : cW X nc ns pc lv (.ref t :: st) ws := fun H locs ls hP hD hS hl2 => va_tlen F.hx F.hb hT hS (Int32.ofInt_eq_ofNat.symm) hd (k H locs ls hP hD hS hl2)
theorem q_tld (F : mF X E own cc Ts) {t N : Nat} {f : Nat → Value} {x : Int} (hT : va_T .int t N f X.2.2.2.1 X.2.1.1 X.2.1.1.heap) (h : 0 ≤ x ∧ x < N) (hn : N < 2147483648) (hd : decode cc pc = .ok (.iaload, 1)) (k : cW X nc ns (pc + 1) lv (f x.toNat :: st) ws) : cW X nc ns pc lv (iV x :: .ref t :: st) ws := fun H locs ls hP hD hS hl2 => va_ti F.hx F.hb hT hS (ti_in h.1 h.2 hn) (by rw [ti_cln h.1 h.2 hn]) hd (k H locs ls hP hD hS hl2)
theorem q_tbd (F : mF X E own cc Ts) {t N : Nat} {f : Nat → Value} {x : Int} (hT : va_T .byte t N f X.2.2.2.1 X.2.1.1 X.2.1.1.heap) (h : 0 ≤ x ∧ x < N) (hn : N < 2147483648) (hd : decode cc pc = .ok (.baload, 1)) (k : cW X nc ns (pc + 1) lv (f x.toNat :: st) ws) : cW X nc ns pc lv (iV x :: .ref t :: st) ws := fun H locs ls hP hD hS hl2 => va_tb F.hx F.hb hT hS (ti_in h.1 h.2 hn) (by rw [ti_cln h.1 h.2 hn]) hd (k H locs ls hP hD hS hl2)
theorem q_tqd (F : mF X E own cc Ts) {C : String} {t N : Nat} {f : Nat → Value} {x : Int} (hT : va_T (.object C) t N f X.2.2.2.1 X.2.1.1 X.2.1.1.heap) (h : 0 ≤ x ∧ x < N) (hn : N < 2147483648) (hd : decode cc pc = .ok (.aaload, 1)) (k : cW X nc ns (pc + 1) lv (f x.toNat :: st) ws) : cW X nc ns pc lv (iV x :: .ref t :: st) ws := fun H locs ls hP hD hS hl2 => vb_tq F.hx F.hb hT hS (ti_in h.1 h.2 hn) (by rw [ti_cln h.1 h.2 hn]) hd (k H locs ls hP hD hS hl2)
/-- the static facts, each by its name -/
theorem sZ_DIFFER (F : mF X E own cc Ts) : va_Z RX1 "DIFFER" "LRiddleMill$Kind;" (.ref (E.2.1 0 0)) X.2.2.2.1 X.2.1.1 X.2.1.1.heap := F.hS.2.1.2.2.2.2.2.2.1
theorem sZ_IS (F : mF X E own cc Ts) : va_Z RX1 "IS" "LRiddleMill$Kind;" (.ref (E.2.1 0 9)) X.2.2.2.1 X.2.1.1 X.2.1.1.heap := F.hS.2.1.2.2.2.2.2.2.2.1
theorem sZ_ALL (F : mF X E own cc Ts) : va_Z RX1 "ALL" "[LRiddleMill$Kind;" (.ref (E.2.1 4 0)) X.2.2.2.1 X.2.1.1 X.2.1.1.heap := F.hS.2.1.2.2.2.2.2.2.2.2.1
theorem sT_ALL (F : mF X E own cc Ts) : va_T (.object RX1) (E.2.1 4 0) 12 (fun j => .ref (E.2.1 0 j)) X.2.2.2.1 X.2.1.1 X.2.1.1.heap := F.hS.2.1.2.2.2.2.2.2.2.2.2.1
theorem sZ_SW (F : mF X E own cc Ts) : va_Z RX0 "$SwitchMap$RiddleMill$Kind" "[I" (.ref (E.2.1 4 1)) X.2.2.2.1 X.2.1.1 X.2.1.1.heap := F.hS.2.1.2.2.2.2.2.2.2.2.2.2.1
theorem sT_SW (F : mF X E own cc Ts) : va_T .int (E.2.1 4 1) 12 (fun j => iV (swM.getD j 0)) X.2.2.2.1 X.2.1.1 X.2.1.1.heap := F.hS.2.1.2.2.2.2.2.2.2.2.2.2.2.1
theorem sZ_RULES (F : mF X E own cc Ts) : va_Z RL "RULES" "[Ljava/lang/String;" (.ref (E.2.1 4 2)) X.2.2.2.1 X.2.1.1 X.2.1.1.heap := F.hS.2.1.2.2.2.2.2.2.2.2.2.2.2.2.1
theorem sT_RULES (F : mF X E own cc Ts) : va_T (.object "java/lang/String") (E.2.1 4 2) 16 (fun j => .ref (E.2.1 1 (15 + j))) X.2.2.2.1 X.2.1.1 X.2.1.1.heap := F.hS.2.1.2.2.2.2.2.2.2.2.2.2.2.2.2.1
theorem sT_SC (F : mF X E own cc Ts) : va_T .int (E.2.1 4 3) (scL E) (fun j => iV (scE E j)) X.2.2.2.1 X.2.1.1 X.2.1.1.heap := F.hS.2.1.2.2.2.2.2.2.2.2.2.2.2.2.2.2.1
theorem sZ_COMPACT (F : mF X E own cc Ts) : va_Z "java/lang/String" "COMPACT_STRINGS" "Z" (.int 1) X.2.2.2.1 X.2.1.1 X.2.1.1.heap := F.hS.2.1.2.2.2.2.2.2.2.2.2.2.2.2.2.2.2.1
theorem sK (F : mF X E own cc Ts) : vk_S 33 txL txB (E.2.1 1) (E.2.1 2) X.2.2.2.1 X.2.1.1 X.2.1.1.heap := F.hS.2.1.2.2.2.2.2.2.2.2.2.2.2.2.2.2.2.2.1
theorem sQ_U (F : mF X E own cc Ts) : vx_Zq Bundle.tN "UNASSIGNED_STACK" Bundle.steD X.2.2.2.1 X.2.1.1 X.2.1.1.heap := F.hS.2.1.2.2.2.2.2.2.2.2.2.2.2.2.2.2.2.2.2.1
theorem sQ_N (F : mF X E own cc Ts) : vx_Zq Bundle.tN "SUPPRESSED_SENTINEL" Bundle.listD X.2.2.2.1 X.2.1.1 X.2.1.1.heap := F.hS.2.1.2.2.2.2.2.2.2.2.2.2.2.2.2.2.2.2.2.2.1
theorem sQ_F (F : mF X E own cc Ts) : va_Zq "jdk/internal/util/Preconditions" "SIOOBE_FORMATTER" "Ljava/util/function/BiFunction;" X.2.2.2.1 X.2.1.1 X.2.1.1.heap := F.hS.2.1.2.2.2.2.2.2.2.2.2.2.2.2.2.2.2.2.2.2.2
theorem sR_m (F : mF X E own cc Ts) {j : Nat} (h : j < 15) : vk_R RX11 (msG.getD j (0, "")).1 (msG.getD j (0, "")).2 (E.2.1 3 j) X.2.1.1 := F.hS.2.2.1 j h
theorem sR_RX10_rows (F : mF X E own cc Ts) : vk_R RX10 76 "rows" (E.2.1 1 12) X.2.1.1 := F.hS.2.2.2.1
theorem sR_RX10_columns (F : mF X E own cc Ts) : vk_R RX10 78 "columns" (E.2.1 1 13) X.2.1.1 := F.hS.2.2.2.2.1
theorem sR_RX10_grid (F : mF X E own cc Ts) : vk_R RX10 80 "grid" (E.2.1 1 14) X.2.1.1 := F.hS.2.2.2.2.2.1
theorem sR_RX3_grid (F : mF X E own cc Ts) : vk_R RX3 19 "grid" (E.2.1 1 14) X.2.1.1 := F.hS.2.2.2.2.2.2.1
theorem sR_RL_grid (F : mF X E own cc Ts) : vk_R RL 63 "grid 2 2 4; " (E.2.1 1 31) X.2.1.1 := F.hS.2.2.2.2.2.2.2.1
theorem sR_RL_semi (F : mF X E own cc Ts) : vk_R RL 76 ";" (E.2.1 1 32) X.2.1.1 := F.hS.2.2.2.2.2.2.2.2.1
theorem sN_10 (F : mF X E own cc Ts) : va_Nw (.fieldLinkNest RX10 59 "RiddleMill$Kind" "ALL" "[LRiddleMill$Kind;" "RiddleMill") X.2.1.1 := F.hS.2.2.2.2.2.2.2.2.2.1
theorem sN_5 (F : mF X E own cc Ts) : va_Nw (.fieldLinkNest RX5 67 "RiddleMill$Kind" "ALL" "[LRiddleMill$Kind;" "RiddleMill") X.2.1.1 := F.hS.2.2.2.2.2.2.2.2.2.2.1
theorem sC_0 (F : mF X E own cc Ts) : va_Nw (.castable "java/lang/IllegalStateException" "java/lang/IllegalStateException") X.2.1.1 := F.hS.2.2.2.2.2.2.2.2.2.2.2.1
theorem sC_1 (F : mF X E own cc Ts) : va_Nw (.castable "java/lang/IllegalArgumentException" "java/lang/IllegalArgumentException") X.2.1.1 := F.hS.2.2.2.2.2.2.2.2.2.2.2.2.1
theorem sC_2 (F : mF X E own cc Ts) : va_Nw (.castable "java/lang/IndexOutOfBoundsException" "java/lang/IndexOutOfBoundsException") X.2.1.1 := F.hS.2.2.2.2.2.2.2.2.2.2.2.2.2.1
theorem sC_3 (F : mF X E own cc Ts) : va_Nw (.declares ⟨"java/lang/RuntimeException", "<init>", "(Ljava/lang/String;)V"⟩) X.2.1.1 := F.hS.2.2.2.2.2.2.2.2.2.2.2.2.2.2.1
theorem sC_4 (F : mF X E own cc Ts) : va_Nw (.declares ⟨"java/lang/Exception", "<init>", "(Ljava/lang/String;)V"⟩) X.2.1.1 := F.hS.2.2.2.2.2.2.2.2.2.2.2.2.2.2.2.1
theorem sC_5 (F : mF X E own cc Ts) : va_Nw (.declares ⟨"java/lang/Throwable", "<init>", "(Ljava/lang/String;)V"⟩) X.2.1.1 := F.hS.2.2.2.2.2.2.2.2.2.2.2.2.2.2.2.2
/-- constants of Kind -/
theorem q_kNum (F : mF X E own cc Ts) {j : Nat} (h : j < 12) (hl : Cond.fieldLink own index "RiddleMill$Kind" "number" "I" ∈ Ts) (hd : decode cc pc = .ok (.getfield index, 3)) (k : cW X nc ns (pc + 3) lv (iV (kN j) :: st) ws) : cW X nc ns pc lv (.ref (E.2.1 0 j) :: st) ws := q_gOF F (F.hS.2.1.2.2.1 j h) hl rfl hd k
theorem q_kWord (F : mF X E own cc Ts) {j : Nat} (h : j < 12) (hl : Cond.fieldLink own index "RiddleMill$Kind" "word" "Ljava/lang/String;" ∈ Ts) (hd : decode cc pc = .ok (.getfield index, 3)) (k : cW X nc ns (pc + 3) lv (.ref (E.2.1 1 j) :: st) ws) : cW X nc ns pc lv (.ref (E.2.1 0 j) :: st) ws := q_gOF F (F.hS.2.1.2.2.2.1 j h) hl rfl hd k
theorem q_kAhd (F : mF X E own cc Ts) {j : Nat} (h : j < 12) (hl : Cond.fieldLink own index "RiddleMill$Kind" "numbersAhead" "I" ∈ Ts) (hd : decode cc pc = .ok (.getfield index, 3)) (k : cW X nc ns (pc + 3) lv (iV (kA j) :: st) ws) : cW X nc ns pc lv (.ref (E.2.1 0 j) :: st) ws := q_gOF F (F.hS.2.1.2.2.2.2.1 j h) hl rfl hd k
theorem q_kExa (F : mF X E own cc Ts) {j : Nat} (h : j < 12) (hl : Cond.fieldLink own index "RiddleMill$Kind" "exactCells" "I" ∈ Ts) (hd : decode cc pc = .ok (.getfield index, 3)) (k : cW X nc ns (pc + 3) lv (iV (kE j) :: st) ws) : cW X nc ns pc lv (.ref (E.2.1 0 j) :: st) ws := q_gOF F (F.hS.2.1.2.2.2.2.2.1 j h) hl rfl hd k
theorem q_lenALL (F : mF X E own cc Ts) (hd : decode cc pc = .ok (.arraylength, 1)) (k : cW X nc ns (pc + 1) lv (iV 12 :: st) ws) : cW X nc ns pc lv (.ref (E.2.1 4 0) :: st) ws := q_tlen F (sT_ALL F) hd k
theorem q_lenRULES (F : mF X E own cc Ts) (hd : decode cc pc = .ok (.arraylength, 1)) (k : cW X nc ns (pc + 1) lv (iV 16 :: st) ws) : cW X nc ns pc lv (.ref (E.2.1 4 2) :: st) ws := q_tlen F (sT_RULES F) hd k
theorem q_lenSC (F : mF X E own cc Ts) (hd : decode cc pc = .ok (.arraylength, 1)) (k : cW X nc ns (pc + 1) lv (iV (scL E : Int) :: st) ws) : cW X nc ns pc lv (.ref (E.2.1 4 3) :: st) ws := q_tlen F (sT_SC F) hd k
theorem q_ldALL (F : mF X E own cc Ts) {x : Int} (h : 0 ≤ x ∧ x < 12) (hd : decode cc pc = .ok (.aaload, 1)) (k : cW X nc ns (pc + 1) lv (.ref (E.2.1 0 x.toNat) :: st) ws) : cW X nc ns pc lv (iV x :: .ref (E.2.1 4 0) :: st) ws := q_tqd F (sT_ALL F) h (by decide) hd k
theorem q_ldRULES (F : mF X E own cc Ts) {x : Int} (h : 0 ≤ x ∧ x < 16) (hd : decode cc pc = .ok (.aaload, 1)) (k : cW X nc ns (pc + 1) lv (.ref (E.2.1 1 (15 + x.toNat)) :: st) ws) : cW X nc ns pc lv (iV x :: .ref (E.2.1 4 2) :: st) ws := q_tqd F (sT_RULES F) h (by decide) hd k
theorem q_ldSW (F : mF X E own cc Ts) {x : Int} (h : 0 ≤ x ∧ x < 12) (hd : decode cc pc = .ok (.iaload, 1)) (k : cW X nc ns (pc + 1) lv (iV (swT x) :: st) ws) : cW X nc ns pc lv (iV x :: .ref (E.2.1 4 1) :: st) ws := q_tld F (sT_SW F) h (by decide) hd k
theorem q_ldSC (F : mF X E own cc Ts) (hL : scL E < 2147483648) {x : Int} (h : 0 ≤ x ∧ x < (scL E : Int)) (hd : decode cc pc = .ok (.iaload, 1)) (k : cW X nc ns (pc + 1) lv (iV (scE E x.toNat) :: st) ws) : cW X nc ns pc lv (iV x :: .ref (E.2.1 4 3) :: st) ws := q_tld F (sT_SC F) h hL hd k
theorem q_acne (F : mF X E own cc Ts) {i j : Nat} (hi : i < 12) (hj : j < 12) {off : Int} (tgt : Nat) (hd : decode cc pc = .ok (.if_acmp .ne off, 3)) (ht : (pc : Int) + off = (tgt : Int)) (kt : ¬ i = j → cW X nc ns tgt lv st ws) (kf : i = j → cW X nc ns (pc + 3) lv st ws) : cW X nc ns pc lv (.ref (E.2.1 0 j) :: .ref (E.2.1 0 i) :: st) ws := fun H locs ls hP hD hS hl => lv_acmp_ne (rx := some (E.2.1 0 i)) (ry := some (E.2.1 0 j)) F.hx F.hb hd ht (fun h => kt (fun z => h (by rw [z])) H locs ls hP hD hS hl) (fun h => kf (F.hS.1 i j hi hj (Option.some.inj h)) H locs ls hP hD hS hl)
theorem q_aceq (F : mF X E own cc Ts) {i j : Nat} (hi : i < 12) (hj : j < 12) {off : Int} (tgt : Nat) (hd : decode cc pc = .ok (.if_acmp .eq off, 3)) (ht : (pc : Int) + off = (tgt : Int)) (kt : i = j → cW X nc ns tgt lv st ws) (kf : ¬ i = j → cW X nc ns (pc + 3) lv st ws) : cW X nc ns pc lv (.ref (E.2.1 0 j) :: .ref (E.2.1 0 i) :: st) ws := fun H locs ls hP hD hS hl => lv_acmp_eq (rx := some (E.2.1 0 i)) (ry := some (E.2.1 0 j)) F.hx F.hb hd ht (fun h => kt (F.hS.1 i j hi hj (Option.some.inj h)) H locs ls hP hD hS hl) (fun h => kf (fun z => h (by rw [z])) H locs ls hP hD hS hl)
end HROWS
/-- returns -/
def rI (X : xC) (E : cE) (cc : ByteArray) (mc ms : Nat) (Q : Int → cI → cR → Prop) : Prop := ∀ (pc : Nat) (lv : List (Nat × Value)) (x : Int) (I : cI) (R : cR) (T : va_W), decode cc pc = .ok (.ireturn, 1) → inR x → cM I R → Q x I R → cW X mc ms pc lv [iV x] (gw E.1 cIds (cef E (I, R)) ++ T)
def rZ (X : xC) (E : cE) (cc : ByteArray) (mc ms : Nat) (Q : Int → cI → cR → Prop) : Prop := ∀ (pc : Nat) (lv : List (Nat × Value)) (x : Int) (I : cI) (R : cR) (T : va_W), decode cc pc = .ok (.ireturn, 1) → (x = 0 ∨ x = 1) → inR x → cM I R → Q x I R → cW X mc ms pc lv [iV x] (gw E.1 cIds (cef E (I, R)) ++ T)
def rV (X : xC) (E : cE) (cc : ByteArray) (mc ms : Nat) (Q : cI → cR → Prop) : Prop := ∀ (pc : Nat) (lv : List (Nat × Value)) (I : cI) (R : cR) (T : va_W), decode cc pc = .ok (.return_, 1) → cM I R → Q I R → cW X mc ms pc lv [] (gw E.1 cIds (cef E (I, R)) ++ T)
def rR (X : xC) (E : cE) (cc : ByteArray) (mc ms : Nat) (Q : Nat → cI → cR → Prop) : Prop := ∀ (pc : Nat) (lv : List (Nat × Value)) (r : Nat) (I : cI) (R : cR) (T : va_W), decode cc pc = .ok (.areturn, 1) → isR r → cM I R → Q r I R → cW X mc ms pc lv [.ref (E.1 r)] (gw E.1 cIds (cef E (I, R)) ++ T)
def rJ (X : xC) (E : cE) (cc : ByteArray) (mc ms : Nat) (Q : Int → cI → cR → Prop) : Prop := ∀ (pc : Nat) (lv : List (Nat × Value)) (x : Int) (I : cI) (R : cR) (T : va_W), decode cc pc = .ok (.lreturn, 1) → cM I R → Q x I R → cW X mc ms pc lv [jV x] (gw E.1 cIds (cef E (I, R)) ++ T)
section MK
variable {X : xC} {E : cE} {own : String} {cc : ByteArray} {Ts : List Cond} {mc ms : Nat}
theorem k_retl {σ : Type} {ids : List Nat} {ret : Option FieldType} {ef : σ → Nat → va_E} {post : Option Value → σ → Prop} {u : σ} {pc : Nat} {lv : List (Nat × Value)} {T : va_W} (F : mF X E own cc Ts) (K : kX X E ids ret ef post mc ms) (hr : ret = some .long) {x : Int} (hd : decode cc pc = .ok (.lreturn, 1)) (hq : post (some (jV x)) u) : cW X mc ms pc lv [jV x] (gw E.1 ids (ef u) ++ T) := by
  intro H locs ls hP hD hS hl
  rw [K.2.2]
  exact W.lret F.hx F.hb (K.2.1.trans hr) (fun t ht hW => k_q K.1 hq hP hS ht _) (by have h := hS.2.2; rw [K.1] at h; exact h) hd F.hl
theorem narZ {x : Int} (h : x = 0 ∨ x = 1) : narrow .boolean (iV x) = iV x := by rcases h with rfl | rfl <;> decide
theorem mk_rI {Q : Int → cI → cR → Prop} (F : mF X E own cc Ts) (K : kX X E cIds (some .int) (cef E) (pI Q) mc ms) : rI X E cc mc ms Q := fun pc lv x I R T hd hr hm hq => k_reti (u := (I, R)) F K rfl rfl hd ⟨x, rfl, hr, hm, hq⟩
theorem mk_rZ {Q : Int → cI → cR → Prop} (F : mF X E own cc Ts) (K : kX X E cIds (some .boolean) (cef E) (pI Q) mc ms) : rZ X E cc mc ms Q := fun pc lv x I R T hd hz hr hm hq => k_reti (u := (I, R)) F K rfl (narZ hz) hd ⟨x, rfl, hr, hm, hq⟩
theorem mk_rV {Q : cI → cR → Prop} (F : mF X E own cc Ts) (K : kX X E cIds none (cef E) (pV Q) mc ms) : rV X E cc mc ms Q := fun pc lv I R T hd hm hq => k_retv (u := (I, R)) F K rfl hd ⟨rfl, hm, hq⟩
theorem mk_rR {Q : Nat → cI → cR → Prop} (F : mF X E own cc Ts) (K : kX X E cIds (some (.object "RiddleMill$Rule")) (cef E) (pR E Q) mc ms) : rR X E cc mc ms Q := fun pc lv r I R T hd hr hm hq => k_reta (u := (I, R)) F K rfl hd ⟨r, rfl, hr, hm, hq⟩
theorem mk_rJ {Q : Int → cI → cR → Prop} (F : mF X E own cc Ts) (K : kX X E cIds (some .long) (cef E) (pJ Q) mc ms) : rJ X E cc mc ms Q := fun pc lv x I R T hd hm hq => k_retl (u := (I, R)) F K rfl hd ⟨x, rfl, hm, hq⟩
theorem mk_rIx {Q : Int → cI → cR → Prop} {px : String → cI × cR → Prop} (F : mF X E own cc Ts) (K : kXx X E cIds (some .int) (cef E) (pI Q) px mc ms) : rI X E cc mc ms Q := fun pc lv x I R T hd hr hm hq => k_xreti (u := (I, R)) F K rfl rfl hd ⟨x, rfl, hr, hm, hq⟩
theorem mk_rZx {Q : Int → cI → cR → Prop} {px : String → cI × cR → Prop} (F : mF X E own cc Ts) (K : kXx X E cIds (some .boolean) (cef E) (pI Q) px mc ms) : rZ X E cc mc ms Q := fun pc lv x I R T hd hz hr hm hq => k_xreti (u := (I, R)) F K rfl (narZ hz) hd ⟨x, rfl, hr, hm, hq⟩
theorem mk_rVx {Q : cI → cR → Prop} {px : String → cI × cR → Prop} (F : mF X E own cc Ts) (K : kXx X E cIds none (cef E) (pV Q) px mc ms) : rV X E cc mc ms Q := fun pc lv I R T hd hm hq => k_xretv (u := (I, R)) F K rfl hd ⟨rfl, hm, hq⟩
end MK
section CVN
variable {X : xC} {E : cE} {own : String} {cc : ByteArray} {Ts : List Cond} {nc ns pc kc ks : Nat} {lv : List (Nat × Value)} {st : List Value} {T : va_W} {ids : List Nat} {e : Nat → va_E}
/-- a call that could throw, but doesn't here -/
theorem q_cVn {σ : Type} {ef : σ → Nat → va_E} (F : mF X E own cc Ts) {qx : String → σ → Prop} {qo : Option Value → σ → Prop} {y : MethodName} {bytes : ByteArray} {maxL n index i ci N : Nat} {rt : Option FieldType} {wsY wsY' : List Cond} {rm : Room} {av st0 : List Value} {fs : List Value} {C : String} {TT : u_T}
    (hM : gMx X.1.2.1 X.2.2.2.2 E ids y wsY rm (.ref (E.1 i) :: av) e ef qo qx kc ks) (hi : i ∈ ids) (he : e i = .inr (ci, fs)) (hc : vwCl[ci]? = some (C, TT, N)) (hg : GoodIn Ts (wsV own index C y wsY)) (hw : wsY = Cond.code y bytes maxL rt :: wsY') (hrc : rm.cells = kc ∧ rm.slots = ks)
    (hy : y.cls = C ∧ y.cls ≠ "java/lang/invoke/MethodHandle" ∧ y.cls ≠ "java/lang/invoke/VarHandle" ∧ (parseMethodDescriptor y.desc).map (fun d => d.parameters.length) = some n) (hR : rm.frames + 1 ≤ X.1.2.2.2.frames ∧ 8 + (maxL + 11) + rm.locals ≤ X.1.2.2.2.locals)
    (hn : av.length = n) (hst : st0 = av.reverse ++ .ref (E.1 i) :: st) (hcat : (st.map fun v => v.category).sum ≤ 8) (hd : decode cc pc = .ok (.invokevirtual index, 3)) (hcs : nc + kc ≤ X.1.2.2.2.cells ∧ ns + ks ≤ X.1.2.2.2.slots)
    (hx : ∀ (c : String) (u : σ), qx c u → False)
    (kk : ∀ (v : Option Value) (u : σ), qo v u → cW X (nc + kc) (ns + ks) (pc + 3) lv (v.toList ++ st) (gw E.1 ids (ef u) ++ T)) : cW X nc ns pc lv st0 (gw E.1 ids e ++ T) := by
  intro H locs ls hP hD hS hlv
  obtain ⟨q, hq, -⟩ := gw_get (ad := E.1) (e := e) (T := T) hi
  rw [he] at hq
  have ho := k_own F.hA hD hS
  refine g_callx (vx_runV (As := av) (rest := st) ⟨F.hx, F.hb, F.hml, F.ho, F.ht⟩ (hM H.size) (cwV n F.ht hg hw hrc.1 hrc.2 hy hR) ⟨gP_blind, va_recv F.hK hP hc hq, k_pre F hP hD hS _⟩ rfl hn hlv.1 hst (lv_room hcat) hd hcs) hS (fun z _ h => ho z h) ho (fun c9 ce q9 u H1 locs1 hp hB hk hS1 hce hcv hcl => (hx c9 u hp).elim) (fun v u H1 locs1 hp hB hk hS1 => ?_)
  exact kk v u hp H1 locs1 ls (gP_join hP hD hk hB) (gD_join hD) hS1 hlv
/-- a call of a method of a thing beside the world: a text, a constant -/
theorem q_cG (F : mF X E own cc Ts) {τ : Type} {ef : τ → Nat → va_E} {post : Option Value → τ → Prop} {y : MethodName} {bytes : ByteArray} {maxL n index b mc ms : Nat} {rt : Option FieldType} {wsY wsY' : List Cond} {rm : Room} {av st0 : List Value} {C : String}
    (hM : gM X.1.2.1 X.2.2.2.2 E ids y wsY rm (.ref b :: av) e ef post mc ms) (hrecv : ∀ (H : Heap) (locs : List Loc), va_S X.2.2.2.1 X.2.1.1.heap H locs → ∃ cell : Cell, H[b]? = some cell ∧ cell.vm.isStatics = false ∧ X.2.1.1.vm.findClass C = some cell.cls) (hg : GoodIn Ts (wsV own index C y wsY)) (hw : wsY = Cond.code y bytes maxL rt :: wsY') (hrc : rm.cells = mc ∧ rm.slots = ms)
    (hy : y.cls = C ∧ y.cls ≠ "java/lang/invoke/MethodHandle" ∧ y.cls ≠ "java/lang/invoke/VarHandle" ∧ (parseMethodDescriptor y.desc).map (fun d => d.parameters.length) = some n) (hR : rm.frames + 1 ≤ X.1.2.2.2.frames ∧ 8 + (maxL + 11) + rm.locals ≤ X.1.2.2.2.locals)
    (hn : av.length = n) (hst : st0 = av.reverse ++ .ref b :: st) (hcat : (st.map fun v => v.category).sum ≤ 8) (hd : decode cc pc = .ok (.invokevirtual index, 3)) (hcs : nc + mc ≤ X.1.2.2.2.cells ∧ ns + ms ≤ X.1.2.2.2.slots)
    (kk : ∀ (v : Option Value) (u : τ), post v u → cW X (nc + mc) (ns + ms) (pc + 3) lv (v.toList ++ st) (gw E.1 ids (ef u) ++ T)) : cW X nc ns pc lv st0 (gw E.1 ids e ++ T) := by
  intro H locs ls hP hD hS hlv
  have ho := k_own F.hA hD hS
  refine g_callq (va_runV (As := av) (rest := st) ⟨F.hx, F.hb, F.hml, F.ho, F.ht⟩ (hM H.size) (cwV n F.ht hg hw hrc.1 hrc.2 hy hR) ⟨gP_blind, hrecv H locs hS, k_pre F hP hD hS _⟩ rfl hn hlv.1 hst (lv_room hcat) hd hcs) hS (fun z _ h => ho z h) ho (fun v u H1 locs1 hp hB hk hS1 => ?_)
  exact kk v u hp H1 locs1 ls (gP_join hP hD hk hB) (gD_join hD) hS1 hlv
/-- .. of an inherited method -/
theorem q_cU (F : mF X E own cc Ts) {τ : Type} {ef : τ → Nat → va_E} {post : Option Value → τ → Prop} {x y : MethodName} {bytes : ByteArray} {maxL n index b mc ms : Nat} {rt : Option FieldType} {wsY wsY' : List Cond} {rm : Room} {av st0 : List Value} {C owner : String}
    (hM : gM X.1.2.1 X.2.2.2.2 E ids y wsY rm (.ref b :: av) e ef post mc ms) (hrecv : ∀ (H : Heap) (locs : List Loc), va_S X.2.2.2.1 X.2.1.1.heap H locs → ∃ cell : Cell, H[b]? = some cell ∧ cell.vm.isStatics = false ∧ X.2.1.1.vm.findClass C = some cell.cls) (hg : GoodIn Ts (va_wsU own index C owner x y wsY)) (hw : wsY = Cond.code y bytes maxL rt :: wsY') (hrc : rm.cells = mc ∧ rm.slots = ms) (hyx : y = ⟨owner, x.name, x.desc⟩)
    (hy : owner ≠ "java/lang/invoke/MethodHandle" ∧ owner ≠ "java/lang/invoke/VarHandle" ∧ (parseMethodDescriptor x.desc).map (fun d => d.parameters.length) = some n) (hR : rm.frames + 1 ≤ X.1.2.2.2.frames ∧ 8 + (maxL + 11) + rm.locals ≤ X.1.2.2.2.locals)
    (hn : av.length = n) (hst : st0 = av.reverse ++ .ref b :: st) (hcat : (st.map fun v => v.category).sum ≤ 8) (hd : decode cc pc = .ok (.invokevirtual index, 3)) (hcs : nc + mc ≤ X.1.2.2.2.cells ∧ ns + ms ≤ X.1.2.2.2.slots)
    (kk : ∀ (v : Option Value) (u : τ), post v u → cW X (nc + mc) (ns + ms) (pc + 3) lv (v.toList ++ st) (gw E.1 ids (ef u) ++ T)) : cW X nc ns pc lv st0 (gw E.1 ids e ++ T) := by
  intro H locs ls hP hD hS hlv
  have ho := k_own F.hA hD hS
  refine g_callq (va_runU (As := av) (rest := st) ⟨F.hx, F.hb, F.hml, F.ho, F.ht⟩ (hM H.size) (va_cwU n F.ht hg hw hrc.1 hrc.2 hyx hy hR) ⟨gP_blind, hrecv H locs hS, k_pre F hP hD hS _⟩ rfl hn hlv.1 hst (lv_room hcat) hd hcs) hS (fun z _ h => ho z h) ho (fun v u H1 locs1 hp hB hk hS1 => ?_)
  exact kk v u hp H1 locs1 ls (gP_join hP hD hk hB) (gD_join hD) hS1 hlv
end CVN
section CR
variable {X : xC} {E : cE} {own : String} {cc : ByteArray} {Ts : List Cond} {nc ns pc mc ms : Nat} {lv : List (Nat × Value)} {st : List Value} {T : va_W} {I : cI} {R : cR}
theorem q_Vi (F : mF X E own cc Ts) {Q : Int → cI → cR → Prop} {y : MethodName} {bytes : ByteArray} {maxL n index i ci N : Nat} {rt : Option FieldType} {wsY wsY' : List Cond} {rm : Room} {av st0 : List Value} {fs : List Value} {C : String} {TT : u_T} (hM : gM X.1.2.1 X.2.2.2.2 E cIds y wsY rm (.ref (E.1 i) :: av) (cef E (I, R)) (cef E) (pI Q) mc ms) (hi : i ∈ cIds) (he : (cef E (I, R)) i = .inr (ci, fs)) (hc : vwCl[ci]? = some (C, TT, N)) (hg : GoodIn Ts (wsV own index C y wsY)) (hw : wsY = Cond.code y bytes maxL rt :: wsY') (hrc : rm.cells = mc ∧ rm.slots = ms) (hy : y.cls = C ∧ y.cls ≠ "java/lang/invoke/MethodHandle" ∧ y.cls ≠ "java/lang/invoke/VarHandle" ∧ (parseMethodDescriptor y.desc).map (fun d => d.parameters.length) = some n) (hR : rm.frames + 1 ≤ X.1.2.2.2.frames ∧ 8 + (maxL + 11) + rm.locals ≤ X.1.2.2.2.locals) (hn : av.length = n) (hst : st0 = av.reverse ++ .ref (E.1 i) :: st) (hcat : (st.map fun v => v.category).sum ≤ 8) (hd : decode cc pc = .ok (.invokevirtual index, 3)) (hcs : nc + mc ≤ X.1.2.2.2.cells ∧ ns + ms ≤ X.1.2.2.2.slots) (kk : ∀ (r : Int) (I' : cI) (R' : cR), inR r → cM I' R' → Q r I' R' → cW X (nc + mc) (ns + ms) (pc + 3) lv (iV r :: st) (gw E.1 cIds (cef E (I', R')) ++ T)) : cW X nc ns pc lv st0 (gw E.1 cIds (cef E (I, R)) ++ T) :=
  q_cV F hM hi he hc hg hw hrc hy hR hn hst hcat hd hcs (fun v u hp => by obtain ⟨r, rfl, hr, hm, hq⟩ := hp; exact kk r u.1 u.2 hr hm hq)
theorem q_Si (F : mF X E own cc Ts) {Q : Int → cI → cR → Prop} {y : MethodName} {bytes : ByteArray} {maxL n index : Nat} {rt : Option FieldType} {wsY wsY' : List Cond} {rm : Room} {av st0 : List Value} (hM : gM X.1.2.1 X.2.2.2.2 E cIds y wsY rm av (cef E (I, R)) (cef E) (pI Q) mc ms) (hg : GoodIn Ts (va_wsS own index y wsY)) (hw : wsY = Cond.code y bytes maxL rt :: wsY') (hrc : rm.cells = mc ∧ rm.slots = ms) {C : String} (hy : y.cls = C ∧ y.cls ≠ "java/lang/invoke/MethodHandle" ∧ y.cls ≠ "java/lang/invoke/VarHandle" ∧ (parseMethodDescriptor y.desc).map (fun d => d.parameters.length) = some n) (hR : rm.frames + 1 ≤ X.1.2.2.2.frames ∧ 8 + (maxL + 11) + rm.locals ≤ X.1.2.2.2.locals) (hn : av.length = n) (hst : st0 = av.reverse ++ st) (hcat : (st.map fun v => v.category).sum ≤ 8) (hd : decode cc pc = .ok (.invokestatic index, 3)) (hcs : nc + mc ≤ X.1.2.2.2.cells ∧ ns + ms ≤ X.1.2.2.2.slots) (kk : ∀ (r : Int) (I' : cI) (R' : cR), inR r → cM I' R' → Q r I' R' → cW X (nc + mc) (ns + ms) (pc + 3) lv (iV r :: st) (gw E.1 cIds (cef E (I', R')) ++ T)) : cW X nc ns pc lv st0 (gw E.1 cIds (cef E (I, R)) ++ T) :=
  q_cS F hM hg hw hrc hy.2 hR hn hst hcat hd hcs (fun v u hp => by obtain ⟨r, rfl, hr, hm, hq⟩ := hp; exact kk r u.1 u.2 hr hm hq)
theorem q_Vv (F : mF X E own cc Ts) {Q : cI → cR → Prop} {y : MethodName} {bytes : ByteArray} {maxL n index i ci N : Nat} {rt : Option FieldType} {wsY wsY' : List Cond} {rm : Room} {av st0 : List Value} {fs : List Value} {C : String} {TT : u_T} (hM : gM X.1.2.1 X.2.2.2.2 E cIds y wsY rm (.ref (E.1 i) :: av) (cef E (I, R)) (cef E) (pV Q) mc ms) (hi : i ∈ cIds) (he : (cef E (I, R)) i = .inr (ci, fs)) (hc : vwCl[ci]? = some (C, TT, N)) (hg : GoodIn Ts (wsV own index C y wsY)) (hw : wsY = Cond.code y bytes maxL rt :: wsY') (hrc : rm.cells = mc ∧ rm.slots = ms) (hy : y.cls = C ∧ y.cls ≠ "java/lang/invoke/MethodHandle" ∧ y.cls ≠ "java/lang/invoke/VarHandle" ∧ (parseMethodDescriptor y.desc).map (fun d => d.parameters.length) = some n) (hR : rm.frames + 1 ≤ X.1.2.2.2.frames ∧ 8 + (maxL + 11) + rm.locals ≤ X.1.2.2.2.locals) (hn : av.length = n) (hst : st0 = av.reverse ++ .ref (E.1 i) :: st) (hcat : (st.map fun v => v.category).sum ≤ 8) (hd : decode cc pc = .ok (.invokevirtual index, 3)) (hcs : nc + mc ≤ X.1.2.2.2.cells ∧ ns + ms ≤ X.1.2.2.2.slots) (kk : ∀ (I' : cI) (R' : cR), cM I' R' → Q I' R' → cW X (nc + mc) (ns + ms) (pc + 3) lv st (gw E.1 cIds (cef E (I', R')) ++ T)) : cW X nc ns pc lv st0 (gw E.1 cIds (cef E (I, R)) ++ T) :=
  q_cV F hM hi he hc hg hw hrc hy hR hn hst hcat hd hcs (fun v u hp => by obtain ⟨rfl, hm, hq⟩ := hp; exact kk u.1 u.2 hm hq)
theorem q_Sv (F : mF X E own cc Ts) {Q : cI → cR → Prop} {y : MethodName} {bytes : ByteArray} {maxL n index : Nat} {rt : Option FieldType} {wsY wsY' : List Cond} {rm : Room} {av st0 : List Value} (hM : gM X.1.2.1 X.2.2.2.2 E cIds y wsY rm av (cef E (I, R)) (cef E) (pV Q) mc ms) (hg : GoodIn Ts (va_wsS own index y wsY)) (hw : wsY = Cond.code y bytes maxL rt :: wsY') (hrc : rm.cells = mc ∧ rm.slots = ms) {C : String} (hy : y.cls = C ∧ y.cls ≠ "java/lang/invoke/MethodHandle" ∧ y.cls ≠ "java/lang/invoke/VarHandle" ∧ (parseMethodDescriptor y.desc).map (fun d => d.parameters.length) = some n) (hR : rm.frames + 1 ≤ X.1.2.2.2.frames ∧ 8 + (maxL + 11) + rm.locals ≤ X.1.2.2.2.locals) (hn : av.length = n) (hst : st0 = av.reverse ++ st) (hcat : (st.map fun v => v.category).sum ≤ 8) (hd : decode cc pc = .ok (.invokestatic index, 3)) (hcs : nc + mc ≤ X.1.2.2.2.cells ∧ ns + ms ≤ X.1.2.2.2.slots) (kk : ∀ (I' : cI) (R' : cR), cM I' R' → Q I' R' → cW X (nc + mc) (ns + ms) (pc + 3) lv st (gw E.1 cIds (cef E (I', R')) ++ T)) : cW X nc ns pc lv st0 (gw E.1 cIds (cef E (I, R)) ++ T) :=
  q_cS F hM hg hw hrc hy.2 hR hn hst hcat hd hcs (fun v u hp => by obtain ⟨rfl, hm, hq⟩ := hp; exact kk u.1 u.2 hm hq)
theorem q_Vr (F : mF X E own cc Ts) {Q : Nat → cI → cR → Prop} {y : MethodName} {bytes : ByteArray} {maxL n index i ci N : Nat} {rt : Option FieldType} {wsY wsY' : List Cond} {rm : Room} {av st0 : List Value} {fs : List Value} {C : String} {TT : u_T} (hM : gM X.1.2.1 X.2.2.2.2 E cIds y wsY rm (.ref (E.1 i) :: av) (cef E (I, R)) (cef E) (pR E Q) mc ms) (hi : i ∈ cIds) (he : (cef E (I, R)) i = .inr (ci, fs)) (hc : vwCl[ci]? = some (C, TT, N)) (hg : GoodIn Ts (wsV own index C y wsY)) (hw : wsY = Cond.code y bytes maxL rt :: wsY') (hrc : rm.cells = mc ∧ rm.slots = ms) (hy : y.cls = C ∧ y.cls ≠ "java/lang/invoke/MethodHandle" ∧ y.cls ≠ "java/lang/invoke/VarHandle" ∧ (parseMethodDescriptor y.desc).map (fun d => d.parameters.length) = some n) (hR : rm.frames + 1 ≤ X.1.2.2.2.frames ∧ 8 + (maxL + 11) + rm.locals ≤ X.1.2.2.2.locals) (hn : av.length = n) (hst : st0 = av.reverse ++ .ref (E.1 i) :: st) (hcat : (st.map fun v => v.category).sum ≤ 8) (hd : decode cc pc = .ok (.invokevirtual index, 3)) (hcs : nc + mc ≤ X.1.2.2.2.cells ∧ ns + ms ≤ X.1.2.2.2.slots) (kk : ∀ (r : Nat) (I' : cI) (R' : cR), isR r → cM I' R' → Q r I' R' → cW X (nc + mc) (ns + ms) (pc + 3) lv (.ref (E.1 r) :: st) (gw E.1 cIds (cef E (I', R')) ++ T)) : cW X nc ns pc lv st0 (gw E.1 cIds (cef E (I, R)) ++ T) :=
  q_cV F hM hi he hc hg hw hrc hy hR hn hst hcat hd hcs (fun v u hp => by obtain ⟨r, rfl, hr, hm, hq⟩ := hp; exact kk r u.1 u.2 hr hm hq)
theorem q_Sr (F : mF X E own cc Ts) {Q : Nat → cI → cR → Prop} {y : MethodName} {bytes : ByteArray} {maxL n index : Nat} {rt : Option FieldType} {wsY wsY' : List Cond} {rm : Room} {av st0 : List Value} (hM : gM X.1.2.1 X.2.2.2.2 E cIds y wsY rm av (cef E (I, R)) (cef E) (pR E Q) mc ms) (hg : GoodIn Ts (va_wsS own index y wsY)) (hw : wsY = Cond.code y bytes maxL rt :: wsY') (hrc : rm.cells = mc ∧ rm.slots = ms) {C : String} (hy : y.cls = C ∧ y.cls ≠ "java/lang/invoke/MethodHandle" ∧ y.cls ≠ "java/lang/invoke/VarHandle" ∧ (parseMethodDescriptor y.desc).map (fun d => d.parameters.length) = some n) (hR : rm.frames + 1 ≤ X.1.2.2.2.frames ∧ 8 + (maxL + 11) + rm.locals ≤ X.1.2.2.2.locals) (hn : av.length = n) (hst : st0 = av.reverse ++ st) (hcat : (st.map fun v => v.category).sum ≤ 8) (hd : decode cc pc = .ok (.invokestatic index, 3)) (hcs : nc + mc ≤ X.1.2.2.2.cells ∧ ns + ms ≤ X.1.2.2.2.slots) (kk : ∀ (r : Nat) (I' : cI) (R' : cR), isR r → cM I' R' → Q r I' R' → cW X (nc + mc) (ns + ms) (pc + 3) lv (.ref (E.1 r) :: st) (gw E.1 cIds (cef E (I', R')) ++ T)) : cW X nc ns pc lv st0 (gw E.1 cIds (cef E (I, R)) ++ T) :=
  q_cS F hM hg hw hrc hy.2 hR hn hst hcat hd hcs (fun v u hp => by obtain ⟨r, rfl, hr, hm, hq⟩ := hp; exact kk r u.1 u.2 hr hm hq)
theorem q_Vj (F : mF X E own cc Ts) {Q : Int → cI → cR → Prop} {y : MethodName} {bytes : ByteArray} {maxL n index i ci N : Nat} {rt : Option FieldType} {wsY wsY' : List Cond} {rm : Room} {av st0 : List Value} {fs : List Value} {C : String} {TT : u_T} (hM : gM X.1.2.1 X.2.2.2.2 E cIds y wsY rm (.ref (E.1 i) :: av) (cef E (I, R)) (cef E) (pJ Q) mc ms) (hi : i ∈ cIds) (he : (cef E (I, R)) i = .inr (ci, fs)) (hc : vwCl[ci]? = some (C, TT, N)) (hg : GoodIn Ts (wsV own index C y wsY)) (hw : wsY = Cond.code y bytes maxL rt :: wsY') (hrc : rm.cells = mc ∧ rm.slots = ms) (hy : y.cls = C ∧ y.cls ≠ "java/lang/invoke/MethodHandle" ∧ y.cls ≠ "java/lang/invoke/VarHandle" ∧ (parseMethodDescriptor y.desc).map (fun d => d.parameters.length) = some n) (hR : rm.frames + 1 ≤ X.1.2.2.2.frames ∧ 8 + (maxL + 11) + rm.locals ≤ X.1.2.2.2.locals) (hn : av.length = n) (hst : st0 = av.reverse ++ .ref (E.1 i) :: st) (hcat : (st.map fun v => v.category).sum ≤ 8) (hd : decode cc pc = .ok (.invokevirtual index, 3)) (hcs : nc + mc ≤ X.1.2.2.2.cells ∧ ns + ms ≤ X.1.2.2.2.slots) (kk : ∀ (r : Int) (I' : cI) (R' : cR), cM I' R' → Q r I' R' → cW X (nc + mc) (ns + ms) (pc + 3) lv (jV r :: st) (gw E.1 cIds (cef E (I', R')) ++ T)) : cW X nc ns pc lv st0 (gw E.1 cIds (cef E (I, R)) ++ T) :=
  q_cV F hM hi he hc hg hw hrc hy hR hn hst hcat hd hcs (fun v u hp => by obtain ⟨r, rfl, hm, hq⟩ := hp; exact kk r u.1 u.2 hm hq)
theorem q_Sj (F : mF X E own cc Ts) {Q : Int → cI → cR → Prop} {y : MethodName} {bytes : ByteArray} {maxL n index : Nat} {rt : Option FieldType} {wsY wsY' : List Cond} {rm : Room} {av st0 : List Value} (hM : gM X.1.2.1 X.2.2.2.2 E cIds y wsY rm av (cef E (I, R)) (cef E) (pJ Q) mc ms) (hg : GoodIn Ts (va_wsS own index y wsY)) (hw : wsY = Cond.code y bytes maxL rt :: wsY') (hrc : rm.cells = mc ∧ rm.slots = ms) {C : String} (hy : y.cls = C ∧ y.cls ≠ "java/lang/invoke/MethodHandle" ∧ y.cls ≠ "java/lang/invoke/VarHandle" ∧ (parseMethodDescriptor y.desc).map (fun d => d.parameters.length) = some n) (hR : rm.frames + 1 ≤ X.1.2.2.2.frames ∧ 8 + (maxL + 11) + rm.locals ≤ X.1.2.2.2.locals) (hn : av.length = n) (hst : st0 = av.reverse ++ st) (hcat : (st.map fun v => v.category).sum ≤ 8) (hd : decode cc pc = .ok (.invokestatic index, 3)) (hcs : nc + mc ≤ X.1.2.2.2.cells ∧ ns + ms ≤ X.1.2.2.2.slots) (kk : ∀ (r : Int) (I' : cI) (R' : cR), cM I' R' → Q r I' R' → cW X (nc + mc) (ns + ms) (pc + 3) lv (jV r :: st) (gw E.1 cIds (cef E (I', R')) ++ T)) : cW X nc ns pc lv st0 (gw E.1 cIds (cef E (I, R)) ++ T) :=
  q_cS F hM hg hw hrc hy.2 hR hn hst hcat hd hcs (fun v u hp => by obtain ⟨r, rfl, hm, hq⟩ := hp; exact kk r u.1 u.2 hm hq)
theorem q_Vix (F : mF X E own cc Ts) {ret : Option FieldType} {post : Option Value → cI × cR → Prop} {Qx : Nat → cI → cR → Prop} (K : kXx X E cIds ret (cef E) post (pX Qx) mc ms) {Q : Int → cI → cR → Prop} {y : MethodName} {bytes : ByteArray} {maxL n index i ci N kc ks : Nat} {rt : Option FieldType} {wsY wsY' : List Cond} {rm : Room} {av st0 : List Value} {fs : List Value} {C : String} {TT : u_T} (h1 : nc + kc ≤ mc) (h2 : ns + ks ≤ ms) (hM : gMx X.1.2.1 X.2.2.2.2 E cIds y wsY rm (.ref (E.1 i) :: av) (cef E (I, R)) (cef E) (pI Q) (pX Qx) kc ks) (hi : i ∈ cIds) (he : cef E (I, R) i = .inr (ci, fs)) (hc : vwCl[ci]? = some (C, TT, N)) (hg : GoodIn Ts (wsV own index C y wsY)) (hw : wsY = Cond.code y bytes maxL rt :: wsY') (hrc : rm.cells = kc ∧ rm.slots = ks) (hy : y.cls = C ∧ y.cls ≠ "java/lang/invoke/MethodHandle" ∧ y.cls ≠ "java/lang/invoke/VarHandle" ∧ (parseMethodDescriptor y.desc).map (fun d => d.parameters.length) = some n) (hR : rm.frames + 1 ≤ X.1.2.2.2.frames ∧ 8 + (maxL + 11) + rm.locals ≤ X.1.2.2.2.locals) (hn : av.length = n) (hst : st0 = av.reverse ++ .ref (E.1 i) :: st) (hcat : (st.map fun v => v.category).sum ≤ 8) (hd : decode cc pc = .ok (.invokevirtual index, 3)) (hcs : nc + kc ≤ X.1.2.2.2.cells ∧ ns + ks ≤ X.1.2.2.2.slots) (kk : ∀ (r : Int) (I' : cI) (R' : cR), inR r → cM I' R' → Q r I' R' → cW X (nc + kc) (ns + ks) (pc + 3) lv (iV r :: st) (gw E.1 cIds (cef E (I', R')) ++ [])) : cW X nc ns pc lv st0 (gw E.1 cIds (cef E (I, R)) ++ []) :=
  q_cVx F K hM hi he hc hg hw hrc hy hR hn hst hcat hd hcs ⟨h1, h2⟩ (fun _ _ h => h) (fun v u hp => by obtain ⟨r, rfl, hr, hm, hq⟩ := hp; exact kk r u.1 u.2 hr hm hq)
theorem q_Vin (F : mF X E own cc Ts) {Q : Int → cI → cR → Prop} {y : MethodName} {bytes : ByteArray} {maxL n index i ci N kc ks : Nat} {rt : Option FieldType} {wsY wsY' : List Cond} {rm : Room} {av st0 : List Value} {fs : List Value} {C : String} {TT : u_T} (hM : gMx X.1.2.1 X.2.2.2.2 E cIds y wsY rm (.ref (E.1 i) :: av) (cef E (I, R)) (cef E) (pI Q) (pX (fun _ _ _ => False)) kc ks) (hi : i ∈ cIds) (he : cef E (I, R) i = .inr (ci, fs)) (hc : vwCl[ci]? = some (C, TT, N)) (hg : GoodIn Ts (wsV own index C y wsY)) (hw : wsY = Cond.code y bytes maxL rt :: wsY') (hrc : rm.cells = kc ∧ rm.slots = ks) (hy : y.cls = C ∧ y.cls ≠ "java/lang/invoke/MethodHandle" ∧ y.cls ≠ "java/lang/invoke/VarHandle" ∧ (parseMethodDescriptor y.desc).map (fun d => d.parameters.length) = some n) (hR : rm.frames + 1 ≤ X.1.2.2.2.frames ∧ 8 + (maxL + 11) + rm.locals ≤ X.1.2.2.2.locals) (hn : av.length = n) (hst : st0 = av.reverse ++ .ref (E.1 i) :: st) (hcat : (st.map fun v => v.category).sum ≤ 8) (hd : decode cc pc = .ok (.invokevirtual index, 3)) (hcs : nc + kc ≤ X.1.2.2.2.cells ∧ ns + ks ≤ X.1.2.2.2.slots) (kk : ∀ (r : Int) (I' : cI) (R' : cR), inR r → cM I' R' → Q r I' R' → cW X (nc + kc) (ns + ks) (pc + 3) lv (iV r :: st) (gw E.1 cIds (cef E (I', R')) ++ [])) : cW X nc ns pc lv st0 (gw E.1 cIds (cef E (I, R)) ++ []) :=
  q_cVn F hM hi he hc hg hw hrc hy hR hn hst hcat hd hcs (fun _ _ h => by obtain ⟨k, hk, hc, hm, hz⟩ := h; exact hz) (fun v u hp => by obtain ⟨r, rfl, hr, hm, hq⟩ := hp; exact kk r u.1 u.2 hr hm hq)
theorem q_Vvx (F : mF X E own cc Ts) {ret : Option FieldType} {post : Option Value → cI × cR → Prop} {Qx : Nat → cI → cR → Prop} (K : kXx X E cIds ret (cef E) post (pX Qx) mc ms) {Q : cI → cR → Prop} {y : MethodName} {bytes : ByteArray} {maxL n index i ci N kc ks : Nat} {rt : Option FieldType} {wsY wsY' : List Cond} {rm : Room} {av st0 : List Value} {fs : List Value} {C : String} {TT : u_T} (h1 : nc + kc ≤ mc) (h2 : ns + ks ≤ ms) (hM : gMx X.1.2.1 X.2.2.2.2 E cIds y wsY rm (.ref (E.1 i) :: av) (cef E (I, R)) (cef E) (pV Q) (pX Qx) kc ks) (hi : i ∈ cIds) (he : cef E (I, R) i = .inr (ci, fs)) (hc : vwCl[ci]? = some (C, TT, N)) (hg : GoodIn Ts (wsV own index C y wsY)) (hw : wsY = Cond.code y bytes maxL rt :: wsY') (hrc : rm.cells = kc ∧ rm.slots = ks) (hy : y.cls = C ∧ y.cls ≠ "java/lang/invoke/MethodHandle" ∧ y.cls ≠ "java/lang/invoke/VarHandle" ∧ (parseMethodDescriptor y.desc).map (fun d => d.parameters.length) = some n) (hR : rm.frames + 1 ≤ X.1.2.2.2.frames ∧ 8 + (maxL + 11) + rm.locals ≤ X.1.2.2.2.locals) (hn : av.length = n) (hst : st0 = av.reverse ++ .ref (E.1 i) :: st) (hcat : (st.map fun v => v.category).sum ≤ 8) (hd : decode cc pc = .ok (.invokevirtual index, 3)) (hcs : nc + kc ≤ X.1.2.2.2.cells ∧ ns + ks ≤ X.1.2.2.2.slots) (kk : ∀ (I' : cI) (R' : cR), cM I' R' → Q I' R' → cW X (nc + kc) (ns + ks) (pc + 3) lv st (gw E.1 cIds (cef E (I', R')) ++ [])) : cW X nc ns pc lv st0 (gw E.1 cIds (cef E (I, R)) ++ []) :=
  q_cVx F K hM hi he hc hg hw hrc hy hR hn hst hcat hd hcs ⟨h1, h2⟩ (fun _ _ h => h) (fun v u hp => by obtain ⟨rfl, hm, hq⟩ := hp; exact kk u.1 u.2 hm hq)
theorem q_Vvn (F : mF X E own cc Ts) {Q : cI → cR → Prop} {y : MethodName} {bytes : ByteArray} {maxL n index i ci N kc ks : Nat} {rt : Option FieldType} {wsY wsY' : List Cond} {rm : Room} {av st0 : List Value} {fs : List Value} {C : String} {TT : u_T} (hM : gMx X.1.2.1 X.2.2.2.2 E cIds y wsY rm (.ref (E.1 i) :: av) (cef E (I, R)) (cef E) (pV Q) (pX (fun _ _ _ => False)) kc ks) (hi : i ∈ cIds) (he : cef E (I, R) i = .inr (ci, fs)) (hc : vwCl[ci]? = some (C, TT, N)) (hg : GoodIn Ts (wsV own index C y wsY)) (hw : wsY = Cond.code y bytes maxL rt :: wsY') (hrc : rm.cells = kc ∧ rm.slots = ks) (hy : y.cls = C ∧ y.cls ≠ "java/lang/invoke/MethodHandle" ∧ y.cls ≠ "java/lang/invoke/VarHandle" ∧ (parseMethodDescriptor y.desc).map (fun d => d.parameters.length) = some n) (hR : rm.frames + 1 ≤ X.1.2.2.2.frames ∧ 8 + (maxL + 11) + rm.locals ≤ X.1.2.2.2.locals) (hn : av.length = n) (hst : st0 = av.reverse ++ .ref (E.1 i) :: st) (hcat : (st.map fun v => v.category).sum ≤ 8) (hd : decode cc pc = .ok (.invokevirtual index, 3)) (hcs : nc + kc ≤ X.1.2.2.2.cells ∧ ns + ks ≤ X.1.2.2.2.slots) (kk : ∀ (I' : cI) (R' : cR), cM I' R' → Q I' R' → cW X (nc + kc) (ns + ks) (pc + 3) lv st (gw E.1 cIds (cef E (I', R')) ++ [])) : cW X nc ns pc lv st0 (gw E.1 cIds (cef E (I, R)) ++ []) :=
  q_cVn F hM hi he hc hg hw hrc hy hR hn hst hcat hd hcs (fun _ _ h => by obtain ⟨k, hk, hc, hm, hz⟩ := h; exact hz) (fun v u hp => by obtain ⟨rfl, hm, hq⟩ := hp; exact kk u.1 u.2 hm hq)
end CR
end
section
/-! ===== the JDK's own small methods, and throwing ===== -/
section THR
variable {X : xC} {E : cE} {cc : ByteArray} {nc ns pc mc ms : Nat} {lv : List (Nat × Value)} {I : cI} {R : cR}
theorem q_thr0 (F : mF X E RX11 cc bG) {ret : Option FieldType} {post : Option Value → cI × cR → Prop} {Qx : Nat → cI → cR → Prop} (K : kXx X E cIds ret (cef E) post (pX Qx) mc ms) {k z is : Nat} (hR : X.1.2.2.2 = rmK k mc ms) (hk : 6 ≤ k) (hz : z = 1 ∨ ∀ k I R, ¬ Qx k I R) (j : Nat) (hj : j < 15) (hl : Cond.classLink RX11 68 "java/lang/IllegalStateException" ∈ bG) (his : (msG.getD j (0, "")).1 = is) (d0 : decode cc pc = .ok (.new 68, 3)) (d3 : decode cc (pc + 3) = .ok (.dup, 1)) (d4 : decode cc (pc + 4) = .ok (.ldc is, 2)) (d6 : decode cc (pc + 6) = .ok (.invokespecial 72, 3)) (d9 : decode cc (pc + 9) = .ok (.athrow, 1))
    (h1 : z = 1 → nc + 1 ≤ mc) (h2 : z = 1 → ns + 6 ≤ ms) (hm : cM I R) (hw : Qx 0 I R) : cW X nc ns pc lv [] (gw E.1 cIds (cef E (I, R)) ++ []) := by
  rcases hz with hz | hz
  · intro H locs ls hP hD hS hlv
    rw [K.2.2.1]
    have hS' := hS
    rw [K.1] at hS'
    refine vx_throwS (own := RX11) (cls := "java/lang/IllegalStateException") (text := (msG.getD j (0, "")).2) (names := ["java/lang/RuntimeException", "java/lang/Exception"]) (ik := 68) (is := is) (ic := 72) (sa := E.2.1 3 j) (A := X.2.2.2.1) F.hx F.hb K.2.2.2.2 F.ho (by decide) (by decide) (F.ht _ hl) (F.ht _ wd22) (by rw [← his]; exact sR_m F hj)
      (vx_hat (fun w h => F.ht _ (bm ((show ∀ w ∈ (vx_atS RX11 72 "java/lang/IllegalStateException" ["java/lang/RuntimeException", "java/lang/Exception"]).filter goodWord, w ∈ lw_tbl by decide +kernel) w h) (List.mem_filter.mp h).2)) (show ∀ w ∈ (vx_atS RX11 72 "java/lang/IllegalStateException" ["java/lang/RuntimeException", "java/lang/Exception"]).filter (fun w => !goodWord w), w ∈ [Cond.castable "java/lang/IllegalStateException" "java/lang/IllegalStateException", .declares ⟨"java/lang/RuntimeException", "<init>", "(Ljava/lang/String;)V"⟩, .declares ⟨"java/lang/Exception", "<init>", "(Ljava/lang/String;)V"⟩, .declares ⟨"java/lang/Throwable", "<init>", "(Ljava/lang/String;)V"⟩] by decide +kernel) (vx_c (va_Nw.use rfl (sC_0 F)) (vx_c (va_Nw.use rfl (sC_3 F)) (vx_c (va_Nw.use rfl (sC_4 F)) (vx_c (va_Nw.use rfl (sC_5 F)) vx_n)))))
      (by decide +kernel) (sQ_U F) (sQ_N F) hS (hlv.1.trans F.hml.symm) d0 d3 d4 d6 d9 (fun x hx => (K.2.2.2.1 x hx).elim) (by rw [hR]; show 2 + 3 < k; omega) (by rw [hR]; show 0 + (13 * (2 + 1) + 43) ≤ 60 * k; omega) (by rw [hR]; exact h1 hz) (by rw [hR]; exact h2 hz) F.hl (fun t hvm hsz hq => ⟨⟨(I, R), ⟨0, by decide, rfl, hm, hw⟩, ?_⟩, ?_⟩) hS'.2.2 (h1 hz) (h2 hz)
    · exact va_P.kept (gP_left hP) (fun k9 q9 h9 => hq q9.1 ((gP_left hP k9 q9 h9).lt))
    · exact ⟨Nat.le_trans hS.1 hsz, fun q9 h9 h8 => (hq q9 (Nat.lt_of_lt_of_le h9 hS.1)).trans (hS'.2.1 q9 h9 h8)⟩
  · exact absurd hw (hz _ _ _)
theorem q_thrW0 (F : mF X E RX11 cc bG) {ret : Option FieldType} {post : Option Value → cI × cR → Prop} {Qx : Nat → cI → cR → Prop} (K : kXx X E cIds ret (cef E) post (pX Qx) mc ms) {k z is : Nat} (hR : X.1.2.2.2 = rmK k mc ms) (hk : 6 ≤ k) (hz : z = 1 ∨ ∀ k I R, ¬ Qx k I R) (j : Nat) (hj : j < 15) (hl : Cond.classLink RX11 68 "java/lang/IllegalStateException" ∈ bG) (his : (msG.getD j (0, "")).1 = is) (d0 : decode cc pc = .ok (.new 68, 3)) (d3 : decode cc (pc + 3) = .ok (.dup, 1)) (d4 : decode cc (pc + 4) = .ok (.ldc_w is, 3)) (d6 : decode cc (pc + 7) = .ok (.invokespecial 72, 3)) (d9 : decode cc (pc + 10) = .ok (.athrow, 1))
    (h1 : z = 1 → nc + 1 ≤ mc) (h2 : z = 1 → ns + 6 ≤ ms) (hm : cM I R) (hw : Qx 0 I R) : cW X nc ns pc lv [] (gw E.1 cIds (cef E (I, R)) ++ []) := by
  rcases hz with hz | hz
  · intro H locs ls hP hD hS hlv
    rw [K.2.2.1]
    have hS' := hS
    rw [K.1] at hS'
    refine vx_throwSW (own := RX11) (cls := "java/lang/IllegalStateException") (text := (msG.getD j (0, "")).2) (names := ["java/lang/RuntimeException", "java/lang/Exception"]) (ik := 68) (is := is) (ic := 72) (sa := E.2.1 3 j) (A := X.2.2.2.1) F.hx F.hb K.2.2.2.2 F.ho (by decide) (by decide) (F.ht _ hl) (F.ht _ wd22) (by rw [← his]; exact sR_m F hj)
      (vx_hat (fun w h => F.ht _ (bm ((show ∀ w ∈ (vx_atS RX11 72 "java/lang/IllegalStateException" ["java/lang/RuntimeException", "java/lang/Exception"]).filter goodWord, w ∈ lw_tbl by decide +kernel) w h) (List.mem_filter.mp h).2)) (show ∀ w ∈ (vx_atS RX11 72 "java/lang/IllegalStateException" ["java/lang/RuntimeException", "java/lang/Exception"]).filter (fun w => !goodWord w), w ∈ [Cond.castable "java/lang/IllegalStateException" "java/lang/IllegalStateException", .declares ⟨"java/lang/RuntimeException", "<init>", "(Ljava/lang/String;)V"⟩, .declares ⟨"java/lang/Exception", "<init>", "(Ljava/lang/String;)V"⟩, .declares ⟨"java/lang/Throwable", "<init>", "(Ljava/lang/String;)V"⟩] by decide +kernel) (vx_c (va_Nw.use rfl (sC_0 F)) (vx_c (va_Nw.use rfl (sC_3 F)) (vx_c (va_Nw.use rfl (sC_4 F)) (vx_c (va_Nw.use rfl (sC_5 F)) vx_n)))))
      (by decide +kernel) (sQ_U F) (sQ_N F) hS (hlv.1.trans F.hml.symm) d0 d3 d4 d6 d9 (fun x hx => (K.2.2.2.1 x hx).elim) (by rw [hR]; show 2 + 3 < k; omega) (by rw [hR]; show 0 + (13 * (2 + 1) + 43) ≤ 60 * k; omega) (by rw [hR]; exact h1 hz) (by rw [hR]; exact h2 hz) F.hl (fun t hvm hsz hq => ⟨⟨(I, R), ⟨0, by decide, rfl, hm, hw⟩, ?_⟩, ?_⟩) hS'.2.2 (h1 hz) (h2 hz)
    · exact va_P.kept (gP_left hP) (fun k9 q9 h9 => hq q9.1 ((gP_left hP k9 q9 h9).lt))
    · exact ⟨Nat.le_trans hS.1 hsz, fun q9 h9 h8 => (hq q9 (Nat.lt_of_lt_of_le h9 hS.1)).trans (hS'.2.1 q9 h9 h8)⟩
  · exact absurd hw (hz _ _ _)
theorem q_thr1 (F : mF X E RX11 cc bG) {ret : Option FieldType} {post : Option Value → cI × cR → Prop} {Qx : Nat → cI → cR → Prop} (K : kXx X E cIds ret (cef E) post (pX Qx) mc ms) {k z is : Nat} (hR : X.1.2.2.2 = rmK k mc ms) (hk : 6 ≤ k) (hz : z = 1 ∨ ∀ k I R, ¬ Qx k I R) (j : Nat) (hj : j < 15) (hl : Cond.classLink RX11 79 "java/lang/IllegalArgumentException" ∈ bG) (his : (msG.getD j (0, "")).1 = is) (d0 : decode cc pc = .ok (.new 79, 3)) (d3 : decode cc (pc + 3) = .ok (.dup, 1)) (d4 : decode cc (pc + 4) = .ok (.ldc is, 2)) (d6 : decode cc (pc + 6) = .ok (.invokespecial 83, 3)) (d9 : decode cc (pc + 9) = .ok (.athrow, 1))
    (h1 : z = 1 → nc + 1 ≤ mc) (h2 : z = 1 → ns + 6 ≤ ms) (hm : cM I R) (hw : Qx 1 I R) : cW X nc ns pc lv [] (gw E.1 cIds (cef E (I, R)) ++ []) := by
  rcases hz with hz | hz
  · intro H locs ls hP hD hS hlv
    rw [K.2.2.1]
    have hS' := hS
    rw [K.1] at hS'
    refine vx_throwS (own := RX11) (cls := "java/lang/IllegalArgumentException") (text := (msG.getD j (0, "")).2) (names := ["java/lang/RuntimeException", "java/lang/Exception"]) (ik := 79) (is := is) (ic := 83) (sa := E.2.1 3 j) (A := X.2.2.2.1) F.hx F.hb K.2.2.2.2 F.ho (by decide) (by decide) (F.ht _ hl) (F.ht _ wd23) (by rw [← his]; exact sR_m F hj)
      (vx_hat (fun w h => F.ht _ (bm ((show ∀ w ∈ (vx_atS RX11 83 "java/lang/IllegalArgumentException" ["java/lang/RuntimeException", "java/lang/Exception"]).filter goodWord, w ∈ lw_tbl by decide +kernel) w h) (List.mem_filter.mp h).2)) (show ∀ w ∈ (vx_atS RX11 83 "java/lang/IllegalArgumentException" ["java/lang/RuntimeException", "java/lang/Exception"]).filter (fun w => !goodWord w), w ∈ [Cond.castable "java/lang/IllegalArgumentException" "java/lang/IllegalArgumentException", .declares ⟨"java/lang/RuntimeException", "<init>", "(Ljava/lang/String;)V"⟩, .declares ⟨"java/lang/Exception", "<init>", "(Ljava/lang/String;)V"⟩, .declares ⟨"java/lang/Throwable", "<init>", "(Ljava/lang/String;)V"⟩] by decide +kernel) (vx_c (va_Nw.use rfl (sC_1 F)) (vx_c (va_Nw.use rfl (sC_3 F)) (vx_c (va_Nw.use rfl (sC_4 F)) (vx_c (va_Nw.use rfl (sC_5 F)) vx_n)))))
      (by decide +kernel) (sQ_U F) (sQ_N F) hS (hlv.1.trans F.hml.symm) d0 d3 d4 d6 d9 (fun x hx => (K.2.2.2.1 x hx).elim) (by rw [hR]; show 2 + 3 < k; omega) (by rw [hR]; show 0 + (13 * (2 + 1) + 43) ≤ 60 * k; omega) (by rw [hR]; exact h1 hz) (by rw [hR]; exact h2 hz) F.hl (fun t hvm hsz hq => ⟨⟨(I, R), ⟨1, by decide, rfl, hm, hw⟩, ?_⟩, ?_⟩) hS'.2.2 (h1 hz) (h2 hz)
    · exact va_P.kept (gP_left hP) (fun k9 q9 h9 => hq q9.1 ((gP_left hP k9 q9 h9).lt))
    · exact ⟨Nat.le_trans hS.1 hsz, fun q9 h9 h8 => (hq q9 (Nat.lt_of_lt_of_le h9 hS.1)).trans (hS'.2.1 q9 h9 h8)⟩
  · exact absurd hw (hz _ _ _)
theorem q_thrW1 (F : mF X E RX11 cc bG) {ret : Option FieldType} {post : Option Value → cI × cR → Prop} {Qx : Nat → cI → cR → Prop} (K : kXx X E cIds ret (cef E) post (pX Qx) mc ms) {k z is : Nat} (hR : X.1.2.2.2 = rmK k mc ms) (hk : 6 ≤ k) (hz : z = 1 ∨ ∀ k I R, ¬ Qx k I R) (j : Nat) (hj : j < 15) (hl : Cond.classLink RX11 79 "java/lang/IllegalArgumentException" ∈ bG) (his : (msG.getD j (0, "")).1 = is) (d0 : decode cc pc = .ok (.new 79, 3)) (d3 : decode cc (pc + 3) = .ok (.dup, 1)) (d4 : decode cc (pc + 4) = .ok (.ldc_w is, 3)) (d6 : decode cc (pc + 7) = .ok (.invokespecial 83, 3)) (d9 : decode cc (pc + 10) = .ok (.athrow, 1))
    (h1 : z = 1 → nc + 1 ≤ mc) (h2 : z = 1 → ns + 6 ≤ ms) (hm : cM I R) (hw : Qx 1 I R) : cW X nc ns pc lv [] (gw E.1 cIds (cef E (I, R)) ++ []) := by
  rcases hz with hz | hz
  · intro H locs ls hP hD hS hlv
    rw [K.2.2.1]
    have hS' := hS
    rw [K.1] at hS'
    refine vx_throwSW (own := RX11) (cls := "java/lang/IllegalArgumentException") (text := (msG.getD j (0, "")).2) (names := ["java/lang/RuntimeException", "java/lang/Exception"]) (ik := 79) (is := is) (ic := 83) (sa := E.2.1 3 j) (A := X.2.2.2.1) F.hx F.hb K.2.2.2.2 F.ho (by decide) (by decide) (F.ht _ hl) (F.ht _ wd23) (by rw [← his]; exact sR_m F hj)
      (vx_hat (fun w h => F.ht _ (bm ((show ∀ w ∈ (vx_atS RX11 83 "java/lang/IllegalArgumentException" ["java/lang/RuntimeException", "java/lang/Exception"]).filter goodWord, w ∈ lw_tbl by decide +kernel) w h) (List.mem_filter.mp h).2)) (show ∀ w ∈ (vx_atS RX11 83 "java/lang/IllegalArgumentException" ["java/lang/RuntimeException", "java/lang/Exception"]).filter (fun w => !goodWord w), w ∈ [Cond.castable "java/lang/IllegalArgumentException" "java/lang/IllegalArgumentException", .declares ⟨"java/lang/RuntimeException", "<init>", "(Ljava/lang/String;)V"⟩, .declares ⟨"java/lang/Exception", "<init>", "(Ljava/lang/String;)V"⟩, .declares ⟨"java/lang/Throwable", "<init>", "(Ljava/lang/String;)V"⟩] by decide +kernel) (vx_c (va_Nw.use rfl (sC_1 F)) (vx_c (va_Nw.use rfl (sC_3 F)) (vx_c (va_Nw.use rfl (sC_4 F)) (vx_c (va_Nw.use rfl (sC_5 F)) vx_n)))))
      (by decide +kernel) (sQ_U F) (sQ_N F) hS (hlv.1.trans F.hml.symm) d0 d3 d4 d6 d9 (fun x hx => (K.2.2.2.1 x hx).elim) (by rw [hR]; show 2 + 3 < k; omega) (by rw [hR]; show 0 + (13 * (2 + 1) + 43) ≤ 60 * k; omega) (by rw [hR]; exact h1 hz) (by rw [hR]; exact h2 hz) F.hl (fun t hvm hsz hq => ⟨⟨(I, R), ⟨1, by decide, rfl, hm, hw⟩, ?_⟩, ?_⟩) hS'.2.2 (h1 hz) (h2 hz)
    · exact va_P.kept (gP_left hP) (fun k9 q9 h9 => hq q9.1 ((gP_left hP k9 q9 h9).lt))
    · exact ⟨Nat.le_trans hS.1 hsz, fun q9 h9 h8 => (hq q9 (Nat.lt_of_lt_of_le h9 hS.1)).trans (hS'.2.1 q9 h9 h8)⟩
  · exact absurd hw (hz _ _ _)
theorem q_thr2 (F : mF X E RX11 cc bG) {ret : Option FieldType} {post : Option Value → cI × cR → Prop} {Qx : Nat → cI → cR → Prop} (K : kXx X E cIds ret (cef E) post (pX Qx) mc ms) {k z is : Nat} (hR : X.1.2.2.2 = rmK k mc ms) (hk : 6 ≤ k) (hz : z = 1 ∨ ∀ k I R, ¬ Qx k I R) (j : Nat) (hj : j < 15) (hl : Cond.classLink RX11 126 "java/lang/IndexOutOfBoundsException" ∈ bG) (his : (msG.getD j (0, "")).1 = is) (d0 : decode cc pc = .ok (.new 126, 3)) (d3 : decode cc (pc + 3) = .ok (.dup, 1)) (d4 : decode cc (pc + 4) = .ok (.ldc is, 2)) (d6 : decode cc (pc + 6) = .ok (.invokespecial 130, 3)) (d9 : decode cc (pc + 9) = .ok (.athrow, 1))
    (h1 : z = 1 → nc + 1 ≤ mc) (h2 : z = 1 → ns + 6 ≤ ms) (hm : cM I R) (hw : Qx 2 I R) : cW X nc ns pc lv [] (gw E.1 cIds (cef E (I, R)) ++ []) := by
  rcases hz with hz | hz
  · intro H locs ls hP hD hS hlv
    rw [K.2.2.1]
    have hS' := hS
    rw [K.1] at hS'
    refine vx_throwS (own := RX11) (cls := "java/lang/IndexOutOfBoundsException") (text := (msG.getD j (0, "")).2) (names := ["java/lang/RuntimeException", "java/lang/Exception"]) (ik := 126) (is := is) (ic := 130) (sa := E.2.1 3 j) (A := X.2.2.2.1) F.hx F.hb K.2.2.2.2 F.ho (by decide) (by decide) (F.ht _ hl) (F.ht _ wd21) (by rw [← his]; exact sR_m F hj)
      (vx_hat (fun w h => F.ht _ (bm ((show ∀ w ∈ (vx_atS RX11 130 "java/lang/IndexOutOfBoundsException" ["java/lang/RuntimeException", "java/lang/Exception"]).filter goodWord, w ∈ lw_tbl by decide +kernel) w h) (List.mem_filter.mp h).2)) (show ∀ w ∈ (vx_atS RX11 130 "java/lang/IndexOutOfBoundsException" ["java/lang/RuntimeException", "java/lang/Exception"]).filter (fun w => !goodWord w), w ∈ [Cond.castable "java/lang/IndexOutOfBoundsException" "java/lang/IndexOutOfBoundsException", .declares ⟨"java/lang/RuntimeException", "<init>", "(Ljava/lang/String;)V"⟩, .declares ⟨"java/lang/Exception", "<init>", "(Ljava/lang/String;)V"⟩, .declares ⟨"java/lang/Throwable", "<init>", "(Ljava/lang/String;)V"⟩] by decide +kernel) (vx_c (va_Nw.use rfl (sC_2 F)) (vx_c (va_Nw.use rfl (sC_3 F)) (vx_c (va_Nw.use rfl (sC_4 F)) (vx_c (va_Nw.use rfl (sC_5 F)) vx_n)))))
      (by decide +kernel) (sQ_U F) (sQ_N F) hS (hlv.1.trans F.hml.symm) d0 d3 d4 d6 d9 (fun x hx => (K.2.2.2.1 x hx).elim) (by rw [hR]; show 2 + 3 < k; omega) (by rw [hR]; show 0 + (13 * (2 + 1) + 43) ≤ 60 * k; omega) (by rw [hR]; exact h1 hz) (by rw [hR]; exact h2 hz) F.hl (fun t hvm hsz hq => ⟨⟨(I, R), ⟨2, by decide, rfl, hm, hw⟩, ?_⟩, ?_⟩) hS'.2.2 (h1 hz) (h2 hz)
    · exact va_P.kept (gP_left hP) (fun k9 q9 h9 => hq q9.1 ((gP_left hP k9 q9 h9).lt))
    · exact ⟨Nat.le_trans hS.1 hsz, fun q9 h9 h8 => (hq q9 (Nat.lt_of_lt_of_le h9 hS.1)).trans (hS'.2.1 q9 h9 h8)⟩
  · exact absurd hw (hz _ _ _)
theorem q_thrW2 (F : mF X E RX11 cc bG) {ret : Option FieldType} {post : Option Value → cI × cR → Prop} {Qx : Nat → cI → cR → Prop} (K : kXx X E cIds ret (cef E) post (pX Qx) mc ms) {k z is : Nat} (hR : X.1.2.2.2 = rmK k mc ms) (hk : 6 ≤ k) (hz : z = 1 ∨ ∀ k I R, ¬ Qx k I R) (j : Nat) (hj : j < 15) (hl : Cond.classLink RX11 126 "java/lang/IndexOutOfBoundsException" ∈ bG) (his : (msG.getD j (0, "")).1 = is) (d0 : decode cc pc = .ok (.new 126, 3)) (d3 : decode cc (pc + 3) = .ok (.dup, 1)) (d4 : decode cc (pc + 4) = .ok (.ldc_w is, 3)) (d6 : decode cc (pc + 7) = .ok (.invokespecial 130, 3)) (d9 : decode cc (pc + 10) = .ok (.athrow, 1))
    (h1 : z = 1 → nc + 1 ≤ mc) (h2 : z = 1 → ns + 6 ≤ ms) (hm : cM I R) (hw : Qx 2 I R) : cW X nc ns pc lv [] (gw E.1 cIds (cef E (I, R)) ++ []) := by
  rcases hz with hz | hz
  · intro H locs ls hP hD hS hlv
    rw [K.2.2.1]
    have hS' := hS
    rw [K.1] at hS'
    refine vx_throwSW (own := RX11) (cls := "java/lang/IndexOutOfBoundsException") (text := (msG.getD j (0, "")).2) (names := ["java/lang/RuntimeException", "java/lang/Exception"]) (ik := 126) (is := is) (ic := 130) (sa := E.2.1 3 j) (A := X.2.2.2.1) F.hx F.hb K.2.2.2.2 F.ho (by decide) (by decide) (F.ht _ hl) (F.ht _ wd21) (by rw [← his]; exact sR_m F hj)
      (vx_hat (fun w h => F.ht _ (bm ((show ∀ w ∈ (vx_atS RX11 130 "java/lang/IndexOutOfBoundsException" ["java/lang/RuntimeException", "java/lang/Exception"]).filter goodWord, w ∈ lw_tbl by decide +kernel) w h) (List.mem_filter.mp h).2)) (show ∀ w ∈ (vx_atS RX11 130 "java/lang/IndexOutOfBoundsException" ["java/lang/RuntimeException", "java/lang/Exception"]).filter (fun w => !goodWord w), w ∈ [Cond.castable "java/lang/IndexOutOfBoundsException" "java/lang/IndexOutOfBoundsException", .declares ⟨"java/lang/RuntimeException", "<init>", "(Ljava/lang/String;)V"⟩, .declares ⟨"java/lang/Exception", "<init>", "(Ljava/lang/String;)V"⟩, .declares ⟨"java/lang/Throwable", "<init>", "(Ljava/lang/String;)V"⟩] by decide +kernel) (vx_c (va_Nw.use rfl (sC_2 F)) (vx_c (va_Nw.use rfl (sC_3 F)) (vx_c (va_Nw.use rfl (sC_4 F)) (vx_c (va_Nw.use rfl (sC_5 F)) vx_n)))))
      (by decide +kernel) (sQ_U F) (sQ_N F) hS (hlv.1.trans F.hml.symm) d0 d3 d4 d6 d9 (fun x hx => (K.2.2.2.1 x hx).elim) (by rw [hR]; show 2 + 3 < k; omega) (by rw [hR]; show 0 + (13 * (2 + 1) + 43) ≤ 60 * k; omega) (by rw [hR]; exact h1 hz) (by rw [hR]; exact h2 hz) F.hl (fun t hvm hsz hq => ⟨⟨(I, R), ⟨2, by decide, rfl, hm, hw⟩, ?_⟩, ?_⟩) hS'.2.2 (h1 hz) (h2 hz)
    · exact va_P.kept (gP_left hP) (fun k9 q9 h9 => hq q9.1 ((gP_left hP k9 q9 h9).lt))
    · exact ⟨Nat.le_trans hS.1 hsz, fun q9 h9 h8 => (hq q9 (Nat.lt_of_lt_of_le h9 hS.1)).trans (hS'.2.1 q9 h9 h8)⟩
  · exact absurd hw (hz _ _ _)
end THR
section J0
variable {X : xC} {E : cE} {own : String} {cc : ByteArray} {Ts : List Cond} {nc ns pc index mc ms k : Nat} {lv : List (Nat × Value)} {st : List Value} {ws : va_W} {ids : List Nat} {e : Nat → va_E} {T : va_W}
theorem q_vt {v w : Value} (h : v = w) (k : cW X nc ns pc lv (w :: st) ws) : cW X nc ns pc lv (v :: st) ws := by rw [h]; exact k
theorem q_i2c (F : mF X E own cc Ts) {x : Int} (hd : decode cc pc = .ok (.i2c, 1)) (k : cW X nc ns (pc + 1) lv (.int ((Int32.ofInt x).toUInt32 % 65536).toInt32 :: st) ws) : cW X nc ns pc lv (iV x :: st) ws := fun H locs ls hP hD hS hl => lv_i2c F.hx F.hb hd rfl (k H locs ls hP hD hS hl)
theorem q_iushr (F : mF X E own cc Ts) {x y : Int} (hd : decode cc pc = .ok (.iushr, 1)) (k : cW X nc ns (pc + 1) lv (iV (bcS (Int32.ofInt x) (Int32.ofInt y)).toInt :: st) ws) : cW X nc ns pc lv (iV y :: iV x :: st) ws := fun H locs ls hP hD hS hl => lv_iushr F.hx F.hb hd rfl (by have h := k H locs ls hP hD hS hl; rw [iV, Int32.ofInt_toInt] at h; exact h)
theorem iShr_0 {x : Int} (h : inR x) : iShr x 0 = x := by
  unfold iShr
  have e : Int32.ofInt x >>> (Int32.ofInt 0 &&& 31) = Int32.ofInt x := sb_shr0 _
  rw [e, ti_of h]
end J0
def vJ_coder : List Cond := Cond.code yJ0_coder_7d493 cJ0_coder_7d493 1 (some .byte) :: bG
set_option maxRecDepth 100000 in
theorem j_coder {l : Launch} {D : va_G} {E : cE} {ids : List Nat} {e : Nat → va_E} {i : Nat} (hi : i < 33) : gM l D E ids yJ0_coder_7d493 vJ_coder (rmK 1 0 0) [.ref (E.2.1 1 i)] e (fun _ : Unit => e) (fun v _ => v = some (iV 0)) 0 0 := by
  refine k_ofW (own := RJ0) (cc := cJ0_coder_7d493) (maxL := 1) (ret := some .byte) (lv := [(0, .ref (E.2.1 1 i))]) (by decide) rfl rfl (Nat.le_of_ble_eq_true rfl) rfl ?_
  intro X hl hR hN hD F K
  subst hl; subst hD
  refine q_gs F (sZ_COMPACT F) wd256 rfl dJ0_coder_7d493_0 ?_
  refine q_vt (w := iV 1) rfl ?_
  refine q_if_eq F (⟨by decide, by decide⟩ : inR 1) 13 dJ0_coder_7d493_3 (by decide) (fun hc => absurd hc (by decide)) (fun hc => ?_)
  refine q_aload_n F 0 dJ0_coder_7d493_6 rfl rfl ?_
  refine q_gOF F ((sK F).1 i hi).2.1 wd832 rfl dJ0_coder_7d493_7 ?_
  refine q_vt (w := iV 0) rfl ?_
  refine q_goto F 14 dJ0_coder_7d493_10 (by decide) ?_
  exact k_reti (u := ()) F K rfl (by decide) dJ0_coder_7d493_14 rfl
def vJ_latin : List Cond := Cond.code yJ0_isLatin1_aae02 cJ0_isLatin1_aae02 1 (some .boolean) :: bG
set_option maxRecDepth 100000 in
theorem j_latin {l : Launch} {D : va_G} {E : cE} {ids : List Nat} {e : Nat → va_E} {i : Nat} (hi : i < 33) : gM l D E ids yJ0_isLatin1_aae02 vJ_latin (rmK 1 0 0) [.ref (E.2.1 1 i)] e (fun _ : Unit => e) (fun v _ => v = some (iV 1)) 0 0 := by
  refine k_ofW (own := RJ0) (cc := cJ0_isLatin1_aae02) (maxL := 1) (ret := some .boolean) (lv := [(0, .ref (E.2.1 1 i))]) (by decide) rfl rfl (Nat.le_of_ble_eq_true rfl) rfl ?_
  intro X hl hR hN hD F K
  subst hl; subst hD
  refine q_gs F (sZ_COMPACT F) wd256 rfl dJ0_isLatin1_aae02_0 ?_
  refine q_vt (w := iV 1) rfl ?_
  refine q_if_eq F (⟨by decide, by decide⟩ : inR 1) 17 dJ0_isLatin1_aae02_3 (by decide) (fun hc => absurd hc (by decide)) (fun hc => ?_)
  refine q_aload_n F 0 dJ0_isLatin1_aae02_6 rfl rfl ?_
  refine q_gOF F ((sK F).1 i hi).2.1 wd832 rfl dJ0_isLatin1_aae02_7 ?_
  refine q_vt (w := iV 0) rfl ?_
  refine q_if_ne F ti_0 17 dJ0_isLatin1_aae02_10 (by decide) (fun hc => absurd rfl hc) (fun hc => ?_)
  refine q_iconst F dJ0_isLatin1_aae02_13 ?_
  refine q_goto F 18 dJ0_isLatin1_aae02_14 (by decide) ?_
  exact k_reti (u := ()) F K rfl (by decide) dJ0_isLatin1_aae02_18 rfl
theorem yd_coder : yJ0_coder_7d493.cls = "java/lang/String" ∧ yJ0_coder_7d493.cls ≠ "java/lang/invoke/MethodHandle" ∧ yJ0_coder_7d493.cls ≠ "java/lang/invoke/VarHandle" ∧ (parseMethodDescriptor yJ0_coder_7d493.desc).map (fun d => d.parameters.length) = some 0 := by decide +kernel
theorem yd_latin : yJ0_isLatin1_aae02.cls = "java/lang/String" ∧ yJ0_isLatin1_aae02.cls ≠ "java/lang/invoke/MethodHandle" ∧ yJ0_isLatin1_aae02.cls ≠ "java/lang/invoke/VarHandle" ∧ (parseMethodDescriptor yJ0_isLatin1_aae02.desc).map (fun d => d.parameters.length) = some 0 := by decide +kernel
def vJ_length : List Cond := Cond.code yJ0_length_8abf5 cJ0_length_8abf5 1 (some .int) :: bG
set_option maxRecDepth 100000 in
theorem j_length {l : Launch} {D : va_G} {E : cE} {ids : List Nat} {e : Nat → va_E} {i : Nat} (hi : i < 33) : gM l D E ids yJ0_length_8abf5 vJ_length (rmK 2 0 0) [.ref (E.2.1 1 i)] e (fun _ : Unit => e) (fun v _ => v = some (iV (txN i))) 0 0 := by
  refine k_ofW (own := RJ0) (cc := cJ0_length_8abf5) (maxL := 1) (ret := some .int) (lv := [(0, .ref (E.2.1 1 i))]) (by decide) rfl rfl (Nat.le_of_ble_eq_true rfl) rfl ?_
  intro X hl hR hN hD F K
  subst hl; subst hD
  refine q_aload_n F 0 dJ0_length_8abf5_0 rfl rfl ?_
  refine q_gOF F ((sK F).1 i hi).2.2.1 wd831 rfl dJ0_length_8abf5_1 ?_
  refine q_tlen F ((sK F).1 i hi).2.2.2 dJ0_length_8abf5_4 ?_
  refine q_aload_n F 0 dJ0_length_8abf5_5 rfl rfl ?_
  refine q_cG F (j_coder hi) (fun H locs hS => vk_recv (sK F) hi hS) (bV wd252 wd253 wd254 wd13 wd255) rfl ⟨rfl, rfl⟩ yd_coder (rmK_le hR (by omega) (by decide)) (av := []) rfl rfl (Nat.le_of_ble_eq_true rfl) dJ0_length_8abf5_6 (rmK_cs hR (by omega) (by omega)) (fun v u hp => ?_)
  subst hp
  refine q_ishr F dJ0_length_8abf5_9 ?_
  exact k_reti (u := ()) F K rfl rfl dJ0_length_8abf5_10 (congrArg (fun z => some (iV z)) (iShr_0 (txN_in hi)))
def vJ_pre : List Cond := Cond.code yJ3_checkIndex_8e157 cJ3_checkIndex_8e157 3 (some .int) :: bG
set_option maxRecDepth 100000 in
theorem j_pre {l : Launch} {D : va_G} {E : cE} {ids : List Nat} {e : Nat → va_E} {x n : Int} {w : Value} (hx : 0 ≤ x ∧ x < n) (hn : inR n) (hw : w.category = 1) : gM l D E ids yJ3_checkIndex_8e157 vJ_pre (rmK 1 0 0) [iV x, iV n, w] e (fun _ : Unit => e) (fun v _ => v = some (iV x)) 0 0 := by
  refine k_ofW (own := RJ3) (cc := cJ3_checkIndex_8e157) (maxL := 3) (ret := some .int) (lv := [(0, iV x), (1, iV n), (2, w)]) (by decide) rfl rfl (by rcases w with _ | _ | _ | _ | _ | _ <;> first | (simp [lg_sl, Value.category]; done) | (simp [Value.category] at hw)) (by rcases w with _ | _ | _ | _ | _ | _ <;> first | rfl | (simp [Value.category] at hw)) ?_
  intro X hl hR hN hD F K
  subst hl; subst hD
  have hr : inR x := by unfold inR at hn ⊢; omega
  refine q_iload_n F 0 dJ3_checkIndex_8e157_0 rfl rfl ?_
  refine q_if_lt F hr 9 dJ3_checkIndex_8e157_1 (by decide) (fun hc => absurd hc (by omega)) (fun hc => ?_)
  refine q_iload_n F 0 dJ3_checkIndex_8e157_4 rfl rfl ?_
  refine q_iload_n F 1 dJ3_checkIndex_8e157_5 rfl rfl ?_
  refine q_icmp_lt F hr hn 16 dJ3_checkIndex_8e157_6 (by decide) (fun hc => ?_) (fun hc => absurd hx.2 hc)
  refine q_iload_n F 0 dJ3_checkIndex_8e157_16 rfl rfl ?_
  exact k_reti (u := ()) F K rfl rfl dJ3_checkIndex_8e157_17 rfl
theorem yd_pre : yJ3_checkIndex_8e157.cls = "jdk/internal/util/Preconditions" ∧ yJ3_checkIndex_8e157.cls ≠ "java/lang/invoke/MethodHandle" ∧ yJ3_checkIndex_8e157.cls ≠ "java/lang/invoke/VarHandle" ∧ (parseMethodDescriptor yJ3_checkIndex_8e157.desc).map (fun d => d.parameters.length) = some 3 := by decide +kernel
def vJ_check : List Cond := Cond.code yJ0_checkIndex_df160 cJ0_checkIndex_df160 2 none :: bG
set_option maxRecDepth 100000 in
theorem j_check {l : Launch} {D : va_G} {E : cE} {ids : List Nat} {e : Nat → va_E} {x n : Int} (hx : 0 ≤ x ∧ x < n) (hn : inR n) : gM l D E ids yJ0_checkIndex_df160 vJ_check (rmK 2 0 0) [iV x, iV n] e (fun _ : Unit => e) (fun v _ => v = none) 0 0 := by
  refine k_ofW (own := RJ0) (cc := cJ0_checkIndex_df160) (maxL := 2) (ret := none) (lv := [(0, iV x), (1, iV n)]) (by decide) rfl rfl (Nat.le_of_ble_eq_true rfl) rfl ?_
  intro X hl hR hN hD F K
  subst hl; subst hD
  refine q_iload_n F 0 dJ0_checkIndex_df160_0 rfl rfl ?_
  refine q_iload_n F 1 dJ0_checkIndex_df160_1 rfl rfl ?_
  have key : ∀ w : Value, w.category = 1 → va_Z "jdk/internal/util/Preconditions" "SIOOBE_FORMATTER" "Ljava/util/function/BiFunction;" w X.2.2.2.1 X.2.1.1 X.2.1.1.heap → cW X 0 0 2 [(0, iV x), (1, iV n)] [iV n, iV x] (gw E.1 ids e ++ []) := by
    intro w hw hZ
    refine q_gs F hZ wd272 rfl dJ0_checkIndex_df160_2 ?_
    refine q_cS F (j_pre hx hn hw) (bS wd274 wd275 wd15 wd276) rfl ⟨rfl, rfl⟩ yd_pre.2 (rmK_le hR (by omega) (by decide)) (av := [iV x, iV n, w]) rfl rfl (Nat.le_of_ble_eq_true rfl) dJ0_checkIndex_df160_5 (rmK_cs hR (by omega) (by omega)) (fun v u hp => ?_)
    subst hp
    refine q_pop F dJ0_checkIndex_df160_8 rfl ?_
    exact k_retv (u := ()) F K rfl dJ0_checkIndex_df160_9 rfl
  rcases sQ_F F with h | ⟨t, h⟩
  · exact key _ rfl h
  · exact key _ rfl h
theorem yd_check : yJ0_checkIndex_df160.cls = "java/lang/String" ∧ yJ0_checkIndex_df160.cls ≠ "java/lang/invoke/MethodHandle" ∧ yJ0_checkIndex_df160.cls ≠ "java/lang/invoke/VarHandle" ∧ (parseMethodDescriptor yJ0_checkIndex_df160.desc).map (fun d => d.parameters.length) = some 2 := by decide +kernel
theorem txC_all : ∀ i, i < 33 → ∀ k, k < txL.getD i 0 → ((((txB.getD i []).getD k 0) &&& 255).toUInt32 % 65536).toInt32 = Int32.ofInt (txC i (k : Int)) ∧ narrow .char (iV (txC i (k : Int))) = iV (txC i (k : Int)) := by decide +kernel
def vJ_lch : List Cond := Cond.code yJ1_charAt_3b067 cJ1_charAt_3b067 2 (some .char) :: bG
set_option maxRecDepth 100000 in
theorem j_lch {l : Launch} {D : va_G} {E : cE} {ids : List Nat} {e : Nat → va_E} {i : Nat} {x : Int} (hi : i < 33) (hx : 0 ≤ x ∧ x < txN i) : gM l D E ids yJ1_charAt_3b067 vJ_lch (rmK 3 0 0) [.ref (E.2.1 2 i), iV x] e (fun _ : Unit => e) (fun v _ => v = some (iV (txC i x))) 0 0 := by
  refine k_ofW (own := RJ1) (cc := cJ1_charAt_3b067) (maxL := 2) (ret := some .char) (lv := [(0, .ref (E.2.1 2 i)), (1, iV x)]) (by decide) rfl rfl (Nat.le_of_ble_eq_true rfl) rfl ?_
  intro X hl hR hN hD F K
  subst hl; subst hD
  have hL : txL.getD i 0 < 100000 := (show ∀ j, j < 33 → txL.getD j 0 < 100000 by decide +kernel) i hi
  have hT := ((sK F).1 i hi).2.2.2
  refine q_iload_n F 1 dJ1_charAt_3b067_0 rfl rfl ?_
  refine q_aload_n F 0 dJ1_charAt_3b067_1 rfl rfl ?_
  refine q_tlen F hT dJ1_charAt_3b067_2 ?_
  refine q_cS F (j_check (x := x) (n := txN i) hx (txN_in hi)) (bS wd269 wd270 wd13 wd271) rfl ⟨rfl, rfl⟩ yd_check.2 (rmK_le hR (by omega) (by decide)) (av := [iV x, iV (txN i)]) rfl rfl (Nat.le_of_ble_eq_true rfl) dJ1_charAt_3b067_3 (rmK_cs hR (by omega) (by omega)) (fun v u hp => ?_)
  subst hp
  refine q_aload_n F 0 dJ1_charAt_3b067_6 rfl rfl ?_
  refine q_iload_n F 1 dJ1_charAt_3b067_7 rfl rfl ?_
  refine q_tbd F hT hx (by omega) dJ1_charAt_3b067_8 ?_
  refine q_vt (w := iV ((txB.getD i []).getD x.toNat 0).toInt) (by show Value.int _ = Value.int _; rw [Int32.ofInt_toInt]) ?_
  refine q_sipush F dJ1_charAt_3b067_9 (by decide) ?_
  refine q_iand F dJ1_charAt_3b067_12 ?_
  refine q_i2c F dJ1_charAt_3b067_13 ?_
  have hk : x.toNat < txL.getD i 0 := by unfold txN at hx; omega
  have hc := txC_all i hi x.toNat hk
  rw [Int.toNat_of_nonneg hx.1] at hc
  refine q_vt (w := iV (txC i x)) (by
    show Value.int _ = Value.int _
    rw [← hc.1]
    unfold iAnd
    rw [Int32.ofInt_toInt, Int32.ofInt_toInt]
    rfl) ?_
  exact k_reti (u := ()) F K rfl hc.2 dJ1_charAt_3b067_14 rfl
theorem yd_lch : yJ1_charAt_3b067.cls = "java/lang/StringLatin1" ∧ yJ1_charAt_3b067.cls ≠ "java/lang/invoke/MethodHandle" ∧ yJ1_charAt_3b067.cls ≠ "java/lang/invoke/VarHandle" ∧ (parseMethodDescriptor yJ1_charAt_3b067.desc).map (fun d => d.parameters.length) = some 2 := by decide +kernel
def vJ_charAt : List Cond := Cond.code yJ0_charAt_5068e cJ0_charAt_5068e 2 (some .char) :: bG
set_option maxRecDepth 100000 in
theorem j_charAt {l : Launch} {D : va_G} {E : cE} {ids : List Nat} {e : Nat → va_E} {i : Nat} {x : Int} (hi : i < 33) (hx : 0 ≤ x ∧ x < txN i) : gM l D E ids yJ0_charAt_5068e vJ_charAt (rmK 4 0 0) [.ref (E.2.1 1 i), iV x] e (fun _ : Unit => e) (fun v _ => v = some (iV (txC i x))) 0 0 := by
  refine k_ofW (own := RJ0) (cc := cJ0_charAt_5068e) (maxL := 2) (ret := some .char) (lv := [(0, .ref (E.2.1 1 i)), (1, iV x)]) (by decide) rfl rfl (Nat.le_of_ble_eq_true rfl) rfl ?_
  intro X hl hR hN hD F K
  subst hl; subst hD
  refine q_aload_n F 0 dJ0_charAt_5068e_0 rfl rfl ?_
  refine q_cG F (j_latin hi) (fun H locs hS => vk_recv (sK F) hi hS) (bV wd262 wd263 wd264 wd13 wd265) rfl ⟨rfl, rfl⟩ yd_latin (rmK_le hR (by omega) (by decide)) (av := []) rfl rfl (Nat.le_of_ble_eq_true rfl) dJ0_charAt_5068e_1 (rmK_cs hR (by omega) (by omega)) (fun v u hp => ?_)
  subst hp
  refine q_if_eq F (⟨by decide, by decide⟩ : inR 1) 16 dJ0_charAt_5068e_4 (by decide) (fun hc => absurd hc (by decide)) (fun hc => ?_)
  refine q_aload_n F 0 dJ0_charAt_5068e_7 rfl rfl ?_
  refine q_gOF F ((sK F).1 i hi).2.2.1 wd831 rfl dJ0_charAt_5068e_8 ?_
  refine q_iload_n F 1 dJ0_charAt_5068e_11 rfl rfl ?_
  refine q_cS F (j_lch hi hx) (bS wd266 wd267 wd14 wd268) rfl ⟨rfl, rfl⟩ yd_lch.2 (rmK_le hR (by omega) (by decide)) (av := [.ref (E.2.1 2 i), iV x]) rfl rfl (Nat.le_of_ble_eq_true rfl) dJ0_charAt_5068e_12 (rmK_cs hR (by omega) (by omega)) (fun v u hp => ?_)
  subst hp
  have hk : x.toNat < txL.getD i 0 := by unfold txN at hx; omega
  have hc := txC_all i hi x.toNat hk
  rw [Int.toNat_of_nonneg hx.1] at hc
  exact k_reti (u := ()) F K rfl hc.2 dJ0_charAt_5068e_15 rfl
theorem yd_length : yJ0_length_8abf5.cls = "java/lang/String" ∧ yJ0_length_8abf5.cls ≠ "java/lang/invoke/MethodHandle" ∧ yJ0_length_8abf5.cls ≠ "java/lang/invoke/VarHandle" ∧ (parseMethodDescriptor yJ0_length_8abf5.desc).map (fun d => d.parameters.length) = some 0 := by decide +kernel
theorem yd_charAt : yJ0_charAt_5068e.cls = "java/lang/String" ∧ yJ0_charAt_5068e.cls ≠ "java/lang/invoke/MethodHandle" ∧ yJ0_charAt_5068e.cls ≠ "java/lang/invoke/VarHandle" ∧ (parseMethodDescriptor yJ0_charAt_5068e.desc).map (fun d => d.parameters.length) = some 1 := by decide +kernel
def vJ_ord : List Cond := Cond.code yJx29ce0_ordinal_8abf5 cJx29ce0_ordinal_8abf5 1 (some .int) :: bG
set_option maxRecDepth 100000 in
theorem j_ord {l : Launch} {D : va_G} {E : cE} {ids : List Nat} {e : Nat → va_E} {j : Nat} (hj : j < 12) : gM l D E ids yJx29ce0_ordinal_8abf5 vJ_ord (rmK 1 0 0) [.ref (E.2.1 0 j)] e (fun _ : Unit => e) (fun v _ => v = some (iV (kN j))) 0 0 := by
  refine k_ofW (own := RJx29ce0) (cc := cJx29ce0_ordinal_8abf5) (maxL := 1) (ret := some .int) (lv := [(0, .ref (E.2.1 0 j))]) (by decide) rfl rfl (Nat.le_of_ble_eq_true rfl) rfl ?_
  intro X hl hR hN hD F K
  subst hl; subst hD
  refine q_aload_n F 0 dJx29ce0_ordinal_8abf5_0 rfl rfl ?_
  refine q_gOF F (F.hS.2.1.2.1 j hj) wd833 rfl dJx29ce0_ordinal_8abf5_1 ?_
  exact k_reti (u := ()) (x := kN j) F K rfl rfl dJx29ce0_ordinal_8abf5_4 rfl
def vJ_bc : List Cond := Cond.code yJ6_bitCount_0f7a4 cJ6_bitCount_0f7a4 1 (some .int) :: bG
set_option maxRecDepth 100000 in
theorem j_bc {l : Launch} {D : va_G} {E : cE} {ids : List Nat} {e : Nat → va_E} {x : Int} (hx : inR x) : gM l D E ids yJ6_bitCount_0f7a4 vJ_bc (rmK 1 0 0) [iV x] e (fun _ : Unit => e) (fun v _ => v = some (iV (bc x))) 0 0 := by
  refine k_ofW (own := RJ6) (cc := cJ6_bitCount_0f7a4) (maxL := 1) (ret := some .int) (lv := [(0, iV x)]) (by decide) rfl rfl (Nat.le_of_ble_eq_true rfl) rfl ?_
  intro X hl hR hN hD F K
  subst hl; subst hD
  refine q_iload_n F 0 dJ6_bitCount_0f7a4_0 rfl rfl ?_
  refine q_iload_n F 0 dJ6_bitCount_0f7a4_1 rfl rfl ?_
  refine q_iconst F dJ6_bitCount_0f7a4_2 ?_
  refine q_iushr F dJ6_bitCount_0f7a4_3 ?_
  refine q_ldc_w F (n := 1431655765) wd649 dJ6_bitCount_0f7a4_4 ?_
  refine q_iand F dJ6_bitCount_0f7a4_7 ?_
  refine q_isub F dJ6_bitCount_0f7a4_8 ?_
  refine q_istore_n F [0] dJ6_bitCount_0f7a4_9 rfl (q_n hN (by decide)) rfl ?_
  refine q_iload_n F 0 dJ6_bitCount_0f7a4_10 rfl rfl ?_
  refine q_ldc_w F (n := 858993459) wd650 dJ6_bitCount_0f7a4_11 ?_
  refine q_iand F dJ6_bitCount_0f7a4_14 ?_
  refine q_iload_n F 0 dJ6_bitCount_0f7a4_15 rfl rfl ?_
  refine q_iconst F dJ6_bitCount_0f7a4_16 ?_
  refine q_iushr F dJ6_bitCount_0f7a4_17 ?_
  refine q_ldc_w F (n := 858993459) wd650 dJ6_bitCount_0f7a4_18 ?_
  refine q_iand F dJ6_bitCount_0f7a4_21 ?_
  refine q_iadd F dJ6_bitCount_0f7a4_22 ?_
  refine q_istore_n F [0] dJ6_bitCount_0f7a4_23 rfl (q_n hN (by decide)) rfl ?_
  refine q_iload_n F 0 dJ6_bitCount_0f7a4_24 rfl rfl ?_
  refine q_iload_n F 0 dJ6_bitCount_0f7a4_25 rfl rfl ?_
  refine q_iconst F dJ6_bitCount_0f7a4_26 ?_
  refine q_iushr F dJ6_bitCount_0f7a4_27 ?_
  refine q_iadd F dJ6_bitCount_0f7a4_28 ?_
  refine q_ldc_w F (n := 252645135) wd651 dJ6_bitCount_0f7a4_29 ?_
  refine q_iand F dJ6_bitCount_0f7a4_32 ?_
  refine q_istore_n F [0] dJ6_bitCount_0f7a4_33 rfl (q_n hN (by decide)) rfl ?_
  refine q_iload_n F 0 dJ6_bitCount_0f7a4_34 rfl rfl ?_
  refine q_iload_n F 0 dJ6_bitCount_0f7a4_35 rfl rfl ?_
  refine q_bipush F dJ6_bitCount_0f7a4_36 (by decide) ?_
  refine q_iushr F dJ6_bitCount_0f7a4_38 ?_
  refine q_iadd F dJ6_bitCount_0f7a4_39 ?_
  refine q_istore_n F [0] dJ6_bitCount_0f7a4_40 rfl (q_n hN (by decide)) rfl ?_
  refine q_iload_n F 0 dJ6_bitCount_0f7a4_41 rfl rfl ?_
  refine q_iload_n F 0 dJ6_bitCount_0f7a4_42 rfl rfl ?_
  refine q_bipush F dJ6_bitCount_0f7a4_43 (by decide) ?_
  refine q_iushr F dJ6_bitCount_0f7a4_45 ?_
  refine q_iadd F dJ6_bitCount_0f7a4_46 ?_
  refine q_istore_n F [0] dJ6_bitCount_0f7a4_47 rfl (q_n hN (by decide)) rfl ?_
  refine q_iload_n F 0 dJ6_bitCount_0f7a4_48 rfl rfl ?_
  refine q_bipush F dJ6_bitCount_0f7a4_49 (by decide) ?_
  refine q_iand F dJ6_bitCount_0f7a4_51 ?_
  refine k_reti (u := ()) F K rfl rfl dJ6_bitCount_0f7a4_52 ?_
  show some (Value.int _) = some (Value.int _)
  congr 2
  unfold bc bcI
  simp only [iAnd, Int32.ofInt_add, Int32.ofInt_sub, Int32.ofInt_toInt]
  rfl
theorem yd_bc : yJ6_bitCount_0f7a4.cls = "java/lang/Integer" ∧ yJ6_bitCount_0f7a4.cls ≠ "java/lang/invoke/MethodHandle" ∧ yJ6_bitCount_0f7a4.cls ≠ "java/lang/invoke/VarHandle" ∧ (parseMethodDescriptor yJ6_bitCount_0f7a4.desc).map (fun d => d.parameters.length) = some 1 := by decide +kernel
section JC
variable {X : xC} {E : cE} {own : String} {cc : ByteArray} {nc ns pc index mc ms k : Nat} {lv : List (Nat × Value)} {st : List Value} {ids : List Nat} {e : Nat → va_E} {T : va_W}
theorem q_slen (F : mF X E own cc bG) (hR : X.1.2.2.2 = rmK k mc ms) (hk : 3 ≤ k ∧ nc ≤ mc ∧ ns ≤ ms) {i : Nat} (hi : i < 33) (hl : Cond.methodLink own index yJ0_length_8abf5 ∈ bG) (hd : decode cc pc = .ok (.invokevirtual index, 3)) (hcat : (st.map fun v => v.category).sum ≤ 8) (kk : cW X nc ns (pc + 3) lv (iV (txN i) :: st) (gw E.1 ids e ++ T)) : cW X nc ns pc lv (.ref (E.2.1 1 i) :: st) (gw E.1 ids e ++ T) :=
  q_cG F (j_length hi) (fun H locs hS => vk_recv (sK F) hi hS) (bV hl wd249 wd250 wd13 wd251) rfl ⟨rfl, rfl⟩ yd_length (rmK_le hR (by omega) (by decide)) (av := []) rfl rfl hcat hd (rmK_cs hR (by omega) (by omega)) (fun v u hp => by subst hp; exact kk)
theorem q_sch (F : mF X E own cc bG) (hR : X.1.2.2.2 = rmK k mc ms) (hk : 5 ≤ k ∧ nc ≤ mc ∧ ns ≤ ms) {i : Nat} {x : Int} (hi : i < 33) (hx : 0 ≤ x ∧ x < txN i) (hl : Cond.methodLink own index yJ0_charAt_5068e ∈ bG) (hd : decode cc pc = .ok (.invokevirtual index, 3)) (hcat : (st.map fun v => v.category).sum ≤ 8) (kk : cW X nc ns (pc + 3) lv (iV (txC i x) :: st) (gw E.1 ids e ++ T)) : cW X nc ns pc lv (iV x :: .ref (E.2.1 1 i) :: st) (gw E.1 ids e ++ T) :=
  q_cG F (j_charAt hi hx) (fun H locs hS => vk_recv (sK F) hi hS) (bV hl wd259 wd260 wd13 wd261) rfl ⟨rfl, rfl⟩ yd_charAt (rmK_le hR (by omega) (by decide)) (av := [iV x]) rfl rfl hcat hd (rmK_cs hR (by omega) (by omega)) (fun v u hp => by subst hp; exact kk)
theorem q_bc (F : mF X E own cc bG) (hR : X.1.2.2.2 = rmK k mc ms) (hk : 2 ≤ k ∧ nc ≤ mc ∧ ns ≤ ms) {x : Int} (hx : inR x) (hl : Cond.methodLink own index yJ6_bitCount_0f7a4 ∈ bG) (hd : decode cc pc = .ok (.invokestatic index, 3)) (hcat : (st.map fun v => v.category).sum ≤ 8) (kk : cW X nc ns (pc + 3) lv (iV (bc x) :: st) (gw E.1 ids e ++ T)) : cW X nc ns pc lv (iV x :: st) (gw E.1 ids e ++ T) :=
  q_cS F (j_bc hx) (bS hl wd647 wd25 wd648) rfl ⟨rfl, rfl⟩ yd_bc.2 (rmK_le hR (by omega) (by decide)) (av := [iV x]) rfl rfl hcat hd (rmK_cs hR (by omega) (by omega)) (fun v u hp => by subst hp; exact kk)
theorem q_max (F : mF X E own cc bG) (hR : X.1.2.2.2 = rmK k mc ms) (hk : 1 ≤ k ∧ nc ≤ mc ∧ ns ≤ ms) {x y : Int} (hx : inR x) (hy : inR y) (hl : Cond.methodLink own index yJ9_max_7cf53 ∈ bG) (hd : decode cc pc = .ok (.invokestatic index, 3)) (hcat : (st.map fun v => v.category).sum ≤ 8) (kk : cW X nc ns (pc + 3) lv (iV (imax x y) :: st) (gw E.1 ids e ++ T)) : cW X nc ns pc lv (iV y :: iV x :: st) (gw E.1 ids e ++ T) := by
  intro H locs ls hP hD hS hlv
  refine va_mmax F.hx F.hb (F.hml.trans hlv.1.symm) F.ho (F.ht _ hl) (F.ht _ wd693) (F.ht _ wd24) (F.ht _ wd694) (by rw [hR]; exact hk.1) (by rw [hR]; show _ ≤ 60 * k; omega) (by rw [hR]; exact hk.2.1) (by rw [hR]; exact hk.2.2) hd ?_
  have h := kk H locs ls hP hD hS hlv
  have e1 : iV (imax x y) = .int (if Int32.ofInt x < Int32.ofInt y then Int32.ofInt y else Int32.ofInt x) := by
    unfold imax
    by_cases hc : x < y
    · rw [if_pos hc, if_pos ((ti_lt hx hy).mpr hc)]
    · rw [if_neg hc, if_neg (fun z => hc ((ti_lt hx hy).mp z))]
  rw [e1] at h
  exact h
theorem q_abs (F : mF X E own cc bG) (hR : X.1.2.2.2 = rmK k mc ms) (hk : 1 ≤ k ∧ nc ≤ mc ∧ ns ≤ ms) {x : Int} (hx : inR x) (hl : Cond.methodLink own index yJ9_abs_0f7a4 ∈ bG) (hd : decode cc pc = .ok (.invokestatic index, 3)) (hcat : (st.map fun v => v.category).sum ≤ 8) (kk : cW X nc ns (pc + 3) lv (iV (iabs x) :: st) (gw E.1 ids e ++ T)) : cW X nc ns pc lv (iV x :: st) (gw E.1 ids e ++ T) := by
  intro H locs ls hP hD hS hlv
  refine va_mabs F.hx F.hb (F.hml.trans hlv.1.symm) F.ho (F.ht _ hl) (F.ht _ wd818) (F.ht _ wd24) (F.ht _ wd819) (by rw [hR]; exact hk.1) (by rw [hR]; show _ ≤ 60 * k; omega) (by rw [hR]; exact hk.2.1) (by rw [hR]; exact hk.2.2) hd ?_
  have h := kk H locs ls hP hD hS hlv
  have e1 : iV (iabs x) = .int (if 0 ≤ Int32.ofInt x then Int32.ofInt x else 0 - Int32.ofInt x) := by
    unfold iabs
    have hle : (0 : Int32) ≤ Int32.ofInt x ↔ 0 ≤ x := ti_le ti_0 hx
    by_cases hc : 0 ≤ x
    · rw [if_pos hc, if_pos (hle.mpr hc)]
    · rw [if_neg hc, if_neg (fun z => hc (hle.mp z))]
      show Value.int _ = Value.int _
      congr 1
      rw [show -x = 0 - x by omega, Int32.ofInt_sub]
      rfl
  rw [e1] at h
  exact h
def xOrd : MethodName := ⟨"RiddleMill$Kind", "ordinal", "()I"⟩
theorem q_ord (F : mF X E own cc bG) (hR : X.1.2.2.2 = rmK k mc ms) (hk : 2 ≤ k ∧ nc ≤ mc ∧ ns ≤ ms) {j : Nat} (hj : j < 12) (hl : Cond.methodLink own index xOrd ∈ bG) (hd : decode cc pc = .ok (.invokevirtual index, 3)) (hcat : (st.map fun v => v.category).sum ≤ 8) (kk : cW X nc ns (pc + 3) lv (iV (kN j) :: st) (gw E.1 ids e ++ T)) : cW X nc ns pc lv (.ref (E.2.1 0 j) :: st) (gw E.1 ids e ++ T) := by
  refine q_cU (C := RX1) (owner := "java/lang/Enum") (x := xOrd) (y := yJx29ce0_ordinal_8abf5) F (j_ord hj) (fun H locs hS => ?_) ?_ rfl ⟨rfl, rfl⟩ rfl (by decide +kernel) (rmK_le hR (by omega) (by decide)) (av := []) rfl rfl hcat hd (rmK_cs hR (by omega) (by omega)) (fun v u hp => by subst hp; exact kk)
  · obtain ⟨cell, h1, h2, h3, -⟩ := (F.hS.2.1.1 j hj).kept hS.2.1
    exact ⟨cell, h1, h2, h3⟩
  · have hm : ∀ w ∈ va_wsU own index RX1 "java/lang/Enum" xOrd yJx29ce0_ordinal_8abf5 vJ_ord, w ∈ bG := by
      intro w h
      unfold va_wsU vJ_ord at h
      simp only [List.cons_append, List.nil_append, List.mem_cons] at h
      rcases h with rfl | rfl | rfl | rfl | rfl | rfl | h
      · exact hl
      · exact wd380
      · exact wd382
      · exact wd383
      · exact wd11
      · exact wd384
      · exact h
    exact fun w h => ⟨hm w h, good_of_word (List.mem_filter.mp (hm w h)).2⟩
end JC
end
