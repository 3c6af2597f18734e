section
-- ===== PART A: goes FIRST, ahead of the names: the tables' words, and 'selects' of the private methods out of them =====
/-- a private method of a class that the tables say can be made, by its rows of tables_1 -/
def lw_okq (q : MethodName × Nat) : Prop := (q.1.cls ≠ "java/lang/invoke/MethodHandle" ∧ q.1.cls ≠ "java/lang/invoke/VarHandle") ∧ Cond.instantiable q.1.cls q.2 ∈ tables_1 ∧ Cond.privateMethod q.1 ∈ tables_1 ∧ Cond.instanceMethod q.1 ∈ tables_1
theorem lw_p0 : lw_okq (⟨"LetterDesk", "feedBytes", "(J)V"⟩, 10) := ⟨⟨by decide +kernel, by decide +kernel⟩, List.mem_of_getElem? (i := 27) (by decide +kernel), List.mem_of_getElem? (i := 184) (by decide +kernel), List.mem_of_getElem? (i := 185) (by decide +kernel)⟩
theorem lw_p1 : lw_okq (⟨"LetterDesk", "latestStart", "()I"⟩, 10) := ⟨⟨by decide +kernel, by decide +kernel⟩, List.mem_of_getElem? (i := 27) (by decide +kernel), List.mem_of_getElem? (i := 195) (by decide +kernel), List.mem_of_getElem? (i := 196) (by decide +kernel)⟩
theorem lw_p2 : lw_okq (⟨"LetterDesk", "editionAt", "(I)LLetterDesk$Edition;"⟩, 10) := ⟨⟨by decide +kernel, by decide +kernel⟩, List.mem_of_getElem? (i := 27) (by decide +kernel), List.mem_of_getElem? (i := 199) (by decide +kernel), List.mem_of_getElem? (i := 200) (by decide +kernel)⟩
theorem lw_p3 : lw_okq (⟨"LetterDesk$Tokens", "packReserved", "()V"⟩, 11) := ⟨⟨by decide +kernel, by decide +kernel⟩, List.mem_of_getElem? (i := 277) (by decide +kernel), List.mem_of_getElem? (i := 359) (by decide +kernel), List.mem_of_getElem? (i := 360) (by decide +kernel)⟩
theorem lw_p4 : lw_okq (⟨"LetterDesk$Tokens", "cutLetters", "(I)I"⟩, 11) := ⟨⟨by decide +kernel, by decide +kernel⟩, List.mem_of_getElem? (i := 277) (by decide +kernel), List.mem_of_getElem? (i := 420) (by decide +kernel), List.mem_of_getElem? (i := 421) (by decide +kernel)⟩
theorem lw_p5 : lw_okq (⟨"LetterDesk$Tokens", "kindOfWord", "(J)I"⟩, 11) := ⟨⟨by decide +kernel, by decide +kernel⟩, List.mem_of_getElem? (i := 277) (by decide +kernel), List.mem_of_getElem? (i := 424) (by decide +kernel), List.mem_of_getElem? (i := 425) (by decide +kernel)⟩
theorem lw_p6 : lw_okq (⟨"LetterDesk$Tokens", "keep", "(IIJ)V"⟩, 11) := ⟨⟨by decide +kernel, by decide +kernel⟩, List.mem_of_getElem? (i := 277) (by decide +kernel), List.mem_of_getElem? (i := 428) (by decide +kernel), List.mem_of_getElem? (i := 429) (by decide +kernel)⟩
theorem lw_p7 : lw_okq (⟨"LetterDesk$Tokens", "cutDigits", "(I)I"⟩, 11) := ⟨⟨by decide +kernel, by decide +kernel⟩, List.mem_of_getElem? (i := 277) (by decide +kernel), List.mem_of_getElem? (i := 435) (by decide +kernel), List.mem_of_getElem? (i := 436) (by decide +kernel)⟩
theorem lw_p8 : lw_okq (⟨"LetterDesk$Reader", "findToldNames", "()V"⟩, 9) := ⟨⟨by decide +kernel, by decide +kernel⟩, List.mem_of_getElem? (i := 271) (by decide +kernel), List.mem_of_getElem? (i := 503) (by decide +kernel), List.mem_of_getElem? (i := 504) (by decide +kernel)⟩
theorem lw_p9 : lw_okq (⟨"LetterDesk$Reader", "readFact", "()V"⟩, 9) := ⟨⟨by decide +kernel, by decide +kernel⟩, List.mem_of_getElem? (i := 271) (by decide +kernel), List.mem_of_getElem? (i := 511) (by decide +kernel), List.mem_of_getElem? (i := 512) (by decide +kernel)⟩
theorem lw_p10 : lw_okq (⟨"LetterDesk$Reader", "fail", "(I)V"⟩, 9) := ⟨⟨by decide +kernel, by decide +kernel⟩, List.mem_of_getElem? (i := 271) (by decide +kernel), List.mem_of_getElem? (i := 515) (by decide +kernel), List.mem_of_getElem? (i := 516) (by decide +kernel)⟩
theorem lw_p11 : lw_okq (⟨"java/lang/Throwable", "fillInStackTrace", "(I)Ljava/lang/Throwable;"⟩, 6) := ⟨⟨by decide +kernel, by decide +kernel⟩, List.mem_of_getElem? (i := 555) (by decide +kernel), List.mem_of_getElem? (i := 553) (by decide +kernel), List.mem_of_getElem? (i := 554) (by decide +kernel)⟩
theorem lw_p12 : lw_okq (⟨"LetterDesk$Reader", "require", "(I)V"⟩, 9) := ⟨⟨by decide +kernel, by decide +kernel⟩, List.mem_of_getElem? (i := 271) (by decide +kernel), List.mem_of_getElem? (i := 585) (by decide +kernel), List.mem_of_getElem? (i := 586) (by decide +kernel)⟩
theorem lw_p13 : lw_okq (⟨"LetterDesk$Reader", "requireNumber", "(I)I"⟩, 9) := ⟨⟨by decide +kernel, by decide +kernel⟩, List.mem_of_getElem? (i := 271) (by decide +kernel), List.mem_of_getElem? (i := 593) (by decide +kernel), List.mem_of_getElem? (i := 594) (by decide +kernel)⟩
theorem lw_p14 : lw_okq (⟨"LetterDesk$Reader", "pass", "(I)V"⟩, 9) := ⟨⟨by decide +kernel, by decide +kernel⟩, List.mem_of_getElem? (i := 271) (by decide +kernel), List.mem_of_getElem? (i := 598) (by decide +kernel), List.mem_of_getElem? (i := 599) (by decide +kernel)⟩
theorem lw_p15 : lw_okq (⟨"LetterDesk$Reader", "readClause", "()V"⟩, 9) := ⟨⟨by decide +kernel, by decide +kernel⟩, List.mem_of_getElem? (i := 271) (by decide +kernel), List.mem_of_getElem? (i := 611) (by decide +kernel), List.mem_of_getElem? (i := 612) (by decide +kernel)⟩
def lw_privs_1 : List (MethodName × Nat) := [(⟨"LetterDesk", "feedBytes", "(J)V"⟩, 10), (⟨"LetterDesk", "latestStart", "()I"⟩, 10), (⟨"LetterDesk", "editionAt", "(I)LLetterDesk$Edition;"⟩, 10), (⟨"LetterDesk$Tokens", "packReserved", "()V"⟩, 11), (⟨"LetterDesk$Tokens", "cutLetters", "(I)I"⟩, 11), (⟨"LetterDesk$Tokens", "kindOfWord", "(J)I"⟩, 11), (⟨"LetterDesk$Tokens", "keep", "(IIJ)V"⟩, 11), (⟨"LetterDesk$Tokens", "cutDigits", "(I)I"⟩, 11), (⟨"LetterDesk$Reader", "findToldNames", "()V"⟩, 9), (⟨"LetterDesk$Reader", "readFact", "()V"⟩, 9), (⟨"LetterDesk$Reader", "fail", "(I)V"⟩, 9), (⟨"java/lang/Throwable", "fillInStackTrace", "(I)Ljava/lang/Throwable;"⟩, 6), (⟨"LetterDesk$Reader", "require", "(I)V"⟩, 9), (⟨"LetterDesk$Reader", "requireNumber", "(I)I"⟩, 9), (⟨"LetterDesk$Reader", "pass", "(I)V"⟩, 9), (⟨"LetterDesk$Reader", "readClause", "()V"⟩, 9)]
theorem lw_r1 : ∀ q ∈ lw_privs_1, lw_okq q := List.forall_mem_cons.mpr ⟨lw_p0, List.forall_mem_cons.mpr ⟨lw_p1, List.forall_mem_cons.mpr ⟨lw_p2, List.forall_mem_cons.mpr ⟨lw_p3, List.forall_mem_cons.mpr ⟨lw_p4, List.forall_mem_cons.mpr ⟨lw_p5, List.forall_mem_cons.mpr ⟨lw_p6, List.forall_mem_cons.mpr ⟨lw_p7, List.forall_mem_cons.mpr ⟨lw_p8, List.forall_mem_cons.mpr ⟨lw_p9, List.forall_mem_cons.mpr ⟨lw_p10, List.forall_mem_cons.mpr ⟨lw_p11, List.forall_mem_cons.mpr ⟨lw_p12, List.forall_mem_cons.mpr ⟨lw_p13, List.forall_mem_cons.mpr ⟨lw_p14, List.forall_mem_cons.mpr ⟨lw_p15, fun _ h => absurd h List.not_mem_nil⟩⟩⟩⟩⟩⟩⟩⟩⟩⟩⟩⟩⟩⟩⟩⟩
theorem lw_p16 : lw_okq (⟨"LetterDesk$Reader", "readFormula", "()LLetterDesk$Formula;"⟩, 9) := ⟨⟨by decide +kernel, by decide +kernel⟩, List.mem_of_getElem? (i := 271) (by decide +kernel), List.mem_of_getElem? (i := 621) (by decide +kernel), List.mem_of_getElem? (i := 622) (by decide +kernel)⟩
theorem lw_p17 : lw_okq (⟨"LetterDesk$Reader", "openLevel", "(I)V"⟩, 9) := ⟨⟨by decide +kernel, by decide +kernel⟩, List.mem_of_getElem? (i := 271) (by decide +kernel), List.mem_of_getElem? (i := 625) (by decide +kernel), List.mem_of_getElem? (i := 626) (by decide +kernel)⟩
theorem lw_p18 : lw_okq (⟨"LetterDesk$Reader", "readOpenings", "(I)I"⟩, 9) := ⟨⟨by decide +kernel, by decide +kernel⟩, List.mem_of_getElem? (i := 271) (by decide +kernel), List.mem_of_getElem? (i := 629) (by decide +kernel), List.mem_of_getElem? (i := 630) (by decide +kernel)⟩
theorem lw_p19 : lw_okq (⟨"LetterDesk$Reader", "readValue", "(I)V"⟩, 9) := ⟨⟨by decide +kernel, by decide +kernel⟩, List.mem_of_getElem? (i := 271) (by decide +kernel), List.mem_of_getElem? (i := 633) (by decide +kernel), List.mem_of_getElem? (i := 634) (by decide +kernel)⟩
theorem lw_p20 : lw_okq (⟨"LetterDesk$Reader", "addOperation", "(I)V"⟩, 9) := ⟨⟨by decide +kernel, by decide +kernel⟩, List.mem_of_getElem? (i := 271) (by decide +kernel), List.mem_of_getElem? (i := 637) (by decide +kernel), List.mem_of_getElem? (i := 638) (by decide +kernel)⟩
theorem lw_p21 : lw_okq (⟨"LetterDesk$Reader", "readClosings", "(I)I"⟩, 9) := ⟨⟨by decide +kernel, by decide +kernel⟩, List.mem_of_getElem? (i := 271) (by decide +kernel), List.mem_of_getElem? (i := 641) (by decide +kernel), List.mem_of_getElem? (i := 642) (by decide +kernel)⟩
theorem lw_p22 : lw_okq (⟨"LetterDesk$Reader", "readOperator", "(I)Z"⟩, 9) := ⟨⟨by decide +kernel, by decide +kernel⟩, List.mem_of_getElem? (i := 271) (by decide +kernel), List.mem_of_getElem? (i := 645) (by decide +kernel), List.mem_of_getElem? (i := 646) (by decide +kernel)⟩
theorem lw_p23 : lw_okq (⟨"LetterDesk$Reader", "readLinks", "(LLetterDesk$Clause;)V"⟩, 9) := ⟨⟨by decide +kernel, by decide +kernel⟩, List.mem_of_getElem? (i := 271) (by decide +kernel), List.mem_of_getElem? (i := 720) (by decide +kernel), List.mem_of_getElem? (i := 721) (by decide +kernel)⟩
theorem lw_p24 : lw_okq (⟨"LetterDesk$Reader", "readLink", "(LLetterDesk$Clause;)I"⟩, 9) := ⟨⟨by decide +kernel, by decide +kernel⟩, List.mem_of_getElem? (i := 271) (by decide +kernel), List.mem_of_getElem? (i := 724) (by decide +kernel), List.mem_of_getElem? (i := 725) (by decide +kernel)⟩
theorem lw_p25 : lw_okq (⟨"LetterDesk$Reader", "readTarget", "()I"⟩, 9) := ⟨⟨by decide +kernel, by decide +kernel⟩, List.mem_of_getElem? (i := 271) (by decide +kernel), List.mem_of_getElem? (i := 732) (by decide +kernel), List.mem_of_getElem? (i := 733) (by decide +kernel)⟩
theorem lw_p26 : lw_okq (⟨"LetterDesk$Reader", "readItems", "(LLetterDesk$Clause;)V"⟩, 9) := ⟨⟨by decide +kernel, by decide +kernel⟩, List.mem_of_getElem? (i := 271) (by decide +kernel), List.mem_of_getElem? (i := 744) (by decide +kernel), List.mem_of_getElem? (i := 745) (by decide +kernel)⟩
theorem lw_p27 : lw_okq (⟨"LetterDesk$Reader", "startsItem", "()Z"⟩, 9) := ⟨⟨by decide +kernel, by decide +kernel⟩, List.mem_of_getElem? (i := 271) (by decide +kernel), List.mem_of_getElem? (i := 748) (by decide +kernel), List.mem_of_getElem? (i := 749) (by decide +kernel)⟩
theorem lw_p28 : lw_okq (⟨"LetterDesk$Reader", "readItem", "()LLetterDesk$Item;"⟩, 9) := ⟨⟨by decide +kernel, by decide +kernel⟩, List.mem_of_getElem? (i := 271) (by decide +kernel), List.mem_of_getElem? (i := 756) (by decide +kernel), List.mem_of_getElem? (i := 757) (by decide +kernel)⟩
theorem lw_p29 : lw_okq (⟨"LetterDesk", "takeInHand", "(LLetterDesk$Edition;)V"⟩, 10) := ⟨⟨by decide +kernel, by decide +kernel⟩, List.mem_of_getElem? (i := 27) (by decide +kernel), List.mem_of_getElem? (i := 791) (by decide +kernel), List.mem_of_getElem? (i := 792) (by decide +kernel)⟩
theorem lw_p30 : lw_okq (⟨"LetterDesk$Calendar", "firstNotBelow", "(I)I"⟩, 2) := ⟨⟨by decide +kernel, by decide +kernel⟩, List.mem_of_getElem? (i := 55) (by decide +kernel), List.mem_of_getElem? (i := 828) (by decide +kernel), List.mem_of_getElem? (i := 829) (by decide +kernel)⟩
theorem lw_p31 : lw_okq (⟨"LetterDesk$Letter", "addNeeded", "(LLetterDesk$Edition;)Z"⟩, 9) := ⟨⟨by decide +kernel, by decide +kernel⟩, List.mem_of_getElem? (i := 69) (by decide +kernel), List.mem_of_getElem? (i := 859) (by decide +kernel), List.mem_of_getElem? (i := 860) (by decide +kernel)⟩
def lw_privs_2 : List (MethodName × Nat) := [(⟨"LetterDesk$Reader", "readFormula", "()LLetterDesk$Formula;"⟩, 9), (⟨"LetterDesk$Reader", "openLevel", "(I)V"⟩, 9), (⟨"LetterDesk$Reader", "readOpenings", "(I)I"⟩, 9), (⟨"LetterDesk$Reader", "readValue", "(I)V"⟩, 9), (⟨"LetterDesk$Reader", "addOperation", "(I)V"⟩, 9), (⟨"LetterDesk$Reader", "readClosings", "(I)I"⟩, 9), (⟨"LetterDesk$Reader", "readOperator", "(I)Z"⟩, 9), (⟨"LetterDesk$Reader", "readLinks", "(LLetterDesk$Clause;)V"⟩, 9), (⟨"LetterDesk$Reader", "readLink", "(LLetterDesk$Clause;)I"⟩, 9), (⟨"LetterDesk$Reader", "readTarget", "()I"⟩, 9), (⟨"LetterDesk$Reader", "readItems", "(LLetterDesk$Clause;)V"⟩, 9), (⟨"LetterDesk$Reader", "startsItem", "()Z"⟩, 9), (⟨"LetterDesk$Reader", "readItem", "()LLetterDesk$Item;"⟩, 9), (⟨"LetterDesk", "takeInHand", "(LLetterDesk$Edition;)V"⟩, 10), (⟨"LetterDesk$Calendar", "firstNotBelow", "(I)I"⟩, 2), (⟨"LetterDesk$Letter", "addNeeded", "(LLetterDesk$Edition;)Z"⟩, 9)]
theorem lw_r2 : ∀ q ∈ lw_privs_2, lw_okq q := List.forall_mem_cons.mpr ⟨lw_p16, List.forall_mem_cons.mpr ⟨lw_p17, List.forall_mem_cons.mpr ⟨lw_p18, List.forall_mem_cons.mpr ⟨lw_p19, List.forall_mem_cons.mpr ⟨lw_p20, List.forall_mem_cons.mpr ⟨lw_p21, List.forall_mem_cons.mpr ⟨lw_p22, List.forall_mem_cons.mpr ⟨lw_p23, List.forall_mem_cons.mpr ⟨lw_p24, List.forall_mem_cons.mpr ⟨lw_p25, List.forall_mem_cons.mpr ⟨lw_p26, List.forall_mem_cons.mpr ⟨lw_p27, List.forall_mem_cons.mpr ⟨lw_p28, List.forall_mem_cons.mpr ⟨lw_p29, List.forall_mem_cons.mpr ⟨lw_p30, List.forall_mem_cons.mpr ⟨lw_p31, fun _ h => absurd h List.not_mem_nil⟩⟩⟩⟩⟩⟩⟩⟩⟩⟩⟩⟩⟩⟩⟩⟩
theorem lw_p32 : lw_okq (⟨"LetterDesk$Letter", "findQuarrel", "(LLetterDesk$Edition;)V"⟩, 9) := ⟨⟨by decide +kernel, by decide +kernel⟩, List.mem_of_getElem? (i := 69) (by decide +kernel), List.mem_of_getElem? (i := 863) (by decide +kernel), List.mem_of_getElem? (i := 864) (by decide +kernel)⟩
theorem lw_p33 : lw_okq (⟨"LetterDesk$Letter", "findMissing", "(LLetterDesk$Edition;)Z"⟩, 9) := ⟨⟨by decide +kernel, by decide +kernel⟩, List.mem_of_getElem? (i := 69) (by decide +kernel), List.mem_of_getElem? (i := 867) (by decide +kernel), List.mem_of_getElem? (i := 868) (by decide +kernel)⟩
theorem lw_p34 : lw_okq (⟨"LetterDesk$Letter", "findBarred", "(LLetterDesk$Edition;)Z"⟩, 9) := ⟨⟨by decide +kernel, by decide +kernel⟩, List.mem_of_getElem? (i := 69) (by decide +kernel), List.mem_of_getElem? (i := 871) (by decide +kernel), List.mem_of_getElem? (i := 872) (by decide +kernel)⟩
theorem lw_p35 : lw_okq (⟨"LetterDesk$Letter", "findBadReference", "(LLetterDesk$Edition;)Z"⟩, 9) := ⟨⟨by decide +kernel, by decide +kernel⟩, List.mem_of_getElem? (i := 69) (by decide +kernel), List.mem_of_getElem? (i := 875) (by decide +kernel), List.mem_of_getElem? (i := 876) (by decide +kernel)⟩
theorem lw_p36 : lw_okq (⟨"LetterDesk$Letter", "isEmpty", "(LLetterDesk$Edition;)Z"⟩, 9) := ⟨⟨by decide +kernel, by decide +kernel⟩, List.mem_of_getElem? (i := 69) (by decide +kernel), List.mem_of_getElem? (i := 879) (by decide +kernel), List.mem_of_getElem? (i := 880) (by decide +kernel)⟩
theorem lw_p37 : lw_okq (⟨"LetterDesk$Letter", "numberParts", "(LLetterDesk$Edition;)V"⟩, 9) := ⟨⟨by decide +kernel, by decide +kernel⟩, List.mem_of_getElem? (i := 69) (by decide +kernel), List.mem_of_getElem? (i := 883) (by decide +kernel), List.mem_of_getElem? (i := 884) (by decide +kernel)⟩
theorem lw_p38 : lw_okq (⟨"LetterDesk$Letter", "printParts", "(LLetterDesk$Edition;LLetterDesk$Case;ILLetterDesk$Calendar;)V"⟩, 9) := ⟨⟨by decide +kernel, by decide +kernel⟩, List.mem_of_getElem? (i := 69) (by decide +kernel), List.mem_of_getElem? (i := 887) (by decide +kernel), List.mem_of_getElem? (i := 888) (by decide +kernel)⟩
theorem lw_p39 : lw_okq (⟨"LetterDesk$Letter", "printNumber", "(I)V"⟩, 9) := ⟨⟨by decide +kernel, by decide +kernel⟩, List.mem_of_getElem? (i := 69) (by decide +kernel), List.mem_of_getElem? (i := 891) (by decide +kernel), List.mem_of_getElem? (i := 892) (by decide +kernel)⟩
theorem lw_p40 : lw_okq (⟨"LetterDesk$Letter", "printBlankBetween", "()V"⟩, 9) := ⟨⟨by decide +kernel, by decide +kernel⟩, List.mem_of_getElem? (i := 69) (by decide +kernel), List.mem_of_getElem? (i := 895) (by decide +kernel), List.mem_of_getElem? (i := 896) (by decide +kernel)⟩
theorem lw_p41 : lw_okq (⟨"LetterDesk$Letter", "printSign", "(I)V"⟩, 9) := ⟨⟨by decide +kernel, by decide +kernel⟩, List.mem_of_getElem? (i := 69) (by decide +kernel), List.mem_of_getElem? (i := 899) (by decide +kernel), List.mem_of_getElem? (i := 900) (by decide +kernel)⟩
theorem lw_p42 : lw_okq (⟨"LetterDesk$Letter", "printWord", "(J)V"⟩, 9) := ⟨⟨by decide +kernel, by decide +kernel⟩, List.mem_of_getElem? (i := 69) (by decide +kernel), List.mem_of_getElem? (i := 906) (by decide +kernel), List.mem_of_getElem? (i := 907) (by decide +kernel)⟩
theorem lw_p43 : lw_okq (⟨"LetterDeskModel", "lay", "(J)V"⟩, 58) := ⟨⟨by decide +kernel, by decide +kernel⟩, List.mem_of_getElem? (i := 1017) (by decide +kernel), List.mem_of_getElem? (i := 1015) (by decide +kernel), List.mem_of_getElem? (i := 1016) (by decide +kernel)⟩
theorem lw_p44 : lw_okq (⟨"LetterDeskModel", "cutAll", "()V"⟩, 58) := ⟨⟨by decide +kernel, by decide +kernel⟩, List.mem_of_getElem? (i := 1017) (by decide +kernel), List.mem_of_getElem? (i := 1215) (by decide +kernel), List.mem_of_getElem? (i := 1216) (by decide +kernel)⟩
theorem lw_p45 : lw_okq (⟨"LetterDeskModel", "isWord", "(I)Z"⟩, 58) := ⟨⟨by decide +kernel, by decide +kernel⟩, List.mem_of_getElem? (i := 1017) (by decide +kernel), List.mem_of_getElem? (i := 1234) (by decide +kernel), List.mem_of_getElem? (i := 1235) (by decide +kernel)⟩
theorem lw_p46 : lw_okq (⟨"LetterDeskModel", "factIs", "()V"⟩, 58) := ⟨⟨by decide +kernel, by decide +kernel⟩, List.mem_of_getElem? (i := 1017) (by decide +kernel), List.mem_of_getElem? (i := 1238) (by decide +kernel), List.mem_of_getElem? (i := 1239) (by decide +kernel)⟩
theorem lw_p47 : lw_okq (⟨"LetterDeskModel", "wrong", "(I)V"⟩, 58) := ⟨⟨by decide +kernel, by decide +kernel⟩, List.mem_of_getElem? (i := 1017) (by decide +kernel), List.mem_of_getElem? (i := 1242) (by decide +kernel), List.mem_of_getElem? (i := 1243) (by decide +kernel)⟩
def lw_privs_3 : List (MethodName × Nat) := [(⟨"LetterDesk$Letter", "findQuarrel", "(LLetterDesk$Edition;)V"⟩, 9), (⟨"LetterDesk$Letter", "findMissing", "(LLetterDesk$Edition;)Z"⟩, 9), (⟨"LetterDesk$Letter", "findBarred", "(LLetterDesk$Edition;)Z"⟩, 9), (⟨"LetterDesk$Letter", "findBadReference", "(LLetterDesk$Edition;)Z"⟩, 9), (⟨"LetterDesk$Letter", "isEmpty", "(LLetterDesk$Edition;)Z"⟩, 9), (⟨"LetterDesk$Letter", "numberParts", "(LLetterDesk$Edition;)V"⟩, 9), (⟨"LetterDesk$Letter", "printParts", "(LLetterDesk$Edition;LLetterDesk$Case;ILLetterDesk$Calendar;)V"⟩, 9), (⟨"LetterDesk$Letter", "printNumber", "(I)V"⟩, 9), (⟨"LetterDesk$Letter", "printBlankBetween", "()V"⟩, 9), (⟨"LetterDesk$Letter", "printSign", "(I)V"⟩, 9), (⟨"LetterDesk$Letter", "printWord", "(J)V"⟩, 9), (⟨"LetterDeskModel", "lay", "(J)V"⟩, 58), (⟨"LetterDeskModel", "cutAll", "()V"⟩, 58), (⟨"LetterDeskModel", "isWord", "(I)Z"⟩, 58), (⟨"LetterDeskModel", "factIs", "()V"⟩, 58), (⟨"LetterDeskModel", "wrong", "(I)V"⟩, 58)]
theorem lw_r3 : ∀ q ∈ lw_privs_3, lw_okq q := List.forall_mem_cons.mpr ⟨lw_p32, List.forall_mem_cons.mpr ⟨lw_p33, List.forall_mem_cons.mpr ⟨lw_p34, List.forall_mem_cons.mpr ⟨lw_p35, List.forall_mem_cons.mpr ⟨lw_p36, List.forall_mem_cons.mpr ⟨lw_p37, List.forall_mem_cons.mpr ⟨lw_p38, List.forall_mem_cons.mpr ⟨lw_p39, List.forall_mem_cons.mpr ⟨lw_p40, List.forall_mem_cons.mpr ⟨lw_p41, List.forall_mem_cons.mpr ⟨lw_p42, List.forall_mem_cons.mpr ⟨lw_p43, List.forall_mem_cons.mpr ⟨lw_p44, List.forall_mem_cons.mpr ⟨lw_p45, List.forall_mem_cons.mpr ⟨lw_p46, List.forall_mem_cons.mpr ⟨lw_p47, fun _ h => absurd h List.not_mem_nil⟩⟩⟩⟩⟩⟩⟩⟩⟩⟩⟩⟩⟩⟩⟩⟩
theorem lw_p48 : lw_okq (⟨"LetterDeskModel", "isName", "()Z"⟩, 58) := ⟨⟨by decide +kernel, by decide +kernel⟩, List.mem_of_getElem? (i := 1017) (by decide +kernel), List.mem_of_getElem? (i := 1246) (by decide +kernel), List.mem_of_getElem? (i := 1247) (by decide +kernel)⟩
theorem lw_p49 : lw_okq (⟨"LetterDeskModel", "findFact", "(J)I"⟩, 58) := ⟨⟨by decide +kernel, by decide +kernel⟩, List.mem_of_getElem? (i := 1017) (by decide +kernel), List.mem_of_getElem? (i := 1250) (by decide +kernel), List.mem_of_getElem? (i := 1251) (by decide +kernel)⟩
theorem lw_p50 : lw_okq (⟨"LetterDeskModel", "takeNumber", "(II)I"⟩, 58) := ⟨⟨by decide +kernel, by decide +kernel⟩, List.mem_of_getElem? (i := 1017) (by decide +kernel), List.mem_of_getElem? (i := 1254) (by decide +kernel), List.mem_of_getElem? (i := 1255) (by decide +kernel)⟩
theorem lw_p51 : lw_okq (⟨"LetterDeskModel", "takeWord", "(I)V"⟩, 58) := ⟨⟨by decide +kernel, by decide +kernel⟩, List.mem_of_getElem? (i := 1017) (by decide +kernel), List.mem_of_getElem? (i := 1258) (by decide +kernel), List.mem_of_getElem? (i := 1259) (by decide +kernel)⟩
theorem lw_p52 : lw_okq (⟨"LetterDeskModel", "hasWord", "(I)Z"⟩, 58) := ⟨⟨by decide +kernel, by decide +kernel⟩, List.mem_of_getElem? (i := 1017) (by decide +kernel), List.mem_of_getElem? (i := 1262) (by decide +kernel), List.mem_of_getElem? (i := 1263) (by decide +kernel)⟩
theorem lw_p53 : lw_okq (⟨"LetterDeskModel", "worlds", "(I)J"⟩, 58) := ⟨⟨by decide +kernel, by decide +kernel⟩, List.mem_of_getElem? (i := 1017) (by decide +kernel), List.mem_of_getElem? (i := 1267) (by decide +kernel), List.mem_of_getElem? (i := 1268) (by decide +kernel)⟩
theorem lw_p54 : lw_okq (⟨"LetterDeskModel", "takeSign", "(I)V"⟩, 58) := ⟨⟨by decide +kernel, by decide +kernel⟩, List.mem_of_getElem? (i := 1017) (by decide +kernel), List.mem_of_getElem? (i := 1272) (by decide +kernel), List.mem_of_getElem? (i := 1273) (by decide +kernel)⟩
theorem lw_p55 : lw_okq (⟨"LetterDeskModel", "isSign", "(I)Z"⟩, 58) := ⟨⟨by decide +kernel, by decide +kernel⟩, List.mem_of_getElem? (i := 1017) (by decide +kernel), List.mem_of_getElem? (i := 1276) (by decide +kernel), List.mem_of_getElem? (i := 1277) (by decide +kernel)⟩
theorem lw_p56 : lw_okq (⟨"LetterDeskModel", "clauseIs", "()V"⟩, 58) := ⟨⟨by decide +kernel, by decide +kernel⟩, List.mem_of_getElem? (i := 1017) (by decide +kernel), List.mem_of_getElem? (i := 1280) (by decide +kernel), List.mem_of_getElem? (i := 1281) (by decide +kernel)⟩
theorem lw_p57 : lw_okq (⟨"LetterDeskModel", "findClause", "(J)I"⟩, 58) := ⟨⟨by decide +kernel, by decide +kernel⟩, List.mem_of_getElem? (i := 1017) (by decide +kernel), List.mem_of_getElem? (i := 1284) (by decide +kernel), List.mem_of_getElem? (i := 1285) (by decide +kernel)⟩
theorem lw_p58 : lw_okq (⟨"LetterDeskModel", "expression", "()V"⟩, 58) := ⟨⟨by decide +kernel, by decide +kernel⟩, List.mem_of_getElem? (i := 1017) (by decide +kernel), List.mem_of_getElem? (i := 1288) (by decide +kernel), List.mem_of_getElem? (i := 1289) (by decide +kernel)⟩
theorem lw_p59 : lw_okq (⟨"LetterDeskModel", "opens", "()V"⟩, 58) := ⟨⟨by decide +kernel, by decide +kernel⟩, List.mem_of_getElem? (i := 1017) (by decide +kernel), List.mem_of_getElem? (i := 1292) (by decide +kernel), List.mem_of_getElem? (i := 1293) (by decide +kernel)⟩
theorem lw_p60 : lw_okq (⟨"LetterDeskModel", "part", "()Z"⟩, 58) := ⟨⟨by decide +kernel, by decide +kernel⟩, List.mem_of_getElem? (i := 1017) (by decide +kernel), List.mem_of_getElem? (i := 1296) (by decide +kernel), List.mem_of_getElem? (i := 1297) (by decide +kernel)⟩
theorem lw_p61 : lw_okq (⟨"LetterDeskModel", "hasSign", "(I)Z"⟩, 58) := ⟨⟨by decide +kernel, by decide +kernel⟩, List.mem_of_getElem? (i := 1017) (by decide +kernel), List.mem_of_getElem? (i := 1300) (by decide +kernel), List.mem_of_getElem? (i := 1301) (by decide +kernel)⟩
theorem lw_p62 : lw_okq (⟨"LetterDeskModel", "emit", "(II)V"⟩, 58) := ⟨⟨by decide +kernel, by decide +kernel⟩, List.mem_of_getElem? (i := 1017) (by decide +kernel), List.mem_of_getElem? (i := 1304) (by decide +kernel), List.mem_of_getElem? (i := 1305) (by decide +kernel)⟩
theorem lw_p63 : lw_okq (⟨"LetterDeskModel", "goesOnBehind", "()Z"⟩, 58) := ⟨⟨by decide +kernel, by decide +kernel⟩, List.mem_of_getElem? (i := 1017) (by decide +kernel), List.mem_of_getElem? (i := 1308) (by decide +kernel), List.mem_of_getElem? (i := 1309) (by decide +kernel)⟩
def lw_privs_4 : List (MethodName × Nat) := [(⟨"LetterDeskModel", "isName", "()Z"⟩, 58), (⟨"LetterDeskModel", "findFact", "(J)I"⟩, 58), (⟨"LetterDeskModel", "takeNumber", "(II)I"⟩, 58), (⟨"LetterDeskModel", "takeWord", "(I)V"⟩, 58), (⟨"LetterDeskModel", "hasWord", "(I)Z"⟩, 58), (⟨"LetterDeskModel", "worlds", "(I)J"⟩, 58), (⟨"LetterDeskModel", "takeSign", "(I)V"⟩, 58), (⟨"LetterDeskModel", "isSign", "(I)Z"⟩, 58), (⟨"LetterDeskModel", "clauseIs", "()V"⟩, 58), (⟨"LetterDeskModel", "findClause", "(J)I"⟩, 58), (⟨"LetterDeskModel", "expression", "()V"⟩, 58), (⟨"LetterDeskModel", "opens", "()V"⟩, 58), (⟨"LetterDeskModel", "part", "()Z"⟩, 58), (⟨"LetterDeskModel", "hasSign", "(I)Z"⟩, 58), (⟨"LetterDeskModel", "emit", "(II)V"⟩, 58), (⟨"LetterDeskModel", "goesOnBehind", "()Z"⟩, 58)]
theorem lw_r4 : ∀ q ∈ lw_privs_4, lw_okq q := List.forall_mem_cons.mpr ⟨lw_p48, List.forall_mem_cons.mpr ⟨lw_p49, List.forall_mem_cons.mpr ⟨lw_p50, List.forall_mem_cons.mpr ⟨lw_p51, List.forall_mem_cons.mpr ⟨lw_p52, List.forall_mem_cons.mpr ⟨lw_p53, List.forall_mem_cons.mpr ⟨lw_p54, List.forall_mem_cons.mpr ⟨lw_p55, List.forall_mem_cons.mpr ⟨lw_p56, List.forall_mem_cons.mpr ⟨lw_p57, List.forall_mem_cons.mpr ⟨lw_p58, List.forall_mem_cons.mpr ⟨lw_p59, List.forall_mem_cons.mpr ⟨lw_p60, List.forall_mem_cons.mpr ⟨lw_p61, List.forall_mem_cons.mpr ⟨lw_p62, List.forall_mem_cons.mpr ⟨lw_p63, fun _ h => absurd h List.not_mem_nil⟩⟩⟩⟩⟩⟩⟩⟩⟩⟩⟩⟩⟩⟩⟩⟩
theorem lw_p64 : lw_okq (⟨"LetterDeskModel", "link", "(IZ)V"⟩, 58) := ⟨⟨by decide +kernel, by decide +kernel⟩, List.mem_of_getElem? (i := 1017) (by decide +kernel), List.mem_of_getElem? (i := 1312) (by decide +kernel), List.mem_of_getElem? (i := 1313) (by decide +kernel)⟩
theorem lw_p65 : lw_okq (⟨"LetterDeskModel", "takeClause", "()I"⟩, 58) := ⟨⟨by decide +kernel, by decide +kernel⟩, List.mem_of_getElem? (i := 1017) (by decide +kernel), List.mem_of_getElem? (i := 1316) (by decide +kernel), List.mem_of_getElem? (i := 1317) (by decide +kernel)⟩
theorem lw_p66 : lw_okq (⟨"LetterDeskModel", "isItem", "()Z"⟩, 58) := ⟨⟨by decide +kernel, by decide +kernel⟩, List.mem_of_getElem? (i := 1017) (by decide +kernel), List.mem_of_getElem? (i := 1320) (by decide +kernel), List.mem_of_getElem? (i := 1321) (by decide +kernel)⟩
theorem lw_p67 : lw_okq (⟨"LetterDeskModel", "item", "(I)V"⟩, 58) := ⟨⟨by decide +kernel, by decide +kernel⟩, List.mem_of_getElem? (i := 1017) (by decide +kernel), List.mem_of_getElem? (i := 1324) (by decide +kernel), List.mem_of_getElem? (i := 1325) (by decide +kernel)⟩
theorem lw_p68 : lw_okq (⟨"LetterDeskModel", "keeps", "(I)V"⟩, 58) := ⟨⟨by decide +kernel, by decide +kernel⟩, List.mem_of_getElem? (i := 1017) (by decide +kernel), List.mem_of_getElem? (i := 1328) (by decide +kernel), List.mem_of_getElem? (i := 1329) (by decide +kernel)⟩
theorem lw_p69 : lw_okq (⟨"LetterDeskModel", "takes", "(I)V"⟩, 58) := ⟨⟨by decide +kernel, by decide +kernel⟩, List.mem_of_getElem? (i := 1017) (by decide +kernel), List.mem_of_getElem? (i := 1332) (by decide +kernel), List.mem_of_getElem? (i := 1333) (by decide +kernel)⟩
theorem lw_p70 : lw_okq (⟨"LetterDeskModel", "comes", "(II)V"⟩, 58) := ⟨⟨by decide +kernel, by decide +kernel⟩, List.mem_of_getElem? (i := 1017) (by decide +kernel), List.mem_of_getElem? (i := 1352) (by decide +kernel), List.mem_of_getElem? (i := 1353) (by decide +kernel)⟩
theorem lw_p71 : lw_okq (⟨"LetterDeskModel", "workingIn", "(II)I"⟩, 58) := ⟨⟨by decide +kernel, by decide +kernel⟩, List.mem_of_getElem? (i := 1017) (by decide +kernel), List.mem_of_getElem? (i := 1364) (by decide +kernel), List.mem_of_getElem? (i := 1365) (by decide +kernel)⟩
theorem lw_p72 : lw_okq (⟨"LetterDeskModel", "isWorking", "(I)Z"⟩, 58) := ⟨⟨by decide +kernel, by decide +kernel⟩, List.mem_of_getElem? (i := 1017) (by decide +kernel), List.mem_of_getElem? (i := 1368) (by decide +kernel), List.mem_of_getElem? (i := 1369) (by decide +kernel)⟩
theorem lw_p73 : lw_okq (⟨"LetterDeskModel", "findBehind", "(I)V"⟩, 58) := ⟨⟨by decide +kernel, by decide +kernel⟩, List.mem_of_getElem? (i := 1017) (by decide +kernel), List.mem_of_getElem? (i := 1376) (by decide +kernel), List.mem_of_getElem? (i := 1377) (by decide +kernel)⟩
theorem lw_p74 : lw_okq (⟨"LetterDeskModel", "makes", "(II)V"⟩, 58) := ⟨⟨by decide +kernel, by decide +kernel⟩, List.mem_of_getElem? (i := 1017) (by decide +kernel), List.mem_of_getElem? (i := 1380) (by decide +kernel), List.mem_of_getElem? (i := 1381) (by decide +kernel)⟩
theorem lw_p75 : lw_okq (⟨"LetterDeskModel", "gathers", "(I)V"⟩, 58) := ⟨⟨by decide +kernel, by decide +kernel⟩, List.mem_of_getElem? (i := 1017) (by decide +kernel), List.mem_of_getElem? (i := 1384) (by decide +kernel), List.mem_of_getElem? (i := 1385) (by decide +kernel)⟩
theorem lw_p76 : lw_okq (⟨"LetterDeskModel", "worth", "(II)I"⟩, 58) := ⟨⟨by decide +kernel, by decide +kernel⟩, List.mem_of_getElem? (i := 1017) (by decide +kernel), List.mem_of_getElem? (i := 1388) (by decide +kernel), List.mem_of_getElem? (i := 1389) (by decide +kernel)⟩
theorem lw_p77 : lw_okq (⟨"LetterDeskModel", "quarrels", "(I)V"⟩, 58) := ⟨⟨by decide +kernel, by decide +kernel⟩, List.mem_of_getElem? (i := 1017) (by decide +kernel), List.mem_of_getElem? (i := 1392) (by decide +kernel), List.mem_of_getElem? (i := 1393) (by decide +kernel)⟩
theorem lw_p78 : lw_okq (⟨"LetterDeskModel", "barsOf", "(II)V"⟩, 58) := ⟨⟨by decide +kernel, by decide +kernel⟩, List.mem_of_getElem? (i := 1017) (by decide +kernel), List.mem_of_getElem? (i := 1396) (by decide +kernel), List.mem_of_getElem? (i := 1397) (by decide +kernel)⟩
theorem lw_p79 : lw_okq (⟨"LetterDeskModel", "refsOf", "(II)V"⟩, 58) := ⟨⟨by decide +kernel, by decide +kernel⟩, List.mem_of_getElem? (i := 1017) (by decide +kernel), List.mem_of_getElem? (i := 1400) (by decide +kernel), List.mem_of_getElem? (i := 1401) (by decide +kernel)⟩
def lw_privs_5 : List (MethodName × Nat) := [(⟨"LetterDeskModel", "link", "(IZ)V"⟩, 58), (⟨"LetterDeskModel", "takeClause", "()I"⟩, 58), (⟨"LetterDeskModel", "isItem", "()Z"⟩, 58), (⟨"LetterDeskModel", "item", "(I)V"⟩, 58), (⟨"LetterDeskModel", "keeps", "(I)V"⟩, 58), (⟨"LetterDeskModel", "takes", "(I)V"⟩, 58), (⟨"LetterDeskModel", "comes", "(II)V"⟩, 58), (⟨"LetterDeskModel", "workingIn", "(II)I"⟩, 58), (⟨"LetterDeskModel", "isWorking", "(I)Z"⟩, 58), (⟨"LetterDeskModel", "findBehind", "(I)V"⟩, 58), (⟨"LetterDeskModel", "makes", "(II)V"⟩, 58), (⟨"LetterDeskModel", "gathers", "(I)V"⟩, 58), (⟨"LetterDeskModel", "worth", "(II)I"⟩, 58), (⟨"LetterDeskModel", "quarrels", "(I)V"⟩, 58), (⟨"LetterDeskModel", "barsOf", "(II)V"⟩, 58), (⟨"LetterDeskModel", "refsOf", "(II)V"⟩, 58)]
theorem lw_r5 : ∀ q ∈ lw_privs_5, lw_okq q := List.forall_mem_cons.mpr ⟨lw_p64, List.forall_mem_cons.mpr ⟨lw_p65, List.forall_mem_cons.mpr ⟨lw_p66, List.forall_mem_cons.mpr ⟨lw_p67, List.forall_mem_cons.mpr ⟨lw_p68, List.forall_mem_cons.mpr ⟨lw_p69, List.forall_mem_cons.mpr ⟨lw_p70, List.forall_mem_cons.mpr ⟨lw_p71, List.forall_mem_cons.mpr ⟨lw_p72, List.forall_mem_cons.mpr ⟨lw_p73, List.forall_mem_cons.mpr ⟨lw_p74, List.forall_mem_cons.mpr ⟨lw_p75, List.forall_mem_cons.mpr ⟨lw_p76, List.forall_mem_cons.mpr ⟨lw_p77, List.forall_mem_cons.mpr ⟨lw_p78, List.forall_mem_cons.mpr ⟨lw_p79, fun _ h => absurd h List.not_mem_nil⟩⟩⟩⟩⟩⟩⟩⟩⟩⟩⟩⟩⟩⟩⟩⟩
theorem lw_p80 : lw_okq (⟨"LetterDeskModel", "orders", "(I)V"⟩, 58) := ⟨⟨by decide +kernel, by decide +kernel⟩, List.mem_of_getElem? (i := 1017) (by decide +kernel), List.mem_of_getElem? (i := 1404) (by decide +kernel), List.mem_of_getElem? (i := 1405) (by decide +kernel)⟩
theorem lw_p81 : lw_okq (⟨"LetterDeskModel", "printsPart", "(III)V"⟩, 58) := ⟨⟨by decide +kernel, by decide +kernel⟩, List.mem_of_getElem? (i := 1017) (by decide +kernel), List.mem_of_getElem? (i := 1408) (by decide +kernel), List.mem_of_getElem? (i := 1409) (by decide +kernel)⟩
theorem lw_p82 : lw_okq (⟨"LetterDeskModel", "prints", "(I)V"⟩, 58) := ⟨⟨by decide +kernel, by decide +kernel⟩, List.mem_of_getElem? (i := 1017) (by decide +kernel), List.mem_of_getElem? (i := 1412) (by decide +kernel), List.mem_of_getElem? (i := 1413) (by decide +kernel)⟩
theorem lw_p83 : lw_okq (⟨"LetterDeskModel", "blank", "()V"⟩, 58) := ⟨⟨by decide +kernel, by decide +kernel⟩, List.mem_of_getElem? (i := 1017) (by decide +kernel), List.mem_of_getElem? (i := 1416) (by decide +kernel), List.mem_of_getElem? (i := 1417) (by decide +kernel)⟩
theorem lw_p84 : lw_okq (⟨"LetterDeskModel", "put", "(I)V"⟩, 58) := ⟨⟨by decide +kernel, by decide +kernel⟩, List.mem_of_getElem? (i := 1017) (by decide +kernel), List.mem_of_getElem? (i := 1420) (by decide +kernel), List.mem_of_getElem? (i := 1421) (by decide +kernel)⟩
theorem lw_p85 : lw_okq (⟨"LetterDeskModel", "printsWord", "(J)V"⟩, 58) := ⟨⟨by decide +kernel, by decide +kernel⟩, List.mem_of_getElem? (i := 1017) (by decide +kernel), List.mem_of_getElem? (i := 1425) (by decide +kernel), List.mem_of_getElem? (i := 1426) (by decide +kernel)⟩
theorem lw_p86 : lw_okq (⟨"LetterDeskModel", "partOf", "(I)I"⟩, 58) := ⟨⟨by decide +kernel, by decide +kernel⟩, List.mem_of_getElem? (i := 1017) (by decide +kernel), List.mem_of_getElem? (i := 1430) (by decide +kernel), List.mem_of_getElem? (i := 1431) (by decide +kernel)⟩
theorem lw_p87 : lw_okq (⟨"LetterDeskModel", "dayOf", "(II)I"⟩, 58) := ⟨⟨by decide +kernel, by decide +kernel⟩, List.mem_of_getElem? (i := 1017) (by decide +kernel), List.mem_of_getElem? (i := 1434) (by decide +kernel), List.mem_of_getElem? (i := 1435) (by decide +kernel)⟩
theorem lw_p88 : lw_okq (⟨"LetterDeskModel", "keepsFacts", "(Z)V"⟩, 58) := ⟨⟨by decide +kernel, by decide +kernel⟩, List.mem_of_getElem? (i := 1017) (by decide +kernel), List.mem_of_getElem? (i := 1454) (by decide +kernel), List.mem_of_getElem? (i := 1455) (by decide +kernel)⟩
theorem lw_p89 : lw_okq (⟨"LetterDeskModel", "haveSameFacts", "(II)Z"⟩, 58) := ⟨⟨by decide +kernel, by decide +kernel⟩, List.mem_of_getElem? (i := 1017) (by decide +kernel), List.mem_of_getElem? (i := 1462) (by decide +kernel), List.mem_of_getElem? (i := 1463) (by decide +kernel)⟩
theorem lw_p90 : lw_okq (⟨"LetterDeskModel", "areAlike", "(III)Z"⟩, 58) := ⟨⟨by decide +kernel, by decide +kernel⟩, List.mem_of_getElem? (i := 1017) (by decide +kernel), List.mem_of_getElem? (i := 1466) (by decide +kernel), List.mem_of_getElem? (i := 1467) (by decide +kernel)⟩
theorem lw_p91 : lw_okq (⟨"LetterDeskModel", "worldNow", "()I"⟩, 58) := ⟨⟨by decide +kernel, by decide +kernel⟩, List.mem_of_getElem? (i := 1017) (by decide +kernel), List.mem_of_getElem? (i := 1474) (by decide +kernel), List.mem_of_getElem? (i := 1475) (by decide +kernel)⟩
def lw_privs_6 : List (MethodName × Nat) := [(⟨"LetterDeskModel", "orders", "(I)V"⟩, 58), (⟨"LetterDeskModel", "printsPart", "(III)V"⟩, 58), (⟨"LetterDeskModel", "prints", "(I)V"⟩, 58), (⟨"LetterDeskModel", "blank", "()V"⟩, 58), (⟨"LetterDeskModel", "put", "(I)V"⟩, 58), (⟨"LetterDeskModel", "printsWord", "(J)V"⟩, 58), (⟨"LetterDeskModel", "partOf", "(I)I"⟩, 58), (⟨"LetterDeskModel", "dayOf", "(II)I"⟩, 58), (⟨"LetterDeskModel", "keepsFacts", "(Z)V"⟩, 58), (⟨"LetterDeskModel", "haveSameFacts", "(II)Z"⟩, 58), (⟨"LetterDeskModel", "areAlike", "(III)Z"⟩, 58), (⟨"LetterDeskModel", "worldNow", "()I"⟩, 58)]
theorem lw_r6 : ∀ q ∈ lw_privs_6, lw_okq q := List.forall_mem_cons.mpr ⟨lw_p80, List.forall_mem_cons.mpr ⟨lw_p81, List.forall_mem_cons.mpr ⟨lw_p82, List.forall_mem_cons.mpr ⟨lw_p83, List.forall_mem_cons.mpr ⟨lw_p84, List.forall_mem_cons.mpr ⟨lw_p85, List.forall_mem_cons.mpr ⟨lw_p86, List.forall_mem_cons.mpr ⟨lw_p87, List.forall_mem_cons.mpr ⟨lw_p88, List.forall_mem_cons.mpr ⟨lw_p89, List.forall_mem_cons.mpr ⟨lw_p90, List.forall_mem_cons.mpr ⟨lw_p91, fun _ h => absurd h List.not_mem_nil⟩⟩⟩⟩⟩⟩⟩⟩⟩⟩⟩⟩
def lw_privs : List (MethodName × Nat) := lw_privs_1 ++ (lw_privs_2 ++ (lw_privs_3 ++ (lw_privs_4 ++ (lw_privs_5 ++ (lw_privs_6)))))
def lw_tbl : List Cond := k2_sels lw_privs ++ tables_1
theorem lw_privs_ok : ∀ q ∈ lw_privs, lw_okq q := by
  show ∀ q ∈ lw_privs_1 ++ (lw_privs_2 ++ (lw_privs_3 ++ (lw_privs_4 ++ (lw_privs_5 ++ (lw_privs_6))))), lw_okq q
  exact List.forall_mem_append.mpr ⟨lw_r1, List.forall_mem_append.mpr ⟨lw_r2, List.forall_mem_append.mpr ⟨lw_r3, List.forall_mem_append.mpr ⟨lw_r4, List.forall_mem_append.mpr ⟨lw_r5, lw_r6⟩⟩⟩⟩⟩
end
section
/-! ===== BEGIN words of one list among another's, by their places ===== -/
theorem goodIn_r {big : List Cond} (ws : List Cond) (ps : List Nat) (hp : ws = ps.filterMap (fun i => big[i]?)) (h : ws.all goodWord = true) : GoodIn big ws := by
  intro w hw
  have h1 := List.all_eq_true.mp h w hw
  rw [hp] at hw
  obtain ⟨i, -, hi⟩ := List.mem_filterMap.mp hw
  have hm : w ∈ big := by first | exact List.mem_of_getElem? hi | exact List.getElem?_mem hi
  exact ⟨hm, good_of_word h1⟩
theorem goodIn_app {big a b : List Cond} (ha : GoodIn big a) (hb : GoodIn big b) : GoodIn big (a ++ b) := fun w h => (List.mem_append.mp h).elim (ha w) (hb w)
theorem goodIn_ca {big a b : List Cond} {c : Cond} (ha : GoodIn big (c :: a)) (hb : GoodIn big b) : GoodIn big (c :: (a ++ b)) := fun w h => (List.mem_cons.mp h).elim (fun e => ha w (List.mem_cons.mpr (Or.inl e))) (fun h => (List.mem_append.mp h).elim (fun h => ha w (List.mem_cons.mpr (Or.inr h))) (hb w))
theorem goodIn_sub {big ws : List Cond} (hm : ∀ w ∈ ws, w ∈ big) (h : ws.all goodWord = true) : GoodIn big ws := fun w hw => ⟨hm w hw, good_of_word (List.all_eq_true.mp h w hw)⟩
/-! ===== END ===== -/

/-! ===== BEGIN exceptions that leave a method, and their catching by the caller (launches without stack traces) ===== -/
section VXA
/-! The laws vx_back, vx_callV, vx_callS, vx_callSW, vx_throw0, vx_throwS follow proofs of the library, with one case more: JvmDerived/Free/Laws.lean (Back.of_free), Shelf42/LK1.lean (callV, callS), Shelf/KitTraced.lean (throwNew0V, throwNewS). -/
/-- where a method has thrown q: the class by its name, the cell, what was written, the world -/
def vx_T (XC : String → State → State → Prop) (st : State) (q : Addr) (t : State) (mc ms : Nat) (free : Addr → Prop) : Prop :=
  ∃ (E : String) (ce : Cell) (L : List Loc), XC E st t ∧ t.heap[q]? = some ce ∧ ce.vm = .none ∧ st.vm.findClass E = some ce.cls ∧ st.WarmedH t.vm ∧ st.sameButNew ({ t with vm := st.vm } : State) L mc ms ∧ ∀ z ∈ L, free z.base
def vx_Q (Qc : Array Value → State → Outcome → State → Prop) (XC : String → State → State → Prop) (mc ms : Nat) (free : Addr → Prop) : Array Value → State → Outcome → State → Prop := fun a st o t =>
  (Qc a st o t ∧ ∃ L, FrameEnd st o t L mc ms ∧ ∀ q ∈ L, free q.base) ∨ ∃ q, o = .threw q ∧ vx_T XC st q t mc ms free
/-- a callee that returns or throws -/
def vx_Met (l : Launch) (y : MethodName) (ws : List Cond) (rm : Room) (Pc : Array Value → State → Prop) (Qc : Array Value → State → Outcome → State → Prop) (XC : String → State → State → Prop) (mc ms : Nat) (free : Addr → Prop) : Prop :=
  MetFree l y (headSpec ws rm) Pc (fun _ _ _ _ _ => True) (vx_Q Qc XC mc ms free)
def vx_Post (XC : String → State → State → Prop) (mc ms : Nat) (free : Addr → Prop) : Pt → Array Value → Addr → Pt → Prop := fun A a q B =>
  ∃ (g : JFrame) (mk : MethodId) (t : State) (L : List Loc) (E : String) (ce : Cell), B.U.heap = t.heap ∧ B.U.vm = t.vm ∧ XC E (A.U.calling g mk a) t ∧ t.heap[q]? = some ce ∧ ce.vm = .none ∧ A.U.vm.findClass E = some ce.cls ∧ B.locs = A.locs ++ L ∧ (∀ z ∈ L, free z.base) ∧ B.cells = A.cells + mc ∧ B.slots = A.slots + ms
def vx_Back (l : Launch) (R : Room) (p : Program) (e : Env) (below : List Frame) (s : State) (sargs : Array Value) (y : MethodName) (len W9 : Nat)
    (Pre : Pt → Array Value → Prop) (Post : Pt → Array Value → Option Value → Pt → Prop) (PostX : Pt → Array Value → Addr → Pt → Prop) : Prop :=
  ∀ (m : MethodId) (meth : Method) (c : Code) (A : Pt) (g : JFrame) (ig : Instr) (mk : MethodId) (a : Array Value),
    Stand p l e R s m sargs below meth c A.U A.locs A.cells A.slots → g.method = m → g.locals.size = c.maxLocals → decode c.code g.pc = .ok (ig, len) →
    2 * g.monitorRoom + (g.stack.map fun v => v.category).sum ≤ W9 → A.U.methodNamed? y = some mk → Pre A a →
    (∃ (v : Option Value) (B : Pt), Stand p l e R s m sargs below meth c B.U B.locs B.cells B.slots ∧ Post A a v B ∧
      Steps p.tables e below (doInvoke e (A.U.setTop g) [] mk a).1 (B.U.setTop { g with pc := g.pc + len, stack := v.toList ++ g.stack })) ∨
    (∃ (q : Addr) (B : Pt), Stand p l e R s m sargs below meth c B.U B.locs B.cells B.slots ∧ PostX A a q B ∧
      Steps p.tables e below (doInvoke e (A.U.setTop g) [] mk a).1 ((B.U.setTop g).pushFrame (.throwing q)))
section Payer
variable {l : Launch} {R : Room} {p : Program} {e : Env} {below : List Frame} {s : State} {sargs : Array Value} {y : MethodName} {len W9 : Nat}
theorem vx_back {ws : List Cond} {rm : Room} {Pc : Array Value → State → Prop} {Qc : Array Value → State → Outcome → State → Prop} {XC : String → State → State → Prop} {mc ms : Nat} {free : Addr → Prop} {bytes : ByteArray} {maxL : Nat} {ret : Option FieldType}
    (hM : vx_Met l y ws rm Pc Qc XC mc ms free) (hblind : FrameBlind Pc) (hrc : rm.cells = mc) (hrs : rm.slots = ms)
    (hframes : rm.frames + 1 ≤ R.frames) (hlocals : W9 + (maxL + 11) + rm.locals ≤ R.locals)
    (hws : ∀ w ∈ ws, ∀ a' U, s.WarmedH U.vm → w.before a' U = true) (hcode : Cond.code y bytes maxL ret ∈ ws) (hinit : ∀ a' U, s.WarmedH U.vm → (Cond.initialized y.cls).before a' U = true) :
    vx_Back l R p e below s sargs y len W9 (PreOf R mc ms Pc) (PostOf Qc mc ms free) (vx_Post XC mc ms free) := by
  intro m meth c A g ig mk a X hg hsize hdg hW hn hp
  have h1 : (headSpec ws rm).pre.before a A.U = true := atoms_intro fun w hw => hws w hw _ _ X.warmed
  have h2 : (Cond.code y bytes maxL ret).before a A.U = true := hws _ hcode _ _ X.warmed
  have h3 : (Cond.initialized y.cls).before a A.U = true := hinit _ _ X.warmed
  have h4 : A.cells + (headSpec ws rm).room.cells ≤ R.cells := by rw [show (headSpec ws rm).room.cells = mc from hrc]; exact hp.1
  have h5 : A.slots + (headSpec ws rm).room.slots ≤ R.slots := by rw [show (headSpec ws rm).room.slots = ms from hrs]; exact hp.2.1
  have hPc : Pc a (A.U.calling g mk a) := hblind _ _ _ _ hp.2.2
  obtain ⟨U, Ls, c0, s0⟩ := A
  dsimp only [Pt.U, Pt.locs, Pt.cells, Pt.slots] at h1 h2 h3 h4 h5 X hn hPc ⊢
  obtain ⟨methY, cY, hmY, hcY, -, hlY, -, -, -, -⟩ := Cond.code_spec hn h2
  obtain ⟨kY, hkY, -⟩ := className_of_methodNamed hn
  have hinitY : kY.init = .initialized := Cond.initialized_spec (findClass_of_methodNamed hn) hkY h3
  have h : At U g.method c below := by rw [hg]; exact X.here
  have hlocals9 : W9 + (maxL + 11) + (headSpec ws rm).room.locals ≤ R.locals := hlocals
  have happ : (headSpec ws rm).appliesLoose y e.platform (U.calling g mk a) = true :=
    Spec.appliesLoose_calling (g := g) h hdg hn hkY hinitY
      (X.room_calling (g := g) (R' := (headSpec ws rm).room) hsize hmY hcY hframes (by rw [hlY]; omega) h4 h5) h1
  obtain ⟨mid, hmid⟩ := h.above
  have hfr : (U.setTop g).frames = (.java g :: mid) ++ below := by rw [State.frames_setTop' g h.top, hmid]; rfl
  obtain ⟨o, s₂, hsteps, -, hend, hq⟩ := Steps.callFree hM p X.admits X.cas X.clock (acts := []) hfr happ hPc trivial
  have hq' : vx_Q Qc XC mc ms free a (U.calling g mk a) o s₂ := hq
  rw [State.frames_setTop' g h.top] at hend
  obtain ⟨g₀, hg0⟩ := Option.isSome_iff_exists.mp h.top
  obtain ⟨r, hr⟩ := State.topJava?_eq_some.mp hg0
  have hr' : (({ U with heap := s₂.heap, slotsUsed := s₂.slotsUsed } : State).setVm s₂.vm).frames = .java g₀ :: r := hr
  rcases hq' with ⟨hqc, L, hfe, hL⟩ | ⟨q, rfl, E, ce, L, hx, hce, hcv, hcl, hW₂, hsm, hL⟩
  · obtain ⟨⟨v, rfl⟩, hW₂, e2, q2, q3, q4, q5, q6⟩ := id hfe
    have e3 : s₂ = ({ (U.calling g mk a).setFrames s₂.frames with heap := s₂.heap, slotsUsed := s₂.slotsUsed } : State).setVm s₂.vm := by
      have : s₂ = ({ s₂ with vm := (U.calling g mk a).vm } : State).setVm s₂.vm := rfl
      rw [e2] at this
      exact this
    obtain ⟨c₂, i₂, len₂, hc₂, hd₂, hf₂⟩ := hend
    have hW' : U.WarmedH s₂.vm := hW₂
    have hcc : c₂ = c := by
      have h1 : s₂.code? g.method = U.code? g.method := by
        rw [State.code?_eq, State.code?_eq, hW'.alike.method?]
      exact Option.some.inj (hc₂.symm.trans (h1.trans h.code))
    subst hcc
    have hlen : len₂ = len := by rw [hdg] at hd₂; cases hd₂; rfl
    subst hlen
    have hs₂ : s₂ = (({ U with heap := s₂.heap, slotsUsed := s₂.slotsUsed } : State).setVm s₂.vm).setTop { g with pc := g.pc + len₂, stack := v.toList ++ g.stack } := by
      refine e3.trans ?_
      rw [hf₂, State.calling_eq h.top, State.setFrames_setFrames, State.setTop_of_frames _ hr', hr]
      rfl
    have hsame : U.sameButNew ({ U with heap := s₂.heap, slotsUsed := s₂.slotsUsed } : State) L mc ms := by
      refine ⟨?_, q2, q3, q4, q5, q6⟩
      obtain ⟨t, ht, -⟩ := State.frames_cons hr
      show ({ U with heap := s₂.heap, slotsUsed := s₂.slotsUsed } : State) = { U.setFrames U.frames with heap := s₂.heap, slotsUsed := s₂.slotsUsed }
      rw [State.setFrames_self ht]
    subst hg
    refine Or.inl ⟨v, ⟨(({ U with heap := s₂.heap, slotsUsed := s₂.slotsUsed } : State).setVm s₂.vm), Ls ++ L, c0 + mc, s0 + ms⟩,
      ⟨X.admits, X.cas, X.clock, X.frames, X.room, X.hears, X.method, X.code, (X.here.setHeapUsed s₂.heap s₂.slotsUsed).setVm hW'.alike, X.tail, State.WarmedH.trans X.warmed hW', X.limits, X.bytes, X.same.trans (hsame.setVm s.vm)⟩,
      ⟨g, mk, s₂, L, rfl, rfl, hqc, rfl, hL, rfl, rfl⟩, ?_⟩
    show Steps p.tables e below _ ((({ U with heap := s₂.heap, slotsUsed := s₂.slotsUsed } : State).setVm s₂.vm).setTop { g with pc := g.pc + len₂, stack := v.toList ++ g.stack })
    rw [← hs₂]
    exact hsteps
  · obtain ⟨e2, q2, q3, q4, q5, q6⟩ := id hsm
    have e3 : s₂ = ({ (U.calling g mk a).setFrames s₂.frames with heap := s₂.heap, slotsUsed := s₂.slotsUsed } : State).setVm s₂.vm := by
      have : s₂ = ({ s₂ with vm := (U.calling g mk a).vm } : State).setVm s₂.vm := rfl
      rw [e2] at this
      exact this
    have hf₂ : s₂.frames = .throwing q :: .java g :: U.frames.tail := hend
    have hW' : U.WarmedH s₂.vm := hW₂
    have hs₂ : s₂ = ((({ U with heap := s₂.heap, slotsUsed := s₂.slotsUsed } : State).setVm s₂.vm).setTop g).pushFrame (.throwing q) := by
      refine e3.trans ?_
      rw [hf₂, State.calling_eq h.top, State.setFrames_setFrames, State.pushFrame, State.frames_setTop _ hr', State.setTop_of_frames _ hr', State.setFrames_setFrames, hr]
      rfl
    have hsame : U.sameButNew ({ U with heap := s₂.heap, slotsUsed := s₂.slotsUsed } : State) L mc ms := by
      refine ⟨?_, q2, q3, q4, q5, q6⟩
      obtain ⟨t, ht, -⟩ := State.frames_cons hr
      show ({ U with heap := s₂.heap, slotsUsed := s₂.slotsUsed } : State) = { U.setFrames U.frames with heap := s₂.heap, slotsUsed := s₂.slotsUsed }
      rw [State.setFrames_self ht]
    subst hg
    refine Or.inr ⟨q, ⟨(({ U with heap := s₂.heap, slotsUsed := s₂.slotsUsed } : State).setVm s₂.vm), Ls ++ L, c0 + mc, s0 + ms⟩,
      ⟨X.admits, X.cas, X.clock, X.frames, X.room, X.hears, X.method, X.code, (X.here.setHeapUsed s₂.heap s₂.slotsUsed).setVm hW'.alike, X.tail, State.WarmedH.trans X.warmed hW', X.limits, X.bytes, X.same.trans (hsame.setVm s.vm)⟩,
      ⟨g, mk, s₂, L, E, ce, rfl, rfl, hx, hce, hcv, hcl, rfl, hL, rfl, rfl⟩, ?_⟩
    show Steps p.tables e below _ (((({ U with heap := s₂.heap, slotsUsed := s₂.slotsUsed } : State).setVm s₂.vm).setTop g).pushFrame (.throwing q))
    rw [← hs₂]
    exact hsteps
end Payer
section Calls
variable {p : Program} {l : Launch} {e : Env} {R : Room} {s : State} {m : MethodId} {args : Array Value} {below : List Frame} {meth : Method} {c : Code} {T : State} {locs : List Loc} {cells slots : Nat}
theorem vx_callV (X : Stand p l e R s m args below meth c T locs cells slots) (hexec : p.tables.exec = Jvm.exec) {own C : String} {index : Nat} {y : MethodName} {bytes : ByteArray} {maxL : Nat} {ret : Option FieldType}
    (hown : s.vm.findClass own = some m.cls) (hlink : (Cond.methodLink own index y).before args s = true) (hinst : (Cond.instanceMethod y).before args s = true) (hsel : (Cond.selects C y y).before args s = true)
    (hcode : (Cond.code y bytes maxL ret).before args s = true) (hy : y.cls ≠ "java/lang/invoke/MethodHandle" ∧ y.cls ≠ "java/lang/invoke/VarHandle")
    {W9 : Nat} {Pre : Pt → Array Value → Prop} {Post : Pt → Array Value → Option Value → Pt → Prop} {PostX : Pt → Array Value → Addr → Pt → Prop} (hK : vx_Back l R p e below s args y 3 W9 Pre Post PostX)
    {b : Addr} {cellB : Cell} (hcell : T.heap[b]? = some cellB) (hobj : cellB.vm.isStatics = false) (hcls : s.vm.findClass C = some cellB.cls)
    {g : JFrame} (hg : g.method = m) (hsize : g.locals.size = c.maxLocals) {argsL rest : List Value} (hlen : ∀ sig, parseMethodDescriptor y.desc = some sig → argsL.length = sig.parameters.length)
    (hstack : g.stack = argsL.reverse ++ .ref b :: rest) (hW : 2 * g.monitorRoom + (rest.map fun v => v.category).sum ≤ W9) (hdg : decode c.code g.pc = .ok (.invokevirtual index, 3))
    (hpre : ∀ vm₁, s.WarmedH vm₁ → Pre ⟨T.setVm vm₁, locs, cells, slots⟩ (Value.ref b :: argsL).toArray) :
    (∃ (v : Option Value) (vm₁ : Vm) (B : Pt), s.WarmedH vm₁ ∧ Stand p l e R s m args below meth c B.U B.locs B.cells B.slots ∧ Post ⟨T.setVm vm₁, locs, cells, slots⟩ (Value.ref b :: argsL).toArray v B ∧
      ∀ target, Steps p.tables e below (B.U.setTop { g with pc := g.pc + 3, stack := v.toList ++ rest }) target → Steps p.tables e below (T.setTop g) target) ∨
    (∃ (q : Addr) (vm₁ : Vm) (B : Pt), s.WarmedH vm₁ ∧ Stand p l e R s m args below meth c B.U B.locs B.cells B.slots ∧ PostX ⟨T.setVm vm₁, locs, cells, slots⟩ (Value.ref b :: argsL).toArray q B ∧
      Steps p.tables e below (T.setTop g) ((B.U.setTop { g with stack := rest }).pushFrame (.throwing q))) := by
  obtain ⟨mk, methM, hnamed, hmethM, hstM, habM⟩ := Cond.instanceMethod_spec hinst
  obtain ⟨methM', cM, hmethM', -, -, -, -, -, -, hsigM⟩ := Cond.code_spec hnamed hcode
  cases hmethM.symm.trans hmethM'
  obtain ⟨c2, r2, m2, q1, q2, q3, q4, kP, hkP, hkPi⟩ := Cond.selects_spec hsel
  cases hcls.symm.trans q1
  cases (State.methodFound?_of_named hnamed hy).symm.trans q2
  cases hnamed.symm.trans q3
  have hselP : selectMethod e.platform s.vm cellB.cls mk = .method mk := by rw [Launch.admits_selectMethod X.admits]; exact q4
  obtain ⟨vm₁, X₁, hstep₁⟩ := X.invokevirtual hexec hown hlink hnamed hmethM hstM hkP hkPi hy (a := b) (cell := cellB) hcell
    (fun z h => by rw [h] at hobj; cases hobj) hselP hmethM habM hkP hkPi (g := g) hg (argsL := argsL) (rest := rest) (hlen _ hsigM) hstack hdg
  rcases hK m meth c ⟨T.setVm vm₁, locs, cells, slots⟩ { g with stack := rest } (.invokevirtual index) mk (Value.ref b :: argsL).toArray X₁ hg hsize hdg hW (X₁.named hnamed) (hpre vm₁ X₁.warmed) with ⟨v, B, X', hpost, hsteps⟩ | ⟨q, B, X', hpost, hsteps⟩
  · exact Or.inl ⟨v, vm₁, B, X₁.warmed, X', hpost, fun target h => hstep₁ _ fun acts => by rw [doInvoke_state]; exact hsteps.trans h⟩
  · exact Or.inr ⟨q, vm₁, B, X₁.warmed, X', hpost, hstep₁ _ fun acts => by rw [doInvoke_state]; exact hsteps⟩
theorem vx_callS (X : Stand p l e R s m args below meth c T locs cells slots) (hexec : p.tables.exec = Jvm.exec) {own : String} {index : Nat} {y : MethodName} {bytes : ByteArray} {maxL : Nat} {ret : Option FieldType}
    (hown : s.vm.findClass own = some m.cls) (hlink : (Cond.methodLink own index y).before args s = true) (hstat : (Cond.static y).before args s = true) (hinit : (Cond.initialized y.cls).before args s = true)
    (hcode : (Cond.code y bytes maxL ret).before args s = true) (hy : y.cls ≠ "java/lang/invoke/MethodHandle" ∧ y.cls ≠ "java/lang/invoke/VarHandle")
    {W9 : Nat} {Pre : Pt → Array Value → Prop} {Post : Pt → Array Value → Option Value → Pt → Prop} {PostX : Pt → Array Value → Addr → Pt → Prop} (hK : vx_Back l R p e below s args y 3 W9 Pre Post PostX)
    {g : JFrame} (hg : g.method = m) (hsize : g.locals.size = c.maxLocals) {argsL rest : List Value} (hlen : ∀ sig, parseMethodDescriptor y.desc = some sig → argsL.length = sig.parameters.length)
    (hstack : g.stack = argsL.reverse ++ rest) (hW : 2 * g.monitorRoom + (rest.map fun v => v.category).sum ≤ W9) (hdg : decode c.code g.pc = .ok (.invokestatic index, 3))
    (hpre : ∀ vm₁, s.WarmedH vm₁ → Pre ⟨T.setVm vm₁, locs, cells, slots⟩ argsL.toArray) :
    (∃ (v : Option Value) (vm₁ : Vm) (B : Pt), s.WarmedH vm₁ ∧ Stand p l e R s m args below meth c B.U B.locs B.cells B.slots ∧ Post ⟨T.setVm vm₁, locs, cells, slots⟩ argsL.toArray v B ∧
      ∀ target, Steps p.tables e below (B.U.setTop { g with pc := g.pc + 3, stack := v.toList ++ rest }) target → Steps p.tables e below (T.setTop g) target) ∨
    (∃ (q : Addr) (vm₁ : Vm) (B : Pt), s.WarmedH vm₁ ∧ Stand p l e R s m args below meth c B.U B.locs B.cells B.slots ∧ PostX ⟨T.setVm vm₁, locs, cells, slots⟩ argsL.toArray q B ∧
      Steps p.tables e below (T.setTop g) ((B.U.setTop { g with stack := rest }).pushFrame (.throwing q))) := by
  obtain ⟨mk, hnamed⟩ := Cond.code_named hcode
  obtain ⟨methM, cM, hmethM, -, -, -, -, -, -, hsigM⟩ := Cond.code_spec hnamed hcode
  have hstatic : methM.isStatic = true := Cond.static_spec hnamed hmethM hstat
  obtain ⟨kP, hkP, -⟩ := className_of_methodNamed hnamed
  have hinitP : kP.init = .initialized := Cond.initialized_spec (findClass_of_methodNamed hnamed) hkP hinit
  obtain ⟨vm₁, X₁, hstep₁⟩ := X.invokestatic hexec hown hlink hnamed hmethM hstatic hkP hinitP hy (g := g) hg (argsL := argsL) (rest := rest) (hlen _ hsigM) hstack hdg
  rcases hK m meth c ⟨T.setVm vm₁, locs, cells, slots⟩ { g with stack := rest } (.invokestatic index) mk argsL.toArray X₁ hg hsize hdg hW (X₁.named hnamed) (hpre vm₁ X₁.warmed) with ⟨v, B, X', hpost, hsteps⟩ | ⟨q, B, X', hpost, hsteps⟩
  · exact Or.inl ⟨v, vm₁, B, X₁.warmed, X', hpost, fun target h => hstep₁ _ fun acts => by rw [doInvoke_state]; exact hsteps.trans h⟩
  · exact Or.inr ⟨q, vm₁, B, X₁.warmed, X', hpost, hstep₁ _ fun acts => by rw [doInvoke_state]; exact hsteps⟩
end Calls
theorem vx_cls {s : State} {T : State} {vm₁ : Vm} {E : String} {k : ClassId} (hW : s.WarmedH vm₁) (h : (T.setVm vm₁).vm.findClass E = some k) : s.vm.findClass E = some k := by
  have h1 : vm₁.findClass E = some k := h
  rw [hW.alike.findClass] at h1
  exact h1
/-- the method's frame g, with q thrown over it -/
def vx_W (p : Program) (l : Launch) (e : Env) (R : Room) (s : State) (m : MethodId) (args : Array Value) (below : List Frame) (meth : Method) (c : Code) (H : Heap) (locs : List Loc) (cells slots : Nat) (Q : State → Prop) (g : JFrame) (q : Addr) : Prop :=
  ∀ T : State, T.heap = H → Stand p l e R s m args below meth c T locs cells slots → ∃ t, Steps p.tables e below ((T.setTop g).pushFrame (.throwing q)) t ∧ Q t
def vx_Run (p : Program) (l : Launch) (e : Env) (R : Room) (s : State) (m : MethodId) (args : Array Value) (below : List Frame) (meth : Method) (c : Code) (H : Heap) (locs : List Loc) (cells slots mc ms : Nat) (g : JFrame) (rest : List Value) (Qa : State → Outcome → State → Prop) (XC : String → State → State → Prop) (free : Addr → Prop) : Prop :=
  ∀ T : State, T.heap = H → Stand p l e R s m args below meth c T locs cells slots →
    (∃ (v : Option Value) (st₀ t T' : State) (L : List Loc), st₀.heap = H ∧ Stand p l e R s m args below meth c T' (locs ++ L) (cells + mc) (slots + ms) ∧ (∀ q ∈ L, free q.base) ∧ T'.heap = t.heap ∧ T'.vm = t.vm ∧ Qa st₀ (.returned v) t ∧
      Goes p e below T g T' { g with pc := g.pc + 3, stack := v.toList ++ rest }) ∨
    (∃ (q : Addr) (st₀ t T' : State) (L : List Loc) (E : String) (ce : Cell), st₀.heap = H ∧ Stand p l e R s m args below meth c T' (locs ++ L) (cells + mc) (slots + ms) ∧ (∀ z ∈ L, free z.base) ∧ T'.heap = t.heap ∧ T'.vm = t.vm ∧ XC E st₀ t ∧ t.heap[q]? = some ce ∧ ce.vm = .none ∧ s.vm.findClass E = some ce.cls ∧
      Steps p.tables e below (T.setTop g) ((T'.setTop { g with stack := rest }).pushFrame (.throwing q)))
def vx_X {S : Type} (px : S → Prop) (B : String → S → State → Prop) (A : Nat → Prop) : String → State → State → Prop := fun E st t => ∃ u : S, px u ∧ B E u t ∧ va_F A st t
section Runs
variable {p : Program} {l : Launch} {e : Env} {R : Room} {s : State} {m : MethodId} {args : Array Value} {below : List Frame} {meth : Method} {c : Code} {H : Heap} {locs : List Loc} {cells slots : Nat}
variable {y : MethodName} {bytes cc : ByteArray} {maxL nL mc ms n index : Nat} {ret : Option FieldType} {ws : List Cond} {rm : Room} {Pc : Array Value → State → Prop} {Qc : Array Value → State → Outcome → State → Prop} {XC : String → State → State → Prop} {free : Addr → Prop} {Ts : List Cond} {own C : String} {b : Addr} {As rest : List Value} {g : JFrame}
theorem vx_callBack (cb : CallB R s args own index y bytes maxL ret ws rm mc ms n) (hM : vx_Met l y ws rm Pc Qc XC mc ms free) (hbl : FrameBlind Pc) : vx_Back l R p e below s args y 3 8 (PreOf R mc ms Pc) (PostOf Qc mc ms free) (vx_Post XC mc ms free) := by
  obtain ⟨hrc, hrs, hfr, hlo, hws, hcw, -, hini, -⟩ := cb
  exact vx_back (bytes := bytes) (maxL := maxL) (ret := ret) hM hbl hrc hrs hfr hlo hws hcw (fun a' U hW => word_at hW (Or.inl (by first | rfl | simp [Cond.onTables, Cond.keeps, Cond.steady])) hini)
theorem vx_runV (S : CallFix p m c cc nL s args Ts own) (hM : vx_Met l y ws rm Pc Qc XC mc ms free) (cw : CallW R s args own C index y bytes maxL ret ws rm mc ms n) (hp : PreV s H C b Pc As)
    (hg : g.method = m) (hn : As.length = n) (hsize : g.locals.size = nL) (hstack : g.stack = As.reverse ++ .ref b :: rest) (hW : 2 * g.monitorRoom + (rest.map fun v => v.category).sum ≤ 8) (hdg : decode cc g.pc = .ok (.invokevirtual index, 3)) (hf : cells + mc ≤ R.cells ∧ slots + ms ≤ R.slots) :
    vx_Run p l e R s m args below meth c H locs cells slots mc ms g rest (Qc (Value.ref b :: As).toArray) XC free := by
  have hK : vx_Back l R p e below s args y 3 8 (PreOf R mc ms Pc) (PostOf Qc mc ms free) (vx_Post XC mc ms free) := vx_callBack cw.1 hM hp.1
  obtain ⟨⟨-, -, -, -, -, -, hcode, -, hy, hlen, hl⟩, hin, hse⟩ := cw
  obtain ⟨hx, hb, hml, ho, -⟩ := S
  obtain ⟨-, ⟨cellB, hcB, hoB, hclB⟩, hPc⟩ := hp
  intro T hT X
  rcases vx_callV X hx (C := C) (bytes := bytes) (maxL := maxL) (ret := ret) ho hl hin hse hcode hy hK (by rw [hT]; exact hcB) hoB hclB hg (hsize.trans hml.symm) (argsL := As) (rest := rest) (fun sig h => hn.trans (hlen sig h)) hstack hW (by rw [hb]; exact hdg)
    (fun vm₁ hW₁ => ⟨hf.1, hf.2, hPc (T.setVm vm₁) hT hW₁⟩) with ⟨v, vm₁, ⟨U', l2, c2, s2⟩, hW₁, X', ⟨g', mk, t, L, e1, e2, hq, h1, hL, h2, h3⟩, st⟩ | ⟨q, vm₁, ⟨U', l2, c2, s2⟩, hW₁, X', ⟨g', mk, t, L, E, ce, e1, e2, hq, hce, hcv, hcl, h1, hL, h2, h3⟩, st⟩
  · dsimp only [Pt.U, Pt.locs, Pt.cells, Pt.slots] at X' e1 e2 h1 h2 h3 st
    subst h1; subst h2; subst h3
    exact Or.inl ⟨v, (T.setVm vm₁).calling g' mk (Value.ref b :: As).toArray, t, U', L, hT, X', hL, e1, e2, hq, st⟩
  · dsimp only [Pt.U, Pt.locs, Pt.cells, Pt.slots] at X' e1 e2 h1 h2 h3 st hcl
    subst h1; subst h2; subst h3
    exact Or.inr ⟨q, (T.setVm vm₁).calling g' mk (Value.ref b :: As).toArray, t, U', L, E, ce, hT, X', hL, e1, e2, hq, hce, hcv, vx_cls hW₁ hcl, st⟩
theorem vx_runS (S : CallFix p m c cc nL s args Ts own) (hM : vx_Met l y ws rm Pc Qc XC mc ms free) (cw : CallB R s args own index y bytes maxL ret ws rm mc ms n ∧ (Cond.static y).before args s = true) (hp : PreS s H Pc As)
    (hg : g.method = m) (hn : As.length = n) (hsize : g.locals.size = nL) (hstack : g.stack = As.reverse ++ rest) (hW : 2 * g.monitorRoom + (rest.map fun v => v.category).sum ≤ 8) (hdg : decode cc g.pc = .ok (.invokestatic index, 3)) (hf : cells + mc ≤ R.cells ∧ slots + ms ≤ R.slots) :
    vx_Run p l e R s m args below meth c H locs cells slots mc ms g rest (Qc As.toArray) XC free := by
  have hK : vx_Back l R p e below s args y 3 8 (PreOf R mc ms Pc) (PostOf Qc mc ms free) (vx_Post XC mc ms free) := vx_callBack cw.1 hM hp.1
  obtain ⟨⟨-, -, -, -, -, -, hcode, hini, hy, hlen, hl⟩, hstt⟩ := cw
  obtain ⟨hx, hb, hml, ho, -⟩ := S
  intro T hT X
  rcases vx_callS X hx (bytes := bytes) (maxL := maxL) (ret := ret) ho hl hstt hini hcode hy hK hg (hsize.trans hml.symm) (argsL := As) (rest := rest) (fun sig h => hn.trans (hlen sig h)) hstack hW (by rw [hb]; exact hdg)
    (fun vm₁ hW₁ => ⟨hf.1, hf.2, hp.2 (T.setVm vm₁) hT hW₁⟩) with ⟨v, vm₁, ⟨U', l2, c2, s2⟩, hW₁, X', ⟨g', mk, t, L, e1, e2, hq, h1, hL, h2, h3⟩, st⟩ | ⟨q, vm₁, ⟨U', l2, c2, s2⟩, hW₁, X', ⟨g', mk, t, L, E, ce, e1, e2, hq, hce, hcv, hcl, h1, hL, h2, h3⟩, st⟩
  · dsimp only [Pt.U, Pt.locs, Pt.cells, Pt.slots] at X' e1 e2 h1 h2 h3 st
    subst h1; subst h2; subst h3
    exact Or.inl ⟨v, (T.setVm vm₁).calling g' mk As.toArray, t, U', L, hT, X', hL, e1, e2, hq, st⟩
  · dsimp only [Pt.U, Pt.locs, Pt.cells, Pt.slots] at X' e1 e2 h1 h2 h3 st hcl
    subst h1; subst h2; subst h3
    exact Or.inr ⟨q, (T.setVm vm₁).calling g' mk As.toArray, t, U', L, E, ce, hT, X', hL, e1, e2, hq, hce, hcv, vx_cls hW₁ hcl, st⟩
end Runs
section Rows
variable {p : Program} {l : Launch} {e : Env} {R : Room} {s : State} {m : MethodId} {args : Array Value} {below : List Frame} {meth : Method} {c : Code} {H : Heap} {locs : List Loc} {cells slots : Nat} {Q : State → Prop}
variable {mc ms : Nat} {free : Addr → Prop} {A0 A1 : Nat → Prop} {H0 : Heap} {a : Array Value} {pc : Nat} {ls : Array Slot} {st0 rest : List Value}
theorem vx_keep {st₀ t T' : State} {L : List Loc} (h0 : st₀.heap = H) (e1 : T'.heap = t.heap) (hS : va_S A0 H0 H locs) (hA : ∀ q, q < H.size → A1 q → A0 q) (hf : ∀ q, free q → A0 q) (hL : ∀ q ∈ L, free q.base) (hF : va_F A1 st₀ t) :
    H.size ≤ T'.heap.size ∧ (∀ q : Nat, q < H.size → ¬ A1 q → T'.heap[q]? = H[q]?) ∧ va_S A0 H0 T'.heap (locs ++ L) := by
  obtain ⟨hz, hk⟩ := hF
  rw [h0] at hz hk
  exact ⟨by rw [e1]; exact hz, fun q h1 h2 => by rw [e1]; exact hk q h1 h2,
    ⟨Nat.le_trans hS.1 (by rw [e1]; exact hz), fun q h1 h2 => by rw [e1, hk q (Nat.lt_of_lt_of_le h1 hS.1) (fun z => h2 (hA q (Nat.lt_of_lt_of_le h1 hS.1) z))]; exact hS.2.1 q h1 h2, fun q hq => by
      rcases List.mem_append.mp hq with h | h
      · exact hS.2.2 q h
      · exact hf _ (hL q h)⟩⟩
theorem vx_calli {S SX : Type} {post : Int32 → S → Prop} {px : SX → Prop} {B : S → State → Prop} {BX : String → SX → State → Prop} {AX : Nat → Prop} (hr : vx_Run p l e R s m args below meth c H locs cells slots mc ms (F0 m pc ls st0) rest (va_Qi post B A1 a) (vx_X px BX AX) free) (hS : va_S A0 H0 H locs) (hA : ∀ q, q < H.size → A1 q → A0 q) (hf : ∀ q, free q → A0 q) (hAX : ∀ q, q < H.size → AX q → A0 q)
    (kx : ∀ (E : String) (ce : Cell) (q9 : Addr) (u : SX) (t : State) (H1 : Heap) (locs1 : List Loc), t.heap = H1 → s.vm.Alike t.vm → px u → BX E u t → H.size ≤ H1.size → (∀ q : Nat, q < H.size → ¬ AX q → H1[q]? = H[q]?) → va_S A0 H0 H1 locs1 → H1[q9]? = some ce → ce.vm = .none → s.vm.findClass E = some ce.cls → vx_W p l e R s m args below meth c H1 locs1 (cells + mc) (slots + ms) Q (F0 m pc ls rest) q9)
    (kk : ∀ (r : Int32) (u : S) (t : State) (H1 : Heap) (locs1 : List Loc), t.heap = H1 → s.vm.Alike t.vm → post r u → B u t → H.size ≤ H1.size → (∀ q : Nat, q < H.size → ¬ A1 q → H1[q]? = H[q]?) → va_S A0 H0 H1 locs1 → W p l e R s m args below meth c H1 locs1 (cells + mc) (slots + ms) Q (F0 m (pc + 3) ls (.int r :: rest))) : W p l e R s m args below meth c H locs cells slots Q (F0 m pc ls st0) := by
  intro T hT X
  rcases hr T hT X with ⟨v, st₀, t, T', L, h0, X', hL, e1, e2, ⟨⟨r, u, hv, hp, hb⟩, hF⟩, st⟩ | ⟨q, st₀, t, T', L, E, ce, h0, X', hL, e1, e2, ⟨u, hp, hb, hF⟩, hce, hcv, hcl, st⟩
  · cases hv
    obtain ⟨k1, k2, k3⟩ := vx_keep h0 e1 hS hA hf hL hF
    obtain ⟨t2, a1, b1⟩ := kk r u t T'.heap (locs ++ L) e1.symm (by rw [← e2]; exact X'.warmed.alike) hp hb k1 k2 k3 T' rfl X'
    exact ⟨t2, st t2 a1, b1⟩
  · obtain ⟨k1, k2, k3⟩ := vx_keep h0 e1 hS hAX hf hL hF
    obtain ⟨t2, a1, b1⟩ := kx E ce q u t T'.heap (locs ++ L) e1.symm (by rw [← e2]; exact X'.warmed.alike) hp hb k1 k2 k3 (by rw [e1]; exact hce) hcv hcl T' rfl X'
    exact ⟨t2, st.trans a1, b1⟩
theorem vx_calll {S SX : Type} {post : Int64 → S → Prop} {px : SX → Prop} {B : S → State → Prop} {BX : String → SX → State → Prop} {AX : Nat → Prop} (hr : vx_Run p l e R s m args below meth c H locs cells slots mc ms (F0 m pc ls st0) rest (va_Ql post B A1 a) (vx_X px BX AX) free) (hS : va_S A0 H0 H locs) (hA : ∀ q, q < H.size → A1 q → A0 q) (hf : ∀ q, free q → A0 q) (hAX : ∀ q, q < H.size → AX q → A0 q)
    (kx : ∀ (E : String) (ce : Cell) (q9 : Addr) (u : SX) (t : State) (H1 : Heap) (locs1 : List Loc), t.heap = H1 → s.vm.Alike t.vm → px u → BX E u t → H.size ≤ H1.size → (∀ q : Nat, q < H.size → ¬ AX q → H1[q]? = H[q]?) → va_S A0 H0 H1 locs1 → H1[q9]? = some ce → ce.vm = .none → s.vm.findClass E = some ce.cls → vx_W p l e R s m args below meth c H1 locs1 (cells + mc) (slots + ms) Q (F0 m pc ls rest) q9)
    (kk : ∀ (r : Int64) (u : S) (t : State) (H1 : Heap) (locs1 : List Loc), t.heap = H1 → s.vm.Alike t.vm → post r u → B u t → H.size ≤ H1.size → (∀ q : Nat, q < H.size → ¬ A1 q → H1[q]? = H[q]?) → va_S A0 H0 H1 locs1 → W p l e R s m args below meth c H1 locs1 (cells + mc) (slots + ms) Q (F0 m (pc + 3) ls (.long r :: rest))) : W p l e R s m args below meth c H locs cells slots Q (F0 m pc ls st0) := by
  intro T hT X
  rcases hr T hT X with ⟨v, st₀, t, T', L, h0, X', hL, e1, e2, ⟨⟨r, u, hv, hp, hb⟩, hF⟩, st⟩ | ⟨q, st₀, t, T', L, E, ce, h0, X', hL, e1, e2, ⟨u, hp, hb, hF⟩, hce, hcv, hcl, st⟩
  · cases hv
    obtain ⟨k1, k2, k3⟩ := vx_keep h0 e1 hS hA hf hL hF
    obtain ⟨t2, a1, b1⟩ := kk r u t T'.heap (locs ++ L) e1.symm (by rw [← e2]; exact X'.warmed.alike) hp hb k1 k2 k3 T' rfl X'
    exact ⟨t2, st t2 a1, b1⟩
  · obtain ⟨k1, k2, k3⟩ := vx_keep h0 e1 hS hAX hf hL hF
    obtain ⟨t2, a1, b1⟩ := kx E ce q u t T'.heap (locs ++ L) e1.symm (by rw [← e2]; exact X'.warmed.alike) hp hb k1 k2 k3 (by rw [e1]; exact hce) hcv hcl T' rfl X'
    exact ⟨t2, st.trans a1, b1⟩
theorem vx_callf {S SX : Type} {post : UInt32 → S → Prop} {px : SX → Prop} {B : S → State → Prop} {BX : String → SX → State → Prop} {AX : Nat → Prop} (hr : vx_Run p l e R s m args below meth c H locs cells slots mc ms (F0 m pc ls st0) rest (va_Qf post B A1 a) (vx_X px BX AX) free) (hS : va_S A0 H0 H locs) (hA : ∀ q, q < H.size → A1 q → A0 q) (hf : ∀ q, free q → A0 q) (hAX : ∀ q, q < H.size → AX q → A0 q)
    (kx : ∀ (E : String) (ce : Cell) (q9 : Addr) (u : SX) (t : State) (H1 : Heap) (locs1 : List Loc), t.heap = H1 → s.vm.Alike t.vm → px u → BX E u t → H.size ≤ H1.size → (∀ q : Nat, q < H.size → ¬ AX q → H1[q]? = H[q]?) → va_S A0 H0 H1 locs1 → H1[q9]? = some ce → ce.vm = .none → s.vm.findClass E = some ce.cls → vx_W p l e R s m args below meth c H1 locs1 (cells + mc) (slots + ms) Q (F0 m pc ls rest) q9)
    (kk : ∀ (r : UInt32) (u : S) (t : State) (H1 : Heap) (locs1 : List Loc), t.heap = H1 → s.vm.Alike t.vm → post r u → B u t → H.size ≤ H1.size → (∀ q : Nat, q < H.size → ¬ A1 q → H1[q]? = H[q]?) → va_S A0 H0 H1 locs1 → W p l e R s m args below meth c H1 locs1 (cells + mc) (slots + ms) Q (F0 m (pc + 3) ls (.float r :: rest))) : W p l e R s m args below meth c H locs cells slots Q (F0 m pc ls st0) := by
  intro T hT X
  rcases hr T hT X with ⟨v, st₀, t, T', L, h0, X', hL, e1, e2, ⟨⟨r, u, hv, hp, hb⟩, hF⟩, st⟩ | ⟨q, st₀, t, T', L, E, ce, h0, X', hL, e1, e2, ⟨u, hp, hb, hF⟩, hce, hcv, hcl, st⟩
  · cases hv
    obtain ⟨k1, k2, k3⟩ := vx_keep h0 e1 hS hA hf hL hF
    obtain ⟨t2, a1, b1⟩ := kk r u t T'.heap (locs ++ L) e1.symm (by rw [← e2]; exact X'.warmed.alike) hp hb k1 k2 k3 T' rfl X'
    exact ⟨t2, st t2 a1, b1⟩
  · obtain ⟨k1, k2, k3⟩ := vx_keep h0 e1 hS hAX hf hL hF
    obtain ⟨t2, a1, b1⟩ := kx E ce q u t T'.heap (locs ++ L) e1.symm (by rw [← e2]; exact X'.warmed.alike) hp hb k1 k2 k3 (by rw [e1]; exact hce) hcv hcl T' rfl X'
    exact ⟨t2, st.trans a1, b1⟩
theorem vx_calld {S SX : Type} {post : UInt64 → S → Prop} {px : SX → Prop} {B : S → State → Prop} {BX : String → SX → State → Prop} {AX : Nat → Prop} (hr : vx_Run p l e R s m args below meth c H locs cells slots mc ms (F0 m pc ls st0) rest (va_Qd post B A1 a) (vx_X px BX AX) free) (hS : va_S A0 H0 H locs) (hA : ∀ q, q < H.size → A1 q → A0 q) (hf : ∀ q, free q → A0 q) (hAX : ∀ q, q < H.size → AX q → A0 q)
    (kx : ∀ (E : String) (ce : Cell) (q9 : Addr) (u : SX) (t : State) (H1 : Heap) (locs1 : List Loc), t.heap = H1 → s.vm.Alike t.vm → px u → BX E u t → H.size ≤ H1.size → (∀ q : Nat, q < H.size → ¬ AX q → H1[q]? = H[q]?) → va_S A0 H0 H1 locs1 → H1[q9]? = some ce → ce.vm = .none → s.vm.findClass E = some ce.cls → vx_W p l e R s m args below meth c H1 locs1 (cells + mc) (slots + ms) Q (F0 m pc ls rest) q9)
    (kk : ∀ (r : UInt64) (u : S) (t : State) (H1 : Heap) (locs1 : List Loc), t.heap = H1 → s.vm.Alike t.vm → post r u → B u t → H.size ≤ H1.size → (∀ q : Nat, q < H.size → ¬ A1 q → H1[q]? = H[q]?) → va_S A0 H0 H1 locs1 → W p l e R s m args below meth c H1 locs1 (cells + mc) (slots + ms) Q (F0 m (pc + 3) ls (.double r :: rest))) : W p l e R s m args below meth c H locs cells slots Q (F0 m pc ls st0) := by
  intro T hT X
  rcases hr T hT X with ⟨v, st₀, t, T', L, h0, X', hL, e1, e2, ⟨⟨r, u, hv, hp, hb⟩, hF⟩, st⟩ | ⟨q, st₀, t, T', L, E, ce, h0, X', hL, e1, e2, ⟨u, hp, hb, hF⟩, hce, hcv, hcl, st⟩
  · cases hv
    obtain ⟨k1, k2, k3⟩ := vx_keep h0 e1 hS hA hf hL hF
    obtain ⟨t2, a1, b1⟩ := kk r u t T'.heap (locs ++ L) e1.symm (by rw [← e2]; exact X'.warmed.alike) hp hb k1 k2 k3 T' rfl X'
    exact ⟨t2, st t2 a1, b1⟩
  · obtain ⟨k1, k2, k3⟩ := vx_keep h0 e1 hS hAX hf hL hF
    obtain ⟨t2, a1, b1⟩ := kx E ce q u t T'.heap (locs ++ L) e1.symm (by rw [← e2]; exact X'.warmed.alike) hp hb k1 k2 k3 (by rw [e1]; exact hce) hcv hcl T' rfl X'
    exact ⟨t2, st.trans a1, b1⟩
theorem vx_callv {S SX : Type} {post : S → Prop} {px : SX → Prop} {B : S → State → Prop} {BX : String → SX → State → Prop} {AX : Nat → Prop} (hr : vx_Run p l e R s m args below meth c H locs cells slots mc ms (F0 m pc ls st0) rest (va_Qv post B A1 a) (vx_X px BX AX) free) (hS : va_S A0 H0 H locs) (hA : ∀ q, q < H.size → A1 q → A0 q) (hf : ∀ q, free q → A0 q) (hAX : ∀ q, q < H.size → AX q → A0 q)
    (kx : ∀ (E : String) (ce : Cell) (q9 : Addr) (u : SX) (t : State) (H1 : Heap) (locs1 : List Loc), t.heap = H1 → s.vm.Alike t.vm → px u → BX E u t → H.size ≤ H1.size → (∀ q : Nat, q < H.size → ¬ AX q → H1[q]? = H[q]?) → va_S A0 H0 H1 locs1 → H1[q9]? = some ce → ce.vm = .none → s.vm.findClass E = some ce.cls → vx_W p l e R s m args below meth c H1 locs1 (cells + mc) (slots + ms) Q (F0 m pc ls rest) q9)
    (kk : ∀ (u : S) (t : State) (H1 : Heap) (locs1 : List Loc), t.heap = H1 → s.vm.Alike t.vm → post u → B u t → H.size ≤ H1.size → (∀ q : Nat, q < H.size → ¬ A1 q → H1[q]? = H[q]?) → va_S A0 H0 H1 locs1 → W p l e R s m args below meth c H1 locs1 (cells + mc) (slots + ms) Q (F0 m (pc + 3) ls (rest))) : W p l e R s m args below meth c H locs cells slots Q (F0 m pc ls st0) := by
  intro T hT X
  rcases hr T hT X with ⟨v, st₀, t, T', L, h0, X', hL, e1, e2, ⟨⟨u, hv, hp, hb⟩, hF⟩, st⟩ | ⟨q, st₀, t, T', L, E, ce, h0, X', hL, e1, e2, ⟨u, hp, hb, hF⟩, hce, hcv, hcl, st⟩
  · cases hv
    obtain ⟨k1, k2, k3⟩ := vx_keep h0 e1 hS hA hf hL hF
    obtain ⟨t2, a1, b1⟩ := kk u t T'.heap (locs ++ L) e1.symm (by rw [← e2]; exact X'.warmed.alike) hp hb k1 k2 k3 T' rfl X'
    exact ⟨t2, st t2 a1, b1⟩
  · obtain ⟨k1, k2, k3⟩ := vx_keep h0 e1 hS hAX hf hL hF
    obtain ⟨t2, a1, b1⟩ := kx E ce q u t T'.heap (locs ++ L) e1.symm (by rw [← e2]; exact X'.warmed.alike) hp hb k1 k2 k3 (by rw [e1]; exact hce) hcv hcl T' rfl X'
    exact ⟨t2, st.trans a1, b1⟩
end Rows
section Ends
variable {p : Program} {l : Launch} {e : Env} {R : Room} {s : State} {m : MethodId} {args : Array Value} {below : List Frame} {meth : Method} {c : Code} {H : Heap} {locs : List Loc} {cells slots : Nat} {Q : State → Prop}
variable {mc ms : Nat} {free : Addr → Prop} {A0 A1 : Nat → Prop} {H0 : Heap} {a : Array Value} {ls : Array Slot} {st0 rest : List Value}
variable {Qc : Array Value → State → Outcome → State → Prop} {XC : String → State → State → Prop}
/-- what a body that may throw owes at its end -/
def vx_MQ (below : List Frame) (Qc : Array Value → State → Outcome → State → Prop) (XC : String → State → State → Prop) (a : Array Value) (s : State) (mc ms : Nat) (free : Addr → Prop) : State → Prop := fun t =>
  ∃ o, t.status = .running ∧ Ended t below o ∧ vx_Q Qc XC mc ms free a s o t
theorem vx_ret {g : JFrame} {mc ms : Nat} (k : W p l e R s m args below meth c H locs cells slots (MQ below Qc args s mc ms free) g) : W p l e R s m args below meth c H locs cells slots (vx_MQ below Qc XC args s mc ms free) g := by
  intro T hT X
  obtain ⟨t, a1, o, b1, b2, b3, b4⟩ := k T hT X
  exact ⟨t, a1, o, b1, b2, Or.inl ⟨b3, b4⟩⟩
/-- not caught here: it goes on to the caller -/
theorem vx_widen {g : JFrame} {q : Addr} {k n : Nat} (h1 : cells ≤ k) (h2 : slots ≤ n) (kk : vx_W p l e R s m args below meth c H locs k n Q g q) : vx_W p l e R s m args below meth c H locs cells slots Q g q := fun T hT X => kk T hT (stand_widen X h1 h2)
theorem vx_out {pc : Nat} {E : String} {ce : Cell} {q : Addr} {mc ms : Nat} (hout : ∀ x ∈ c.exceptionTable.toList, covers x pc = false) (hlocks : meth.locks = false) (hcell : H[q]? = some ce) (hv : ce.vm = .none) (hcl : s.vm.findClass E = some ce.cls)
    (hx : ∀ t : State, t.heap = H → s.vm.Alike t.vm → XC E s t) (hf : ∀ z ∈ locs, free z.base) (hc : cells ≤ mc) (hs : slots ≤ ms) :
    vx_W p l e R s m args below meth c H locs cells slots (vx_MQ below Qc XC args s mc ms free) (F0 m pc ls rest) q := by
  intro T hT X
  obtain ⟨st1, hrun, hend, hW, hsm⟩ := X.leaveThrown q (g := F0 m pc ls rest) rfl rfl rfl hout hlocks
  have hcell9 : (T.setFrames (.throwing q :: below)).heap[q]? = some ce := by
    show T.heap[q]? = some ce
    rw [hT]; exact hcell
  exact ⟨_, st1, .threw q, hrun, hend, Or.inr ⟨q, rfl, E, ce, locs, hx _ hT hW.alike, hcell9, hv, hcl, hW, hsm.mono hc hs, hf⟩⟩
theorem vx_frame {U : State} {k n : Nat} (h : s.sameButNew ({ U with vm := s.vm } : State) locs k n) : s.heap.size ≤ U.heap.size ∧ ∀ q : Nat, q < s.heap.size → (∀ z ∈ locs, z.base ≠ q) → U.heap[q]? = s.heap[q]? := by
  obtain ⟨-, h2, -, -, -, h6⟩ := h
  refine ⟨h2, fun q hq hz => ?_⟩
  obtain ⟨c9, e1, e2, e3, e4⟩ := h6 q _ (Array.getElem?_eq_getElem hq)
  have hs : c9.slots = (s.heap[q]).slots := Array.ext_getElem? fun i => e4 i fun hm => hz _ hm rfl
  have h9 : c9 = s.heap[q] := by
    rw [hs] at e2
    exact e2
  have e5 : U.heap[q]? = some c9 := e1
  rw [e5, h9, Array.getElem?_eq_getElem hq]
/-- the words of a throw but the four that speak of the heap -/
def vx_no (w : Cond) : Bool := decide (w ≠ .isRef (.static Bundle.tN "UNASSIGNED_STACK" Bundle.steD)) && decide (w ≠ .isRef (.static Bundle.tN "SUPPRESSED_SENTINEL" Bundle.listD)) && decide (w ≠ .laysStatic Bundle.tN "UNASSIGNED_STACK" Bundle.steD) && decide (w ≠ .laysStatic Bundle.tN "SUPPRESSED_SENTINEL" Bundle.listD)
def vx_at0 (own : String) (ic : Nat) (X : String) (names : List String) : List Cond := (Bundle.ownAtoms0 own ic X names).filter vx_no
def vx_atS (own : String) (ic : Nat) (X : String) (names : List String) : List Cond := (Bundle.ownAtoms own ic X names).filter vx_no
/-- a word that the tables alone decide, or a good one -/
def vx_ot (w : Cond) : Bool := w.onTables || goodWord w
theorem vx_ot_at {args a' : Array Value} {s U : State} {w : Cond} (hW : s.WarmedH U.vm) (hvm : s.vm = U.vm) (hg : vx_ot w = true) (h : w.before args s = true) : w.before a' U = true := by
  simp only [vx_ot, Bool.or_eq_true] at hg
  rcases hg with hg | hg
  · exact va_tabs hg hvm h
  · exact word_at hW (good_of_word hg) h
/-- a list's words: the good ones out of the method's own list, the others by premises of their own -/
theorem vx_hat {args : Array Value} {s : State} {L B : List Cond} (h1 : ∀ w ∈ L.filter goodWord, w.before args s = true) (h2 : ∀ w ∈ L.filter (fun w => !goodWord w), w ∈ B) (h3 : ∀ w ∈ B, w.before args s = true) : ∀ w ∈ L, w.before args s = true := by
  intro w hw
  by_cases g : goodWord w = true
  · exact h1 w (List.mem_filter.mpr ⟨hw, g⟩)
  · refine h3 w (h2 w (List.mem_filter.mpr ⟨hw, ?_⟩))
    show (!goodWord w) = true
    cases hgw : goodWord w
    · rfl
    · exact absurd hgw g
theorem vx_c {args : Array Value} {s : State} {w : Cond} {B : List Cond} (h : w.before args s = true) (t : ∀ w ∈ B, w.before args s = true) : ∀ w' ∈ w :: B, w'.before args s = true := fun w' h' => (List.mem_cons.mp h').elim (fun e => by rw [e]; exact h) (t w')
theorem vx_n {args : Array Value} {s : State} : ∀ w ∈ ([] : List Cond), w.before args s = true := fun _ h => nomatch h
theorem vx_own {args : Array Value} {s : State} {L : List Cond} (h1 : ∀ w ∈ L.filter vx_no, w.before args s = true)
    (hU : (Cond.isRef (.static Bundle.tN "UNASSIGNED_STACK" Bundle.steD)).before args s = true) (hN : (Cond.isRef (.static Bundle.tN "SUPPRESSED_SENTINEL" Bundle.listD)).before args s = true)
    (lU : (Cond.laysStatic Bundle.tN "UNASSIGNED_STACK" Bundle.steD).before args s = true) (lN : (Cond.laysStatic Bundle.tN "SUPPRESSED_SENTINEL" Bundle.listD).before args s = true) : ∀ w ∈ L, w.before args s = true := by
  intro w hw
  by_cases e1 : w = .isRef (.static Bundle.tN "UNASSIGNED_STACK" Bundle.steD)
  · rw [e1]; exact hU
  · by_cases e2 : w = .isRef (.static Bundle.tN "SUPPRESSED_SENTINEL" Bundle.listD)
    · rw [e2]; exact hN
    · by_cases e3 : w = .laysStatic Bundle.tN "UNASSIGNED_STACK" Bundle.steD
      · rw [e3]; exact lU
      · by_cases e4 : w = .laysStatic Bundle.tN "SUPPRESSED_SENTINEL" Bundle.listD
        · rw [e4]; exact lN
        · exact h1 w (List.mem_filter.mpr ⟨hw, by unfold vx_no; rw [decide_eq_true e1, decide_eq_true e2, decide_eq_true e3, decide_eq_true e4]; rfl⟩)
/-- where a static field lies, its class's statics cell in H -/
def vx_L (C n d : String) (A : Nat → Prop) (U : State) (H : Heap) : Prop := ∃ (c : ClassId) (k : Class) (i : Nat) (f : Field) (a : Nat) (cell : Cell), U.vm.findClass C = some c ∧ U.fieldFound? C n d = some (c, k, i, f) ∧ f.isStatic = true ∧ k.statics = some a ∧ H[a]? = some cell ∧ cell.vm.isStatics = true ∧ cell.cls = c ∧ f.slot < cell.slots.size ∧ k.staticTypes[f.slot]? = some f.type ∧ ¬ A a
theorem vx_L.moved {C n d : String} {A : Nat → Prop} {u U : State} {H : Heap} (hvm : u.vm.Alike U.vm) (h : vx_L C n d A u H) : vx_L C n d A U H := by
  obtain ⟨c, k, i, f, a, cell, h1, h2, h3, h4, h5, h6, h7, h8, h9, h10⟩ := h
  obtain ⟨k', hi', he⟩ := State.fieldFound?_setVm hvm h2
  exact ⟨c, k', i, f, a, cell, by rw [hvm.findClass]; exact h1, hi', h3, by rw [he]; exact h4, h5, h6, h7, h8, by rw [he]; exact h9, h10⟩
theorem vx_L.kept {C n d : String} {A : Nat → Prop} {U : State} {H H1 : Heap} (h : vx_L C n d A U H) (hq : ∀ a : Nat, a < H.size → ¬ A a → H1[a]? = H[a]?) : vx_L C n d A U H1 := by
  obtain ⟨c, k, i, f, a, cell, h1, h2, h3, h4, h5, h6, h7, h8, h9, h10⟩ := h
  exact ⟨c, k, i, f, a, cell, h1, h2, h3, h4, by rw [hq a (Array.getElem?_eq_some_iff.mp h5).1 h10]; exact h5, h6, h7, h8, h9, h10⟩
theorem vx_L.narrow {C n d : String} {A B : Nat → Prop} {U : State} {H : Heap} (h : vx_L C n d A U H) (hAB : ∀ q, B q → A q) : vx_L C n d B U H := by
  obtain ⟨c, k, i, f, a, cell, h1, h2, h3, h4, h5, h6, h7, h8, h9, h10⟩ := h
  exact ⟨c, k, i, f, a, cell, h1, h2, h3, h4, h5, h6, h7, h8, h9, fun z => h10 (hAB _ z)⟩
theorem vx_L.word {C n d : String} {A : Nat → Prop} {s : State} {args : Array Value} (h : vx_L C n d A s s.heap) : (Cond.laysStatic C n d).before args s = true := by
  obtain ⟨c, k, i, f, a, cell, h1, h2, h3, h4, h5, h6, h7, h8, h9, -⟩ := h
  show (Cond.laysStatic C n d).holds args s none s [] = true
  exact Cond.laysStatic_of h1 h2 h3 h4 h5 h6 h7 h8 h9
/-- .. and what it holds: null or some reference -/
def vx_Zq (C n d : String) (A : Nat → Prop) (U : State) (H : Heap) : Prop := va_Zq C n d A U H ∧ vx_L C n d A U H
theorem vx_Zq.moved {C n d : String} {A : Nat → Prop} {u U : State} {H : Heap} (hvm : u.vm.Alike U.vm) (h : vx_Zq C n d A u H) : vx_Zq C n d A U H := ⟨va_Zq.moved hvm h.1, vx_L.moved hvm h.2⟩
theorem vx_Zq.kept {C n d : String} {A : Nat → Prop} {U : State} {H H1 : Heap} (h : vx_Zq C n d A U H) (hq : ∀ a : Nat, a < H.size → ¬ A a → H1[a]? = H[a]?) : vx_Zq C n d A U H1 := ⟨va_Zq.kept h.1 hq, vx_L.kept h.2 hq⟩
theorem vx_Zq.narrow {C n d : String} {A B : Nat → Prop} {U : State} {H : Heap} (h : vx_Zq C n d A U H) (hAB : ∀ q, B q → A q) : vx_Zq C n d B U H := ⟨va_Zq.narrow h.1 hAB, vx_L.narrow h.2 hAB⟩
theorem vx_Zqof {args : Array Value} {s : State} {C n d : String} {A : Nat → Prop} (hl : (Cond.laysStatic C n d).before args s = true) (hini : (Cond.initialized C).before args s = true) (h : (Cond.isRef (.static C n d)).before args s = true) (hA : ∀ a : Nat, a < s.heap.size → ¬ A a) : vx_Zq C n d A s s.heap := by
  refine ⟨va_Zqof hl hini h hA, ?_⟩
  obtain ⟨c, k, i, f, a, cell, h1, h2, h3, h4, h5, h6, h7, h8, h9⟩ := Cond.laysStatic_spec hl
  exact ⟨c, k, i, f, a, cell, h1, h2, h3, h4, h5, h6, h7, h8, h9, hA a (Array.getElem?_eq_some_iff.mp h5).1⟩
theorem vx_isRef {C n d : String} {v : Value} {A : Nat → Prop} {s : State} {args : Array Value} (h : va_Z C n d v A s s.heap) (hv : v.isRef = true) : (Cond.isRef (.static C n d)).before args s = true := by
  obtain ⟨cf, kf, fi, f, a, cell, h1, h2, h3, h4, h5, h6, h7, -⟩ := h
  have he : (Term.static C n d).eval args s none [] s = some v := by
    simp [Term.eval, State.fieldNamed?, h1, h2, h4, h5, h6, h7]
  simp only [Cond.before, Cond.holds, Cond.value, he]
  cases v <;> simp_all [Value.isRef]
theorem vx_isRefq {C n d : String} {A : Nat → Prop} {s : State} {args : Array Value} (h : va_Zq C n d A s s.heap) : (Cond.isRef (.static C n d)).before args s = true := by
  rcases h with h | ⟨t, h⟩
  · exact vx_isRef h rfl
  · exact vx_isRef h rfl
/-- the same frame, seen from here: as if the method were called anew in this heap -/
theorem vx_rebase {T : State} (X : Stand p l e R s m args below meth c T locs cells slots) {R' : Room} (hf : R'.frames ≤ R.frames) (hl : R'.locals ≤ R.locals) (hc : cells + R'.cells ≤ R.cells) (hs : slots + R'.slots ≤ R.slots) :
    Stand p l e R' ((T.setVm s.vm).setFrames (.invoking m args :: below)) m args below meth c T [] 0 0 := by
  have htop : (T.setVm s.vm).topJava?.isSome := X.here.top
  have hF : ((T.setVm s.vm).setFrames (.invoking m args :: below)).frames = .invoking m args :: below := State.frames_setFrames _ (State.cur_lt_of_top htop)
  obtain ⟨g₀, hg0⟩ := Option.isSome_iff_exists.mp htop
  obtain ⟨r, hr⟩ := State.topJava?_eq_some.mp hg0
  have hl9 : e.platform.stackLimits (T.setVm s.vm).me = e.platform.stackLimits s.me := X.limits
  have hb9 : (T.setVm s.vm).me.stackBytes = s.me.stackBytes := X.bytes
  refine ⟨X.admits, X.cas, X.clock, hF, ?_, X.hears, X.method, X.code, X.here, X.tail, X.warmed, ?_, ?_, ?_⟩
  · have h := X.room
    have hU : ((T.setVm s.vm).setFrames (.invoking m args :: below)).localsInUse = s.localsInUse := by
      rw [State.localsInUse_invoking hF (meth := meth) (c := c) X.method X.code, State.localsInUse_invoking X.frames X.method X.code]
    simp only [State.hasRoom, Bool.and_eq_true, decide_eq_true_eq] at h ⊢
    obtain ⟨⟨⟨⟨h1, h2, h3, h4, h5, h6⟩, h7⟩, h8⟩, h9⟩ := h
    rw [X.frames, List.length_cons] at h2 h3
    have q1 := X.heapSize
    have q2 := X.used
    simp only [hF, hU, List.length_cons, State.stackLimits_setFrames, State.stackBytes_setFrames, hl9, hb9]
    refine ⟨⟨⟨⟨by omega, by omega, by omega, by omega, by omega, h6⟩, ?_⟩, ?_⟩, X.book⟩
    · show T.heap.size + R'.cells ≤ e.platform.maxCells
      omega
    · show T.slotsUsed + R'.slots ≤ e.platform.maxSlots
      omega
  · rw [State.stackLimits_setFrames]; rfl
  · rw [State.stackBytes_setFrames]; rfl
  · refine ⟨?_, Nat.le_refl _, Nat.le_refl _, ?_, ?_, fun a c9 h9 => ⟨c9, h9, rfl, rfl, fun _ _ => rfl⟩⟩
    · obtain ⟨t, ht, -⟩ := State.frames_cons hr
      show T.setVm s.vm = { ((T.setVm s.vm).setFrames (.invoking m args :: below)).setFrames (T.setVm s.vm).frames with heap := T.heap, slotsUsed := T.slotsUsed }
      rw [State.setFrames_setFrames, State.setFrames_self ht]
      rfl
    · show T.slotsUsed = T.slotsUsed + ((T.heap.toList.drop T.heap.size).map (·.slots.size)).sum
      rw [List.drop_eq_nil_of_le (Nat.le_of_eq Array.length_toList)]
      rfl
    · show ((T.heap.toList.drop T.heap.size).map (·.slots.size)).sum ≤ 0
      rw [List.drop_eq_nil_of_le (Nat.le_of_eq Array.length_toList)]
      exact Nat.le_refl _
/-- 'throw new E()': new; dup; invokespecial; athrow -/
theorem vx_throw0 {cc : ByteArray} {pc : Nat} (hexec : p.tables.exec = Jvm.exec) (hb : c.code = cc) (hl : l.stackTraces = false) {own cls : String} {names : List String} {ik ic mc ms : Nat} {A : Nat → Prop}
    (hown : s.vm.findClass own = some m.cls) (hcls : Bundle.fit cls = true) (hnames : ∀ n ∈ names, Bundle.fit n = true)
    (hk : (Cond.classLink own ik cls).before args s = true) (hini : (Cond.initialized cls).before args s = true) (hat : ∀ w ∈ vx_at0 own ic cls names, w.before args s = true)
    (hgood : ∀ w ∈ Cond.classLink own ik cls :: Cond.initialized cls :: vx_at0 own ic cls names, vx_ot w = true)
    (hU : vx_Zq Bundle.tN "UNASSIGNED_STACK" Bundle.steD A s s.heap) (hN : vx_Zq Bundle.tN "SUPPRESSED_SENTINEL" Bundle.listD A s s.heap) (hS : va_S A s.heap H locs) (hsize : ls.size = c.maxLocals)
    (d0 : decode cc pc = .ok (.new ik, 3)) (d3 : decode cc (pc + 3) = .ok (.dup, 1)) (d4 : decode cc (pc + 4) = .ok (.invokespecial ic, 3)) (d7 : decode cc (pc + 7) = .ok (.athrow, 1))
    (hout : ∀ x ∈ c.exceptionTable.toList, covers x (pc + 7) = false)
    (hRframes : names.length + 3 < R.frames) (hRlocals : (rest.map fun v => v.category).sum + (13 * (names.length + 1) + 42) ≤ R.locals) (hRcells : cells + 1 ≤ R.cells) (hRslots : slots + 6 ≤ R.slots) (hlocks : meth.locks = false)
    (hx : ∀ t : State, s.vm.Alike t.vm → H.size ≤ t.heap.size → (∀ q : Nat, q < H.size → t.heap[q]? = H[q]?) → XC cls s t)
    (hf : ∀ z ∈ locs, free z.base) (hc : cells + 1 ≤ mc) (hs : slots + 6 ≤ ms) :
    W p l e R s m args below meth c H locs cells slots (vx_MQ below Qc XC args s mc ms free) (F0 m pc ls rest) := by
  intro T hT X
  have htr : e.platform.stackTraces = false := (show e.platform.stackTraces = l.stackTraces by rw [X.admits.platform]).trans hl
  have Y := vx_rebase X (R' := { frames := R.frames, locals := R.locals, cells := 1, slots := 6 }) (Nat.le_refl _) (Nat.le_refl _) hRcells hRslots
  obtain ⟨s', hA⟩ : ∃ z, z = (T.setVm s.vm).setFrames (.invoking m args :: below) := ⟨_, rfl⟩
  rw [← hA] at Y
  have hvm : s'.vm = s.vm := by rw [hA]; rfl
  have hhp : s'.heap = H := by rw [hA]; exact hT
  have hW0 : s.WarmedH s'.vm := by rw [hvm]; exact State.WarmedH.refl s
  have hat' : ∀ w ∈ vx_at0 own ic cls names, w.before args s' = true := fun w hw => vx_ot_at hW0 hvm.symm (hgood w (List.mem_cons_of_mem _ (List.mem_cons_of_mem _ hw))) (hat w hw)
  have hk' : (Cond.classLink own ik cls).before args s' = true := vx_ot_at hW0 hvm.symm (hgood _ List.mem_cons_self) hk
  have hini' : (Cond.initialized cls).before args s' = true := vx_ot_at hW0 hvm.symm (hgood _ (List.mem_cons_of_mem _ List.mem_cons_self)) hini
  have hU' : vx_Zq Bundle.tN "UNASSIGNED_STACK" Bundle.steD A s' s'.heap := by rw [hhp]; exact vx_Zq.moved hW0.alike (hU.kept hS.2.1)
  have hN' : vx_Zq Bundle.tN "SUPPRESSED_SENTINEL" Bundle.listD A s' s'.heap := by rw [hhp]; exact vx_Zq.moved hW0.alike (hN.kept hS.2.1)
  have h : ∀ w ∈ Bundle.ownAtoms0 own ic cls names, w.before args s' = true := vx_own hat' (vx_isRefq hU'.1) (vx_isRefq hN'.1) hU'.2.word hN'.2.word
  have hown' : s'.vm.findClass own = some m.cls := by rw [hvm]; exact hown
  have hins : (Cond.instantiable cls 6).before args s' = true := h _ (by simp [Bundle.ownAtoms0])
  obtain ⟨vm₁, cX, kX, hfX, hkX, -, -, X₁, st1⟩ := Y.newCold hexec (own := own) (C := cls) (index := ik) (n := 6) hown' hk' hins hini'
    (g := F0 m pc ls rest) rfl (by rw [hb]; exact d0) (Nat.le_refl _) (Nat.le_refl _)
  generalize hT1 : (T.setVm vm₁).pushCell { cls := cX, slots := kX.instanceTypes.map defaultValue, vm := .none } = T1 at X₁ st1
  have hcat : (Value.ref T.heap.size).category = 1 := rfl
  have hcellA : T1.heap[T.heap.size]? = some (freshCell cX kX) := by rw [← hT1]; exact State.heap_pushCell_size _ _
  have d3' : decode c.code (pc + 3) = .ok (.dup, 1) := by rw [hb]; exact d3
  obtain ⟨U, hsteps, hrun, hend, hW, hsame, ce, hce, hO⟩ := X₁.ctorThrow0 hexec htr (own := own) (cls := cls) (names := names) (ic := ic) hown' hcls hnames h (fun x hx => nomatch hx) hfX hkX hcellA (by rw [hhp, hT]; exact Nat.le_refl _)
    (g := { method := m, pc := pc + 4, locals := ls, stack := .ref T.heap.size :: .ref T.heap.size :: rest, locked := none }) rfl hsize rfl rfl (rest := rest) rfl
    (by rw [hb]; exact d4) (by rw [hb]; exact d7) hout hRframes (by simp only [List.map_cons, List.sum_cons, hcat]; omega) hlocks
  obtain ⟨f1, f2⟩ := vx_frame hsame
  rw [hhp] at f1 f2
  have hWs : s.WarmedH U.vm := State.WarmedH.trans hW0 hW
  have hcl : s.vm.findClass cls = some ce.cls := by
    have h9 := hO.cls
    rw [hvm] at h9
    exact h9
  have hall : s.sameButNew ({ U with vm := s.vm } : State) locs mc ms := by
    subst hA
    obtain ⟨e1, e2⟩ := hsame
    rw [State.setFrames_setFrames] at e1
    have h2 : (T.setVm s.vm).sameButNew ({ U with vm := s.vm } : State) [] (0 + 1) (0 + 6) := ⟨e1, e2⟩
    have h3 := X.same.trans h2
    rw [List.append_nil] at h3
    exact h3.mono hc hs
  refine ⟨U, ?_, .threw T.heap.size, hrun, hend, Or.inr ⟨T.heap.size, rfl, cls, ce, locs, hx U hWs.alike f1 (fun q hq => f2 q hq (fun z hz => nomatch hz)), hce, hO.vm, hcl, hWs, hall, hf⟩⟩
  refine st1 _ ?_
  show Steps p.tables e below (T1.setTop { method := m, pc := pc + 3, locals := ls, stack := .ref T.heap.size :: rest, locked := none }) _
  jvm_step X₁.here [X₁.here.top, hexec, d3', Value.category]
  exact hsteps
/-- 'throw new E("text")': new; dup; ldc; invokespecial; athrow -/
theorem vx_throwS {cc : ByteArray} {pc : Nat} (hexec : p.tables.exec = Jvm.exec) (hb : c.code = cc) (hl : l.stackTraces = false) {own cls text : String} {names : List String} {ik is ic mc ms sa : Nat} {A : Nat → Prop}
    (hown : s.vm.findClass own = some m.cls) (hcls : Bundle.fit cls = true) (hnames : ∀ n ∈ names, Bundle.fit n = true)
    (hk : (Cond.classLink own ik cls).before args s = true) (hini : (Cond.initialized cls).before args s = true) (hstr : vk_R own is text sa s) (hat : ∀ w ∈ vx_atS own ic cls names, w.before args s = true)
    (hgood : ∀ w ∈ Cond.classLink own ik cls :: Cond.initialized cls :: vx_atS own ic cls names, vx_ot w = true)
    (hU : vx_Zq Bundle.tN "UNASSIGNED_STACK" Bundle.steD A s s.heap) (hN : vx_Zq Bundle.tN "SUPPRESSED_SENTINEL" Bundle.listD A s s.heap) (hS : va_S A s.heap H locs) (hsize : ls.size = c.maxLocals)
    (d0 : decode cc pc = .ok (.new ik, 3)) (d3 : decode cc (pc + 3) = .ok (.dup, 1)) (d4 : decode cc (pc + 4) = .ok (.ldc is, 2)) (d6 : decode cc (pc + 6) = .ok (.invokespecial ic, 3)) (d9 : decode cc (pc + 9) = .ok (.athrow, 1))
    (hout : ∀ x ∈ c.exceptionTable.toList, covers x (pc + 9) = false)
    (hRframes : names.length + 3 < R.frames) (hRlocals : (rest.map fun v => v.category).sum + (13 * (names.length + 1) + 43) ≤ R.locals) (hRcells : cells + 1 ≤ R.cells) (hRslots : slots + 6 ≤ R.slots) (hlocks : meth.locks = false)
    (hx : ∀ t : State, s.vm.Alike t.vm → H.size ≤ t.heap.size → (∀ q : Nat, q < H.size → t.heap[q]? = H[q]?) → XC cls s t)
    (hf : ∀ z ∈ locs, free z.base) (hc : cells + 1 ≤ mc) (hs : slots + 6 ≤ ms) :
    W p l e R s m args below meth c H locs cells slots (vx_MQ below Qc XC args s mc ms free) (F0 m pc ls rest) := by
  intro T hT X
  have htr : e.platform.stackTraces = false := (show e.platform.stackTraces = l.stackTraces by rw [X.admits.platform]).trans hl
  have Y := vx_rebase X (R' := { frames := R.frames, locals := R.locals, cells := 1, slots := 6 }) (Nat.le_refl _) (Nat.le_refl _) hRcells hRslots
  obtain ⟨s', hA⟩ : ∃ z, z = (T.setVm s.vm).setFrames (.invoking m args :: below) := ⟨_, rfl⟩
  rw [← hA] at Y
  have hvm : s'.vm = s.vm := by rw [hA]; rfl
  have hhp : s'.heap = H := by rw [hA]; exact hT
  have hW0 : s.WarmedH s'.vm := by rw [hvm]; exact State.WarmedH.refl s
  have hat' : ∀ w ∈ vx_atS own ic cls names, w.before args s' = true := fun w hw => vx_ot_at hW0 hvm.symm (hgood w (List.mem_cons_of_mem _ (List.mem_cons_of_mem _ hw))) (hat w hw)
  have hk' : (Cond.classLink own ik cls).before args s' = true := vx_ot_at hW0 hvm.symm (hgood _ List.mem_cons_self) hk
  have hini' : (Cond.initialized cls).before args s' = true := vx_ot_at hW0 hvm.symm (hgood _ (List.mem_cons_of_mem _ List.mem_cons_self)) hini
  have hU' : vx_Zq Bundle.tN "UNASSIGNED_STACK" Bundle.steD A s' s'.heap := by rw [hhp]; exact vx_Zq.moved hW0.alike (hU.kept hS.2.1)
  have hN' : vx_Zq Bundle.tN "SUPPRESSED_SENTINEL" Bundle.listD A s' s'.heap := by rw [hhp]; exact vx_Zq.moved hW0.alike (hN.kept hS.2.1)
  have h : ∀ w ∈ Bundle.ownAtoms own ic cls names, w.before args s' = true := vx_own hat' (vx_isRefq hU'.1) (vx_isRefq hN'.1) hU'.2.word hN'.2.word
  have hown' : s'.vm.findClass own = some m.cls := by rw [hvm]; exact hown
  have hins : (Cond.instantiable cls 6).before args s' = true := h _ (by simp [Bundle.ownAtoms])
  obtain ⟨vm₁, cX, kX, hfX, hkX, -, -, X₁, st1⟩ := Y.newCold hexec (own := own) (C := cls) (index := ik) (n := 6) hown' hk' hins hini'
    (g := F0 m pc ls rest) rfl (by rw [hb]; exact d0) (Nat.le_refl _) (Nat.le_refl _)
  generalize hT1 : (T.setVm vm₁).pushCell { cls := cX, slots := kX.instanceTypes.map defaultValue, vm := .none } = T1 at X₁ st1
  have hcat : (Value.ref T.heap.size).category = 1 := rfl
  have hcellA : T1.heap[T.heap.size]? = some (freshCell cX kX) := by rw [← hT1]; exact State.heap_pushCell_size _ _
  have d3' : decode c.code (pc + 3) = .ok (.dup, 1) := by rw [hb]; exact d3
  have d4' : decode c.code (pc + 4) = .ok (.ldc is, 2) := by rw [hb]; exact d4
  have hstr' : vk_R own is text sa s' := vk_R.warm hW0 hstr
  obtain ⟨U, hsteps, hrun, hend, hW, hsame, ce, hce, hO⟩ := X₁.ctorThrowS hexec htr (own := own) (cls := cls) (names := names) (ic := ic) hown' hcls hnames h (fun x hx => nomatch hx) hfX hkX hcellA (by rw [hhp, hT]; exact Nat.le_refl _) (msg := .ref sa) rfl
    (g := { method := m, pc := pc + 6, locals := ls, stack := .ref sa :: .ref T.heap.size :: .ref T.heap.size :: rest, locked := none }) rfl hsize rfl rfl (rest := rest) rfl
    (by rw [hb]; exact d6) (by rw [hb]; exact d9) hout hRframes (by simp only [List.map_cons, List.sum_cons, hcat]; omega) hlocks
  obtain ⟨f1, f2⟩ := vx_frame hsame
  rw [hhp] at f1 f2
  have hWs : s.WarmedH U.vm := State.WarmedH.trans hW0 hW
  have hcl : s.vm.findClass cls = some ce.cls := by
    have h9 := hO.cls
    rw [hvm] at h9
    exact h9
  have hall : s.sameButNew ({ U with vm := s.vm } : State) locs mc ms := by
    subst hA
    obtain ⟨e1, e2⟩ := hsame
    rw [State.setFrames_setFrames] at e1
    have h2 : (T.setVm s.vm).sameButNew ({ U with vm := s.vm } : State) [] (0 + 1) (0 + 6) := ⟨e1, e2⟩
    have h3 := X.same.trans h2
    rw [List.append_nil] at h3
    exact h3.mono hc hs
  refine ⟨U, ?_, .threw T.heap.size, hrun, hend, Or.inr ⟨T.heap.size, rfl, cls, ce, locs, hx U hWs.alike f1 (fun q hq => f2 q hq (fun z hz => nomatch hz)), hce, hO.vm, hcl, hWs, hall, hf⟩⟩
  refine st1 _ ?_
  show Steps p.tables e below (T1.setTop { method := m, pc := pc + 3, locals := ls, stack := .ref T.heap.size :: rest, locked := none }) _
  jvm_step X₁.here [X₁.here.top, hexec, d3', Value.category]
  exact X₁.ldcString hexec (own := own) (text := text) (index := is) (a := sa) hown' hstr'.1 hstr'.2
    (g := { method := m, pc := pc + 4, locals := ls, stack := .ref T.heap.size :: .ref T.heap.size :: rest, locked := none }) rfl d4' _ hsteps
/-- 'throw new E("text")', the text by a wide index -/
theorem vx_throwSW {cc : ByteArray} {pc : Nat} (hexec : p.tables.exec = Jvm.exec) (hb : c.code = cc) (hl : l.stackTraces = false) {own cls text : String} {names : List String} {ik is ic mc ms sa : Nat} {A : Nat → Prop}
    (hown : s.vm.findClass own = some m.cls) (hcls : Bundle.fit cls = true) (hnames : ∀ n ∈ names, Bundle.fit n = true)
    (hk : (Cond.classLink own ik cls).before args s = true) (hini : (Cond.initialized cls).before args s = true) (hstr : vk_R own is text sa s) (hat : ∀ w ∈ vx_atS own ic cls names, w.before args s = true)
    (hgood : ∀ w ∈ Cond.classLink own ik cls :: Cond.initialized cls :: vx_atS own ic cls names, vx_ot w = true)
    (hU : vx_Zq Bundle.tN "UNASSIGNED_STACK" Bundle.steD A s s.heap) (hN : vx_Zq Bundle.tN "SUPPRESSED_SENTINEL" Bundle.listD A s s.heap) (hS : va_S A s.heap H locs) (hsize : ls.size = c.maxLocals)
    (d0 : decode cc pc = .ok (.new ik, 3)) (d3 : decode cc (pc + 3) = .ok (.dup, 1)) (d4 : decode cc (pc + 4) = .ok (.ldc_w is, 3)) (d7 : decode cc (pc + 7) = .ok (.invokespecial ic, 3)) (d10 : decode cc (pc + 10) = .ok (.athrow, 1))
    (hout : ∀ x ∈ c.exceptionTable.toList, covers x (pc + 10) = false)
    (hRframes : names.length + 3 < R.frames) (hRlocals : (rest.map fun v => v.category).sum + (13 * (names.length + 1) + 43) ≤ R.locals) (hRcells : cells + 1 ≤ R.cells) (hRslots : slots + 6 ≤ R.slots) (hlocks : meth.locks = false)
    (hx : ∀ t : State, s.vm.Alike t.vm → H.size ≤ t.heap.size → (∀ q : Nat, q < H.size → t.heap[q]? = H[q]?) → XC cls s t)
    (hf : ∀ z ∈ locs, free z.base) (hc : cells + 1 ≤ mc) (hs : slots + 6 ≤ ms) :
    W p l e R s m args below meth c H locs cells slots (vx_MQ below Qc XC args s mc ms free) (F0 m pc ls rest) := by
  intro T hT X
  have htr : e.platform.stackTraces = false := (show e.platform.stackTraces = l.stackTraces by rw [X.admits.platform]).trans hl
  have Y := vx_rebase X (R' := { frames := R.frames, locals := R.locals, cells := 1, slots := 6 }) (Nat.le_refl _) (Nat.le_refl _) hRcells hRslots
  obtain ⟨s', hA⟩ : ∃ z, z = (T.setVm s.vm).setFrames (.invoking m args :: below) := ⟨_, rfl⟩
  rw [← hA] at Y
  have hvm : s'.vm = s.vm := by rw [hA]; rfl
  have hhp : s'.heap = H := by rw [hA]; exact hT
  have hW0 : s.WarmedH s'.vm := by rw [hvm]; exact State.WarmedH.refl s
  have hat' : ∀ w ∈ vx_atS own ic cls names, w.before args s' = true := fun w hw => vx_ot_at hW0 hvm.symm (hgood w (List.mem_cons_of_mem _ (List.mem_cons_of_mem _ hw))) (hat w hw)
  have hk' : (Cond.classLink own ik cls).before args s' = true := vx_ot_at hW0 hvm.symm (hgood _ List.mem_cons_self) hk
  have hini' : (Cond.initialized cls).before args s' = true := vx_ot_at hW0 hvm.symm (hgood _ (List.mem_cons_of_mem _ List.mem_cons_self)) hini
  have hU' : vx_Zq Bundle.tN "UNASSIGNED_STACK" Bundle.steD A s' s'.heap := by rw [hhp]; exact vx_Zq.moved hW0.alike (hU.kept hS.2.1)
  have hN' : vx_Zq Bundle.tN "SUPPRESSED_SENTINEL" Bundle.listD A s' s'.heap := by rw [hhp]; exact vx_Zq.moved hW0.alike (hN.kept hS.2.1)
  have h : ∀ w ∈ Bundle.ownAtoms own ic cls names, w.before args s' = true := vx_own hat' (vx_isRefq hU'.1) (vx_isRefq hN'.1) hU'.2.word hN'.2.word
  have hown' : s'.vm.findClass own = some m.cls := by rw [hvm]; exact hown
  have hins : (Cond.instantiable cls 6).before args s' = true := h _ (by simp [Bundle.ownAtoms])
  obtain ⟨vm₁, cX, kX, hfX, hkX, -, -, X₁, st1⟩ := Y.newCold hexec (own := own) (C := cls) (index := ik) (n := 6) hown' hk' hins hini'
    (g := F0 m pc ls rest) rfl (by rw [hb]; exact d0) (Nat.le_refl _) (Nat.le_refl _)
  generalize hT1 : (T.setVm vm₁).pushCell { cls := cX, slots := kX.instanceTypes.map defaultValue, vm := .none } = T1 at X₁ st1
  have hcat : (Value.ref T.heap.size).category = 1 := rfl
  have hcellA : T1.heap[T.heap.size]? = some (freshCell cX kX) := by rw [← hT1]; exact State.heap_pushCell_size _ _
  have d3' : decode c.code (pc + 3) = .ok (.dup, 1) := by rw [hb]; exact d3
  have d4' : decode c.code (pc + 4) = .ok (.ldc_w is, 3) := by rw [hb]; exact d4
  have hstr' : vk_R own is text sa s' := vk_R.warm hW0 hstr
  obtain ⟨U, hsteps, hrun, hend, hW, hsame, ce, hce, hO⟩ := X₁.ctorThrowS hexec htr (own := own) (cls := cls) (names := names) (ic := ic) hown' hcls hnames h (fun x hx => nomatch hx) hfX hkX hcellA (by rw [hhp, hT]; exact Nat.le_refl _) (msg := .ref sa) rfl
    (g := { method := m, pc := pc + 7, locals := ls, stack := .ref sa :: .ref T.heap.size :: .ref T.heap.size :: rest, locked := none }) rfl hsize rfl rfl (rest := rest) rfl
    (by rw [hb]; exact d7) (by rw [hb]; exact d10) hout hRframes (by simp only [List.map_cons, List.sum_cons, hcat]; omega) hlocks
  obtain ⟨f1, f2⟩ := vx_frame hsame
  rw [hhp] at f1 f2
  have hWs : s.WarmedH U.vm := State.WarmedH.trans hW0 hW
  have hcl : s.vm.findClass cls = some ce.cls := by
    have h9 := hO.cls
    rw [hvm] at h9
    exact h9
  have hall : s.sameButNew ({ U with vm := s.vm } : State) locs mc ms := by
    subst hA
    obtain ⟨e1, e2⟩ := hsame
    rw [State.setFrames_setFrames] at e1
    have h2 : (T.setVm s.vm).sameButNew ({ U with vm := s.vm } : State) [] (0 + 1) (0 + 6) := ⟨e1, e2⟩
    have h3 := X.same.trans h2
    rw [List.append_nil] at h3
    exact h3.mono hc hs
  refine ⟨U, ?_, .threw T.heap.size, hrun, hend, Or.inr ⟨T.heap.size, rfl, cls, ce, locs, hx U hWs.alike f1 (fun q hq => f2 q hq (fun z hz => nomatch hz)), hce, hO.vm, hcl, hWs, hall, hf⟩⟩
  refine st1 _ ?_
  show Steps p.tables e below (T1.setTop { method := m, pc := pc + 3, locals := ls, stack := .ref T.heap.size :: rest, locked := none }) _
  jvm_step X₁.here [X₁.here.top, hexec, d3', Value.category]
  exact X₁.ldcStringW hexec (own := own) (text := text) (index := is) (a := sa) hown' hstr'.1 hstr'.2
    (g := { method := m, pc := pc + 4, locals := ls, stack := .ref T.heap.size :: .ref T.heap.size :: rest, locked := none }) rfl d4' _ hsteps
end Ends
section Bodies
variable {l : Launch}
theorem vx_ofW {y : MethodName} {ws ws' : List Cond} {rm : Room} {Pc : Array Value → State → Prop} {Qc : Array Value → State → Outcome → State → Prop} {XC : String → State → State → Prop} {mc ms : Nat} {free : Addr → Prop} {cc : ByteArray} {maxL : Nat} {ret : Option FieldType}
    (hy : plainName y.cls = true) (hw : ws = Cond.code y cc maxL ret :: ws')
    (body : ∀ p e s m args below meth c s₁, BodyLoose p l y (headSpec ws rm) cc maxL ret e s m args below meth c s₁ → c.maxLocals = maxL → (∀ x ∈ c.exceptionTable.toList, False) → Pc args s →
      W p l e (headSpec ws rm).room s m args below meth c s.heap [] 0 0 (vx_MQ below Qc XC args s mc ms free) (entryFrame m args maxL)) : vx_Met l y ws rm Pc Qc XC mc ms free := by
  refine MetFree.of_bodyS (code := cc) (maxLocals := maxL) (ret := ret) hy ?_ ?_
  · intro args s m h hn
    obtain ⟨meth, c, h1, h2, h3, h4, h5, h6, -, -⟩ := Cond.code_spec hn (atoms_spec (ws := ws) h _ (by rw [hw]; exact List.mem_cons_self))
    exact ⟨meth, c, h1, h2, h3, h4, h5, h6⟩
  · intro p e s m args below meth c s₁ B hml hP _
    have hh0 : s₁.heap = s.heap := by rw [B.state]; rfl
    have ht : ∀ x ∈ c.exceptionTable.toList, False := by
      obtain ⟨meth9, c9, h1, h2, -, -, -, -, h7, -⟩ := Cond.code_spec B.named (atoms_spec (ws := ws) B.pre _ (by rw [hw]; exact List.mem_cons_self))
      cases Option.some.inj (h1.symm.trans B.method)
      cases Option.some.inj (h2.symm.trans (Stand.of_body B).code)
      intro x hx
      rw [Array.isEmpty_iff.mp h7] at hx
      cases hx
    obtain ⟨t, a1, o, b1, b2, b3⟩ := body p e s m args below meth c s₁ B hml ht hP s₁ hh0 (Stand.of_body B)
    exact ⟨t, o, a1, b1, b2, b3⟩
/-- the table of a body with handlers -/
theorem vx_table {p : Program} {x y : MethodName} {S : Spec} {cc bytes : ByteArray} {maxL maxL' : Nat} {ret ret' : Option FieldType} {e : Env} {s s₁ : State} {m : MethodId} {args : Array Value} {below : List Frame} {meth : Method} {c : Code} {hh : List (Nat × Nat × Nat × Nat)}
    (B : BodyLoose p l y S cc maxL ret e s m args below meth c s₁) (h : (Cond.codeWith y bytes maxL' ret' hh).before args s = true) : c.exceptionTable.toList = tableOf hh := by
  obtain ⟨m9, meth9, c9, hn9, h1, h2, -, -, h6, -⟩ := Cond.codeWith_spec h
  cases Option.some.inj (hn9.symm.trans B.named)
  cases Option.some.inj (h1.symm.trans B.method)
  cases Option.some.inj (h2.symm.trans (Stand.of_body B).code)
  rw [← h6, table_eq]
end Bodies
end VXA
/-! ===== END ===== -/
/-! ===== BEGIN a static call of a method with an exception table ===== -/
section VXS
variable {p : Program} {l : Launch} {e : Env} {R : Room} {s : State} {m : MethodId} {args : Array Value} {below : List Frame} {meth : Method} {c : Code} {T : State} {H : Heap} {locs : List Loc} {cells slots : Nat}
abbrev vx_CSW (R : Room) (s : State) (args : Array Value) (own : String) (index : Nat) (y : MethodName) (bytes : ByteArray) (maxL : Nat) (ret : Option FieldType) (hh : List (Nat × Nat × Nat × Nat)) (ws : List Cond) (rm : Room) (mc ms n : Nat) : Prop :=
  (rm.cells = mc ∧ rm.slots = ms ∧ rm.frames + 1 ≤ R.frames ∧ 8 + (maxL + 11) + rm.locals ≤ R.locals ∧ (∀ w ∈ ws, ∀ (a' : Array Value) (U : State), s.WarmedH U.vm → w.before a' U = true) ∧ Cond.codeWith y bytes maxL ret hh ∈ ws) ∧
  (Cond.codeWith y bytes maxL ret hh).before args s = true ∧ (Cond.initialized y.cls).before args s = true ∧ (y.cls ≠ "java/lang/invoke/MethodHandle" ∧ y.cls ≠ "java/lang/invoke/VarHandle") ∧
  (∀ sig, parseMethodDescriptor y.desc = some sig → n = sig.parameters.length) ∧ (Cond.methodLink own index y).before args s = true ∧ (Cond.static y).before args s = true
theorem vx_cwSW {own : String} {index maxL mc ms : Nat} {y : MethodName} {bytes : ByteArray} {ret : Option FieldType} {hh : List (Nat × Nat × Nat × Nat)} {Ts ws ws' : List Cond} {rm : Room} (n : Nat) (ht : ∀ w ∈ Ts, w.before args s = true) (hT : GoodIn Ts (va_wsS own index y ws)) (hw : ws = Cond.codeWith y bytes maxL ret hh :: ws') (hrc : rm.cells = mc) (hrs : rm.slots = ms)
    (hd : y.cls ≠ "java/lang/invoke/MethodHandle" ∧ y.cls ≠ "java/lang/invoke/VarHandle" ∧ (parseMethodDescriptor y.desc).map (fun d => d.parameters.length) = some n) (hR : rm.frames + 1 ≤ R.frames ∧ 8 + (maxL + 11) + rm.locals ≤ R.locals) :
    vx_CSW R s args own index y bytes maxL ret hh ws rm mc ms n := by
  have ok : ∀ w ∈ va_wsS own index y ws, w.before args s = true := fun w h => ht w (hT w h).1
  have hG : GoodIn Ts ws := fun w h => hT w (by unfold va_wsS; exact List.mem_append_right _ h)
  have hc : Cond.codeWith y bytes maxL ret hh ∈ ws := by rw [hw]; exact List.mem_cons_self
  refine ⟨⟨hrc, hrs, hR.1, hR.2, pay_in ht hG, hc⟩, ht _ (hG _ hc).1, ok _ (by simp [va_wsS]), ⟨hd.1, hd.2.1⟩, fun sig h => ?_, ok _ (by simp [va_wsS]), ok _ (by simp [va_wsS])⟩
  have h2 := hd.2.2
  rw [h] at h2
  exact (Option.some.inj h2).symm
theorem vx_callSW (X : Stand p l e R s m args below meth c T locs cells slots) (hexec : p.tables.exec = Jvm.exec) {own : String} {index : Nat} {y : MethodName} {bytes : ByteArray} {maxL : Nat} {ret : Option FieldType} {hh : List (Nat × Nat × Nat × Nat)}
    (hown : s.vm.findClass own = some m.cls) (hlink : (Cond.methodLink own index y).before args s = true) (hstat : (Cond.static y).before args s = true) (hinit : (Cond.initialized y.cls).before args s = true)
    (hcode : (Cond.codeWith y bytes maxL ret hh).before args s = true) (hy : y.cls ≠ "java/lang/invoke/MethodHandle" ∧ y.cls ≠ "java/lang/invoke/VarHandle")
    {W9 : Nat} {Pre : Pt → Array Value → Prop} {Post : Pt → Array Value → Option Value → Pt → Prop} (hK : Back l R p e below s args y 3 W9 Pre Post)
    {g : JFrame} (hg : g.method = m) (hsize : g.locals.size = c.maxLocals) {argsL rest : List Value} (hlen : ∀ sig, parseMethodDescriptor y.desc = some sig → argsL.length = sig.parameters.length)
    (hstack : g.stack = argsL.reverse ++ rest) (hW : 2 * g.monitorRoom + (rest.map fun v => v.category).sum ≤ W9) (hdg : decode c.code g.pc = .ok (.invokestatic index, 3))
    (hpre : ∀ vm₁, s.WarmedH vm₁ → Pre ⟨T.setVm vm₁, locs, cells, slots⟩ argsL.toArray) :
    ∃ (v : Option Value) (vm₁ : Vm) (B : Pt), s.WarmedH vm₁ ∧ Stand p l e R s m args below meth c B.U B.locs B.cells B.slots ∧ Post ⟨T.setVm vm₁, locs, cells, slots⟩ argsL.toArray v B ∧
      ∀ target, Steps p.tables e below (B.U.setTop { g with pc := g.pc + 3, stack := v.toList ++ rest }) target → Steps p.tables e below (T.setTop g) target := by
  obtain ⟨mk, methM, cM, hnamed, hmethM, -, -, -, -, -, -, hsigM⟩ := Cond.codeWith_spec hcode
  have hstatic : methM.isStatic = true := Cond.static_spec hnamed hmethM hstat
  obtain ⟨kP, hkP, -⟩ := className_of_methodNamed hnamed
  have hinitP : kP.init = .initialized := Cond.initialized_spec (findClass_of_methodNamed hnamed) hkP hinit
  obtain ⟨vm₁, X₁, hstep₁⟩ := X.invokestatic hexec hown hlink hnamed hmethM hstatic hkP hinitP hy (g := g) hg (argsL := argsL) (rest := rest) (hlen _ hsigM) hstack hdg
  obtain ⟨v, B, X', hpost, hsteps⟩ := hK m meth c ⟨T.setVm vm₁, locs, cells, slots⟩ { g with stack := rest } (.invokestatic index) mk argsL.toArray X₁ hg hsize hdg hW (X₁.named hnamed) (hpre vm₁ X₁.warmed)
  exact ⟨v, vm₁, B, X₁.warmed, X', hpost, fun target h => hstep₁ _ fun acts => by rw [doInvoke_state]; exact hsteps.trans h⟩
theorem vx_runSW {y : MethodName} {bytes cc : ByteArray} {maxL nL mc ms n index : Nat} {ret : Option FieldType} {hh : List (Nat × Nat × Nat × Nat)} {ws : List Cond} {rm : Room} {Pc : Array Value → State → Prop} {Qc : Array Value → State → Outcome → State → Prop} {free : Addr → Prop} {Ts : List Cond} {own : String} {As rest : List Value} {g : JFrame}
    (S : CallFix p m c cc nL s args Ts own) (hM : Met l y ws rm Pc Qc mc ms free) (cw : vx_CSW R s args own index y bytes maxL ret hh ws rm mc ms n) (hp : PreS s H Pc As)
    (hg : g.method = m) (hn : As.length = n) (hsize : g.locals.size = nL) (hstack : g.stack = As.reverse ++ rest) (hW : 2 * g.monitorRoom + (rest.map fun v => v.category).sum ≤ 8) (hdg : decode cc g.pc = .ok (.invokestatic index, 3)) (hf : cells + mc ≤ R.cells ∧ slots + ms ≤ R.slots) :
    va_Run p l e R s m args below meth c H locs cells slots mc ms g rest (Qc As.toArray) (free) := by
  obtain ⟨⟨hrc, hrs, hfr, hlo, hws, hcw⟩, hcode, hini, hy, hlen, hl, hstt⟩ := cw
  have hK : Back l R p e below s args y 3 8 (PreOf R mc ms Pc) (PostOf Qc mc ms free) := va_backW (hh := hh) (bytes := bytes) (maxL := maxL) (ret := ret) hM hp.1 hrc hrs hfr hlo hws hcw (fun a' U hW => word_at hW (Or.inl (by first | rfl | simp [Cond.onTables, Cond.keeps, Cond.steady])) hini)
  obtain ⟨hx, hb, hml, ho, -⟩ := S
  intro T hT X
  obtain ⟨v, vm₁, ⟨U', l2, c2, s2⟩, hW₁, X', ⟨g', mk, t, L, e1, e2, hq, h1, hL, h2, h3⟩, st⟩ := vx_callSW X hx (hh := hh) (bytes := bytes) (maxL := maxL) (ret := ret) ho hl hstt hini hcode hy hK hg (hsize.trans hml.symm) (argsL := As) (rest := rest) (fun sig h => hn.trans (hlen sig h)) hstack hW (by rw [hb]; exact hdg)
    (fun vm₁ hW₁ => ⟨hf.1, hf.2, hp.2 (T.setVm vm₁) hT hW₁⟩)
  dsimp only [Pt.U, Pt.locs, Pt.cells, Pt.slots] at X' e1 e2 h1 h2 h3 st
  subst h1; subst h2; subst h3
  exact ⟨v, (T.setVm vm₁).calling g' mk As.toArray, t, U', L, hT, X', hL, e1, e2, hq, st⟩
/-- a thing of a world lies in the heap -/
theorem vx_lt {D : va_G} {cl : List vw_C} {ws : va_W} {H1 : Heap} (h : va_P D cl ws H1) {k : Nat} {q : Nat × va_E} (hk : ws[k]? = some q) : q.1 < H1.size := (h k q hk).lt
end VXS
/-! ===== END ===== -/
/-! ===== BEGIN methods with a table of their own: called by a name, returning or throwing ===== -/
section VXH
/-! vx_backW, vx_callVX, vx_callSX, vx_callVW, vx_runVW, vx_runVX, vx_runSX, vx_ofWH follow the same proofs as their sisters above (Free/Laws.lean, Shelf42/LK1.lean); vx_outP calls Shelf42/NT130.lean (outThrough). -/
section
variable {l : Launch} {R : Room} {p : Program} {e : Env} {below : List Frame} {s : State} {sargs : Array Value} {y : MethodName} {len W9 : Nat}
theorem vx_backW {ws : List Cond} {rm : Room} {Pc : Array Value → State → Prop} {Qc : Array Value → State → Outcome → State → Prop} {XC : String → State → State → Prop} {mc ms : Nat} {free : Addr → Prop} {bytes : ByteArray} {maxL : Nat} {ret : Option FieldType} {hh : List (Nat × Nat × Nat × Nat)}
    (hM : vx_Met l y ws rm Pc Qc XC mc ms free) (hblind : FrameBlind Pc) (hrc : rm.cells = mc) (hrs : rm.slots = ms)
    (hframes : rm.frames + 1 ≤ R.frames) (hlocals : W9 + (maxL + 11) + rm.locals ≤ R.locals)
    (hws : ∀ w ∈ ws, ∀ a' U, s.WarmedH U.vm → w.before a' U = true) (hcode : Cond.codeWith y bytes maxL ret hh ∈ ws) (hinit : ∀ a' U, s.WarmedH U.vm → (Cond.initialized y.cls).before a' U = true) :
    vx_Back l R p e below s sargs y len W9 (PreOf R mc ms Pc) (PostOf Qc mc ms free) (vx_Post XC mc ms free) := by
  intro m meth c A g ig mk a X hg hsize hdg hW hn hp
  have h1 : (headSpec ws rm).pre.before a A.U = true := atoms_intro fun w hw => hws w hw _ _ X.warmed
  have h2 : (Cond.codeWith y bytes maxL ret hh).before a A.U = true := hws _ hcode _ _ X.warmed
  have h3 : (Cond.initialized y.cls).before a A.U = true := hinit _ _ X.warmed
  have h4 : A.cells + (headSpec ws rm).room.cells ≤ R.cells := by rw [show (headSpec ws rm).room.cells = mc from hrc]; exact hp.1
  have h5 : A.slots + (headSpec ws rm).room.slots ≤ R.slots := by rw [show (headSpec ws rm).room.slots = ms from hrs]; exact hp.2.1
  have hPc : Pc a (A.U.calling g mk a) := hblind _ _ _ _ hp.2.2
  obtain ⟨U, Ls, c0, s0⟩ := A
  dsimp only [Pt.U, Pt.locs, Pt.cells, Pt.slots] at h1 h2 h3 h4 h5 X hn hPc ⊢
  obtain ⟨m9, methY, cY, hn9, hmY, hcY, -, hlY, -⟩ := Cond.codeWith_spec h2
  cases Option.some.inj (hn9.symm.trans hn)
  obtain ⟨kY, hkY, -⟩ := className_of_methodNamed hn
  have hinitY : kY.init = .initialized := Cond.initialized_spec (findClass_of_methodNamed hn) hkY h3
  have h : At U g.method c below := by rw [hg]; exact X.here
  have hlocals9 : W9 + (maxL + 11) + (headSpec ws rm).room.locals ≤ R.locals := hlocals
  have happ : (headSpec ws rm).appliesLoose y e.platform (U.calling g mk a) = true :=
    Spec.appliesLoose_calling (g := g) h hdg hn hkY hinitY
      (X.room_calling (g := g) (R' := (headSpec ws rm).room) hsize hmY hcY hframes (by rw [hlY]; omega) h4 h5) h1
  obtain ⟨mid, hmid⟩ := h.above
  have hfr : (U.setTop g).frames = (.java g :: mid) ++ below := by rw [State.frames_setTop' g h.top, hmid]; rfl
  obtain ⟨o, s₂, hsteps, -, hend, hq⟩ := Steps.callFree hM p X.admits X.cas X.clock (acts := []) hfr happ hPc trivial
  have hq' : vx_Q Qc XC mc ms free a (U.calling g mk a) o s₂ := hq
  rw [State.frames_setTop' g h.top] at hend
  obtain ⟨g₀, hg0⟩ := Option.isSome_iff_exists.mp h.top
  obtain ⟨r, hr⟩ := State.topJava?_eq_some.mp hg0
  have hr' : (({ U with heap := s₂.heap, slotsUsed := s₂.slotsUsed } : State).setVm s₂.vm).frames = .java g₀ :: r := hr
  rcases hq' with ⟨hqc, L, hfe, hL⟩ | ⟨q, rfl, E, ce, L, hx, hce, hcv, hcl, hW₂, hsm, hL⟩
  · obtain ⟨⟨v, rfl⟩, hW₂, e2, q2, q3, q4, q5, q6⟩ := id hfe
    have e3 : s₂ = ({ (U.calling g mk a).setFrames s₂.frames with heap := s₂.heap, slotsUsed := s₂.slotsUsed } : State).setVm s₂.vm := by
      have : s₂ = ({ s₂ with vm := (U.calling g mk a).vm } : State).setVm s₂.vm := rfl
      rw [e2] at this
      exact this
    obtain ⟨c₂, i₂, len₂, hc₂, hd₂, hf₂⟩ := hend
    have hW' : U.WarmedH s₂.vm := hW₂
    have hcc : c₂ = c := by
      have h1 : s₂.code? g.method = U.code? g.method := by
        rw [State.code?_eq, State.code?_eq, hW'.alike.method?]
      exact Option.some.inj (hc₂.symm.trans (h1.trans h.code))
    subst hcc
    have hlen : len₂ = len := by rw [hdg] at hd₂; cases hd₂; rfl
    subst hlen
    have hs₂ : s₂ = (({ U with heap := s₂.heap, slotsUsed := s₂.slotsUsed } : State).setVm s₂.vm).setTop { g with pc := g.pc + len₂, stack := v.toList ++ g.stack } := by
      refine e3.trans ?_
      rw [hf₂, State.calling_eq h.top, State.setFrames_setFrames, State.setTop_of_frames _ hr', hr]
      rfl
    have hsame : U.sameButNew ({ U with heap := s₂.heap, slotsUsed := s₂.slotsUsed } : State) L mc ms := by
      refine ⟨?_, q2, q3, q4, q5, q6⟩
      obtain ⟨t, ht, -⟩ := State.frames_cons hr
      show ({ U with heap := s₂.heap, slotsUsed := s₂.slotsUsed } : State) = { U.setFrames U.frames with heap := s₂.heap, slotsUsed := s₂.slotsUsed }
      rw [State.setFrames_self ht]
    subst hg
    refine Or.inl ⟨v, ⟨(({ U with heap := s₂.heap, slotsUsed := s₂.slotsUsed } : State).setVm s₂.vm), Ls ++ L, c0 + mc, s0 + ms⟩,
      ⟨X.admits, X.cas, X.clock, X.frames, X.room, X.hears, X.method, X.code, (X.here.setHeapUsed s₂.heap s₂.slotsUsed).setVm hW'.alike, X.tail, State.WarmedH.trans X.warmed hW', X.limits, X.bytes, X.same.trans (hsame.setVm s.vm)⟩,
      ⟨g, mk, s₂, L, rfl, rfl, hqc, rfl, hL, rfl, rfl⟩, ?_⟩
    show Steps p.tables e below _ ((({ U with heap := s₂.heap, slotsUsed := s₂.slotsUsed } : State).setVm s₂.vm).setTop { g with pc := g.pc + len₂, stack := v.toList ++ g.stack })
    rw [← hs₂]
    exact hsteps
  · obtain ⟨e2, q2, q3, q4, q5, q6⟩ := id hsm
    have e3 : s₂ = ({ (U.calling g mk a).setFrames s₂.frames with heap := s₂.heap, slotsUsed := s₂.slotsUsed } : State).setVm s₂.vm := by
      have : s₂ = ({ s₂ with vm := (U.calling g mk a).vm } : State).setVm s₂.vm := rfl
      rw [e2] at this
      exact this
    have hf₂ : s₂.frames = .throwing q :: .java g :: U.frames.tail := hend
    have hW' : U.WarmedH s₂.vm := hW₂
    have hs₂ : s₂ = ((({ U with heap := s₂.heap, slotsUsed := s₂.slotsUsed } : State).setVm s₂.vm).setTop g).pushFrame (.throwing q) := by
      refine e3.trans ?_
      rw [hf₂, State.calling_eq h.top, State.setFrames_setFrames, State.pushFrame, State.frames_setTop _ hr', State.setTop_of_frames _ hr', State.setFrames_setFrames, hr]
      rfl
    have hsame : U.sameButNew ({ U with heap := s₂.heap, slotsUsed := s₂.slotsUsed } : State) L mc ms := by
      refine ⟨?_, q2, q3, q4, q5, q6⟩
      obtain ⟨t, ht, -⟩ := State.frames_cons hr
      show ({ U with heap := s₂.heap, slotsUsed := s₂.slotsUsed } : State) = { U.setFrames U.frames with heap := s₂.heap, slotsUsed := s₂.slotsUsed }
      rw [State.setFrames_self ht]
    subst hg
    refine Or.inr ⟨q, ⟨(({ U with heap := s₂.heap, slotsUsed := s₂.slotsUsed } : State).setVm s₂.vm), Ls ++ L, c0 + mc, s0 + ms⟩,
      ⟨X.admits, X.cas, X.clock, X.frames, X.room, X.hears, X.method, X.code, (X.here.setHeapUsed s₂.heap s₂.slotsUsed).setVm hW'.alike, X.tail, State.WarmedH.trans X.warmed hW', X.limits, X.bytes, X.same.trans (hsame.setVm s.vm)⟩,
      ⟨g, mk, s₂, L, E, ce, rfl, rfl, hx, hce, hcv, hcl, rfl, hL, rfl, rfl⟩, ?_⟩
    show Steps p.tables e below _ (((({ U with heap := s₂.heap, slotsUsed := s₂.slotsUsed } : State).setVm s₂.vm).setTop g).pushFrame (.throwing q))
    rw [← hs₂]
    exact hsteps
end
variable {p : Program} {l : Launch} {e : Env} {R : Room} {s : State} {m : MethodId} {args : Array Value} {below : List Frame} {meth : Method} {c : Code} {T : State} {H : Heap} {locs : List Loc} {cells slots : Nat}
theorem vx_callVX (X : Stand p l e R s m args below meth c T locs cells slots) (hexec : p.tables.exec = Jvm.exec) {own C : String} {index : Nat} {y : MethodName} {bytes : ByteArray} {maxL : Nat} {ret : Option FieldType} {hh : List (Nat × Nat × Nat × Nat)}
    (hown : s.vm.findClass own = some m.cls) (hlink : (Cond.methodLink own index y).before args s = true) (hinst : (Cond.instanceMethod y).before args s = true) (hsel : (Cond.selects C y y).before args s = true)
    (hcode : (Cond.codeWith y bytes maxL ret hh).before args s = true) (hy : y.cls ≠ "java/lang/invoke/MethodHandle" ∧ y.cls ≠ "java/lang/invoke/VarHandle")
    {W9 : Nat} {Pre : Pt → Array Value → Prop} {Post : Pt → Array Value → Option Value → Pt → Prop} {PostX : Pt → Array Value → Addr → Pt → Prop} (hK : vx_Back l R p e below s args y 3 W9 Pre Post PostX)
    {b : Addr} {cellB : Cell} (hcell : T.heap[b]? = some cellB) (hobj : cellB.vm.isStatics = false) (hcls : s.vm.findClass C = some cellB.cls)
    {g : JFrame} (hg : g.method = m) (hsize : g.locals.size = c.maxLocals) {argsL rest : List Value} (hlen : ∀ sig, parseMethodDescriptor y.desc = some sig → argsL.length = sig.parameters.length)
    (hstack : g.stack = argsL.reverse ++ .ref b :: rest) (hW : 2 * g.monitorRoom + (rest.map fun v => v.category).sum ≤ W9) (hdg : decode c.code g.pc = .ok (.invokevirtual index, 3))
    (hpre : ∀ vm₁, s.WarmedH vm₁ → Pre ⟨T.setVm vm₁, locs, cells, slots⟩ (Value.ref b :: argsL).toArray) :
    (∃ (v : Option Value) (vm₁ : Vm) (B : Pt), s.WarmedH vm₁ ∧ Stand p l e R s m args below meth c B.U B.locs B.cells B.slots ∧ Post ⟨T.setVm vm₁, locs, cells, slots⟩ (Value.ref b :: argsL).toArray v B ∧
      ∀ target, Steps p.tables e below (B.U.setTop { g with pc := g.pc + 3, stack := v.toList ++ rest }) target → Steps p.tables e below (T.setTop g) target) ∨
    (∃ (q : Addr) (vm₁ : Vm) (B : Pt), s.WarmedH vm₁ ∧ Stand p l e R s m args below meth c B.U B.locs B.cells B.slots ∧ PostX ⟨T.setVm vm₁, locs, cells, slots⟩ (Value.ref b :: argsL).toArray q B ∧
      Steps p.tables e below (T.setTop g) ((B.U.setTop { g with stack := rest }).pushFrame (.throwing q))) := by
  obtain ⟨mk, methM, hnamed, hmethM, hstM, habM⟩ := Cond.instanceMethod_spec hinst
  obtain ⟨m8, methM', cM, hn8, hmethM', -, -, -, -, -, -, hsigM⟩ := Cond.codeWith_spec hcode
  cases Option.some.inj (hn8.symm.trans hnamed)
  cases hmethM.symm.trans hmethM'
  obtain ⟨c2, r2, m2, q1, q2, q3, q4, kP, hkP, hkPi⟩ := Cond.selects_spec hsel
  cases hcls.symm.trans q1
  cases (State.methodFound?_of_named hnamed hy).symm.trans q2
  cases hnamed.symm.trans q3
  have hselP : selectMethod e.platform s.vm cellB.cls mk = .method mk := by rw [Launch.admits_selectMethod X.admits]; exact q4
  obtain ⟨vm₁, X₁, hstep₁⟩ := X.invokevirtual hexec hown hlink hnamed hmethM hstM hkP hkPi hy (a := b) (cell := cellB) hcell
    (fun z h => by rw [h] at hobj; cases hobj) hselP hmethM habM hkP hkPi (g := g) hg (argsL := argsL) (rest := rest) (hlen _ hsigM) hstack hdg
  rcases hK m meth c ⟨T.setVm vm₁, locs, cells, slots⟩ { g with stack := rest } (.invokevirtual index) mk (Value.ref b :: argsL).toArray X₁ hg hsize hdg hW (X₁.named hnamed) (hpre vm₁ X₁.warmed) with ⟨v, B, X', hpost, hsteps⟩ | ⟨q, B, X', hpost, hsteps⟩
  · exact Or.inl ⟨v, vm₁, B, X₁.warmed, X', hpost, fun target h => hstep₁ _ fun acts => by rw [doInvoke_state]; exact hsteps.trans h⟩
  · exact Or.inr ⟨q, vm₁, B, X₁.warmed, X', hpost, hstep₁ _ fun acts => by rw [doInvoke_state]; exact hsteps⟩
theorem vx_callSX (X : Stand p l e R s m args below meth c T locs cells slots) (hexec : p.tables.exec = Jvm.exec) {own : String} {index : Nat} {y : MethodName} {bytes : ByteArray} {maxL : Nat} {ret : Option FieldType} {hh : List (Nat × Nat × Nat × Nat)}
    (hown : s.vm.findClass own = some m.cls) (hlink : (Cond.methodLink own index y).before args s = true) (hstat : (Cond.static y).before args s = true) (hinit : (Cond.initialized y.cls).before args s = true)
    (hcode : (Cond.codeWith y bytes maxL ret hh).before args s = true) (hy : y.cls ≠ "java/lang/invoke/MethodHandle" ∧ y.cls ≠ "java/lang/invoke/VarHandle")
    {W9 : Nat} {Pre : Pt → Array Value → Prop} {Post : Pt → Array Value → Option Value → Pt → Prop} {PostX : Pt → Array Value → Addr → Pt → Prop} (hK : vx_Back l R p e below s args y 3 W9 Pre Post PostX)
    {g : JFrame} (hg : g.method = m) (hsize : g.locals.size = c.maxLocals) {argsL rest : List Value} (hlen : ∀ sig, parseMethodDescriptor y.desc = some sig → argsL.length = sig.parameters.length)
    (hstack : g.stack = argsL.reverse ++ rest) (hW : 2 * g.monitorRoom + (rest.map fun v => v.category).sum ≤ W9) (hdg : decode c.code g.pc = .ok (.invokestatic index, 3))
    (hpre : ∀ vm₁, s.WarmedH vm₁ → Pre ⟨T.setVm vm₁, locs, cells, slots⟩ argsL.toArray) :
    (∃ (v : Option Value) (vm₁ : Vm) (B : Pt), s.WarmedH vm₁ ∧ Stand p l e R s m args below meth c B.U B.locs B.cells B.slots ∧ Post ⟨T.setVm vm₁, locs, cells, slots⟩ argsL.toArray v B ∧
      ∀ target, Steps p.tables e below (B.U.setTop { g with pc := g.pc + 3, stack := v.toList ++ rest }) target → Steps p.tables e below (T.setTop g) target) ∨
    (∃ (q : Addr) (vm₁ : Vm) (B : Pt), s.WarmedH vm₁ ∧ Stand p l e R s m args below meth c B.U B.locs B.cells B.slots ∧ PostX ⟨T.setVm vm₁, locs, cells, slots⟩ argsL.toArray q B ∧
      Steps p.tables e below (T.setTop g) ((B.U.setTop { g with stack := rest }).pushFrame (.throwing q))) := by
  obtain ⟨mk, methM, cM, hnamed, hmethM, -, -, -, -, -, -, hsigM⟩ := Cond.codeWith_spec hcode
  have hstatic : methM.isStatic = true := Cond.static_spec hnamed hmethM hstat
  obtain ⟨kP, hkP, -⟩ := className_of_methodNamed hnamed
  have hinitP : kP.init = .initialized := Cond.initialized_spec (findClass_of_methodNamed hnamed) hkP hinit
  obtain ⟨vm₁, X₁, hstep₁⟩ := X.invokestatic hexec hown hlink hnamed hmethM hstatic hkP hinitP hy (g := g) hg (argsL := argsL) (rest := rest) (hlen _ hsigM) hstack hdg
  rcases hK m meth c ⟨T.setVm vm₁, locs, cells, slots⟩ { g with stack := rest } (.invokestatic index) mk argsL.toArray X₁ hg hsize hdg hW (X₁.named hnamed) (hpre vm₁ X₁.warmed) with ⟨v, B, X', hpost, hsteps⟩ | ⟨q, B, X', hpost, hsteps⟩
  · exact Or.inl ⟨v, vm₁, B, X₁.warmed, X', hpost, fun target h => hstep₁ _ fun acts => by rw [doInvoke_state]; exact hsteps.trans h⟩
  · exact Or.inr ⟨q, vm₁, B, X₁.warmed, X', hpost, hstep₁ _ fun acts => by rw [doInvoke_state]; exact hsteps⟩
theorem vx_callVW (X : Stand p l e R s m args below meth c T locs cells slots) (hexec : p.tables.exec = Jvm.exec) {own C : String} {index : Nat} {y : MethodName} {bytes : ByteArray} {maxL : Nat} {ret : Option FieldType} {hh : List (Nat × Nat × Nat × Nat)}
    (hown : s.vm.findClass own = some m.cls) (hlink : (Cond.methodLink own index y).before args s = true) (hinst : (Cond.instanceMethod y).before args s = true) (hsel : (Cond.selects C y y).before args s = true)
    (hcode : (Cond.codeWith y bytes maxL ret hh).before args s = true) (hy : y.cls ≠ "java/lang/invoke/MethodHandle" ∧ y.cls ≠ "java/lang/invoke/VarHandle")
    {W9 : Nat} {Pre : Pt → Array Value → Prop} {Post : Pt → Array Value → Option Value → Pt → Prop} (hK : Back l R p e below s args y 3 W9 Pre Post)
    {b : Addr} {cellB : Cell} (hcell : T.heap[b]? = some cellB) (hobj : cellB.vm.isStatics = false) (hcls : s.vm.findClass C = some cellB.cls)
    {g : JFrame} (hg : g.method = m) (hsize : g.locals.size = c.maxLocals) {argsL rest : List Value} (hlen : ∀ sig, parseMethodDescriptor y.desc = some sig → argsL.length = sig.parameters.length)
    (hstack : g.stack = argsL.reverse ++ .ref b :: rest) (hW : 2 * g.monitorRoom + (rest.map fun v => v.category).sum ≤ W9) (hdg : decode c.code g.pc = .ok (.invokevirtual index, 3))
    (hpre : ∀ vm₁, s.WarmedH vm₁ → Pre ⟨T.setVm vm₁, locs, cells, slots⟩ (Value.ref b :: argsL).toArray) :
    ∃ (v : Option Value) (vm₁ : Vm) (B : Pt), s.WarmedH vm₁ ∧ Stand p l e R s m args below meth c B.U B.locs B.cells B.slots ∧ Post ⟨T.setVm vm₁, locs, cells, slots⟩ (Value.ref b :: argsL).toArray v B ∧
      ∀ target, Steps p.tables e below (B.U.setTop { g with pc := g.pc + 3, stack := v.toList ++ rest }) target → Steps p.tables e below (T.setTop g) target := by
  obtain ⟨mk, methM, hnamed, hmethM, hstM, habM⟩ := Cond.instanceMethod_spec hinst
  obtain ⟨m8, methM', cM, hn8, hmethM', -, -, -, -, -, -, hsigM⟩ := Cond.codeWith_spec hcode
  cases Option.some.inj (hn8.symm.trans hnamed)
  cases hmethM.symm.trans hmethM'
  obtain ⟨c2, r2, m2, q1, q2, q3, q4, kP, hkP, hkPi⟩ := Cond.selects_spec hsel
  cases hcls.symm.trans q1
  cases (State.methodFound?_of_named hnamed hy).symm.trans q2
  cases hnamed.symm.trans q3
  have hselP : selectMethod e.platform s.vm cellB.cls mk = .method mk := by rw [Launch.admits_selectMethod X.admits]; exact q4
  obtain ⟨vm₁, X₁, hstep₁⟩ := X.invokevirtual hexec hown hlink hnamed hmethM hstM hkP hkPi hy (a := b) (cell := cellB) hcell
    (fun z h => by rw [h] at hobj; cases hobj) hselP hmethM habM hkP hkPi (g := g) hg (argsL := argsL) (rest := rest) (hlen _ hsigM) hstack hdg
  obtain ⟨v, B, X', hpost, hsteps⟩ := hK m meth c ⟨T.setVm vm₁, locs, cells, slots⟩ { g with stack := rest } (.invokevirtual index) mk (Value.ref b :: argsL).toArray X₁ hg hsize hdg hW (X₁.named hnamed) (hpre vm₁ X₁.warmed)
  exact ⟨v, vm₁, B, X₁.warmed, X', hpost, fun target h => hstep₁ _ fun acts => by rw [doInvoke_state]; exact hsteps.trans h⟩
abbrev vx_CVW (R : Room) (s : State) (args : Array Value) (own C : String) (index : Nat) (y : MethodName) (bytes : ByteArray) (maxL : Nat) (ret : Option FieldType) (hh : List (Nat × Nat × Nat × Nat)) (ws : List Cond) (rm : Room) (mc ms n : Nat) : Prop :=
  (rm.cells = mc ∧ rm.slots = ms ∧ rm.frames + 1 ≤ R.frames ∧ 8 + (maxL + 11) + rm.locals ≤ R.locals ∧ (∀ w ∈ ws, ∀ (a' : Array Value) (U : State), s.WarmedH U.vm → w.before a' U = true) ∧ Cond.codeWith y bytes maxL ret hh ∈ ws) ∧
  (Cond.codeWith y bytes maxL ret hh).before args s = true ∧ (Cond.initialized y.cls).before args s = true ∧ (y.cls ≠ "java/lang/invoke/MethodHandle" ∧ y.cls ≠ "java/lang/invoke/VarHandle") ∧
  (∀ sig, parseMethodDescriptor y.desc = some sig → n = sig.parameters.length) ∧ (Cond.methodLink own index y).before args s = true ∧ (Cond.instanceMethod y).before args s = true ∧ (Cond.selects C y y).before args s = true
theorem vx_cwVW {own C : String} {index maxL mc ms : Nat} {y : MethodName} {bytes : ByteArray} {ret : Option FieldType} {hh : List (Nat × Nat × Nat × Nat)} {Ts ws ws' : List Cond} {rm : Room} (n : Nat) (ht : ∀ w ∈ Ts, w.before args s = true) (hT : GoodIn Ts (wsV own index C y ws)) (hw : ws = Cond.codeWith y bytes maxL ret hh :: ws') (hrc : rm.cells = mc) (hrs : rm.slots = ms)
    (hd : y.cls = C ∧ y.cls ≠ "java/lang/invoke/MethodHandle" ∧ y.cls ≠ "java/lang/invoke/VarHandle" ∧ (parseMethodDescriptor y.desc).map (fun d => d.parameters.length) = some n) (hR : rm.frames + 1 ≤ R.frames ∧ 8 + (maxL + 11) + rm.locals ≤ R.locals) :
    vx_CVW R s args own C index y bytes maxL ret hh ws rm mc ms n := by
  obtain ⟨hC, hd⟩ := hd
  subst hC
  have ok : ∀ w ∈ wsV own index y.cls y ws, w.before args s = true := fun w h => ht w (hT w h).1
  have hG : GoodIn Ts ws := fun w h => hT w (by unfold wsV; exact List.mem_append_right _ h)
  have hc : Cond.codeWith y bytes maxL ret hh ∈ ws := by rw [hw]; exact List.mem_cons_self
  refine ⟨⟨hrc, hrs, hR.1, hR.2, pay_in ht hG, hc⟩, ht _ (hG _ hc).1, ok _ (by simp [wsV]), ⟨hd.1, hd.2.1⟩, fun sig h => ?_, ok _ (by simp [wsV]), ok _ (by simp [wsV]), ok _ (by simp [wsV])⟩
  have h2 := hd.2.2
  rw [h] at h2
  exact (Option.some.inj h2).symm
theorem vx_runVW {y : MethodName} {bytes cc : ByteArray} {maxL nL mc ms n index : Nat} {ret : Option FieldType} {hh : List (Nat × Nat × Nat × Nat)} {ws : List Cond} {rm : Room} {Pc : Array Value → State → Prop} {Qc : Array Value → State → Outcome → State → Prop} {free : Addr → Prop} {Ts : List Cond} {own C : String} {b : Addr} {As rest : List Value} {g : JFrame}
    (S : CallFix p m c cc nL s args Ts own) (hM : Met l y ws rm Pc Qc mc ms free) (cw : vx_CVW R s args own C index y bytes maxL ret hh ws rm mc ms n) (hp : PreV s H C b Pc As)
    (hg : g.method = m) (hn : As.length = n) (hsize : g.locals.size = nL) (hstack : g.stack = As.reverse ++ .ref b :: rest) (hW : 2 * g.monitorRoom + (rest.map fun v => v.category).sum ≤ 8) (hdg : decode cc g.pc = .ok (.invokevirtual index, 3)) (hf : cells + mc ≤ R.cells ∧ slots + ms ≤ R.slots) :
    va_Run p l e R s m args below meth c H locs cells slots mc ms g rest (Qc (Value.ref b :: As).toArray) free := by
  obtain ⟨⟨hrc, hrs, hfr, hlo, hws, hcw⟩, hcode, hini, hy, hlen, hl, hin, hse⟩ := cw
  have hK : Back l R p e below s args y 3 8 (PreOf R mc ms Pc) (PostOf Qc mc ms free) := va_backW (hh := hh) (bytes := bytes) (maxL := maxL) (ret := ret) hM hp.1 hrc hrs hfr hlo hws hcw (fun a' U hW => word_at hW (Or.inl (by first | rfl | simp [Cond.onTables, Cond.keeps, Cond.steady])) hini)
  obtain ⟨hx, hb, hml, ho, -⟩ := S
  obtain ⟨-, ⟨cellB, hcB, hoB, hclB⟩, hPc⟩ := hp
  intro T hT X
  obtain ⟨v, vm₁, ⟨U', l2, c2, s2⟩, hW₁, X', ⟨g', mk, t, L, e1, e2, hq, h1, hL, h2, h3⟩, st⟩ := vx_callVW X hx (C := C) (hh := hh) (bytes := bytes) (maxL := maxL) (ret := ret) ho hl hin hse hcode hy hK (by rw [hT]; exact hcB) hoB hclB hg (hsize.trans hml.symm) (argsL := As) (rest := rest) (fun sig h => hn.trans (hlen sig h)) hstack hW (by rw [hb]; exact hdg)
    (fun vm₁ hW₁ => ⟨hf.1, hf.2, hPc (T.setVm vm₁) hT hW₁⟩)
  dsimp only [Pt.U, Pt.locs, Pt.cells, Pt.slots] at X' e1 e2 h1 h2 h3 st
  subst h1; subst h2; subst h3
  exact ⟨v, (T.setVm vm₁).calling g' mk (Value.ref b :: As).toArray, t, U', L, hT, X', hL, e1, e2, hq, st⟩
section
variable {y : MethodName} {bytes cc : ByteArray} {maxL nL mc ms n index : Nat} {ret : Option FieldType} {ws : List Cond} {rm : Room} {Pc : Array Value → State → Prop} {Qc : Array Value → State → Outcome → State → Prop} {XC : String → State → State → Prop} {free : Addr → Prop} {Ts : List Cond} {own C : String} {b : Addr} {As rest : List Value} {g : JFrame}
theorem vx_runVX {hh : List (Nat × Nat × Nat × Nat)} (S : CallFix p m c cc nL s args Ts own) (hM : vx_Met l y ws rm Pc Qc XC mc ms free) (cw : vx_CVW R s args own C index y bytes maxL ret hh ws rm mc ms n) (hp : PreV s H C b Pc As)
    (hg : g.method = m) (hn : As.length = n) (hsize : g.locals.size = nL) (hstack : g.stack = As.reverse ++ .ref b :: rest) (hW : 2 * g.monitorRoom + (rest.map fun v => v.category).sum ≤ 8) (hdg : decode cc g.pc = .ok (.invokevirtual index, 3)) (hf : cells + mc ≤ R.cells ∧ slots + ms ≤ R.slots) :
    vx_Run p l e R s m args below meth c H locs cells slots mc ms g rest (Qc (Value.ref b :: As).toArray) XC free := by
  obtain ⟨⟨hrc, hrs, hfr, hlo, hws, hcw⟩, hcode, hini, hy, hlen, hl, hin, hse⟩ := cw
  have hK : vx_Back l R p e below s args y 3 8 (PreOf R mc ms Pc) (PostOf Qc mc ms free) (vx_Post XC mc ms free) := vx_backW (hh := hh) (bytes := bytes) (maxL := maxL) (ret := ret) hM hp.1 hrc hrs hfr hlo hws hcw (fun a' U hW => word_at hW (Or.inl (by first | rfl | simp [Cond.onTables, Cond.keeps, Cond.steady])) hini)
  obtain ⟨hx, hb, hml, ho, -⟩ := S
  obtain ⟨-, ⟨cellB, hcB, hoB, hclB⟩, hPc⟩ := hp
  intro T hT X
  rcases vx_callVX X hx (C := C) (hh := hh) (bytes := bytes) (maxL := maxL) (ret := ret) ho hl hin hse hcode hy hK (by rw [hT]; exact hcB) hoB hclB hg (hsize.trans hml.symm) (argsL := As) (rest := rest) (fun sig h => hn.trans (hlen sig h)) hstack hW (by rw [hb]; exact hdg)
    (fun vm₁ hW₁ => ⟨hf.1, hf.2, hPc (T.setVm vm₁) hT hW₁⟩) with ⟨v, vm₁, ⟨U', l2, c2, s2⟩, hW₁, X', ⟨g', mk, t, L, e1, e2, hq, h1, hL, h2, h3⟩, st⟩ | ⟨q, vm₁, ⟨U', l2, c2, s2⟩, hW₁, X', ⟨g', mk, t, L, E, ce, e1, e2, hq, hce, hcv, hcl, h1, hL, h2, h3⟩, st⟩
  · dsimp only [Pt.U, Pt.locs, Pt.cells, Pt.slots] at X' e1 e2 h1 h2 h3 st
    subst h1; subst h2; subst h3
    exact Or.inl ⟨v, (T.setVm vm₁).calling g' mk (Value.ref b :: As).toArray, t, U', L, hT, X', hL, e1, e2, hq, st⟩
  · dsimp only [Pt.U, Pt.locs, Pt.cells, Pt.slots] at X' e1 e2 h1 h2 h3 st hcl
    subst h1; subst h2; subst h3
    exact Or.inr ⟨q, (T.setVm vm₁).calling g' mk (Value.ref b :: As).toArray, t, U', L, E, ce, hT, X', hL, e1, e2, hq, hce, hcv, vx_cls hW₁ hcl, st⟩
theorem vx_runSX {hh : List (Nat × Nat × Nat × Nat)} (S : CallFix p m c cc nL s args Ts own) (hM : vx_Met l y ws rm Pc Qc XC mc ms free) (cw : vx_CSW R s args own index y bytes maxL ret hh ws rm mc ms n) (hp : PreS s H Pc As)
    (hg : g.method = m) (hn : As.length = n) (hsize : g.locals.size = nL) (hstack : g.stack = As.reverse ++ rest) (hW : 2 * g.monitorRoom + (rest.map fun v => v.category).sum ≤ 8) (hdg : decode cc g.pc = .ok (.invokestatic index, 3)) (hf : cells + mc ≤ R.cells ∧ slots + ms ≤ R.slots) :
    vx_Run p l e R s m args below meth c H locs cells slots mc ms g rest (Qc As.toArray) XC free := by
  obtain ⟨⟨hrc, hrs, hfr, hlo, hws, hcw⟩, hcode, hini, hy, hlen, hl, hstt⟩ := cw
  have hK : vx_Back l R p e below s args y 3 8 (PreOf R mc ms Pc) (PostOf Qc mc ms free) (vx_Post XC mc ms free) := vx_backW (hh := hh) (bytes := bytes) (maxL := maxL) (ret := ret) hM hp.1 hrc hrs hfr hlo hws hcw (fun a' U hW => word_at hW (Or.inl (by first | rfl | simp [Cond.onTables, Cond.keeps, Cond.steady])) hini)
  obtain ⟨hx, hb, hml, ho, -⟩ := S
  intro T hT X
  rcases vx_callSX X hx (hh := hh) (bytes := bytes) (maxL := maxL) (ret := ret) ho hl hstt hini hcode hy hK hg (hsize.trans hml.symm) (argsL := As) (rest := rest) (fun sig h => hn.trans (hlen sig h)) hstack hW (by rw [hb]; exact hdg)
    (fun vm₁ hW₁ => ⟨hf.1, hf.2, hp.2 (T.setVm vm₁) hT hW₁⟩) with ⟨v, vm₁, ⟨U', l2, c2, s2⟩, hW₁, X', ⟨g', mk, t, L, e1, e2, hq, h1, hL, h2, h3⟩, st⟩ | ⟨q, vm₁, ⟨U', l2, c2, s2⟩, hW₁, X', ⟨g', mk, t, L, E, ce, e1, e2, hq, hce, hcv, hcl, h1, hL, h2, h3⟩, st⟩
  · dsimp only [Pt.U, Pt.locs, Pt.cells, Pt.slots] at X' e1 e2 h1 h2 h3 st
    subst h1; subst h2; subst h3
    exact Or.inl ⟨v, (T.setVm vm₁).calling g' mk As.toArray, t, U', L, hT, X', hL, e1, e2, hq, st⟩
  · dsimp only [Pt.U, Pt.locs, Pt.cells, Pt.slots] at X' e1 e2 h1 h2 h3 st hcl
    subst h1; subst h2; subst h3
    exact Or.inr ⟨q, (T.setVm vm₁).calling g' mk As.toArray, t, U', L, E, ce, hT, X', hL, e1, e2, hq, hce, hcv, vx_cls hW₁ hcl, st⟩
end
end VXH
theorem vx_ofWH {l : Launch} {y : MethodName} {ws ws' : List Cond} {rm : Room} {Pc : Array Value → State → Prop} {Qc : Array Value → State → Outcome → State → Prop} {XC : String → State → State → Prop} {mc ms : Nat} {free : Addr → Prop} {cc : ByteArray} {maxL : Nat} {ret : Option FieldType} {hh : List (Nat × Nat × Nat × Nat)}
    (hy : plainName y.cls = true) (hw : ws = Cond.codeWith y cc maxL ret hh :: ws')
    (body : ∀ p e s m args below meth c s₁, BodyLoose p l y (headSpec ws rm) cc maxL ret e s m args below meth c s₁ → c.maxLocals = maxL → Pc args s →
      W p l e (headSpec ws rm).room s m args below meth c s.heap [] 0 0 (vx_MQ below Qc XC args s mc ms free) (entryFrame m args maxL)) : vx_Met l y ws rm Pc Qc XC mc ms free := by
  refine MetFree.of_bodyS (code := cc) (maxLocals := maxL) (ret := ret) hy ?_ ?_
  · intro args s m h hn
    obtain ⟨m9, meth, c, hn9, h1, h2, h3, h4, -, h5, h6, -⟩ := Cond.codeWith_spec (atoms_spec (ws := ws) h _ (by rw [hw]; exact List.mem_cons_self))
    cases hn.symm.trans hn9
    exact ⟨meth, c, h1, h2, h3, h4, h5, h6⟩
  · intro p e s m args below meth c s₁ B hml hP _
    have hh0 : s₁.heap = s.heap := by rw [B.state]; rfl
    obtain ⟨t, a1, o, b1, b2, b3⟩ := body p e s m args below meth c s₁ B hml hP s₁ hh0 (Stand.of_body B)
    exact ⟨t, o, a1, b1, b2, b3⟩
/-! ===== END ===== -/
end
section
def RX0 : String := "LetterDesk$Calendar"
def TX0 : u_T := fun k => match k with
  | 0 => ("LetterDesk$Calendar", "freeDays", "[I", true)
  | _ => ("LetterDesk$Calendar", "freeCount", "I", false)
def tyX0 : Nat → FieldType := fun k => match k with
  | 0 => .array .int
  | _ => .int
abbrev wsX00 : List Cond := u_ws RX0 TX0 2
theorem nmX0 : ∀ a, a < 2 → ∀ b, b < 2 → a ≠ b → (TX0 a).2.1 ≠ (TX0 b).2.1 := by decide +kernel
theorem tyX0_ok : ∀ k, k < 2 → parseFieldDescriptor (TX0 k).2.2.1 = some (tyX0 k) := by decide +kernel
abbrev cX0_init : ByteArray := prog_2_method_1_code
def yX0_init : MethodName := ⟨RX0, "<init>", "()V"⟩
abbrev cX0_addFree : ByteArray := prog_2_method_2_code
def yX0_addFree : MethodName := ⟨RX0, "addFree", "(I)Z"⟩
abbrev cX0_removeFree : ByteArray := prog_2_method_3_code
def yX0_removeFree : MethodName := ⟨RX0, "removeFree", "(I)Z"⟩
abbrev cX0_workingDays : ByteArray := prog_2_method_4_code
def yX0_workingDays : MethodName := ⟨RX0, "workingDays", "(II)I"⟩
abbrev cX0_dueDay : ByteArray := prog_2_method_5_code
def yX0_dueDay : MethodName := ⟨RX0, "dueDay", "(II)I"⟩
abbrev cX0_firstNotBelow : ByteArray := prog_2_method_6_code
def yX0_firstNotBelow : MethodName := ⟨RX0, "firstNotBelow", "(I)I"⟩
abbrev cX0_weekdaysUpTo : ByteArray := prog_2_method_7_code
def yX0_weekdaysUpTo : MethodName := ⟨RX0, "weekdaysUpTo", "(I)I"⟩
abbrev cX0_isWeekday : ByteArray := prog_2_method_8_code
def yX0_isWeekday : MethodName := ⟨RX0, "isWeekday", "(I)Z"⟩
def RX1 : String := "LetterDesk$Case"
def TX1 : u_T := fun k => match k with
  | 0 => ("LetterDesk$Case", "numbers", "[I", true)
  | _ => ("LetterDesk$Case", "open", "[I", true)
def tyX1 : Nat → FieldType := fun k => match k with
  | 0 => .array .int
  | _ => .array .int
abbrev wsX10 : List Cond := u_ws RX1 TX1 2
theorem nmX1 : ∀ a, a < 2 → ∀ b, b < 2 → a ≠ b → (TX1 a).2.1 ≠ (TX1 b).2.1 := by decide +kernel
theorem tyX1_ok : ∀ k, k < 2 → parseFieldDescriptor (TX1 k).2.2.1 = some (tyX1 k) := by decide +kernel
abbrev cX1_init : ByteArray := prog_3_method_1_code
def yX1_init : MethodName := ⟨RX1, "<init>", "()V"⟩
abbrev cX1_setWorld : ByteArray := prog_3_method_2_code
def yX1_setWorld : MethodName := ⟨RX1, "setWorld", "(LLetterDesk$Edition;I)V"⟩
abbrev cX1_worldOf : ByteArray := prog_3_method_3_code
def yX1_worldOf : MethodName := ⟨RX1, "worldOf", "(LLetterDesk$Edition;)I"⟩
def RX2 : String := "LetterDesk$Clause"
def TX2 : u_T := fun k => match k with
  | 0 => ("LetterDesk$Clause", "name", "J", true)
  | 1 => ("LetterDesk$Clause", "at", "I", true)
  | 2 => ("LetterDesk$Clause", "must", "Z", true)
  | 3 => ("LetterDesk$Clause", "when", "LLetterDesk$Formula;", true)
  | 4 => ("LetterDesk$Clause", "needs", "[I", true)
  | 5 => ("LetterDesk$Clause", "needCount", "I", false)
  | 6 => ("LetterDesk$Clause", "bars", "[I", true)
  | 7 => ("LetterDesk$Clause", "barCount", "I", false)
  | 8 => ("LetterDesk$Clause", "items", "[LLetterDesk$Item;", true)
  | _ => ("LetterDesk$Clause", "itemCount", "I", false)
def tyX2 : Nat → FieldType := fun k => match k with
  | 0 => .long
  | 1 => .int
  | 2 => .boolean
  | 3 => .object "LetterDesk$Formula"
  | 4 => .array .int
  | 5 => .int
  | 6 => .array .int
  | 7 => .int
  | 8 => .array (.object "LetterDesk$Item")
  | _ => .int
abbrev wsX20 : List Cond := u_ws RX2 TX2 10
theorem nmX2 : ∀ a, a < 10 → ∀ b, b < 10 → a ≠ b → (TX2 a).2.1 ≠ (TX2 b).2.1 := by decide +kernel
theorem tyX2_ok : ∀ k, k < 10 → parseFieldDescriptor (TX2 k).2.2.1 = some (tyX2 k) := by decide +kernel
abbrev cX2_init : ByteArray := prog_4_method_1_code
def yX2_init : MethodName := ⟨RX2, "<init>", "(JIZLLetterDesk$Formula;)V"⟩
abbrev cX2_hasAllLinks : ByteArray := prog_4_method_2_code
def yX2_hasAllLinks : MethodName := ⟨RX2, "hasAllLinks", "()Z"⟩
abbrev cX2_hasAllItems : ByteArray := prog_4_method_3_code
def yX2_hasAllItems : MethodName := ⟨RX2, "hasAllItems", "()Z"⟩
abbrev cX2_addNeed : ByteArray := prog_4_method_4_code
def yX2_addNeed : MethodName := ⟨RX2, "addNeed", "(I)V"⟩
abbrev cX2_addBar : ByteArray := prog_4_method_5_code
def yX2_addBar : MethodName := ⟨RX2, "addBar", "(I)V"⟩
abbrev cX2_addItem : ByteArray := prog_4_method_6_code
def yX2_addItem : MethodName := ⟨RX2, "addItem", "(LLetterDesk$Item;)V"⟩
def RX3 : String := "LetterDesk$Edition"
def TX3 : u_T := fun k => match k with
  | 0 => ("LetterDesk$Edition", "number", "I", true)
  | 1 => ("LetterDesk$Edition", "startDay", "I", true)
  | 2 => ("LetterDesk$Edition", "factCount", "I", false)
  | 3 => ("LetterDesk$Edition", "factNames", "[J", true)
  | 4 => ("LetterDesk$Edition", "least", "[I", true)
  | 5 => ("LetterDesk$Edition", "greatest", "[I", true)
  | 6 => ("LetterDesk$Edition", "worlds", "I", false)
  | 7 => ("LetterDesk$Edition", "clauseCount", "I", false)
  | 8 => ("LetterDesk$Edition", "clauses", "[LLetterDesk$Clause;", true)
  | 9 => ("LetterDesk$Edition", "order", "[I", true)
  | 10 => ("LetterDesk$Edition", "judged", "Z", false)
  | 11 => ("LetterDesk$Edition", "quarrelWorlds", "[I", true)
  | _ => ("LetterDesk$Edition", "quarrelLeast", "[I", true)
def tyX3 : Nat → FieldType := fun k => match k with
  | 0 => .int
  | 1 => .int
  | 2 => .int
  | 3 => .array .long
  | 4 => .array .int
  | 5 => .array .int
  | 6 => .int
  | 7 => .int
  | 8 => .array (.object "LetterDesk$Clause")
  | 9 => .array .int
  | 10 => .boolean
  | 11 => .array .int
  | _ => .array .int
abbrev wsX30 : List Cond := u_ws RX3 TX3 13
theorem nmX3 : ∀ a, a < 13 → ∀ b, b < 13 → a ≠ b → (TX3 a).2.1 ≠ (TX3 b).2.1 := by decide +kernel
theorem tyX3_ok : ∀ k, k < 13 → parseFieldDescriptor (TX3 k).2.2.1 = some (tyX3 k) := by decide +kernel
abbrev cX3_init : ByteArray := prog_5_method_1_code
def yX3_init : MethodName := ⟨RX3, "<init>", "(II)V"⟩
abbrev cX3_hasFact : ByteArray := prog_5_method_2_code
def yX3_hasFact : MethodName := ⟨RX3, "hasFact", "(I)Z"⟩
abbrev cX3_spanOf : ByteArray := prog_5_method_3_code
def yX3_spanOf : MethodName := ⟨RX3, "spanOf", "(I)I"⟩
abbrev cX3_factNamed : ByteArray := prog_5_method_4_code
def yX3_factNamed : MethodName := ⟨RX3, "factNamed", "(J)I"⟩
abbrev cX3_hasClauseNamed : ByteArray := prog_5_method_5_code
def yX3_hasClauseNamed : MethodName := ⟨RX3, "hasClauseNamed", "(J)Z"⟩
abbrev cX3_addFact : ByteArray := prog_5_method_6_code
def yX3_addFact : MethodName := ⟨RX3, "addFact", "(JII)V"⟩
abbrev cX3_addClause : ByteArray := prog_5_method_7_code
def yX3_addClause : MethodName := ⟨RX3, "addClause", "(LLetterDesk$Clause;)V"⟩
abbrev cX3_hasFactsOf : ByteArray := prog_5_method_8_code
def yX3_hasFactsOf : MethodName := ⟨RX3, "hasFactsOf", "(LLetterDesk$Edition;)Z"⟩
def RX4 : String := "LetterDesk$Formula"
def TX4 : u_T := fun k => match k with
  | _ => ("LetterDesk$Formula", "operations", "[I", true)
def tyX4 : Nat → FieldType := fun k => match k with
  | _ => .array .int
abbrev wsX40 : List Cond := u_ws RX4 TX4 1
theorem nmX4 : ∀ a, a < 1 → ∀ b, b < 1 → a ≠ b → (TX4 a).2.1 ≠ (TX4 b).2.1 := by decide +kernel
theorem tyX4_ok : ∀ k, k < 1 → parseFieldDescriptor (TX4 k).2.2.1 = some (tyX4 k) := by decide +kernel
abbrev cX4_init : ByteArray := prog_6_method_1_code
def yX4_init : MethodName := ⟨RX4, "<init>", "([I)V"⟩
abbrev cX4_reckon : ByteArray := prog_6_method_2_code
def yX4_reckon : MethodName := ⟨RX4, "reckon", "(LLetterDesk$Case;)I"⟩
abbrev cX4_join : ByteArray := prog_6_method_3_code
def yX4_join : MethodName := ⟨RX4, "join", "(III)I"⟩
def RX5 : String := "LetterDesk$Item"
def TX5 : u_T := fun k => match k with
  | 0 => ("LetterDesk$Item", "kind", "I", true)
  | 1 => ("LetterDesk$Item", "word", "J", true)
  | 2 => ("LetterDesk$Item", "target", "I", true)
  | _ => ("LetterDesk$Item", "formula", "LLetterDesk$Formula;", true)
def tyX5 : Nat → FieldType := fun k => match k with
  | 0 => .int
  | 1 => .long
  | 2 => .int
  | _ => .object "LetterDesk$Formula"
abbrev wsX50 : List Cond := u_ws RX5 TX5 4
theorem nmX5 : ∀ a, a < 4 → ∀ b, b < 4 → a ≠ b → (TX5 a).2.1 ≠ (TX5 b).2.1 := by decide +kernel
theorem tyX5_ok : ∀ k, k < 4 → parseFieldDescriptor (TX5 k).2.2.1 = some (tyX5 k) := by decide +kernel
abbrev cX5_init : ByteArray := prog_7_method_1_code
def yX5_init : MethodName := ⟨RX5, "<init>", "(IJILLetterDesk$Formula;)V"⟩
def RX6 : String := "LetterDesk$Letter"
def TX6 : u_T := fun k => match k with
  | 0 => ("LetterDesk$Letter", "inside", "[Z", true)
  | 1 => ("LetterDesk$Letter", "parts", "[I", true)
  | 2 => ("LetterDesk$Letter", "partNumbers", "[I", true)
  | 3 => ("LetterDesk$Letter", "partCount", "I", false)
  | 4 => ("LetterDesk$Letter", "signs", "[B", true)
  | 5 => ("LetterDesk$Letter", "length", "I", false)
  | 6 => ("LetterDesk$Letter", "quarrel", "I", false)
  | 7 => ("LetterDesk$Letter", "who", "I", false)
  | _ => ("LetterDesk$Letter", "whom", "I", false)
def tyX6 : Nat → FieldType := fun k => match k with
  | 0 => .array .boolean
  | 1 => .array .int
  | 2 => .array .int
  | 3 => .int
  | 4 => .array .byte
  | 5 => .int
  | 6 => .int
  | 7 => .int
  | _ => .int
abbrev wsX60 : List Cond := u_ws RX6 TX6 9
theorem nmX6 : ∀ a, a < 9 → ∀ b, b < 9 → a ≠ b → (TX6 a).2.1 ≠ (TX6 b).2.1 := by decide +kernel
theorem tyX6_ok : ∀ k, k < 9 → parseFieldDescriptor (TX6 k).2.2.1 = some (tyX6 k) := by decide +kernel
abbrev cX6_init : ByteArray := prog_8_method_1_code
def yX6_init : MethodName := ⟨RX6, "<init>", "()V"⟩
abbrev cX6_compose : ByteArray := prog_8_method_2_code
def yX6_compose : MethodName := ⟨RX6, "compose", "(LLetterDesk$Edition;LLetterDesk$Case;ILLetterDesk$Calendar;)V"⟩
abbrev cX6_settle : ByteArray := prog_8_method_3_code
def yX6_settle : MethodName := ⟨RX6, "settle", "(LLetterDesk$Edition;LLetterDesk$Case;)V"⟩
abbrev cX6_readsLike : ByteArray := prog_8_method_4_code
def yX6_readsLike : MethodName := ⟨RX6, "readsLike", "(LLetterDesk$Letter;)Z"⟩
abbrev cX6_addNeeded : ByteArray := prog_8_method_5_code
def yX6_addNeeded : MethodName := ⟨RX6, "addNeeded", "(LLetterDesk$Edition;)Z"⟩
abbrev cX6_findQuarrel : ByteArray := prog_8_method_6_code
def yX6_findQuarrel : MethodName := ⟨RX6, "findQuarrel", "(LLetterDesk$Edition;)V"⟩
abbrev cX6_findMissing : ByteArray := prog_8_method_7_code
def yX6_findMissing : MethodName := ⟨RX6, "findMissing", "(LLetterDesk$Edition;)Z"⟩
abbrev cX6_findBarred : ByteArray := prog_8_method_8_code
def yX6_findBarred : MethodName := ⟨RX6, "findBarred", "(LLetterDesk$Edition;)Z"⟩
abbrev cX6_findBadReference : ByteArray := prog_8_method_9_code
def yX6_findBadReference : MethodName := ⟨RX6, "findBadReference", "(LLetterDesk$Edition;)Z"⟩
abbrev cX6_isEmpty : ByteArray := prog_8_method_10_code
def yX6_isEmpty : MethodName := ⟨RX6, "isEmpty", "(LLetterDesk$Edition;)Z"⟩
abbrev cX6_numberParts : ByteArray := prog_8_method_11_code
def yX6_numberParts : MethodName := ⟨RX6, "numberParts", "(LLetterDesk$Edition;)V"⟩
abbrev cX6_printParts : ByteArray := prog_8_method_12_code
def yX6_printParts : MethodName := ⟨RX6, "printParts", "(LLetterDesk$Edition;LLetterDesk$Case;ILLetterDesk$Calendar;)V"⟩
abbrev cX6_printWord : ByteArray := prog_8_method_13_code
def yX6_printWord : MethodName := ⟨RX6, "printWord", "(J)V"⟩
abbrev cX6_printNumber : ByteArray := prog_8_method_14_code
def yX6_printNumber : MethodName := ⟨RX6, "printNumber", "(I)V"⟩
abbrev cX6_printBlankBetween : ByteArray := prog_8_method_15_code
def yX6_printBlankBetween : MethodName := ⟨RX6, "printBlankBetween", "()V"⟩
abbrev cX6_printSign : ByteArray := prog_8_method_16_code
def yX6_printSign : MethodName := ⟨RX6, "printSign", "(I)V"⟩
def RX7 : String := "LetterDesk$Reader"
def TX7 : u_T := fun k => match k with
  | 0 => ("LetterDesk$Reader", "tokens", "LLetterDesk$Tokens;", true)
  | 1 => ("LetterDesk$Reader", "edition", "LLetterDesk$Edition;", true)
  | 2 => ("LetterDesk$Reader", "toldNames", "[J", true)
  | 3 => ("LetterDesk$Reader", "toldCount", "I", false)
  | 4 => ("LetterDesk$Reader", "operations", "[I", true)
  | 5 => ("LetterDesk$Reader", "operationCount", "I", false)
  | 6 => ("LetterDesk$Reader", "waitingJoins", "[I", true)
  | 7 => ("LetterDesk$Reader", "waitingComparisons", "[I", true)
  | _ => ("LetterDesk$Reader", "fault", "I", false)
def tyX7 : Nat → FieldType := fun k => match k with
  | 0 => .object "LetterDesk$Tokens"
  | 1 => .object "LetterDesk$Edition"
  | 2 => .array .long
  | 3 => .int
  | 4 => .array .int
  | 5 => .int
  | 6 => .array .int
  | 7 => .array .int
  | _ => .int
abbrev wsX70 : List Cond := u_ws RX7 TX7 9
theorem nmX7 : ∀ a, a < 9 → ∀ b, b < 9 → a ≠ b → (TX7 a).2.1 ≠ (TX7 b).2.1 := by decide +kernel
theorem tyX7_ok : ∀ k, k < 9 → parseFieldDescriptor (TX7 k).2.2.1 = some (tyX7 k) := by decide +kernel
abbrev cX7_init : ByteArray := prog_9_method_1_code
def yX7_init : MethodName := ⟨RX7, "<init>", "([BILLetterDesk$Edition;)V"⟩
abbrev cX7_fillEdition : ByteArray := prog_9_method_2_code
def yX7_fillEdition : MethodName := ⟨RX7, "fillEdition", "()I"⟩
abbrev cX7_fail : ByteArray := prog_9_method_3_code
def yX7_fail : MethodName := ⟨RX7, "fail", "(I)V"⟩
abbrev cX7_require : ByteArray := prog_9_method_4_code
def yX7_require : MethodName := ⟨RX7, "require", "(I)V"⟩
abbrev cX7_pass : ByteArray := prog_9_method_5_code
def yX7_pass : MethodName := ⟨RX7, "pass", "(I)V"⟩
abbrev cX7_requireNumber : ByteArray := prog_9_method_6_code
def yX7_requireNumber : MethodName := ⟨RX7, "requireNumber", "(I)I"⟩
abbrev cX7_findToldNames : ByteArray := prog_9_method_7_code
def yX7_findToldNames : MethodName := ⟨RX7, "findToldNames", "()V"⟩
abbrev cX7_readFact : ByteArray := prog_9_method_8_code
def yX7_readFact : MethodName := ⟨RX7, "readFact", "()V"⟩
abbrev cX7_readClause : ByteArray := prog_9_method_9_code
def yX7_readClause : MethodName := ⟨RX7, "readClause", "()V"⟩
abbrev cX7_readLinks : ByteArray := prog_9_method_10_code
def yX7_readLinks : MethodName := ⟨RX7, "readLinks", "(LLetterDesk$Clause;)V"⟩
abbrev cX7_readLink : ByteArray := prog_9_method_11_code
def yX7_readLink : MethodName := ⟨RX7, "readLink", "(LLetterDesk$Clause;)I"⟩
abbrev cX7_readTarget : ByteArray := prog_9_method_12_code
def yX7_readTarget : MethodName := ⟨RX7, "readTarget", "()I"⟩
abbrev cX7_readItems : ByteArray := prog_9_method_13_code
def yX7_readItems : MethodName := ⟨RX7, "readItems", "(LLetterDesk$Clause;)V"⟩
abbrev cX7_startsItem : ByteArray := prog_9_method_14_code
def yX7_startsItem : MethodName := ⟨RX7, "startsItem", "()Z"⟩
abbrev cX7_readItem : ByteArray := prog_9_method_15_code
def yX7_readItem : MethodName := ⟨RX7, "readItem", "()LLetterDesk$Item;"⟩
abbrev cX7_readFormula : ByteArray := prog_9_method_16_code
def yX7_readFormula : MethodName := ⟨RX7, "readFormula", "()LLetterDesk$Formula;"⟩
abbrev cX7_readOpenings : ByteArray := prog_9_method_17_code
def yX7_readOpenings : MethodName := ⟨RX7, "readOpenings", "(I)I"⟩
abbrev cX7_readValue : ByteArray := prog_9_method_18_code
def yX7_readValue : MethodName := ⟨RX7, "readValue", "(I)V"⟩
abbrev cX7_readClosings : ByteArray := prog_9_method_19_code
def yX7_readClosings : MethodName := ⟨RX7, "readClosings", "(I)I"⟩
abbrev cX7_readOperator : ByteArray := prog_9_method_20_code
def yX7_readOperator : MethodName := ⟨RX7, "readOperator", "(I)Z"⟩
abbrev cX7_openLevel : ByteArray := prog_9_method_21_code
def yX7_openLevel : MethodName := ⟨RX7, "openLevel", "(I)V"⟩
abbrev cX7_addOperation : ByteArray := prog_9_method_22_code
def yX7_addOperation : MethodName := ⟨RX7, "addOperation", "(I)V"⟩
def RX8 : String := "LetterDesk$Survey"
def TX8 : u_T := fun k => match k with
  | 0 => ("LetterDesk$Survey", "tried", "LLetterDesk$Case;", true)
  | 1 => ("LetterDesk$Survey", "letterOfOne", "LLetterDesk$Letter;", true)
  | 2 => ("LetterDesk$Survey", "letterOfOther", "LLetterDesk$Letter;", true)
  | 3 => ("LetterDesk$Survey", "comparedOne", "LLetterDesk$Edition;", false)
  | 4 => ("LetterDesk$Survey", "comparedOther", "LLetterDesk$Edition;", false)
  | 5 => ("LetterDesk$Survey", "comparedDay", "I", false)
  | 6 => ("LetterDesk$Survey", "differing", "I", false)
  | _ => ("LetterDesk$Survey", "leastDiffering", "I", false)
def tyX8 : Nat → FieldType := fun k => match k with
  | 0 => .object "LetterDesk$Case"
  | 1 => .object "LetterDesk$Letter"
  | 2 => .object "LetterDesk$Letter"
  | 3 => .object "LetterDesk$Edition"
  | 4 => .object "LetterDesk$Edition"
  | 5 => .int
  | 6 => .int
  | _ => .int
abbrev wsX80 : List Cond := u_ws RX8 TX8 8
theorem nmX8 : ∀ a, a < 8 → ∀ b, b < 8 → a ≠ b → (TX8 a).2.1 ≠ (TX8 b).2.1 := by decide +kernel
theorem tyX8_ok : ∀ k, k < 8 → parseFieldDescriptor (TX8 k).2.2.1 = some (tyX8 k) := by decide +kernel
abbrev cX8_init : ByteArray := prog_10_method_1_code
def yX8_init : MethodName := ⟨RX8, "<init>", "()V"⟩
abbrev cX8_judgeWorlds : ByteArray := prog_10_method_2_code
def yX8_judgeWorlds : MethodName := ⟨RX8, "judgeWorlds", "(LLetterDesk$Edition;)V"⟩
abbrev cX8_compareWorlds : ByteArray := prog_10_method_3_code
def yX8_compareWorlds : MethodName := ⟨RX8, "compareWorlds", "(LLetterDesk$Edition;LLetterDesk$Edition;ILLetterDesk$Calendar;)V"⟩
abbrev cX8_forgetComparison : ByteArray := prog_10_method_4_code
def yX8_forgetComparison : MethodName := ⟨RX8, "forgetComparison", "()V"⟩
def RX9 : String := "LetterDesk$Tokens"
def TX9 : u_T := fun k => match k with
  | 0 => ("LetterDesk$Tokens", "text", "[B", true)
  | 1 => ("LetterDesk$Tokens", "textLength", "I", true)
  | 2 => ("LetterDesk$Tokens", "reserved", "[J", true)
  | 3 => ("LetterDesk$Tokens", "kinds", "[I", true)
  | 4 => ("LetterDesk$Tokens", "places", "[I", true)
  | 5 => ("LetterDesk$Tokens", "values", "[J", true)
  | 6 => ("LetterDesk$Tokens", "tokenCount", "I", false)
  | 7 => ("LetterDesk$Tokens", "nextIndex", "I", false)
  | 8 => ("LetterDesk$Tokens", "kind", "I", false)
  | 9 => ("LetterDesk$Tokens", "place", "I", false)
  | _ => ("LetterDesk$Tokens", "value", "J", false)
def tyX9 : Nat → FieldType := fun k => match k with
  | 0 => .array .byte
  | 1 => .int
  | 2 => .array .long
  | 3 => .array .int
  | 4 => .array .int
  | 5 => .array .long
  | 6 => .int
  | 7 => .int
  | 8 => .int
  | 9 => .int
  | _ => .long
abbrev wsX90 : List Cond := u_ws RX9 TX9 11
theorem nmX9 : ∀ a, a < 11 → ∀ b, b < 11 → a ≠ b → (TX9 a).2.1 ≠ (TX9 b).2.1 := by decide +kernel
theorem tyX9_ok : ∀ k, k < 11 → parseFieldDescriptor (TX9 k).2.2.1 = some (tyX9 k) := by decide +kernel
abbrev cX9_init : ByteArray := prog_11_method_1_code
def yX9_init : MethodName := ⟨RX9, "<init>", "([BI)V"⟩
abbrev cX9_cutText : ByteArray := prog_11_method_2_code
def yX9_cutText : MethodName := ⟨RX9, "cutText", "()V"⟩
abbrev cX9_toNext : ByteArray := prog_11_method_3_code
def yX9_toNext : MethodName := ⟨RX9, "toNext", "()V"⟩
abbrev cX9_tellsClause : ByteArray := prog_11_method_4_code
def yX9_tellsClause : MethodName := ⟨RX9, "tellsClause", "(I)Z"⟩
abbrev cX9_keep : ByteArray := prog_11_method_5_code
def yX9_keep : MethodName := ⟨RX9, "keep", "(IIJ)V"⟩
abbrev cX9_cutLetters : ByteArray := prog_11_method_6_code
def yX9_cutLetters : MethodName := ⟨RX9, "cutLetters", "(I)I"⟩
abbrev cX9_cutDigits : ByteArray := prog_11_method_7_code
def yX9_cutDigits : MethodName := ⟨RX9, "cutDigits", "(I)I"⟩
abbrev cX9_kindOfWord : ByteArray := prog_11_method_8_code
def yX9_kindOfWord : MethodName := ⟨RX9, "kindOfWord", "(J)I"⟩
abbrev cX9_packReserved : ByteArray := prog_11_method_9_code
def yX9_packReserved : MethodName := ⟨RX9, "packReserved", "()V"⟩
abbrev cX9_packLetter : ByteArray := prog_11_method_10_code
def yX9_packLetter : MethodName := ⟨RX9, "packLetter", "(JI)J"⟩
abbrev cX9_isLetter : ByteArray := prog_11_method_11_code
def yX9_isLetter : MethodName := ⟨RX9, "isLetter", "(I)Z"⟩
abbrev cX9_isDigit : ByteArray := prog_11_method_12_code
def yX9_isDigit : MethodName := ⟨RX9, "isDigit", "(I)Z"⟩
def RX10 : String := "LetterDesk"
def TX10 : u_T := fun k => match k with
  | 0 => ("LetterDesk", "tape", "[B", true)
  | 1 => ("LetterDesk", "tapeLength", "I", false)
  | 2 => ("LetterDesk", "editions", "[LLetterDesk$Edition;", true)
  | 3 => ("LetterDesk", "editionCount", "I", false)
  | 4 => ("LetterDesk", "inHand", "LLetterDesk$Edition;", false)
  | 5 => ("LetterDesk", "facts", "LLetterDesk$Case;", true)
  | 6 => ("LetterDesk", "calendar", "LLetterDesk$Calendar;", true)
  | 7 => ("LetterDesk", "latest", "LLetterDesk$Letter;", true)
  | 8 => ("LetterDesk", "anyMade", "Z", false)
  | _ => ("LetterDesk", "survey", "LLetterDesk$Survey;", true)
def tyX10 : Nat → FieldType := fun k => match k with
  | 0 => .array .byte
  | 1 => .int
  | 2 => .array (.object "LetterDesk$Edition")
  | 3 => .int
  | 4 => .object "LetterDesk$Edition"
  | 5 => .object "LetterDesk$Case"
  | 6 => .object "LetterDesk$Calendar"
  | 7 => .object "LetterDesk$Letter"
  | 8 => .boolean
  | _ => .object "LetterDesk$Survey"
abbrev wsX100 : List Cond := u_ws RX10 TX10 10
theorem nmX10 : ∀ a, a < 10 → ∀ b, b < 10 → a ≠ b → (TX10 a).2.1 ≠ (TX10 b).2.1 := by decide +kernel
theorem tyX10_ok : ∀ k, k < 10 → parseFieldDescriptor (TX10 k).2.2.1 = some (tyX10 k) := by decide +kernel
abbrev cX10_init : ByteArray := prog_1_method_1_code
def yX10_init : MethodName := ⟨RX10, "<init>", "()V"⟩
abbrev cX10_feed : ByteArray := prog_1_method_2_code
def yX10_feed : MethodName := ⟨RX10, "feed", "(JJJ)I"⟩
abbrev cX10_edition : ByteArray := prog_1_method_3_code
def yX10_edition : MethodName := ⟨RX10, "edition", "(I)I"⟩
abbrev cX10_take : ByteArray := prog_1_method_4_code
def yX10_take : MethodName := ⟨RX10, "take", "(I)Z"⟩
abbrev cX10_inForce : ByteArray := prog_1_method_5_code
def yX10_inForce : MethodName := ⟨RX10, "inForce", "(I)I"⟩
abbrev cX10_fact : ByteArray := prog_1_method_6_code
def yX10_fact : MethodName := ⟨RX10, "fact", "(II)Z"⟩
abbrev cX10_world : ByteArray := prog_1_method_7_code
def yX10_world : MethodName := ⟨RX10, "world", "(I)Z"⟩
abbrev cX10_free : ByteArray := prog_1_method_8_code
def yX10_free : MethodName := ⟨RX10, "free", "(IZ)Z"⟩
abbrev cX10_make : ByteArray := prog_1_method_9_code
def yX10_make : MethodName := ⟨RX10, "make", "(I)I"⟩
abbrev cX10_letter : ByteArray := prog_1_method_10_code
def yX10_letter : MethodName := ⟨RX10, "letter", "(I)I"⟩
abbrev cX10_out : ByteArray := prog_1_method_11_code
def yX10_out : MethodName := ⟨RX10, "out", "(I)I"⟩
abbrev cX10_part : ByteArray := prog_1_method_12_code
def yX10_part : MethodName := ⟨RX10, "part", "(I)I"⟩
abbrev cX10_working : ByteArray := prog_1_method_13_code
def yX10_working : MethodName := ⟨RX10, "working", "(II)I"⟩
abbrev cX10_judge : ByteArray := prog_1_method_14_code
def yX10_judge : MethodName := ⟨RX10, "judge", "(II)I"⟩
abbrev cX10_changed : ByteArray := prog_1_method_15_code
def yX10_changed : MethodName := ⟨RX10, "changed", "(IIII)I"⟩
abbrev cX10_look : ByteArray := prog_1_method_16_code
def yX10_look : MethodName := ⟨RX10, "look", "(I)I"⟩
abbrev cX10_told : ByteArray := prog_1_method_17_code
def yX10_told : MethodName := ⟨RX10, "told", "(II)I"⟩
abbrev cX10_count : ByteArray := prog_1_method_18_code
def yX10_count : MethodName := ⟨RX10, "count", "(I)I"⟩
abbrev cX10_feedBytes : ByteArray := prog_1_method_19_code
def yX10_feedBytes : MethodName := ⟨RX10, "feedBytes", "(J)V"⟩
abbrev cX10_takeInHand : ByteArray := prog_1_method_20_code
def yX10_takeInHand : MethodName := ⟨RX10, "takeInHand", "(LLetterDesk$Edition;)V"⟩
abbrev cX10_editionAt : ByteArray := prog_1_method_21_code
def yX10_editionAt : MethodName := ⟨RX10, "editionAt", "(I)LLetterDesk$Edition;"⟩
abbrev cX10_latestStart : ByteArray := prog_1_method_22_code
def yX10_latestStart : MethodName := ⟨RX10, "latestStart", "()I"⟩
abbrev cX10_isDay : ByteArray := prog_1_method_23_code
def yX10_isDay : MethodName := ⟨RX10, "isDay", "(I)Z"⟩
def RX11 : String := "LetterDeskModel"
def TX11 : u_T := fun k => match k with
  | 0 => ("LetterDeskModel", "thrown", "I", false)
  | 1 => ("LetterDeskModel", "tape", "[I", true)
  | 2 => ("LetterDeskModel", "taped", "I", false)
  | 3 => ("LetterDeskModel", "size", "I", false)
  | 4 => ("LetterDeskModel", "sort", "[I", true)
  | 5 => ("LetterDeskModel", "place", "[I", true)
  | 6 => ("LetterDeskModel", "value", "[J", true)
  | 7 => ("LetterDeskModel", "at", "I", false)
  | 8 => ("LetterDeskModel", "fault", "I", false)
  | 9 => ("LetterDeskModel", "words", "[J", true)
  | 10 => ("LetterDeskModel", "editions", "I", false)
  | 11 => ("LetterDeskModel", "from", "[I", true)
  | 12 => ("LetterDeskModel", "facts", "[I", true)
  | 13 => ("LetterDeskModel", "factName", "[J", true)
  | 14 => ("LetterDeskModel", "least", "[I", true)
  | 15 => ("LetterDeskModel", "most", "[I", true)
  | 16 => ("LetterDeskModel", "clauses", "[I", true)
  | 17 => ("LetterDeskModel", "clauseName", "[J", true)
  | 18 => ("LetterDeskModel", "placeOf", "[I", true)
  | 19 => ("LetterDeskModel", "isMust", "[Z", true)
  | 20 => ("LetterDeskModel", "whenAt", "[I", true)
  | 21 => ("LetterDeskModel", "links", "[I", true)
  | 22 => ("LetterDeskModel", "linkTo", "[I", true)
  | 23 => ("LetterDeskModel", "isBar", "[Z", true)
  | 24 => ("LetterDeskModel", "items", "[I", true)
  | 25 => ("LetterDeskModel", "itemKind", "[I", true)
  | 26 => ("LetterDeskModel", "itemAt", "[I", true)
  | 27 => ("LetterDeskModel", "itemWord", "[J", true)
  | 28 => ("LetterDeskModel", "op", "[I", true)
  | 29 => ("LetterDeskModel", "one", "[I", true)
  | 30 => ("LetterDeskModel", "codes", "I", false)
  | 31 => ("LetterDeskModel", "deep", "I", false)
  | 32 => ("LetterDeskModel", "sumWaits", "[I", true)
  | 33 => ("LetterDeskModel", "signWaits", "[I", true)
  | 34 => ("LetterDeskModel", "hand", "I", false)
  | 35 => ("LetterDeskModel", "told", "[I", true)
  | 36 => ("LetterDeskModel", "frees", "I", false)
  | 37 => ("LetterDeskModel", "isFree", "[Z", true)
  | 38 => ("LetterDeskModel", "behindMany", "I", false)
  | 39 => ("LetterDeskModel", "behind", "[I", true)
  | 40 => ("LetterDeskModel", "pile", "[I", true)
  | 41 => ("LetterDeskModel", "isIn", "[Z", true)
  | 42 => ("LetterDeskModel", "part", "[I", true)
  | 43 => ("LetterDeskModel", "parts", "I", false)
  | 44 => ("LetterDeskModel", "quarrel", "I", false)
  | 45 => ("LetterDeskModel", "one1", "I", false)
  | 46 => ("LetterDeskModel", "two", "I", false)
  | 47 => ("LetterDeskModel", "out", "[I", true)
  | 48 => ("LetterDeskModel", "outMany", "I", false)
  | 49 => ("LetterDeskModel", "latest", "I", false)
  | 50 => ("LetterDeskModel", "latestOne", "I", false)
  | 51 => ("LetterDeskModel", "latestTwo", "I", false)
  | 52 => ("LetterDeskModel", "latestMany", "I", false)
  | 53 => ("LetterDeskModel", "latestParts", "I", false)
  | 54 => ("LetterDeskModel", "latestOut", "[I", true)
  | 55 => ("LetterDeskModel", "latestPart", "[I", true)
  | 56 => ("LetterDeskModel", "keptFacts", "[I", true)
  | _ => ("LetterDeskModel", "otherOut", "[I", true)
def tyX11 : Nat → FieldType := fun k => match k with
  | 0 => .int
  | 1 => .array .int
  | 2 => .int
  | 3 => .int
  | 4 => .array .int
  | 5 => .array .int
  | 6 => .array .long
  | 7 => .int
  | 8 => .int
  | 9 => .array .long
  | 10 => .int
  | 11 => .array .int
  | 12 => .array .int
  | 13 => .array .long
  | 14 => .array .int
  | 15 => .array .int
  | 16 => .array .int
  | 17 => .array .long
  | 18 => .array .int
  | 19 => .array .boolean
  | 20 => .array .int
  | 21 => .array .int
  | 22 => .array .int
  | 23 => .array .boolean
  | 24 => .array .int
  | 25 => .array .int
  | 26 => .array .int
  | 27 => .array .long
  | 28 => .array .int
  | 29 => .array .int
  | 30 => .int
  | 31 => .int
  | 32 => .array .int
  | 33 => .array .int
  | 34 => .int
  | 35 => .array .int
  | 36 => .int
  | 37 => .array .boolean
  | 38 => .int
  | 39 => .array .int
  | 40 => .array .int
  | 41 => .array .boolean
  | 42 => .array .int
  | 43 => .int
  | 44 => .int
  | 45 => .int
  | 46 => .int
  | 47 => .array .int
  | 48 => .int
  | 49 => .int
  | 50 => .int
  | 51 => .int
  | 52 => .int
  | 53 => .int
  | 54 => .array .int
  | 55 => .array .int
  | 56 => .array .int
  | _ => .array .int
abbrev wsX110 : List Cond := u_ws RX11 TX11 58
theorem nmX11 : ∀ a, a < 58 → ∀ b, b < 58 → a ≠ b → (TX11 a).2.1 ≠ (TX11 b).2.1 := by decide +kernel
theorem tyX11_ok : ∀ k, k < 58 → parseFieldDescriptor (TX11 k).2.2.1 = some (tyX11 k) := by decide +kernel
abbrev cX11_thrown : ByteArray := prog_13_method_1_code
def yX11_thrown : MethodName := ⟨RX11, "thrown", "()I"⟩
abbrev cX11_feed : ByteArray := prog_13_method_2_code
def yX11_feed : MethodName := ⟨RX11, "feed", "(JJJ)I"⟩
abbrev cX11_lay : ByteArray := prog_13_method_3_code
def yX11_lay : MethodName := ⟨RX11, "lay", "(J)V"⟩
abbrev cX11_init : ByteArray := prog_13_method_4_code
def yX11_init : MethodName := ⟨RX11, "<init>", "()V"⟩
abbrev cX11_isLetter : ByteArray := prog_13_method_5_code
def yX11_isLetter : MethodName := ⟨RX11, "isLetter", "(I)Z"⟩
abbrev cX11_isDigit : ByteArray := prog_13_method_6_code
def yX11_isDigit : MethodName := ⟨RX11, "isDigit", "(I)Z"⟩
abbrev cX11_rank : ByteArray := prog_13_method_7_code
def yX11_rank : MethodName := ⟨RX11, "rank", "(I)I"⟩
abbrev cX11_isSignOf : ByteArray := prog_13_method_8_code
def yX11_isSignOf : MethodName := ⟨RX11, "isSignOf", "(I)Z"⟩
abbrev cX11_cutAll : ByteArray := prog_13_method_9_code
def yX11_cutAll : MethodName := ⟨RX11, "cutAll", "()V"⟩
abbrev cX11_wrong : ByteArray := prog_13_method_10_code
def yX11_wrong : MethodName := ⟨RX11, "wrong", "(I)V"⟩
abbrev cX11_isSign : ByteArray := prog_13_method_11_code
def yX11_isSign : MethodName := ⟨RX11, "isSign", "(I)Z"⟩
abbrev cX11_isWord : ByteArray := prog_13_method_12_code
def yX11_isWord : MethodName := ⟨RX11, "isWord", "(I)Z"⟩
abbrev cX11_takeSign : ByteArray := prog_13_method_13_code
def yX11_takeSign : MethodName := ⟨RX11, "takeSign", "(I)V"⟩
abbrev cX11_hasSign : ByteArray := prog_13_method_14_code
def yX11_hasSign : MethodName := ⟨RX11, "hasSign", "(I)Z"⟩
abbrev cX11_hasWord : ByteArray := prog_13_method_15_code
def yX11_hasWord : MethodName := ⟨RX11, "hasWord", "(I)Z"⟩
abbrev cX11_takeWord : ByteArray := prog_13_method_16_code
def yX11_takeWord : MethodName := ⟨RX11, "takeWord", "(I)V"⟩
abbrev cX11_takeNumber : ByteArray := prog_13_method_17_code
def yX11_takeNumber : MethodName := ⟨RX11, "takeNumber", "(II)I"⟩
abbrev cX11_isName : ByteArray := prog_13_method_18_code
def yX11_isName : MethodName := ⟨RX11, "isName", "()Z"⟩
abbrev cX11_emit : ByteArray := prog_13_method_19_code
def yX11_emit : MethodName := ⟨RX11, "emit", "(II)V"⟩
abbrev cX11_edition : ByteArray := prog_13_method_20_code
def yX11_edition : MethodName := ⟨RX11, "edition", "(I)I"⟩
abbrev cX11_factIs : ByteArray := prog_13_method_21_code
def yX11_factIs : MethodName := ⟨RX11, "factIs", "()V"⟩
abbrev cX11_findFact : ByteArray := prog_13_method_22_code
def yX11_findFact : MethodName := ⟨RX11, "findFact", "(J)I"⟩
abbrev cX11_worlds : ByteArray := prog_13_method_23_code
def yX11_worlds : MethodName := ⟨RX11, "worlds", "(I)J"⟩
abbrev cX11_findClause : ByteArray := prog_13_method_24_code
def yX11_findClause : MethodName := ⟨RX11, "findClause", "(J)I"⟩
abbrev cX11_takeClause : ByteArray := prog_13_method_25_code
def yX11_takeClause : MethodName := ⟨RX11, "takeClause", "()I"⟩
abbrev cX11_clauseIs : ByteArray := prog_13_method_26_code
def yX11_clauseIs : MethodName := ⟨RX11, "clauseIs", "()V"⟩
abbrev cX11_link : ByteArray := prog_13_method_27_code
def yX11_link : MethodName := ⟨RX11, "link", "(IZ)V"⟩
abbrev cX11_isItem : ByteArray := prog_13_method_28_code
def yX11_isItem : MethodName := ⟨RX11, "isItem", "()Z"⟩
abbrev cX11_item : ByteArray := prog_13_method_29_code
def yX11_item : MethodName := ⟨RX11, "item", "(I)V"⟩
abbrev cX11_expression : ByteArray := prog_13_method_30_code
def yX11_expression : MethodName := ⟨RX11, "expression", "()V"⟩
abbrev cX11_opens : ByteArray := prog_13_method_31_code
def yX11_opens : MethodName := ⟨RX11, "opens", "()V"⟩
abbrev cX11_part : ByteArray := prog_13_method_32_code
def yX11_part : MethodName := ⟨RX11, "part", "()Z"⟩
abbrev cX11_goesOnBehind : ByteArray := prog_13_method_33_code
def yX11_goesOnBehind : MethodName := ⟨RX11, "goesOnBehind", "()Z"⟩
abbrev cX11_keeps : ByteArray := prog_13_method_34_code
def yX11_keeps : MethodName := ⟨RX11, "keeps", "(I)V"⟩
abbrev cX11_takes : ByteArray := prog_13_method_35_code
def yX11_takes : MethodName := ⟨RX11, "takes", "(I)V"⟩
abbrev cX11_take : ByteArray := prog_13_method_36_code
def yX11_take : MethodName := ⟨RX11, "take", "(I)Z"⟩
abbrev cX11_inForce : ByteArray := prog_13_method_37_code
def yX11_inForce : MethodName := ⟨RX11, "inForce", "(I)I"⟩
abbrev cX11_fact : ByteArray := prog_13_method_38_code
def yX11_fact : MethodName := ⟨RX11, "fact", "(II)Z"⟩
abbrev cX11_comes : ByteArray := prog_13_method_39_code
def yX11_comes : MethodName := ⟨RX11, "comes", "(II)V"⟩
abbrev cX11_worldNow : ByteArray := prog_13_method_40_code
def yX11_worldNow : MethodName := ⟨RX11, "worldNow", "()I"⟩
abbrev cX11_world : ByteArray := prog_13_method_41_code
def yX11_world : MethodName := ⟨RX11, "world", "(I)Z"⟩
abbrev cX11_free : ByteArray := prog_13_method_42_code
def yX11_free : MethodName := ⟨RX11, "free", "(IZ)Z"⟩
abbrev cX11_isWorking : ByteArray := prog_13_method_43_code
def yX11_isWorking : MethodName := ⟨RX11, "isWorking", "(I)Z"⟩
abbrev cX11_workingIn : ByteArray := prog_13_method_44_code
def yX11_workingIn : MethodName := ⟨RX11, "workingIn", "(II)I"⟩
abbrev cX11_working : ByteArray := prog_13_method_45_code
def yX11_working : MethodName := ⟨RX11, "working", "(II)I"⟩
abbrev cX11_findBehind : ByteArray := prog_13_method_46_code
def yX11_findBehind : MethodName := ⟨RX11, "findBehind", "(I)V"⟩
abbrev cX11_dayOf : ByteArray := prog_13_method_47_code
def yX11_dayOf : MethodName := ⟨RX11, "dayOf", "(II)I"⟩
abbrev cX11_worth : ByteArray := prog_13_method_48_code
def yX11_worth : MethodName := ⟨RX11, "worth", "(II)I"⟩
abbrev cX11_gathers : ByteArray := prog_13_method_49_code
def yX11_gathers : MethodName := ⟨RX11, "gathers", "(I)V"⟩
abbrev cX11_quarrels : ByteArray := prog_13_method_50_code
def yX11_quarrels : MethodName := ⟨RX11, "quarrels", "(I)V"⟩
abbrev cX11_barsOf : ByteArray := prog_13_method_51_code
def yX11_barsOf : MethodName := ⟨RX11, "barsOf", "(II)V"⟩
abbrev cX11_refsOf : ByteArray := prog_13_method_52_code
def yX11_refsOf : MethodName := ⟨RX11, "refsOf", "(II)V"⟩
abbrev cX11_orders : ByteArray := prog_13_method_53_code
def yX11_orders : MethodName := ⟨RX11, "orders", "(I)V"⟩
abbrev cX11_partOf : ByteArray := prog_13_method_54_code
def yX11_partOf : MethodName := ⟨RX11, "partOf", "(I)I"⟩
abbrev cX11_put : ByteArray := prog_13_method_55_code
def yX11_put : MethodName := ⟨RX11, "put", "(I)V"⟩
abbrev cX11_blank : ByteArray := prog_13_method_56_code
def yX11_blank : MethodName := ⟨RX11, "blank", "()V"⟩
abbrev cX11_prints : ByteArray := prog_13_method_57_code
def yX11_prints : MethodName := ⟨RX11, "prints", "(I)V"⟩
abbrev cX11_printsWord : ByteArray := prog_13_method_58_code
def yX11_printsWord : MethodName := ⟨RX11, "printsWord", "(J)V"⟩
abbrev cX11_printsPart : ByteArray := prog_13_method_59_code
def yX11_printsPart : MethodName := ⟨RX11, "printsPart", "(III)V"⟩
abbrev cX11_makes : ByteArray := prog_13_method_60_code
def yX11_makes : MethodName := ⟨RX11, "makes", "(II)V"⟩
abbrev cX11_make : ByteArray := prog_13_method_61_code
def yX11_make : MethodName := ⟨RX11, "make", "(I)I"⟩
abbrev cX11_letter : ByteArray := prog_13_method_62_code
def yX11_letter : MethodName := ⟨RX11, "letter", "(I)I"⟩
abbrev cX11_out : ByteArray := prog_13_method_63_code
def yX11_out : MethodName := ⟨RX11, "out", "(I)I"⟩
abbrev cX11_part_ : ByteArray := prog_13_method_64_code
def yX11_part_ : MethodName := ⟨RX11, "part", "(I)I"⟩
abbrev cX11_keepsFacts : ByteArray := prog_13_method_65_code
def yX11_keepsFacts : MethodName := ⟨RX11, "keepsFacts", "(Z)V"⟩
abbrev cX11_judge : ByteArray := prog_13_method_66_code
def yX11_judge : MethodName := ⟨RX11, "judge", "(II)I"⟩
abbrev cX11_haveSameFacts : ByteArray := prog_13_method_67_code
def yX11_haveSameFacts : MethodName := ⟨RX11, "haveSameFacts", "(II)Z"⟩
abbrev cX11_areAlike : ByteArray := prog_13_method_68_code
def yX11_areAlike : MethodName := ⟨RX11, "areAlike", "(III)Z"⟩
abbrev cX11_changed : ByteArray := prog_13_method_69_code
def yX11_changed : MethodName := ⟨RX11, "changed", "(IIII)I"⟩
abbrev cX11_look : ByteArray := prog_13_method_70_code
def yX11_look : MethodName := ⟨RX11, "look", "(I)I"⟩
abbrev cX11_told : ByteArray := prog_13_method_71_code
def yX11_told : MethodName := ⟨RX11, "told", "(II)I"⟩
abbrev cX11_count : ByteArray := prog_13_method_72_code
def yX11_count : MethodName := ⟨RX11, "count", "(I)I"⟩
def RJ11 : String := "java/lang/Character"
def TJ11 : u_T := fun k => match k with
  | _ => ("", "", "", false)
def tyJ11 : Nat → FieldType := fun k => match k with
  | _ => .int
abbrev cJ11_isValidCodePoint_9a6ad : ByteArray := prog_14_method_11_code
def yJ11_isValidCodePoint_9a6ad : MethodName := ⟨RJ11, "isValidCodePoint", "(I)Z"⟩
abbrev cJ11_highSurrogate_5068e : ByteArray := prog_14_method_28_code
def yJ11_highSurrogate_5068e : MethodName := ⟨RJ11, "highSurrogate", "(I)C"⟩
abbrev cJ11_lowSurrogate_5068e : ByteArray := prog_14_method_29_code
def yJ11_lowSurrogate_5068e : MethodName := ⟨RJ11, "lowSurrogate", "(I)C"⟩
def TJx8e188 : u_T := fun k => match k with
  | _ => ("", "", "", false)
def tyJx8e188 : Nat → FieldType := fun k => match k with
  | _ => .int
def RJ9 : String := "java/lang/Math"
def TJ9 : u_T := fun k => match k with
  | _ => ("", "", "", false)
def tyJ9 : Nat → FieldType := fun k => match k with
  | _ => .int
abbrev cJ9_abs_0f7a4 : ByteArray := prog_18_method_59_code
def yJ9_abs_0f7a4 : MethodName := ⟨RJ9, "abs", "(I)I"⟩
abbrev cJ9_max_7cf53 : ByteArray := prog_18_method_65_code
def yJ9_max_7cf53 : MethodName := ⟨RJ9, "max", "(II)I"⟩
abbrev cJ9_min_7cf53 : ByteArray := prog_18_method_69_code
def yJ9_min_7cf53 : MethodName := ⟨RJ9, "min", "(II)I"⟩
def RJ0 : String := "java/lang/String"
def TJ0 : u_T := fun k => match k with
  | _ => ("", "", "", false)
def tyJ0 : Nat → FieldType := fun k => match k with
  | _ => .int
abbrev cJ0_length_8abf5 : ByteArray := prog_20_method_54_code
def yJ0_length_8abf5 : MethodName := ⟨RJ0, "length", "()I"⟩
abbrev cJ0_charAt_5068e : ByteArray := prog_20_method_56_code
def yJ0_charAt_5068e : MethodName := ⟨RJ0, "charAt", "(I)C"⟩
abbrev cJ0_indexOf_0f7a4 : ByteArray := prog_20_method_79_code
def yJ0_indexOf_0f7a4 : MethodName := ⟨RJ0, "indexOf", "(I)I"⟩
abbrev cJ0_indexOf_7cf53 : ByteArray := prog_20_method_80_code
def yJ0_indexOf_7cf53 : MethodName := ⟨RJ0, "indexOf", "(II)I"⟩
abbrev cJ0_coder_7d493 : ByteArray := prog_20_method_152_code
def yJ0_coder_7d493 : MethodName := ⟨RJ0, "coder", "()B"⟩
abbrev cJ0_isLatin1_aae02 : ByteArray := prog_20_method_154_code
def yJ0_isLatin1_aae02 : MethodName := ⟨RJ0, "isLatin1", "()Z"⟩
abbrev cJ0_checkIndex_df160 : ByteArray := prog_20_method_155_code
def yJ0_checkIndex_df160 : MethodName := ⟨RJ0, "checkIndex", "(II)V"⟩
abbrev cJ0_checkBoundsBeginEnd_23922 : ByteArray := prog_20_method_158_code
def yJ0_checkBoundsBeginEnd_23922 : MethodName := ⟨RJ0, "checkBoundsBeginEnd", "(III)V"⟩
def RJ1 : String := "java/lang/StringLatin1"
def TJ1 : u_T := fun k => match k with
  | _ => ("", "", "", false)
def tyJ1 : Nat → FieldType := fun k => match k with
  | _ => .int
abbrev cJ1_charAt_3b067 : ByteArray := prog_21_method_2_code
def yJ1_charAt_3b067 : MethodName := ⟨RJ1, "charAt", "([BI)C"⟩
abbrev cJ1_canEncode_9a6ad : ByteArray := prog_21_method_4_code
def yJ1_canEncode_9a6ad : MethodName := ⟨RJ1, "canEncode", "(I)Z"⟩
abbrev cJ1_indexOf_4cfef : ByteArray := prog_21_method_22_code
def yJ1_indexOf_4cfef : MethodName := ⟨RJ1, "indexOf", "([BIII)I"⟩
abbrev cJ1_indexOfChar_4cfef : ByteArray := prog_21_method_23_code
def yJ1_indexOfChar_4cfef : MethodName := ⟨RJ1, "indexOfChar", "([BIII)I"⟩
def RJ2 : String := "java/lang/StringUTF16"
def TJ2 : u_T := fun k => match k with
  | _ => ("", "", "", false)
def tyJ2 : Nat → FieldType := fun k => match k with
  | _ => .int
abbrev cJ2_getChar_3b067 : ByteArray := prog_22_method_5_code
def yJ2_getChar_3b067 : MethodName := ⟨RJ2, "getChar", "([BI)C"⟩
abbrev cJ2_length_9d52b : ByteArray := prog_22_method_6_code
def yJ2_length_9d52b : MethodName := ⟨RJ2, "length", "([B)I"⟩
abbrev cJ2_indexOf_4cfef : ByteArray := prog_22_method_40_code
def yJ2_indexOf_4cfef : MethodName := ⟨RJ2, "indexOf", "([BIII)I"⟩
abbrev cJ2_indexOfChar_4cfef : ByteArray := prog_22_method_47_code
def yJ2_indexOfChar_4cfef : MethodName := ⟨RJ2, "indexOfChar", "([BIII)I"⟩
abbrev cJ2_indexOfCharUnsafe_4cfef : ByteArray := prog_22_method_48_code
def yJ2_indexOfCharUnsafe_4cfef : MethodName := ⟨RJ2, "indexOfCharUnsafe", "([BIII)I"⟩
abbrev cJ2_indexOfSupplementary_4cfef : ByteArray := prog_22_method_49_code
def yJ2_indexOfSupplementary_4cfef : MethodName := ⟨RJ2, "indexOfSupplementary", "([BIII)I"⟩
abbrev cJ2_charAt_3b067 : ByteArray := prog_22_method_83_code
def yJ2_charAt_3b067 : MethodName := ⟨RJ2, "charAt", "([BI)C"⟩
abbrev cJ2_checkIndex_2214a : ByteArray := prog_22_method_91_code
def yJ2_checkIndex_2214a : MethodName := ⟨RJ2, "checkIndex", "(I[B)V"⟩
abbrev cJ2_checkBoundsBeginEnd_d044e : ByteArray := prog_22_method_93_code
def yJ2_checkBoundsBeginEnd_d044e : MethodName := ⟨RJ2, "checkBoundsBeginEnd", "(II[B)V"⟩
def RJ10 : String := "java/lang/System"
def TJ10 : u_T := fun k => match k with
  | _ => ("", "", "", false)
def tyJ10 : Nat → FieldType := fun k => match k with
  | _ => .int
def RJ7 : String := "java/util/Arrays"
def TJ7 : u_T := fun k => match k with
  | _ => ("", "", "", false)
def tyJ7 : Nat → FieldType := fun k => match k with
  | _ => .int
abbrev cJ7_fill_53178 : ByteArray := prog_25_method_103_code
def yJ7_fill_53178 : MethodName := ⟨RJ7, "fill", "([II)V"⟩
abbrev cJ7_copyOf_59c91 : ByteArray := prog_25_method_123_code
def yJ7_copyOf_59c91 : MethodName := ⟨RJ7, "copyOf", "([II)[I"⟩
def RJ3 : String := "jdk/internal/util/Preconditions"
def TJ3 : u_T := fun k => match k with
  | _ => ("", "", "", false)
def tyJ3 : Nat → FieldType := fun k => match k with
  | _ => .int
abbrev cJ3_checkIndex_8e157 : ByteArray := prog_27_method_11_code
def yJ3_checkIndex_8e157 : MethodName := ⟨RJ3, "checkIndex", "(IILjava/util/function/BiFunction;)I"⟩
abbrev cJ3_checkFromToIndex_8c36e : ByteArray := prog_27_method_12_code
def yJ3_checkFromToIndex_8c36e : MethodName := ⟨RJ3, "checkFromToIndex", "(IIILjava/util/function/BiFunction;)I"⟩
def RL : String := "LetterDeskLaw"
abbrev cL_told : ByteArray := method_3_code
def yL_told : MethodName := ⟨RL, "told", "(LLetterDesk;II[J)I"⟩
abbrev cL_law : ByteArray := code
def yL_law : MethodName := ⟨RL, "law", "([I)Z"⟩
end
section
theorem dX0_init_0 : decode cX0_init 0 = .ok (.aload_n 0, 1) := by decide +kernel
theorem dX0_init_1 : decode cX0_init 1 = .ok (.invokespecial 3, 3) := by decide +kernel
theorem dX0_init_4 : decode cX0_init 4 = .ok (.aload_n 0, 1) := by decide +kernel
theorem dX0_init_5 : decode cX0_init 5 = .ok (.bipush 40, 2) := by decide +kernel
theorem dX0_init_7 : decode cX0_init 7 = .ok (.newarray .int, 2) := by decide +kernel
theorem dX0_init_9 : decode cX0_init 9 = .ok (.putfield 9, 3) := by decide +kernel
theorem dX0_init_12 : decode cX0_init 12 = .ok (.return_, 1) := by decide +kernel
theorem dX0_addFree_0 : decode cX0_addFree 0 = .ok (.aload_n 0, 1) := by decide +kernel
theorem dX0_addFree_1 : decode cX0_addFree 1 = .ok (.iload_n 1, 1) := by decide +kernel
theorem dX0_addFree_2 : decode cX0_addFree 2 = .ok (.invokevirtual 15, 3) := by decide +kernel
theorem dX0_addFree_5 : decode cX0_addFree 5 = .ok (.istore_n 2, 1) := by decide +kernel
theorem dX0_addFree_6 : decode cX0_addFree 6 = .ok (.aload_n 0, 1) := by decide +kernel
theorem dX0_addFree_7 : decode cX0_addFree 7 = .ok (.getfield 19, 3) := by decide +kernel
theorem dX0_addFree_10 : decode cX0_addFree 10 = .ok (.bipush 40, 2) := by decide +kernel
theorem dX0_addFree_12 : decode cX0_addFree 12 = .ok (.if_icmp .ge 21, 3) := by decide +kernel
theorem dX0_addFree_15 : decode cX0_addFree 15 = .ok (.iload_n 2, 1) := by decide +kernel
theorem dX0_addFree_16 : decode cX0_addFree 16 = .ok (.aload_n 0, 1) := by decide +kernel
theorem dX0_addFree_17 : decode cX0_addFree 17 = .ok (.getfield 19, 3) := by decide +kernel
theorem dX0_addFree_20 : decode cX0_addFree 20 = .ok (.if_icmp .ge 15, 3) := by decide +kernel
theorem dX0_addFree_23 : decode cX0_addFree 23 = .ok (.aload_n 0, 1) := by decide +kernel
theorem dX0_addFree_24 : decode cX0_addFree 24 = .ok (.getfield 9, 3) := by decide +kernel
theorem dX0_addFree_27 : decode cX0_addFree 27 = .ok (.iload_n 2, 1) := by decide +kernel
theorem dX0_addFree_28 : decode cX0_addFree 28 = .ok (.iaload, 1) := by decide +kernel
theorem dX0_addFree_29 : decode cX0_addFree 29 = .ok (.iload_n 1, 1) := by decide +kernel
theorem dX0_addFree_30 : decode cX0_addFree 30 = .ok (.if_icmp .ne 5, 3) := by decide +kernel
theorem dX0_addFree_33 : decode cX0_addFree 33 = .ok (.iconst 0, 1) := by decide +kernel
theorem dX0_addFree_34 : decode cX0_addFree 34 = .ok (.ireturn, 1) := by decide +kernel
theorem dX0_addFree_35 : decode cX0_addFree 35 = .ok (.aload_n 0, 1) := by decide +kernel
theorem dX0_addFree_36 : decode cX0_addFree 36 = .ok (.getfield 19, 3) := by decide +kernel
theorem dX0_addFree_39 : decode cX0_addFree 39 = .ok (.istore_n 3, 1) := by decide +kernel
theorem dX0_addFree_40 : decode cX0_addFree 40 = .ok (.iload_n 3, 1) := by decide +kernel
theorem dX0_addFree_41 : decode cX0_addFree 41 = .ok (.iload_n 2, 1) := by decide +kernel
theorem dX0_addFree_42 : decode cX0_addFree 42 = .ok (.if_icmp .le 23, 3) := by decide +kernel
theorem dX0_addFree_45 : decode cX0_addFree 45 = .ok (.aload_n 0, 1) := by decide +kernel
theorem dX0_addFree_46 : decode cX0_addFree 46 = .ok (.getfield 9, 3) := by decide +kernel
theorem dX0_addFree_49 : decode cX0_addFree 49 = .ok (.iload_n 3, 1) := by decide +kernel
theorem dX0_addFree_50 : decode cX0_addFree 50 = .ok (.aload_n 0, 1) := by decide +kernel
theorem dX0_addFree_51 : decode cX0_addFree 51 = .ok (.getfield 9, 3) := by decide +kernel
theorem dX0_addFree_54 : decode cX0_addFree 54 = .ok (.iload_n 3, 1) := by decide +kernel
theorem dX0_addFree_55 : decode cX0_addFree 55 = .ok (.iconst 1, 1) := by decide +kernel
theorem dX0_addFree_56 : decode cX0_addFree 56 = .ok (.isub, 1) := by decide +kernel
theorem dX0_addFree_57 : decode cX0_addFree 57 = .ok (.iaload, 1) := by decide +kernel
theorem dX0_addFree_58 : decode cX0_addFree 58 = .ok (.iastore, 1) := by decide +kernel
theorem dX0_addFree_59 : decode cX0_addFree 59 = .ok (.iinc 3 (-1), 3) := by decide +kernel
theorem dX0_addFree_62 : decode cX0_addFree 62 = .ok (.goto (-22), 3) := by decide +kernel
theorem dX0_addFree_65 : decode cX0_addFree 65 = .ok (.aload_n 0, 1) := by decide +kernel
theorem dX0_addFree_66 : decode cX0_addFree 66 = .ok (.getfield 9, 3) := by decide +kernel
theorem dX0_addFree_69 : decode cX0_addFree 69 = .ok (.iload_n 2, 1) := by decide +kernel
theorem dX0_addFree_70 : decode cX0_addFree 70 = .ok (.iload_n 1, 1) := by decide +kernel
theorem dX0_addFree_71 : decode cX0_addFree 71 = .ok (.iastore, 1) := by decide +kernel
theorem dX0_addFree_72 : decode cX0_addFree 72 = .ok (.aload_n 0, 1) := by decide +kernel
theorem dX0_addFree_73 : decode cX0_addFree 73 = .ok (.dup, 1) := by decide +kernel
theorem dX0_addFree_74 : decode cX0_addFree 74 = .ok (.getfield 19, 3) := by decide +kernel
theorem dX0_addFree_77 : decode cX0_addFree 77 = .ok (.iconst 1, 1) := by decide +kernel
theorem dX0_addFree_78 : decode cX0_addFree 78 = .ok (.iadd, 1) := by decide +kernel
theorem dX0_addFree_79 : decode cX0_addFree 79 = .ok (.putfield 19, 3) := by decide +kernel
theorem dX0_addFree_82 : decode cX0_addFree 82 = .ok (.iconst 1, 1) := by decide +kernel
theorem dX0_addFree_83 : decode cX0_addFree 83 = .ok (.ireturn, 1) := by decide +kernel
theorem dX0_removeFree_0 : decode cX0_removeFree 0 = .ok (.aload_n 0, 1) := by decide +kernel
theorem dX0_removeFree_1 : decode cX0_removeFree 1 = .ok (.iload_n 1, 1) := by decide +kernel
theorem dX0_removeFree_2 : decode cX0_removeFree 2 = .ok (.invokevirtual 15, 3) := by decide +kernel
theorem dX0_removeFree_5 : decode cX0_removeFree 5 = .ok (.istore_n 2, 1) := by decide +kernel
theorem dX0_removeFree_6 : decode cX0_removeFree 6 = .ok (.iload_n 2, 1) := by decide +kernel
theorem dX0_removeFree_7 : decode cX0_removeFree 7 = .ok (.aload_n 0, 1) := by decide +kernel
theorem dX0_removeFree_8 : decode cX0_removeFree 8 = .ok (.getfield 19, 3) := by decide +kernel
theorem dX0_removeFree_11 : decode cX0_removeFree 11 = .ok (.if_icmp .ge 13, 3) := by decide +kernel
theorem dX0_removeFree_14 : decode cX0_removeFree 14 = .ok (.aload_n 0, 1) := by decide +kernel
theorem dX0_removeFree_15 : decode cX0_removeFree 15 = .ok (.getfield 9, 3) := by decide +kernel
theorem dX0_removeFree_18 : decode cX0_removeFree 18 = .ok (.iload_n 2, 1) := by decide +kernel
theorem dX0_removeFree_19 : decode cX0_removeFree 19 = .ok (.iaload, 1) := by decide +kernel
theorem dX0_removeFree_20 : decode cX0_removeFree 20 = .ok (.iload_n 1, 1) := by decide +kernel
theorem dX0_removeFree_21 : decode cX0_removeFree 21 = .ok (.if_icmp .eq 5, 3) := by decide +kernel
theorem dX0_removeFree_24 : decode cX0_removeFree 24 = .ok (.iconst 0, 1) := by decide +kernel
theorem dX0_removeFree_25 : decode cX0_removeFree 25 = .ok (.ireturn, 1) := by decide +kernel
theorem dX0_removeFree_26 : decode cX0_removeFree 26 = .ok (.iload_n 2, 1) := by decide +kernel
theorem dX0_removeFree_27 : decode cX0_removeFree 27 = .ok (.iconst 1, 1) := by decide +kernel
theorem dX0_removeFree_28 : decode cX0_removeFree 28 = .ok (.iadd, 1) := by decide +kernel
theorem dX0_removeFree_29 : decode cX0_removeFree 29 = .ok (.istore_n 3, 1) := by decide +kernel
theorem dX0_removeFree_30 : decode cX0_removeFree 30 = .ok (.iload_n 3, 1) := by decide +kernel
theorem dX0_removeFree_31 : decode cX0_removeFree 31 = .ok (.aload_n 0, 1) := by decide +kernel
theorem dX0_removeFree_32 : decode cX0_removeFree 32 = .ok (.getfield 19, 3) := by decide +kernel
theorem dX0_removeFree_35 : decode cX0_removeFree 35 = .ok (.if_icmp .ge 23, 3) := by decide +kernel
theorem dX0_removeFree_38 : decode cX0_removeFree 38 = .ok (.aload_n 0, 1) := by decide +kernel
theorem dX0_removeFree_39 : decode cX0_removeFree 39 = .ok (.getfield 9, 3) := by decide +kernel
theorem dX0_removeFree_42 : decode cX0_removeFree 42 = .ok (.iload_n 3, 1) := by decide +kernel
theorem dX0_removeFree_43 : decode cX0_removeFree 43 = .ok (.iconst 1, 1) := by decide +kernel
theorem dX0_removeFree_44 : decode cX0_removeFree 44 = .ok (.isub, 1) := by decide +kernel
theorem dX0_removeFree_45 : decode cX0_removeFree 45 = .ok (.aload_n 0, 1) := by decide +kernel
theorem dX0_removeFree_46 : decode cX0_removeFree 46 = .ok (.getfield 9, 3) := by decide +kernel
theorem dX0_removeFree_49 : decode cX0_removeFree 49 = .ok (.iload_n 3, 1) := by decide +kernel
theorem dX0_removeFree_50 : decode cX0_removeFree 50 = .ok (.iaload, 1) := by decide +kernel
theorem dX0_removeFree_51 : decode cX0_removeFree 51 = .ok (.iastore, 1) := by decide +kernel
theorem dX0_removeFree_52 : decode cX0_removeFree 52 = .ok (.iinc 3 1, 3) := by decide +kernel
theorem dX0_removeFree_55 : decode cX0_removeFree 55 = .ok (.goto (-25), 3) := by decide +kernel
theorem dX0_removeFree_58 : decode cX0_removeFree 58 = .ok (.aload_n 0, 1) := by decide +kernel
theorem dX0_removeFree_59 : decode cX0_removeFree 59 = .ok (.dup, 1) := by decide +kernel
theorem dX0_removeFree_60 : decode cX0_removeFree 60 = .ok (.getfield 19, 3) := by decide +kernel
theorem dX0_removeFree_63 : decode cX0_removeFree 63 = .ok (.iconst 1, 1) := by decide +kernel
theorem dX0_removeFree_64 : decode cX0_removeFree 64 = .ok (.isub, 1) := by decide +kernel
theorem dX0_removeFree_65 : decode cX0_removeFree 65 = .ok (.putfield 19, 3) := by decide +kernel
theorem dX0_removeFree_68 : decode cX0_removeFree 68 = .ok (.iconst 1, 1) := by decide +kernel
theorem dX0_removeFree_69 : decode cX0_removeFree 69 = .ok (.ireturn, 1) := by decide +kernel
theorem dX0_workingDays_0 : decode cX0_workingDays 0 = .ok (.iload_n 2, 1) := by decide +kernel
theorem dX0_workingDays_1 : decode cX0_workingDays 1 = .ok (.invokestatic 23, 3) := by decide +kernel
theorem dX0_workingDays_4 : decode cX0_workingDays 4 = .ok (.iload_n 1, 1) := by decide +kernel
theorem dX0_workingDays_5 : decode cX0_workingDays 5 = .ok (.invokestatic 23, 3) := by decide +kernel
theorem dX0_workingDays_8 : decode cX0_workingDays 8 = .ok (.isub, 1) := by decide +kernel
theorem dX0_workingDays_9 : decode cX0_workingDays 9 = .ok (.istore_n 3, 1) := by decide +kernel
theorem dX0_workingDays_10 : decode cX0_workingDays 10 = .ok (.iconst 0, 1) := by decide +kernel
theorem dX0_workingDays_11 : decode cX0_workingDays 11 = .ok (.istore 4, 2) := by decide +kernel
theorem dX0_workingDays_13 : decode cX0_workingDays 13 = .ok (.iload 4, 2) := by decide +kernel
theorem dX0_workingDays_15 : decode cX0_workingDays 15 = .ok (.aload_n 0, 1) := by decide +kernel
theorem dX0_workingDays_16 : decode cX0_workingDays 16 = .ok (.getfield 19, 3) := by decide +kernel
theorem dX0_workingDays_19 : decode cX0_workingDays 19 = .ok (.if_icmp .ge 47, 3) := by decide +kernel
theorem dX0_workingDays_22 : decode cX0_workingDays 22 = .ok (.aload_n 0, 1) := by decide +kernel
theorem dX0_workingDays_23 : decode cX0_workingDays 23 = .ok (.getfield 9, 3) := by decide +kernel
theorem dX0_workingDays_26 : decode cX0_workingDays 26 = .ok (.iload 4, 2) := by decide +kernel
theorem dX0_workingDays_28 : decode cX0_workingDays 28 = .ok (.iaload, 1) := by decide +kernel
theorem dX0_workingDays_29 : decode cX0_workingDays 29 = .ok (.iload_n 1, 1) := by decide +kernel
theorem dX0_workingDays_30 : decode cX0_workingDays 30 = .ok (.if_icmp .le 30, 3) := by decide +kernel
theorem dX0_workingDays_33 : decode cX0_workingDays 33 = .ok (.aload_n 0, 1) := by decide +kernel
theorem dX0_workingDays_34 : decode cX0_workingDays 34 = .ok (.getfield 9, 3) := by decide +kernel
theorem dX0_workingDays_37 : decode cX0_workingDays 37 = .ok (.iload 4, 2) := by decide +kernel
theorem dX0_workingDays_39 : decode cX0_workingDays 39 = .ok (.iaload, 1) := by decide +kernel
theorem dX0_workingDays_40 : decode cX0_workingDays 40 = .ok (.iload_n 2, 1) := by decide +kernel
theorem dX0_workingDays_41 : decode cX0_workingDays 41 = .ok (.if_icmp .gt 19, 3) := by decide +kernel
theorem dX0_workingDays_44 : decode cX0_workingDays 44 = .ok (.aload_n 0, 1) := by decide +kernel
theorem dX0_workingDays_45 : decode cX0_workingDays 45 = .ok (.getfield 9, 3) := by decide +kernel
theorem dX0_workingDays_48 : decode cX0_workingDays 48 = .ok (.iload 4, 2) := by decide +kernel
theorem dX0_workingDays_50 : decode cX0_workingDays 50 = .ok (.iaload, 1) := by decide +kernel
theorem dX0_workingDays_51 : decode cX0_workingDays 51 = .ok (.invokestatic 26, 3) := by decide +kernel
theorem dX0_workingDays_54 : decode cX0_workingDays 54 = .ok (.ifCond .eq 6, 3) := by decide +kernel
theorem dX0_workingDays_57 : decode cX0_workingDays 57 = .ok (.iinc 3 (-1), 3) := by decide +kernel
theorem dX0_workingDays_60 : decode cX0_workingDays 60 = .ok (.iinc 4 1, 3) := by decide +kernel
theorem dX0_workingDays_63 : decode cX0_workingDays 63 = .ok (.goto (-50), 3) := by decide +kernel
theorem dX0_workingDays_66 : decode cX0_workingDays 66 = .ok (.iload_n 3, 1) := by decide +kernel
theorem dX0_workingDays_67 : decode cX0_workingDays 67 = .ok (.ireturn, 1) := by decide +kernel
theorem dX0_dueDay_0 : decode cX0_dueDay 0 = .ok (.iload_n 2, 1) := by decide +kernel
theorem dX0_dueDay_1 : decode cX0_dueDay 1 = .ok (.iconst 1, 1) := by decide +kernel
theorem dX0_dueDay_2 : decode cX0_dueDay 2 = .ok (.if_icmp .ge 5, 3) := by decide +kernel
theorem dX0_dueDay_5 : decode cX0_dueDay 5 = .ok (.iload_n 1, 1) := by decide +kernel
theorem dX0_dueDay_6 : decode cX0_dueDay 6 = .ok (.ireturn, 1) := by decide +kernel
theorem dX0_dueDay_7 : decode cX0_dueDay 7 = .ok (.iload_n 1, 1) := by decide +kernel
theorem dX0_dueDay_8 : decode cX0_dueDay 8 = .ok (.invokestatic 23, 3) := by decide +kernel
theorem dX0_dueDay_11 : decode cX0_dueDay 11 = .ok (.iload_n 2, 1) := by decide +kernel
theorem dX0_dueDay_12 : decode cX0_dueDay 12 = .ok (.iadd, 1) := by decide +kernel
theorem dX0_dueDay_13 : decode cX0_dueDay 13 = .ok (.istore_n 3, 1) := by decide +kernel
theorem dX0_dueDay_14 : decode cX0_dueDay 14 = .ok (.iconst 0, 1) := by decide +kernel
theorem dX0_dueDay_15 : decode cX0_dueDay 15 = .ok (.istore 4, 2) := by decide +kernel
theorem dX0_dueDay_17 : decode cX0_dueDay 17 = .ok (.iload 4, 2) := by decide +kernel
theorem dX0_dueDay_19 : decode cX0_dueDay 19 = .ok (.aload_n 0, 1) := by decide +kernel
theorem dX0_dueDay_20 : decode cX0_dueDay 20 = .ok (.getfield 19, 3) := by decide +kernel
theorem dX0_dueDay_23 : decode cX0_dueDay 23 = .ok (.if_icmp .ge 50, 3) := by decide +kernel
theorem dX0_dueDay_26 : decode cX0_dueDay 26 = .ok (.aload_n 0, 1) := by decide +kernel
theorem dX0_dueDay_27 : decode cX0_dueDay 27 = .ok (.getfield 9, 3) := by decide +kernel
theorem dX0_dueDay_30 : decode cX0_dueDay 30 = .ok (.iload 4, 2) := by decide +kernel
theorem dX0_dueDay_32 : decode cX0_dueDay 32 = .ok (.iaload, 1) := by decide +kernel
theorem dX0_dueDay_33 : decode cX0_dueDay 33 = .ok (.invokestatic 23, 3) := by decide +kernel
theorem dX0_dueDay_36 : decode cX0_dueDay 36 = .ok (.iload_n 3, 1) := by decide +kernel
theorem dX0_dueDay_37 : decode cX0_dueDay 37 = .ok (.if_icmp .gt 36, 3) := by decide +kernel
theorem dX0_dueDay_40 : decode cX0_dueDay 40 = .ok (.aload_n 0, 1) := by decide +kernel
theorem dX0_dueDay_41 : decode cX0_dueDay 41 = .ok (.getfield 9, 3) := by decide +kernel
theorem dX0_dueDay_44 : decode cX0_dueDay 44 = .ok (.iload 4, 2) := by decide +kernel
theorem dX0_dueDay_46 : decode cX0_dueDay 46 = .ok (.iaload, 1) := by decide +kernel
theorem dX0_dueDay_47 : decode cX0_dueDay 47 = .ok (.iload_n 1, 1) := by decide +kernel
theorem dX0_dueDay_48 : decode cX0_dueDay 48 = .ok (.if_icmp .le 19, 3) := by decide +kernel
theorem dX0_dueDay_51 : decode cX0_dueDay 51 = .ok (.aload_n 0, 1) := by decide +kernel
theorem dX0_dueDay_52 : decode cX0_dueDay 52 = .ok (.getfield 9, 3) := by decide +kernel
theorem dX0_dueDay_55 : decode cX0_dueDay 55 = .ok (.iload 4, 2) := by decide +kernel
theorem dX0_dueDay_57 : decode cX0_dueDay 57 = .ok (.iaload, 1) := by decide +kernel
theorem dX0_dueDay_58 : decode cX0_dueDay 58 = .ok (.invokestatic 26, 3) := by decide +kernel
theorem dX0_dueDay_61 : decode cX0_dueDay 61 = .ok (.ifCond .eq 6, 3) := by decide +kernel
theorem dX0_dueDay_64 : decode cX0_dueDay 64 = .ok (.iinc 3 1, 3) := by decide +kernel
theorem dX0_dueDay_67 : decode cX0_dueDay 67 = .ok (.iinc 4 1, 3) := by decide +kernel
theorem dX0_dueDay_70 : decode cX0_dueDay 70 = .ok (.goto (-53), 3) := by decide +kernel
theorem dX0_dueDay_73 : decode cX0_dueDay 73 = .ok (.iload_n 3, 1) := by decide +kernel
theorem dX0_dueDay_74 : decode cX0_dueDay 74 = .ok (.iconst 1, 1) := by decide +kernel
theorem dX0_dueDay_75 : decode cX0_dueDay 75 = .ok (.isub, 1) := by decide +kernel
theorem dX0_dueDay_76 : decode cX0_dueDay 76 = .ok (.iconst 5, 1) := by decide +kernel
theorem dX0_dueDay_77 : decode cX0_dueDay 77 = .ok (.idiv, 1) := by decide +kernel
theorem dX0_dueDay_78 : decode cX0_dueDay 78 = .ok (.bipush 7, 2) := by decide +kernel
theorem dX0_dueDay_80 : decode cX0_dueDay 80 = .ok (.imul, 1) := by decide +kernel
theorem dX0_dueDay_81 : decode cX0_dueDay 81 = .ok (.iload_n 3, 1) := by decide +kernel
theorem dX0_dueDay_82 : decode cX0_dueDay 82 = .ok (.iconst 1, 1) := by decide +kernel
theorem dX0_dueDay_83 : decode cX0_dueDay 83 = .ok (.isub, 1) := by decide +kernel
theorem dX0_dueDay_84 : decode cX0_dueDay 84 = .ok (.iconst 5, 1) := by decide +kernel
theorem dX0_dueDay_85 : decode cX0_dueDay 85 = .ok (.irem, 1) := by decide +kernel
theorem dX0_dueDay_86 : decode cX0_dueDay 86 = .ok (.iadd, 1) := by decide +kernel
theorem dX0_dueDay_87 : decode cX0_dueDay 87 = .ok (.istore 4, 2) := by decide +kernel
theorem dX0_dueDay_89 : decode cX0_dueDay 89 = .ok (.iload 4, 2) := by decide +kernel
theorem dX0_dueDay_91 : decode cX0_dueDay 91 = .ok (.sipush 9999, 3) := by decide +kernel
theorem dX0_dueDay_94 : decode cX0_dueDay 94 = .ok (.invokestatic 30, 3) := by decide +kernel
theorem dX0_dueDay_97 : decode cX0_dueDay 97 = .ok (.ireturn, 1) := by decide +kernel
theorem dX0_firstNotBelow_0 : decode cX0_firstNotBelow 0 = .ok (.iconst 0, 1) := by decide +kernel
theorem dX0_firstNotBelow_1 : decode cX0_firstNotBelow 1 = .ok (.istore_n 2, 1) := by decide +kernel
theorem dX0_firstNotBelow_2 : decode cX0_firstNotBelow 2 = .ok (.iload_n 2, 1) := by decide +kernel
theorem dX0_firstNotBelow_3 : decode cX0_firstNotBelow 3 = .ok (.aload_n 0, 1) := by decide +kernel
theorem dX0_firstNotBelow_4 : decode cX0_firstNotBelow 4 = .ok (.getfield 19, 3) := by decide +kernel
theorem dX0_firstNotBelow_7 : decode cX0_firstNotBelow 7 = .ok (.if_icmp .ge 19, 3) := by decide +kernel
theorem dX0_firstNotBelow_10 : decode cX0_firstNotBelow 10 = .ok (.aload_n 0, 1) := by decide +kernel
theorem dX0_firstNotBelow_11 : decode cX0_firstNotBelow 11 = .ok (.getfield 9, 3) := by decide +kernel
theorem dX0_firstNotBelow_14 : decode cX0_firstNotBelow 14 = .ok (.iload_n 2, 1) := by decide +kernel
theorem dX0_firstNotBelow_15 : decode cX0_firstNotBelow 15 = .ok (.iaload, 1) := by decide +kernel
theorem dX0_firstNotBelow_16 : decode cX0_firstNotBelow 16 = .ok (.iload_n 1, 1) := by decide +kernel
theorem dX0_firstNotBelow_17 : decode cX0_firstNotBelow 17 = .ok (.if_icmp .ge 9, 3) := by decide +kernel
theorem dX0_firstNotBelow_20 : decode cX0_firstNotBelow 20 = .ok (.iinc 2 1, 3) := by decide +kernel
theorem dX0_firstNotBelow_23 : decode cX0_firstNotBelow 23 = .ok (.goto (-21), 3) := by decide +kernel
theorem dX0_firstNotBelow_26 : decode cX0_firstNotBelow 26 = .ok (.iload_n 2, 1) := by decide +kernel
theorem dX0_firstNotBelow_27 : decode cX0_firstNotBelow 27 = .ok (.ireturn, 1) := by decide +kernel
theorem dX0_weekdaysUpTo_0 : decode cX0_weekdaysUpTo 0 = .ok (.iload_n 0, 1) := by decide +kernel
theorem dX0_weekdaysUpTo_1 : decode cX0_weekdaysUpTo 1 = .ok (.iconst 1, 1) := by decide +kernel
theorem dX0_weekdaysUpTo_2 : decode cX0_weekdaysUpTo 2 = .ok (.iadd, 1) := by decide +kernel
theorem dX0_weekdaysUpTo_3 : decode cX0_weekdaysUpTo 3 = .ok (.bipush 7, 2) := by decide +kernel
theorem dX0_weekdaysUpTo_5 : decode cX0_weekdaysUpTo 5 = .ok (.idiv, 1) := by decide +kernel
theorem dX0_weekdaysUpTo_6 : decode cX0_weekdaysUpTo 6 = .ok (.iconst 5, 1) := by decide +kernel
theorem dX0_weekdaysUpTo_7 : decode cX0_weekdaysUpTo 7 = .ok (.imul, 1) := by decide +kernel
theorem dX0_weekdaysUpTo_8 : decode cX0_weekdaysUpTo 8 = .ok (.iload_n 0, 1) := by decide +kernel
theorem dX0_weekdaysUpTo_9 : decode cX0_weekdaysUpTo 9 = .ok (.iconst 1, 1) := by decide +kernel
theorem dX0_weekdaysUpTo_10 : decode cX0_weekdaysUpTo 10 = .ok (.iadd, 1) := by decide +kernel
theorem dX0_weekdaysUpTo_11 : decode cX0_weekdaysUpTo 11 = .ok (.bipush 7, 2) := by decide +kernel
theorem dX0_weekdaysUpTo_13 : decode cX0_weekdaysUpTo 13 = .ok (.irem, 1) := by decide +kernel
theorem dX0_weekdaysUpTo_14 : decode cX0_weekdaysUpTo 14 = .ok (.iconst 5, 1) := by decide +kernel
theorem dX0_weekdaysUpTo_15 : decode cX0_weekdaysUpTo 15 = .ok (.invokestatic 30, 3) := by decide +kernel
theorem dX0_weekdaysUpTo_18 : decode cX0_weekdaysUpTo 18 = .ok (.iadd, 1) := by decide +kernel
theorem dX0_weekdaysUpTo_19 : decode cX0_weekdaysUpTo 19 = .ok (.ireturn, 1) := by decide +kernel
theorem dX0_isWeekday_0 : decode cX0_isWeekday 0 = .ok (.iload_n 0, 1) := by decide +kernel
theorem dX0_isWeekday_1 : decode cX0_isWeekday 1 = .ok (.bipush 7, 2) := by decide +kernel
theorem dX0_isWeekday_3 : decode cX0_isWeekday 3 = .ok (.irem, 1) := by decide +kernel
theorem dX0_isWeekday_4 : decode cX0_isWeekday 4 = .ok (.iconst 5, 1) := by decide +kernel
theorem dX0_isWeekday_5 : decode cX0_isWeekday 5 = .ok (.if_icmp .ge 7, 3) := by decide +kernel
theorem dX0_isWeekday_8 : decode cX0_isWeekday 8 = .ok (.iconst 1, 1) := by decide +kernel
theorem dX0_isWeekday_9 : decode cX0_isWeekday 9 = .ok (.goto 4, 3) := by decide +kernel
theorem dX0_isWeekday_12 : decode cX0_isWeekday 12 = .ok (.iconst 0, 1) := by decide +kernel
theorem dX0_isWeekday_13 : decode cX0_isWeekday 13 = .ok (.ireturn, 1) := by decide +kernel
theorem dX1_init_0 : decode cX1_init 0 = .ok (.aload_n 0, 1) := by decide +kernel
theorem dX1_init_1 : decode cX1_init 1 = .ok (.invokespecial 3, 3) := by decide +kernel
theorem dX1_init_4 : decode cX1_init 4 = .ok (.aload_n 0, 1) := by decide +kernel
theorem dX1_init_5 : decode cX1_init 5 = .ok (.bipush 8, 2) := by decide +kernel
theorem dX1_init_7 : decode cX1_init 7 = .ok (.newarray .int, 2) := by decide +kernel
theorem dX1_init_9 : decode cX1_init 9 = .ok (.putfield 9, 3) := by decide +kernel
theorem dX1_init_12 : decode cX1_init 12 = .ok (.aload_n 0, 1) := by decide +kernel
theorem dX1_init_13 : decode cX1_init 13 = .ok (.bipush 12, 2) := by decide +kernel
theorem dX1_init_15 : decode cX1_init 15 = .ok (.newarray .int, 2) := by decide +kernel
theorem dX1_init_17 : decode cX1_init 17 = .ok (.putfield 15, 3) := by decide +kernel
theorem dX1_init_20 : decode cX1_init 20 = .ok (.return_, 1) := by decide +kernel
theorem dX1_setWorld_0 : decode cX1_setWorld 0 = .ok (.iload_n 2, 1) := by decide +kernel
theorem dX1_setWorld_1 : decode cX1_setWorld 1 = .ok (.istore_n 3, 1) := by decide +kernel
theorem dX1_setWorld_2 : decode cX1_setWorld 2 = .ok (.aload_n 1, 1) := by decide +kernel
theorem dX1_setWorld_3 : decode cX1_setWorld 3 = .ok (.getfield 18, 3) := by decide +kernel
theorem dX1_setWorld_6 : decode cX1_setWorld 6 = .ok (.iconst 1, 1) := by decide +kernel
theorem dX1_setWorld_7 : decode cX1_setWorld 7 = .ok (.isub, 1) := by decide +kernel
theorem dX1_setWorld_8 : decode cX1_setWorld 8 = .ok (.istore 4, 2) := by decide +kernel
theorem dX1_setWorld_10 : decode cX1_setWorld 10 = .ok (.iload 4, 2) := by decide +kernel
theorem dX1_setWorld_12 : decode cX1_setWorld 12 = .ok (.ifCond .lt 41, 3) := by decide +kernel
theorem dX1_setWorld_15 : decode cX1_setWorld 15 = .ok (.aload_n 1, 1) := by decide +kernel
theorem dX1_setWorld_16 : decode cX1_setWorld 16 = .ok (.iload 4, 2) := by decide +kernel
theorem dX1_setWorld_18 : decode cX1_setWorld 18 = .ok (.invokevirtual 24, 3) := by decide +kernel
theorem dX1_setWorld_21 : decode cX1_setWorld 21 = .ok (.istore 5, 2) := by decide +kernel
theorem dX1_setWorld_23 : decode cX1_setWorld 23 = .ok (.aload_n 0, 1) := by decide +kernel
theorem dX1_setWorld_24 : decode cX1_setWorld 24 = .ok (.getfield 9, 3) := by decide +kernel
theorem dX1_setWorld_27 : decode cX1_setWorld 27 = .ok (.iload 4, 2) := by decide +kernel
theorem dX1_setWorld_29 : decode cX1_setWorld 29 = .ok (.aload_n 1, 1) := by decide +kernel
theorem dX1_setWorld_30 : decode cX1_setWorld 30 = .ok (.getfield 28, 3) := by decide +kernel
theorem dX1_setWorld_33 : decode cX1_setWorld 33 = .ok (.iload 4, 2) := by decide +kernel
theorem dX1_setWorld_35 : decode cX1_setWorld 35 = .ok (.iaload, 1) := by decide +kernel
theorem dX1_setWorld_36 : decode cX1_setWorld 36 = .ok (.iload_n 3, 1) := by decide +kernel
theorem dX1_setWorld_37 : decode cX1_setWorld 37 = .ok (.iload 5, 2) := by decide +kernel
theorem dX1_setWorld_39 : decode cX1_setWorld 39 = .ok (.irem, 1) := by decide +kernel
theorem dX1_setWorld_40 : decode cX1_setWorld 40 = .ok (.iadd, 1) := by decide +kernel
theorem dX1_setWorld_41 : decode cX1_setWorld 41 = .ok (.iastore, 1) := by decide +kernel
theorem dX1_setWorld_42 : decode cX1_setWorld 42 = .ok (.iload_n 3, 1) := by decide +kernel
theorem dX1_setWorld_43 : decode cX1_setWorld 43 = .ok (.iload 5, 2) := by decide +kernel
theorem dX1_setWorld_45 : decode cX1_setWorld 45 = .ok (.idiv, 1) := by decide +kernel
theorem dX1_setWorld_46 : decode cX1_setWorld 46 = .ok (.istore_n 3, 1) := by decide +kernel
theorem dX1_setWorld_47 : decode cX1_setWorld 47 = .ok (.iinc 4 (-1), 3) := by decide +kernel
theorem dX1_setWorld_50 : decode cX1_setWorld 50 = .ok (.goto (-40), 3) := by decide +kernel
theorem dX1_setWorld_53 : decode cX1_setWorld 53 = .ok (.return_, 1) := by decide +kernel
theorem dX1_worldOf_0 : decode cX1_worldOf 0 = .ok (.iconst 0, 1) := by decide +kernel
theorem dX1_worldOf_1 : decode cX1_worldOf 1 = .ok (.istore_n 2, 1) := by decide +kernel
theorem dX1_worldOf_2 : decode cX1_worldOf 2 = .ok (.iconst 0, 1) := by decide +kernel
theorem dX1_worldOf_3 : decode cX1_worldOf 3 = .ok (.istore_n 3, 1) := by decide +kernel
theorem dX1_worldOf_4 : decode cX1_worldOf 4 = .ok (.iload_n 3, 1) := by decide +kernel
theorem dX1_worldOf_5 : decode cX1_worldOf 5 = .ok (.aload_n 1, 1) := by decide +kernel
theorem dX1_worldOf_6 : decode cX1_worldOf 6 = .ok (.getfield 18, 3) := by decide +kernel
theorem dX1_worldOf_9 : decode cX1_worldOf 9 = .ok (.if_icmp .ge 31, 3) := by decide +kernel
theorem dX1_worldOf_12 : decode cX1_worldOf 12 = .ok (.iload_n 2, 1) := by decide +kernel
theorem dX1_worldOf_13 : decode cX1_worldOf 13 = .ok (.aload_n 1, 1) := by decide +kernel
theorem dX1_worldOf_14 : decode cX1_worldOf 14 = .ok (.iload_n 3, 1) := by decide +kernel
theorem dX1_worldOf_15 : decode cX1_worldOf 15 = .ok (.invokevirtual 24, 3) := by decide +kernel
theorem dX1_worldOf_18 : decode cX1_worldOf 18 = .ok (.imul, 1) := by decide +kernel
theorem dX1_worldOf_19 : decode cX1_worldOf 19 = .ok (.aload_n 0, 1) := by decide +kernel
theorem dX1_worldOf_20 : decode cX1_worldOf 20 = .ok (.getfield 9, 3) := by decide +kernel
theorem dX1_worldOf_23 : decode cX1_worldOf 23 = .ok (.iload_n 3, 1) := by decide +kernel
theorem dX1_worldOf_24 : decode cX1_worldOf 24 = .ok (.iaload, 1) := by decide +kernel
theorem dX1_worldOf_25 : decode cX1_worldOf 25 = .ok (.iadd, 1) := by decide +kernel
theorem dX1_worldOf_26 : decode cX1_worldOf 26 = .ok (.aload_n 1, 1) := by decide +kernel
theorem dX1_worldOf_27 : decode cX1_worldOf 27 = .ok (.getfield 28, 3) := by decide +kernel
theorem dX1_worldOf_30 : decode cX1_worldOf 30 = .ok (.iload_n 3, 1) := by decide +kernel
theorem dX1_worldOf_31 : decode cX1_worldOf 31 = .ok (.iaload, 1) := by decide +kernel
theorem dX1_worldOf_32 : decode cX1_worldOf 32 = .ok (.isub, 1) := by decide +kernel
theorem dX1_worldOf_33 : decode cX1_worldOf 33 = .ok (.istore_n 2, 1) := by decide +kernel
theorem dX1_worldOf_34 : decode cX1_worldOf 34 = .ok (.iinc 3 1, 3) := by decide +kernel
theorem dX1_worldOf_37 : decode cX1_worldOf 37 = .ok (.goto (-33), 3) := by decide +kernel
theorem dX1_worldOf_40 : decode cX1_worldOf 40 = .ok (.iload_n 2, 1) := by decide +kernel
theorem dX1_worldOf_41 : decode cX1_worldOf 41 = .ok (.ireturn, 1) := by decide +kernel
theorem dX2_init_0 : decode cX2_init 0 = .ok (.aload_n 0, 1) := by decide +kernel
theorem dX2_init_1 : decode cX2_init 1 = .ok (.invokespecial 3, 3) := by decide +kernel
theorem dX2_init_4 : decode cX2_init 4 = .ok (.aload_n 0, 1) := by decide +kernel
theorem dX2_init_5 : decode cX2_init 5 = .ok (.bipush 8, 2) := by decide +kernel
theorem dX2_init_7 : decode cX2_init 7 = .ok (.newarray .int, 2) := by decide +kernel
theorem dX2_init_9 : decode cX2_init 9 = .ok (.putfield 9, 3) := by decide +kernel
theorem dX2_init_12 : decode cX2_init 12 = .ok (.aload_n 0, 1) := by decide +kernel
theorem dX2_init_13 : decode cX2_init 13 = .ok (.bipush 8, 2) := by decide +kernel
theorem dX2_init_15 : decode cX2_init 15 = .ok (.newarray .int, 2) := by decide +kernel
theorem dX2_init_17 : decode cX2_init 17 = .ok (.putfield 15, 3) := by decide +kernel
theorem dX2_init_20 : decode cX2_init 20 = .ok (.aload_n 0, 1) := by decide +kernel
theorem dX2_init_21 : decode cX2_init 21 = .ok (.bipush 20, 2) := by decide +kernel
theorem dX2_init_23 : decode cX2_init 23 = .ok (.anewarray 18, 3) := by decide +kernel
theorem dX2_init_26 : decode cX2_init 26 = .ok (.putfield 20, 3) := by decide +kernel
theorem dX2_init_29 : decode cX2_init 29 = .ok (.aload_n 0, 1) := by decide +kernel
theorem dX2_init_30 : decode cX2_init 30 = .ok (.lload_n 1, 1) := by decide +kernel
theorem dX2_init_31 : decode cX2_init 31 = .ok (.putfield 24, 3) := by decide +kernel
theorem dX2_init_34 : decode cX2_init 34 = .ok (.aload_n 0, 1) := by decide +kernel
theorem dX2_init_35 : decode cX2_init 35 = .ok (.iload_n 3, 1) := by decide +kernel
theorem dX2_init_36 : decode cX2_init 36 = .ok (.putfield 28, 3) := by decide +kernel
theorem dX2_init_39 : decode cX2_init 39 = .ok (.aload_n 0, 1) := by decide +kernel
theorem dX2_init_40 : decode cX2_init 40 = .ok (.iload 4, 2) := by decide +kernel
theorem dX2_init_42 : decode cX2_init 42 = .ok (.putfield 32, 3) := by decide +kernel
theorem dX2_init_45 : decode cX2_init 45 = .ok (.aload_n 0, 1) := by decide +kernel
theorem dX2_init_46 : decode cX2_init 46 = .ok (.aload 5, 2) := by decide +kernel
theorem dX2_init_48 : decode cX2_init 48 = .ok (.putfield 36, 3) := by decide +kernel
theorem dX2_init_51 : decode cX2_init 51 = .ok (.return_, 1) := by decide +kernel
theorem dX2_hasAllLinks_0 : decode cX2_hasAllLinks 0 = .ok (.aload_n 0, 1) := by decide +kernel
theorem dX2_hasAllLinks_1 : decode cX2_hasAllLinks 1 = .ok (.getfield 40, 3) := by decide +kernel
theorem dX2_hasAllLinks_4 : decode cX2_hasAllLinks 4 = .ok (.aload_n 0, 1) := by decide +kernel
theorem dX2_hasAllLinks_5 : decode cX2_hasAllLinks 5 = .ok (.getfield 43, 3) := by decide +kernel
theorem dX2_hasAllLinks_8 : decode cX2_hasAllLinks 8 = .ok (.iadd, 1) := by decide +kernel
theorem dX2_hasAllLinks_9 : decode cX2_hasAllLinks 9 = .ok (.bipush 8, 2) := by decide +kernel
theorem dX2_hasAllLinks_11 : decode cX2_hasAllLinks 11 = .ok (.if_icmp .lt 7, 3) := by decide +kernel
theorem dX2_hasAllLinks_14 : decode cX2_hasAllLinks 14 = .ok (.iconst 1, 1) := by decide +kernel
theorem dX2_hasAllLinks_15 : decode cX2_hasAllLinks 15 = .ok (.goto 4, 3) := by decide +kernel
theorem dX2_hasAllLinks_18 : decode cX2_hasAllLinks 18 = .ok (.iconst 0, 1) := by decide +kernel
theorem dX2_hasAllLinks_19 : decode cX2_hasAllLinks 19 = .ok (.ireturn, 1) := by decide +kernel
theorem dX2_hasAllItems_0 : decode cX2_hasAllItems 0 = .ok (.aload_n 0, 1) := by decide +kernel
theorem dX2_hasAllItems_1 : decode cX2_hasAllItems 1 = .ok (.getfield 46, 3) := by decide +kernel
theorem dX2_hasAllItems_4 : decode cX2_hasAllItems 4 = .ok (.bipush 20, 2) := by decide +kernel
theorem dX2_hasAllItems_6 : decode cX2_hasAllItems 6 = .ok (.if_icmp .lt 7, 3) := by decide +kernel
theorem dX2_hasAllItems_9 : decode cX2_hasAllItems 9 = .ok (.iconst 1, 1) := by decide +kernel
theorem dX2_hasAllItems_10 : decode cX2_hasAllItems 10 = .ok (.goto 4, 3) := by decide +kernel
theorem dX2_hasAllItems_13 : decode cX2_hasAllItems 13 = .ok (.iconst 0, 1) := by decide +kernel
theorem dX2_hasAllItems_14 : decode cX2_hasAllItems 14 = .ok (.ireturn, 1) := by decide +kernel
theorem dX2_addNeed_0 : decode cX2_addNeed 0 = .ok (.aload_n 0, 1) := by decide +kernel
theorem dX2_addNeed_1 : decode cX2_addNeed 1 = .ok (.getfield 9, 3) := by decide +kernel
theorem dX2_addNeed_4 : decode cX2_addNeed 4 = .ok (.aload_n 0, 1) := by decide +kernel
theorem dX2_addNeed_5 : decode cX2_addNeed 5 = .ok (.getfield 40, 3) := by decide +kernel
theorem dX2_addNeed_8 : decode cX2_addNeed 8 = .ok (.iload_n 1, 1) := by decide +kernel
theorem dX2_addNeed_9 : decode cX2_addNeed 9 = .ok (.iastore, 1) := by decide +kernel
theorem dX2_addNeed_10 : decode cX2_addNeed 10 = .ok (.aload_n 0, 1) := by decide +kernel
theorem dX2_addNeed_11 : decode cX2_addNeed 11 = .ok (.dup, 1) := by decide +kernel
theorem dX2_addNeed_12 : decode cX2_addNeed 12 = .ok (.getfield 40, 3) := by decide +kernel
theorem dX2_addNeed_15 : decode cX2_addNeed 15 = .ok (.iconst 1, 1) := by decide +kernel
theorem dX2_addNeed_16 : decode cX2_addNeed 16 = .ok (.iadd, 1) := by decide +kernel
theorem dX2_addNeed_17 : decode cX2_addNeed 17 = .ok (.putfield 40, 3) := by decide +kernel
theorem dX2_addNeed_20 : decode cX2_addNeed 20 = .ok (.return_, 1) := by decide +kernel
theorem dX2_addBar_0 : decode cX2_addBar 0 = .ok (.aload_n 0, 1) := by decide +kernel
theorem dX2_addBar_1 : decode cX2_addBar 1 = .ok (.getfield 15, 3) := by decide +kernel
theorem dX2_addBar_4 : decode cX2_addBar 4 = .ok (.aload_n 0, 1) := by decide +kernel
theorem dX2_addBar_5 : decode cX2_addBar 5 = .ok (.getfield 43, 3) := by decide +kernel
theorem dX2_addBar_8 : decode cX2_addBar 8 = .ok (.iload_n 1, 1) := by decide +kernel
theorem dX2_addBar_9 : decode cX2_addBar 9 = .ok (.iastore, 1) := by decide +kernel
theorem dX2_addBar_10 : decode cX2_addBar 10 = .ok (.aload_n 0, 1) := by decide +kernel
theorem dX2_addBar_11 : decode cX2_addBar 11 = .ok (.dup, 1) := by decide +kernel
theorem dX2_addBar_12 : decode cX2_addBar 12 = .ok (.getfield 43, 3) := by decide +kernel
theorem dX2_addBar_15 : decode cX2_addBar 15 = .ok (.iconst 1, 1) := by decide +kernel
theorem dX2_addBar_16 : decode cX2_addBar 16 = .ok (.iadd, 1) := by decide +kernel
theorem dX2_addBar_17 : decode cX2_addBar 17 = .ok (.putfield 43, 3) := by decide +kernel
theorem dX2_addBar_20 : decode cX2_addBar 20 = .ok (.return_, 1) := by decide +kernel
theorem dX2_addItem_0 : decode cX2_addItem 0 = .ok (.aload_n 0, 1) := by decide +kernel
theorem dX2_addItem_1 : decode cX2_addItem 1 = .ok (.getfield 20, 3) := by decide +kernel
theorem dX2_addItem_4 : decode cX2_addItem 4 = .ok (.aload_n 0, 1) := by decide +kernel
theorem dX2_addItem_5 : decode cX2_addItem 5 = .ok (.getfield 46, 3) := by decide +kernel
theorem dX2_addItem_8 : decode cX2_addItem 8 = .ok (.aload_n 1, 1) := by decide +kernel
theorem dX2_addItem_9 : decode cX2_addItem 9 = .ok (.aastore, 1) := by decide +kernel
theorem dX2_addItem_10 : decode cX2_addItem 10 = .ok (.aload_n 0, 1) := by decide +kernel
theorem dX2_addItem_11 : decode cX2_addItem 11 = .ok (.dup, 1) := by decide +kernel
theorem dX2_addItem_12 : decode cX2_addItem 12 = .ok (.getfield 46, 3) := by decide +kernel
theorem dX2_addItem_15 : decode cX2_addItem 15 = .ok (.iconst 1, 1) := by decide +kernel
theorem dX2_addItem_16 : decode cX2_addItem 16 = .ok (.iadd, 1) := by decide +kernel
theorem dX2_addItem_17 : decode cX2_addItem 17 = .ok (.putfield 46, 3) := by decide +kernel
theorem dX2_addItem_20 : decode cX2_addItem 20 = .ok (.return_, 1) := by decide +kernel
theorem dX3_init_0 : decode cX3_init 0 = .ok (.aload_n 0, 1) := by decide +kernel
theorem dX3_init_1 : decode cX3_init 1 = .ok (.invokespecial 3, 3) := by decide +kernel
theorem dX3_init_4 : decode cX3_init 4 = .ok (.aload_n 0, 1) := by decide +kernel
theorem dX3_init_5 : decode cX3_init 5 = .ok (.bipush 8, 2) := by decide +kernel
theorem dX3_init_7 : decode cX3_init 7 = .ok (.newarray .long, 2) := by decide +kernel
theorem dX3_init_9 : decode cX3_init 9 = .ok (.putfield 9, 3) := by decide +kernel
theorem dX3_init_12 : decode cX3_init 12 = .ok (.aload_n 0, 1) := by decide +kernel
theorem dX3_init_13 : decode cX3_init 13 = .ok (.bipush 8, 2) := by decide +kernel
theorem dX3_init_15 : decode cX3_init 15 = .ok (.newarray .int, 2) := by decide +kernel
theorem dX3_init_17 : decode cX3_init 17 = .ok (.putfield 15, 3) := by decide +kernel
theorem dX3_init_20 : decode cX3_init 20 = .ok (.aload_n 0, 1) := by decide +kernel
theorem dX3_init_21 : decode cX3_init 21 = .ok (.bipush 8, 2) := by decide +kernel
theorem dX3_init_23 : decode cX3_init 23 = .ok (.newarray .int, 2) := by decide +kernel
theorem dX3_init_25 : decode cX3_init 25 = .ok (.putfield 19, 3) := by decide +kernel
theorem dX3_init_28 : decode cX3_init 28 = .ok (.aload_n 0, 1) := by decide +kernel
theorem dX3_init_29 : decode cX3_init 29 = .ok (.iconst 1, 1) := by decide +kernel
theorem dX3_init_30 : decode cX3_init 30 = .ok (.putfield 22, 3) := by decide +kernel
theorem dX3_init_33 : decode cX3_init 33 = .ok (.aload_n 0, 1) := by decide +kernel
theorem dX3_init_34 : decode cX3_init 34 = .ok (.bipush 12, 2) := by decide +kernel
theorem dX3_init_36 : decode cX3_init 36 = .ok (.anewarray 26, 3) := by decide +kernel
theorem dX3_init_39 : decode cX3_init 39 = .ok (.putfield 28, 3) := by decide +kernel
theorem dX3_init_42 : decode cX3_init 42 = .ok (.aload_n 0, 1) := by decide +kernel
theorem dX3_init_43 : decode cX3_init 43 = .ok (.bipush 12, 2) := by decide +kernel
theorem dX3_init_45 : decode cX3_init 45 = .ok (.newarray .int, 2) := by decide +kernel
theorem dX3_init_47 : decode cX3_init 47 = .ok (.putfield 32, 3) := by decide +kernel
theorem dX3_init_50 : decode cX3_init 50 = .ok (.aload_n 0, 1) := by decide +kernel
theorem dX3_init_51 : decode cX3_init 51 = .ok (.iconst 5, 1) := by decide +kernel
theorem dX3_init_52 : decode cX3_init 52 = .ok (.newarray .int, 2) := by decide +kernel
theorem dX3_init_54 : decode cX3_init 54 = .ok (.putfield 35, 3) := by decide +kernel
theorem dX3_init_57 : decode cX3_init 57 = .ok (.aload_n 0, 1) := by decide +kernel
theorem dX3_init_58 : decode cX3_init 58 = .ok (.iconst 5, 1) := by decide +kernel
theorem dX3_init_59 : decode cX3_init 59 = .ok (.newarray .int, 2) := by decide +kernel
theorem dX3_init_61 : decode cX3_init 61 = .ok (.putfield 38, 3) := by decide +kernel
theorem dX3_init_64 : decode cX3_init 64 = .ok (.aload_n 0, 1) := by decide +kernel
theorem dX3_init_65 : decode cX3_init 65 = .ok (.iload_n 1, 1) := by decide +kernel
theorem dX3_init_66 : decode cX3_init 66 = .ok (.putfield 41, 3) := by decide +kernel
theorem dX3_init_69 : decode cX3_init 69 = .ok (.aload_n 0, 1) := by decide +kernel
theorem dX3_init_70 : decode cX3_init 70 = .ok (.iload_n 2, 1) := by decide +kernel
theorem dX3_init_71 : decode cX3_init 71 = .ok (.putfield 44, 3) := by decide +kernel
theorem dX3_init_74 : decode cX3_init 74 = .ok (.return_, 1) := by decide +kernel
theorem dX3_hasFact_0 : decode cX3_hasFact 0 = .ok (.iload_n 1, 1) := by decide +kernel
theorem dX3_hasFact_1 : decode cX3_hasFact 1 = .ok (.ifCond .lt 15, 3) := by decide +kernel
theorem dX3_hasFact_4 : decode cX3_hasFact 4 = .ok (.iload_n 1, 1) := by decide +kernel
theorem dX3_hasFact_5 : decode cX3_hasFact 5 = .ok (.aload_n 0, 1) := by decide +kernel
theorem dX3_hasFact_6 : decode cX3_hasFact 6 = .ok (.getfield 47, 3) := by decide +kernel
theorem dX3_hasFact_9 : decode cX3_hasFact 9 = .ok (.if_icmp .ge 7, 3) := by decide +kernel
theorem dX3_hasFact_12 : decode cX3_hasFact 12 = .ok (.iconst 1, 1) := by decide +kernel
theorem dX3_hasFact_13 : decode cX3_hasFact 13 = .ok (.goto 4, 3) := by decide +kernel
theorem dX3_hasFact_16 : decode cX3_hasFact 16 = .ok (.iconst 0, 1) := by decide +kernel
theorem dX3_hasFact_17 : decode cX3_hasFact 17 = .ok (.ireturn, 1) := by decide +kernel
theorem dX3_spanOf_0 : decode cX3_spanOf 0 = .ok (.iconst 1, 1) := by decide +kernel
theorem dX3_spanOf_1 : decode cX3_spanOf 1 = .ok (.aload_n 0, 1) := by decide +kernel
theorem dX3_spanOf_2 : decode cX3_spanOf 2 = .ok (.getfield 19, 3) := by decide +kernel
theorem dX3_spanOf_5 : decode cX3_spanOf 5 = .ok (.iload_n 1, 1) := by decide +kernel
theorem dX3_spanOf_6 : decode cX3_spanOf 6 = .ok (.iaload, 1) := by decide +kernel
theorem dX3_spanOf_7 : decode cX3_spanOf 7 = .ok (.aload_n 0, 1) := by decide +kernel
theorem dX3_spanOf_8 : decode cX3_spanOf 8 = .ok (.getfield 15, 3) := by decide +kernel
theorem dX3_spanOf_11 : decode cX3_spanOf 11 = .ok (.iload_n 1, 1) := by decide +kernel
theorem dX3_spanOf_12 : decode cX3_spanOf 12 = .ok (.iaload, 1) := by decide +kernel
theorem dX3_spanOf_13 : decode cX3_spanOf 13 = .ok (.isub, 1) := by decide +kernel
theorem dX3_spanOf_14 : decode cX3_spanOf 14 = .ok (.iconst 1, 1) := by decide +kernel
theorem dX3_spanOf_15 : decode cX3_spanOf 15 = .ok (.iadd, 1) := by decide +kernel
theorem dX3_spanOf_16 : decode cX3_spanOf 16 = .ok (.invokestatic 50, 3) := by decide +kernel
theorem dX3_spanOf_19 : decode cX3_spanOf 19 = .ok (.ireturn, 1) := by decide +kernel
theorem dX3_factNamed_0 : decode cX3_factNamed 0 = .ok (.iconst 0, 1) := by decide +kernel
theorem dX3_factNamed_1 : decode cX3_factNamed 1 = .ok (.istore_n 3, 1) := by decide +kernel
theorem dX3_factNamed_2 : decode cX3_factNamed 2 = .ok (.iload_n 3, 1) := by decide +kernel
theorem dX3_factNamed_3 : decode cX3_factNamed 3 = .ok (.aload_n 0, 1) := by decide +kernel
theorem dX3_factNamed_4 : decode cX3_factNamed 4 = .ok (.getfield 47, 3) := by decide +kernel
theorem dX3_factNamed_7 : decode cX3_factNamed 7 = .ok (.if_icmp .ge 22, 3) := by decide +kernel
theorem dX3_factNamed_10 : decode cX3_factNamed 10 = .ok (.aload_n 0, 1) := by decide +kernel
theorem dX3_factNamed_11 : decode cX3_factNamed 11 = .ok (.getfield 9, 3) := by decide +kernel
theorem dX3_factNamed_14 : decode cX3_factNamed 14 = .ok (.iload_n 3, 1) := by decide +kernel
theorem dX3_factNamed_15 : decode cX3_factNamed 15 = .ok (.laload, 1) := by decide +kernel
theorem dX3_factNamed_16 : decode cX3_factNamed 16 = .ok (.lload_n 1, 1) := by decide +kernel
theorem dX3_factNamed_17 : decode cX3_factNamed 17 = .ok (.lcmp, 1) := by decide +kernel
theorem dX3_factNamed_18 : decode cX3_factNamed 18 = .ok (.ifCond .ne 5, 3) := by decide +kernel
theorem dX3_factNamed_21 : decode cX3_factNamed 21 = .ok (.iload_n 3, 1) := by decide +kernel
theorem dX3_factNamed_22 : decode cX3_factNamed 22 = .ok (.ireturn, 1) := by decide +kernel
theorem dX3_factNamed_23 : decode cX3_factNamed 23 = .ok (.iinc 3 1, 3) := by decide +kernel
theorem dX3_factNamed_26 : decode cX3_factNamed 26 = .ok (.goto (-24), 3) := by decide +kernel
theorem dX3_factNamed_29 : decode cX3_factNamed 29 = .ok (.iconst (-1), 1) := by decide +kernel
theorem dX3_factNamed_30 : decode cX3_factNamed 30 = .ok (.ireturn, 1) := by decide +kernel
theorem dX3_hasClauseNamed_0 : decode cX3_hasClauseNamed 0 = .ok (.iconst 0, 1) := by decide +kernel
theorem dX3_hasClauseNamed_1 : decode cX3_hasClauseNamed 1 = .ok (.istore_n 3, 1) := by decide +kernel
theorem dX3_hasClauseNamed_2 : decode cX3_hasClauseNamed 2 = .ok (.iload_n 3, 1) := by decide +kernel
theorem dX3_hasClauseNamed_3 : decode cX3_hasClauseNamed 3 = .ok (.aload_n 0, 1) := by decide +kernel
theorem dX3_hasClauseNamed_4 : decode cX3_hasClauseNamed 4 = .ok (.getfield 56, 3) := by decide +kernel
theorem dX3_hasClauseNamed_7 : decode cX3_hasClauseNamed 7 = .ok (.if_icmp .ge 25, 3) := by decide +kernel
theorem dX3_hasClauseNamed_10 : decode cX3_hasClauseNamed 10 = .ok (.aload_n 0, 1) := by decide +kernel
theorem dX3_hasClauseNamed_11 : decode cX3_hasClauseNamed 11 = .ok (.getfield 28, 3) := by decide +kernel
theorem dX3_hasClauseNamed_14 : decode cX3_hasClauseNamed 14 = .ok (.iload_n 3, 1) := by decide +kernel
theorem dX3_hasClauseNamed_15 : decode cX3_hasClauseNamed 15 = .ok (.aaload, 1) := by decide +kernel
theorem dX3_hasClauseNamed_16 : decode cX3_hasClauseNamed 16 = .ok (.getfield 59, 3) := by decide +kernel
theorem dX3_hasClauseNamed_19 : decode cX3_hasClauseNamed 19 = .ok (.lload_n 1, 1) := by decide +kernel
theorem dX3_hasClauseNamed_20 : decode cX3_hasClauseNamed 20 = .ok (.lcmp, 1) := by decide +kernel
theorem dX3_hasClauseNamed_21 : decode cX3_hasClauseNamed 21 = .ok (.ifCond .ne 5, 3) := by decide +kernel
theorem dX3_hasClauseNamed_24 : decode cX3_hasClauseNamed 24 = .ok (.iconst 1, 1) := by decide +kernel
theorem dX3_hasClauseNamed_25 : decode cX3_hasClauseNamed 25 = .ok (.ireturn, 1) := by decide +kernel
theorem dX3_hasClauseNamed_26 : decode cX3_hasClauseNamed 26 = .ok (.iinc 3 1, 3) := by decide +kernel
theorem dX3_hasClauseNamed_29 : decode cX3_hasClauseNamed 29 = .ok (.goto (-27), 3) := by decide +kernel
theorem dX3_hasClauseNamed_32 : decode cX3_hasClauseNamed 32 = .ok (.iconst 0, 1) := by decide +kernel
theorem dX3_hasClauseNamed_33 : decode cX3_hasClauseNamed 33 = .ok (.ireturn, 1) := by decide +kernel
theorem dX3_addFact_0 : decode cX3_addFact 0 = .ok (.aload_n 0, 1) := by decide +kernel
theorem dX3_addFact_1 : decode cX3_addFact 1 = .ok (.getfield 9, 3) := by decide +kernel
theorem dX3_addFact_4 : decode cX3_addFact 4 = .ok (.aload_n 0, 1) := by decide +kernel
theorem dX3_addFact_5 : decode cX3_addFact 5 = .ok (.getfield 47, 3) := by decide +kernel
theorem dX3_addFact_8 : decode cX3_addFact 8 = .ok (.lload_n 1, 1) := by decide +kernel
theorem dX3_addFact_9 : decode cX3_addFact 9 = .ok (.lastore, 1) := by decide +kernel
theorem dX3_addFact_10 : decode cX3_addFact 10 = .ok (.aload_n 0, 1) := by decide +kernel
theorem dX3_addFact_11 : decode cX3_addFact 11 = .ok (.getfield 15, 3) := by decide +kernel
theorem dX3_addFact_14 : decode cX3_addFact 14 = .ok (.aload_n 0, 1) := by decide +kernel
theorem dX3_addFact_15 : decode cX3_addFact 15 = .ok (.getfield 47, 3) := by decide +kernel
theorem dX3_addFact_18 : decode cX3_addFact 18 = .ok (.iload_n 3, 1) := by decide +kernel
theorem dX3_addFact_19 : decode cX3_addFact 19 = .ok (.iastore, 1) := by decide +kernel
theorem dX3_addFact_20 : decode cX3_addFact 20 = .ok (.aload_n 0, 1) := by decide +kernel
theorem dX3_addFact_21 : decode cX3_addFact 21 = .ok (.getfield 19, 3) := by decide +kernel
theorem dX3_addFact_24 : decode cX3_addFact 24 = .ok (.aload_n 0, 1) := by decide +kernel
theorem dX3_addFact_25 : decode cX3_addFact 25 = .ok (.getfield 47, 3) := by decide +kernel
theorem dX3_addFact_28 : decode cX3_addFact 28 = .ok (.iload 4, 2) := by decide +kernel
theorem dX3_addFact_30 : decode cX3_addFact 30 = .ok (.iastore, 1) := by decide +kernel
theorem dX3_addFact_31 : decode cX3_addFact 31 = .ok (.aload_n 0, 1) := by decide +kernel
theorem dX3_addFact_32 : decode cX3_addFact 32 = .ok (.dup, 1) := by decide +kernel
theorem dX3_addFact_33 : decode cX3_addFact 33 = .ok (.getfield 22, 3) := by decide +kernel
theorem dX3_addFact_36 : decode cX3_addFact 36 = .ok (.aload_n 0, 1) := by decide +kernel
theorem dX3_addFact_37 : decode cX3_addFact 37 = .ok (.aload_n 0, 1) := by decide +kernel
theorem dX3_addFact_38 : decode cX3_addFact 38 = .ok (.getfield 47, 3) := by decide +kernel
theorem dX3_addFact_41 : decode cX3_addFact 41 = .ok (.invokevirtual 63, 3) := by decide +kernel
theorem dX3_addFact_44 : decode cX3_addFact 44 = .ok (.imul, 1) := by decide +kernel
theorem dX3_addFact_45 : decode cX3_addFact 45 = .ok (.putfield 22, 3) := by decide +kernel
theorem dX3_addFact_48 : decode cX3_addFact 48 = .ok (.aload_n 0, 1) := by decide +kernel
theorem dX3_addFact_49 : decode cX3_addFact 49 = .ok (.dup, 1) := by decide +kernel
theorem dX3_addFact_50 : decode cX3_addFact 50 = .ok (.getfield 47, 3) := by decide +kernel
theorem dX3_addFact_53 : decode cX3_addFact 53 = .ok (.iconst 1, 1) := by decide +kernel
theorem dX3_addFact_54 : decode cX3_addFact 54 = .ok (.iadd, 1) := by decide +kernel
theorem dX3_addFact_55 : decode cX3_addFact 55 = .ok (.putfield 47, 3) := by decide +kernel
theorem dX3_addFact_58 : decode cX3_addFact 58 = .ok (.return_, 1) := by decide +kernel
theorem dX3_addClause_0 : decode cX3_addClause 0 = .ok (.aload_n 0, 1) := by decide +kernel
theorem dX3_addClause_1 : decode cX3_addClause 1 = .ok (.getfield 56, 3) := by decide +kernel
theorem dX3_addClause_4 : decode cX3_addClause 4 = .ok (.istore_n 2, 1) := by decide +kernel
theorem dX3_addClause_5 : decode cX3_addClause 5 = .ok (.iload_n 2, 1) := by decide +kernel
theorem dX3_addClause_6 : decode cX3_addClause 6 = .ok (.ifCond .le 46, 3) := by decide +kernel
theorem dX3_addClause_9 : decode cX3_addClause 9 = .ok (.aload_n 0, 1) := by decide +kernel
theorem dX3_addClause_10 : decode cX3_addClause 10 = .ok (.getfield 28, 3) := by decide +kernel
theorem dX3_addClause_13 : decode cX3_addClause 13 = .ok (.aload_n 0, 1) := by decide +kernel
theorem dX3_addClause_14 : decode cX3_addClause 14 = .ok (.getfield 32, 3) := by decide +kernel
theorem dX3_addClause_17 : decode cX3_addClause 17 = .ok (.iload_n 2, 1) := by decide +kernel
theorem dX3_addClause_18 : decode cX3_addClause 18 = .ok (.iconst 1, 1) := by decide +kernel
theorem dX3_addClause_19 : decode cX3_addClause 19 = .ok (.isub, 1) := by decide +kernel
theorem dX3_addClause_20 : decode cX3_addClause 20 = .ok (.iaload, 1) := by decide +kernel
theorem dX3_addClause_21 : decode cX3_addClause 21 = .ok (.aaload, 1) := by decide +kernel
theorem dX3_addClause_22 : decode cX3_addClause 22 = .ok (.getfield 67, 3) := by decide +kernel
theorem dX3_addClause_25 : decode cX3_addClause 25 = .ok (.aload_n 1, 1) := by decide +kernel
theorem dX3_addClause_26 : decode cX3_addClause 26 = .ok (.getfield 67, 3) := by decide +kernel
theorem dX3_addClause_29 : decode cX3_addClause 29 = .ok (.if_icmp .le 23, 3) := by decide +kernel
theorem dX3_addClause_32 : decode cX3_addClause 32 = .ok (.aload_n 0, 1) := by decide +kernel
theorem dX3_addClause_33 : decode cX3_addClause 33 = .ok (.getfield 32, 3) := by decide +kernel
theorem dX3_addClause_36 : decode cX3_addClause 36 = .ok (.iload_n 2, 1) := by decide +kernel
theorem dX3_addClause_37 : decode cX3_addClause 37 = .ok (.aload_n 0, 1) := by decide +kernel
theorem dX3_addClause_38 : decode cX3_addClause 38 = .ok (.getfield 32, 3) := by decide +kernel
theorem dX3_addClause_41 : decode cX3_addClause 41 = .ok (.iload_n 2, 1) := by decide +kernel
theorem dX3_addClause_42 : decode cX3_addClause 42 = .ok (.iconst 1, 1) := by decide +kernel
theorem dX3_addClause_43 : decode cX3_addClause 43 = .ok (.isub, 1) := by decide +kernel
theorem dX3_addClause_44 : decode cX3_addClause 44 = .ok (.iaload, 1) := by decide +kernel
theorem dX3_addClause_45 : decode cX3_addClause 45 = .ok (.iastore, 1) := by decide +kernel
theorem dX3_addClause_46 : decode cX3_addClause 46 = .ok (.iinc 2 (-1), 3) := by decide +kernel
theorem dX3_addClause_49 : decode cX3_addClause 49 = .ok (.goto (-44), 3) := by decide +kernel
theorem dX3_addClause_52 : decode cX3_addClause 52 = .ok (.aload_n 0, 1) := by decide +kernel
theorem dX3_addClause_53 : decode cX3_addClause 53 = .ok (.getfield 32, 3) := by decide +kernel
theorem dX3_addClause_56 : decode cX3_addClause 56 = .ok (.iload_n 2, 1) := by decide +kernel
theorem dX3_addClause_57 : decode cX3_addClause 57 = .ok (.aload_n 0, 1) := by decide +kernel
theorem dX3_addClause_58 : decode cX3_addClause 58 = .ok (.getfield 56, 3) := by decide +kernel
theorem dX3_addClause_61 : decode cX3_addClause 61 = .ok (.iastore, 1) := by decide +kernel
theorem dX3_addClause_62 : decode cX3_addClause 62 = .ok (.aload_n 0, 1) := by decide +kernel
theorem dX3_addClause_63 : decode cX3_addClause 63 = .ok (.getfield 28, 3) := by decide +kernel
theorem dX3_addClause_66 : decode cX3_addClause 66 = .ok (.aload_n 0, 1) := by decide +kernel
theorem dX3_addClause_67 : decode cX3_addClause 67 = .ok (.getfield 56, 3) := by decide +kernel
theorem dX3_addClause_70 : decode cX3_addClause 70 = .ok (.aload_n 1, 1) := by decide +kernel
theorem dX3_addClause_71 : decode cX3_addClause 71 = .ok (.aastore, 1) := by decide +kernel
theorem dX3_addClause_72 : decode cX3_addClause 72 = .ok (.aload_n 0, 1) := by decide +kernel
theorem dX3_addClause_73 : decode cX3_addClause 73 = .ok (.dup, 1) := by decide +kernel
theorem dX3_addClause_74 : decode cX3_addClause 74 = .ok (.getfield 56, 3) := by decide +kernel
theorem dX3_addClause_77 : decode cX3_addClause 77 = .ok (.iconst 1, 1) := by decide +kernel
theorem dX3_addClause_78 : decode cX3_addClause 78 = .ok (.iadd, 1) := by decide +kernel
theorem dX3_addClause_79 : decode cX3_addClause 79 = .ok (.putfield 56, 3) := by decide +kernel
theorem dX3_addClause_82 : decode cX3_addClause 82 = .ok (.return_, 1) := by decide +kernel
theorem dX3_hasFactsOf_0 : decode cX3_hasFactsOf 0 = .ok (.aload_n 0, 1) := by decide +kernel
theorem dX3_hasFactsOf_1 : decode cX3_hasFactsOf 1 = .ok (.getfield 47, 3) := by decide +kernel
theorem dX3_hasFactsOf_4 : decode cX3_hasFactsOf 4 = .ok (.aload_n 1, 1) := by decide +kernel
theorem dX3_hasFactsOf_5 : decode cX3_hasFactsOf 5 = .ok (.getfield 47, 3) := by decide +kernel
theorem dX3_hasFactsOf_8 : decode cX3_hasFactsOf 8 = .ok (.if_icmp .eq 5, 3) := by decide +kernel
theorem dX3_hasFactsOf_11 : decode cX3_hasFactsOf 11 = .ok (.iconst 0, 1) := by decide +kernel
theorem dX3_hasFactsOf_12 : decode cX3_hasFactsOf 12 = .ok (.ireturn, 1) := by decide +kernel
theorem dX3_hasFactsOf_13 : decode cX3_hasFactsOf 13 = .ok (.iconst 0, 1) := by decide +kernel
theorem dX3_hasFactsOf_14 : decode cX3_hasFactsOf 14 = .ok (.istore_n 2, 1) := by decide +kernel
theorem dX3_hasFactsOf_15 : decode cX3_hasFactsOf 15 = .ok (.iload_n 2, 1) := by decide +kernel
theorem dX3_hasFactsOf_16 : decode cX3_hasFactsOf 16 = .ok (.aload_n 0, 1) := by decide +kernel
theorem dX3_hasFactsOf_17 : decode cX3_hasFactsOf 17 = .ok (.getfield 47, 3) := by decide +kernel
theorem dX3_hasFactsOf_20 : decode cX3_hasFactsOf 20 = .ok (.if_icmp .ge 67, 3) := by decide +kernel
theorem dX3_hasFactsOf_23 : decode cX3_hasFactsOf 23 = .ok (.aload_n 0, 1) := by decide +kernel
theorem dX3_hasFactsOf_24 : decode cX3_hasFactsOf 24 = .ok (.getfield 9, 3) := by decide +kernel
theorem dX3_hasFactsOf_27 : decode cX3_hasFactsOf 27 = .ok (.iload_n 2, 1) := by decide +kernel
theorem dX3_hasFactsOf_28 : decode cX3_hasFactsOf 28 = .ok (.laload, 1) := by decide +kernel
theorem dX3_hasFactsOf_29 : decode cX3_hasFactsOf 29 = .ok (.aload_n 1, 1) := by decide +kernel
theorem dX3_hasFactsOf_30 : decode cX3_hasFactsOf 30 = .ok (.getfield 9, 3) := by decide +kernel
theorem dX3_hasFactsOf_33 : decode cX3_hasFactsOf 33 = .ok (.iload_n 2, 1) := by decide +kernel
theorem dX3_hasFactsOf_34 : decode cX3_hasFactsOf 34 = .ok (.laload, 1) := by decide +kernel
theorem dX3_hasFactsOf_35 : decode cX3_hasFactsOf 35 = .ok (.lcmp, 1) := by decide +kernel
theorem dX3_hasFactsOf_36 : decode cX3_hasFactsOf 36 = .ok (.ifCond .ne 37, 3) := by decide +kernel
theorem dX3_hasFactsOf_39 : decode cX3_hasFactsOf 39 = .ok (.aload_n 0, 1) := by decide +kernel
theorem dX3_hasFactsOf_40 : decode cX3_hasFactsOf 40 = .ok (.getfield 15, 3) := by decide +kernel
theorem dX3_hasFactsOf_43 : decode cX3_hasFactsOf 43 = .ok (.iload_n 2, 1) := by decide +kernel
theorem dX3_hasFactsOf_44 : decode cX3_hasFactsOf 44 = .ok (.iaload, 1) := by decide +kernel
theorem dX3_hasFactsOf_45 : decode cX3_hasFactsOf 45 = .ok (.aload_n 1, 1) := by decide +kernel
theorem dX3_hasFactsOf_46 : decode cX3_hasFactsOf 46 = .ok (.getfield 15, 3) := by decide +kernel
theorem dX3_hasFactsOf_49 : decode cX3_hasFactsOf 49 = .ok (.iload_n 2, 1) := by decide +kernel
theorem dX3_hasFactsOf_50 : decode cX3_hasFactsOf 50 = .ok (.iaload, 1) := by decide +kernel
theorem dX3_hasFactsOf_51 : decode cX3_hasFactsOf 51 = .ok (.if_icmp .ne 22, 3) := by decide +kernel
theorem dX3_hasFactsOf_54 : decode cX3_hasFactsOf 54 = .ok (.aload_n 0, 1) := by decide +kernel
theorem dX3_hasFactsOf_55 : decode cX3_hasFactsOf 55 = .ok (.getfield 19, 3) := by decide +kernel
theorem dX3_hasFactsOf_58 : decode cX3_hasFactsOf 58 = .ok (.iload_n 2, 1) := by decide +kernel
theorem dX3_hasFactsOf_59 : decode cX3_hasFactsOf 59 = .ok (.iaload, 1) := by decide +kernel
theorem dX3_hasFactsOf_60 : decode cX3_hasFactsOf 60 = .ok (.aload_n 1, 1) := by decide +kernel
theorem dX3_hasFactsOf_61 : decode cX3_hasFactsOf 61 = .ok (.getfield 19, 3) := by decide +kernel
theorem dX3_hasFactsOf_64 : decode cX3_hasFactsOf 64 = .ok (.iload_n 2, 1) := by decide +kernel
theorem dX3_hasFactsOf_65 : decode cX3_hasFactsOf 65 = .ok (.iaload, 1) := by decide +kernel
theorem dX3_hasFactsOf_66 : decode cX3_hasFactsOf 66 = .ok (.if_icmp .ne 7, 3) := by decide +kernel
theorem dX3_hasFactsOf_69 : decode cX3_hasFactsOf 69 = .ok (.iconst 1, 1) := by decide +kernel
theorem dX3_hasFactsOf_70 : decode cX3_hasFactsOf 70 = .ok (.goto 4, 3) := by decide +kernel
theorem dX3_hasFactsOf_73 : decode cX3_hasFactsOf 73 = .ok (.iconst 0, 1) := by decide +kernel
theorem dX3_hasFactsOf_74 : decode cX3_hasFactsOf 74 = .ok (.istore_n 3, 1) := by decide +kernel
theorem dX3_hasFactsOf_75 : decode cX3_hasFactsOf 75 = .ok (.iload_n 3, 1) := by decide +kernel
theorem dX3_hasFactsOf_76 : decode cX3_hasFactsOf 76 = .ok (.ifCond .ne 5, 3) := by decide +kernel
theorem dX3_hasFactsOf_79 : decode cX3_hasFactsOf 79 = .ok (.iconst 0, 1) := by decide +kernel
theorem dX3_hasFactsOf_80 : decode cX3_hasFactsOf 80 = .ok (.ireturn, 1) := by decide +kernel
theorem dX3_hasFactsOf_81 : decode cX3_hasFactsOf 81 = .ok (.iinc 2 1, 3) := by decide +kernel
theorem dX3_hasFactsOf_84 : decode cX3_hasFactsOf 84 = .ok (.goto (-69), 3) := by decide +kernel
theorem dX3_hasFactsOf_87 : decode cX3_hasFactsOf 87 = .ok (.iconst 1, 1) := by decide +kernel
theorem dX3_hasFactsOf_88 : decode cX3_hasFactsOf 88 = .ok (.ireturn, 1) := by decide +kernel
theorem dX4_init_0 : decode cX4_init 0 = .ok (.aload_n 0, 1) := by decide +kernel
theorem dX4_init_1 : decode cX4_init 1 = .ok (.invokespecial 1, 3) := by decide +kernel
theorem dX4_init_4 : decode cX4_init 4 = .ok (.aload_n 0, 1) := by decide +kernel
theorem dX4_init_5 : decode cX4_init 5 = .ok (.aload_n 1, 1) := by decide +kernel
theorem dX4_init_6 : decode cX4_init 6 = .ok (.putfield 7, 3) := by decide +kernel
theorem dX4_init_9 : decode cX4_init 9 = .ok (.return_, 1) := by decide +kernel
theorem dX4_reckon_0 : decode cX4_reckon 0 = .ok (.aload_n 1, 1) := by decide +kernel
theorem dX4_reckon_1 : decode cX4_reckon 1 = .ok (.getfield 13, 3) := by decide +kernel
theorem dX4_reckon_4 : decode cX4_reckon 4 = .ok (.astore_n 2, 1) := by decide +kernel
theorem dX4_reckon_5 : decode cX4_reckon 5 = .ok (.iconst 0, 1) := by decide +kernel
theorem dX4_reckon_6 : decode cX4_reckon 6 = .ok (.istore_n 3, 1) := by decide +kernel
theorem dX4_reckon_7 : decode cX4_reckon 7 = .ok (.iconst 0, 1) := by decide +kernel
theorem dX4_reckon_8 : decode cX4_reckon 8 = .ok (.istore 4, 2) := by decide +kernel
theorem dX4_reckon_10 : decode cX4_reckon 10 = .ok (.iload 4, 2) := by decide +kernel
theorem dX4_reckon_12 : decode cX4_reckon 12 = .ok (.aload_n 0, 1) := by decide +kernel
theorem dX4_reckon_13 : decode cX4_reckon 13 = .ok (.getfield 7, 3) := by decide +kernel
theorem dX4_reckon_16 : decode cX4_reckon 16 = .ok (.arraylength, 1) := by decide +kernel
theorem dX4_reckon_17 : decode cX4_reckon 17 = .ok (.if_icmp .ge 108, 3) := by decide +kernel
theorem dX4_reckon_20 : decode cX4_reckon 20 = .ok (.aload_n 0, 1) := by decide +kernel
theorem dX4_reckon_21 : decode cX4_reckon 21 = .ok (.getfield 7, 3) := by decide +kernel
theorem dX4_reckon_24 : decode cX4_reckon 24 = .ok (.iload 4, 2) := by decide +kernel
theorem dX4_reckon_26 : decode cX4_reckon 26 = .ok (.iaload, 1) := by decide +kernel
theorem dX4_reckon_27 : decode cX4_reckon 27 = .ok (.bipush 8, 2) := by decide +kernel
theorem dX4_reckon_29 : decode cX4_reckon 29 = .ok (.irem, 1) := by decide +kernel
theorem dX4_reckon_30 : decode cX4_reckon 30 = .ok (.istore 5, 2) := by decide +kernel
theorem dX4_reckon_32 : decode cX4_reckon 32 = .ok (.iload 5, 2) := by decide +kernel
theorem dX4_reckon_34 : decode cX4_reckon 34 = .ok (.iconst 1, 1) := by decide +kernel
theorem dX4_reckon_35 : decode cX4_reckon 35 = .ok (.if_icmp .eq 9, 3) := by decide +kernel
theorem dX4_reckon_38 : decode cX4_reckon 38 = .ok (.iload 5, 2) := by decide +kernel
theorem dX4_reckon_40 : decode cX4_reckon 40 = .ok (.iconst 2, 1) := by decide +kernel
theorem dX4_reckon_41 : decode cX4_reckon 41 = .ok (.if_icmp .ne 50, 3) := by decide +kernel
theorem dX4_reckon_44 : decode cX4_reckon 44 = .ok (.iload_n 3, 1) := by decide +kernel
theorem dX4_reckon_45 : decode cX4_reckon 45 = .ok (.aload_n 2, 1) := by decide +kernel
theorem dX4_reckon_46 : decode cX4_reckon 46 = .ok (.arraylength, 1) := by decide +kernel
theorem dX4_reckon_47 : decode cX4_reckon 47 = .ok (.if_icmp .lt 5, 3) := by decide +kernel
theorem dX4_reckon_50 : decode cX4_reckon 50 = .ok (.iconst 0, 1) := by decide +kernel
theorem dX4_reckon_51 : decode cX4_reckon 51 = .ok (.ireturn, 1) := by decide +kernel
theorem dX4_reckon_52 : decode cX4_reckon 52 = .ok (.aload_n 0, 1) := by decide +kernel
theorem dX4_reckon_53 : decode cX4_reckon 53 = .ok (.getfield 7, 3) := by decide +kernel
theorem dX4_reckon_56 : decode cX4_reckon 56 = .ok (.iload 4, 2) := by decide +kernel
theorem dX4_reckon_58 : decode cX4_reckon 58 = .ok (.iaload, 1) := by decide +kernel
theorem dX4_reckon_59 : decode cX4_reckon 59 = .ok (.bipush 8, 2) := by decide +kernel
theorem dX4_reckon_61 : decode cX4_reckon 61 = .ok (.idiv, 1) := by decide +kernel
theorem dX4_reckon_62 : decode cX4_reckon 62 = .ok (.istore 6, 2) := by decide +kernel
theorem dX4_reckon_64 : decode cX4_reckon 64 = .ok (.aload_n 2, 1) := by decide +kernel
theorem dX4_reckon_65 : decode cX4_reckon 65 = .ok (.iload_n 3, 1) := by decide +kernel
theorem dX4_reckon_66 : decode cX4_reckon 66 = .ok (.iload 5, 2) := by decide +kernel
theorem dX4_reckon_68 : decode cX4_reckon 68 = .ok (.iconst 1, 1) := by decide +kernel
theorem dX4_reckon_69 : decode cX4_reckon 69 = .ok (.if_icmp .ne 8, 3) := by decide +kernel
theorem dX4_reckon_72 : decode cX4_reckon 72 = .ok (.iload 6, 2) := by decide +kernel
theorem dX4_reckon_74 : decode cX4_reckon 74 = .ok (.goto 10, 3) := by decide +kernel
theorem dX4_reckon_77 : decode cX4_reckon 77 = .ok (.aload_n 1, 1) := by decide +kernel
theorem dX4_reckon_78 : decode cX4_reckon 78 = .ok (.getfield 18, 3) := by decide +kernel
theorem dX4_reckon_81 : decode cX4_reckon 81 = .ok (.iload 6, 2) := by decide +kernel
theorem dX4_reckon_83 : decode cX4_reckon 83 = .ok (.iaload, 1) := by decide +kernel
theorem dX4_reckon_84 : decode cX4_reckon 84 = .ok (.iastore, 1) := by decide +kernel
theorem dX4_reckon_85 : decode cX4_reckon 85 = .ok (.iinc 3 1, 3) := by decide +kernel
theorem dX4_reckon_88 : decode cX4_reckon 88 = .ok (.goto 31, 3) := by decide +kernel
theorem dX4_reckon_91 : decode cX4_reckon 91 = .ok (.iload_n 3, 1) := by decide +kernel
theorem dX4_reckon_92 : decode cX4_reckon 92 = .ok (.iconst 2, 1) := by decide +kernel
theorem dX4_reckon_93 : decode cX4_reckon 93 = .ok (.if_icmp .ge 5, 3) := by decide +kernel
theorem dX4_reckon_96 : decode cX4_reckon 96 = .ok (.iconst 0, 1) := by decide +kernel
theorem dX4_reckon_97 : decode cX4_reckon 97 = .ok (.ireturn, 1) := by decide +kernel
theorem dX4_reckon_98 : decode cX4_reckon 98 = .ok (.iinc 3 (-1), 3) := by decide +kernel
theorem dX4_reckon_101 : decode cX4_reckon 101 = .ok (.aload_n 2, 1) := by decide +kernel
theorem dX4_reckon_102 : decode cX4_reckon 102 = .ok (.iload_n 3, 1) := by decide +kernel
theorem dX4_reckon_103 : decode cX4_reckon 103 = .ok (.iconst 1, 1) := by decide +kernel
theorem dX4_reckon_104 : decode cX4_reckon 104 = .ok (.isub, 1) := by decide +kernel
theorem dX4_reckon_105 : decode cX4_reckon 105 = .ok (.iload 5, 2) := by decide +kernel
theorem dX4_reckon_107 : decode cX4_reckon 107 = .ok (.aload_n 2, 1) := by decide +kernel
theorem dX4_reckon_108 : decode cX4_reckon 108 = .ok (.iload_n 3, 1) := by decide +kernel
theorem dX4_reckon_109 : decode cX4_reckon 109 = .ok (.iconst 1, 1) := by decide +kernel
theorem dX4_reckon_110 : decode cX4_reckon 110 = .ok (.isub, 1) := by decide +kernel
theorem dX4_reckon_111 : decode cX4_reckon 111 = .ok (.iaload, 1) := by decide +kernel
theorem dX4_reckon_112 : decode cX4_reckon 112 = .ok (.aload_n 2, 1) := by decide +kernel
theorem dX4_reckon_113 : decode cX4_reckon 113 = .ok (.iload_n 3, 1) := by decide +kernel
theorem dX4_reckon_114 : decode cX4_reckon 114 = .ok (.iaload, 1) := by decide +kernel
theorem dX4_reckon_115 : decode cX4_reckon 115 = .ok (.invokestatic 21, 3) := by decide +kernel
theorem dX4_reckon_118 : decode cX4_reckon 118 = .ok (.iastore, 1) := by decide +kernel
theorem dX4_reckon_119 : decode cX4_reckon 119 = .ok (.iinc 4 1, 3) := by decide +kernel
theorem dX4_reckon_122 : decode cX4_reckon 122 = .ok (.goto (-112), 3) := by decide +kernel
theorem dX4_reckon_125 : decode cX4_reckon 125 = .ok (.iload_n 3, 1) := by decide +kernel
theorem dX4_reckon_126 : decode cX4_reckon 126 = .ok (.iconst 1, 1) := by decide +kernel
theorem dX4_reckon_127 : decode cX4_reckon 127 = .ok (.if_icmp .ge 7, 3) := by decide +kernel
theorem dX4_reckon_130 : decode cX4_reckon 130 = .ok (.iconst 0, 1) := by decide +kernel
theorem dX4_reckon_131 : decode cX4_reckon 131 = .ok (.goto 6, 3) := by decide +kernel
theorem dX4_reckon_134 : decode cX4_reckon 134 = .ok (.aload_n 2, 1) := by decide +kernel
theorem dX4_reckon_135 : decode cX4_reckon 135 = .ok (.iconst 0, 1) := by decide +kernel
theorem dX4_reckon_136 : decode cX4_reckon 136 = .ok (.iaload, 1) := by decide +kernel
theorem dX4_reckon_137 : decode cX4_reckon 137 = .ok (.ireturn, 1) := by decide +kernel
theorem dX4_join_0 : decode cX4_join 0 = .ok (.iload_n 0, 1) := by decide +kernel
theorem dX4_join_1 : decode cX4_join 1 = .ok (.tableswitch 46 3 5 #[27, 31, 35], 27) := by decide +kernel
theorem dX4_join_28 : decode cX4_join 28 = .ok (.iload_n 1, 1) := by decide +kernel
theorem dX4_join_29 : decode cX4_join 29 = .ok (.iload_n 2, 1) := by decide +kernel
theorem dX4_join_30 : decode cX4_join 30 = .ok (.iadd, 1) := by decide +kernel
theorem dX4_join_31 : decode cX4_join 31 = .ok (.ireturn, 1) := by decide +kernel
theorem dX4_join_32 : decode cX4_join 32 = .ok (.iload_n 1, 1) := by decide +kernel
theorem dX4_join_33 : decode cX4_join 33 = .ok (.iload_n 2, 1) := by decide +kernel
theorem dX4_join_34 : decode cX4_join 34 = .ok (.isub, 1) := by decide +kernel
theorem dX4_join_35 : decode cX4_join 35 = .ok (.ireturn, 1) := by decide +kernel
theorem dX4_join_36 : decode cX4_join 36 = .ok (.iload_n 1, 1) := by decide +kernel
theorem dX4_join_37 : decode cX4_join 37 = .ok (.iload_n 2, 1) := by decide +kernel
theorem dX4_join_38 : decode cX4_join 38 = .ok (.if_icmp .ge 7, 3) := by decide +kernel
theorem dX4_join_41 : decode cX4_join 41 = .ok (.iconst 1, 1) := by decide +kernel
theorem dX4_join_42 : decode cX4_join 42 = .ok (.goto 4, 3) := by decide +kernel
theorem dX4_join_45 : decode cX4_join 45 = .ok (.iconst 0, 1) := by decide +kernel
theorem dX4_join_46 : decode cX4_join 46 = .ok (.ireturn, 1) := by decide +kernel
theorem dX4_join_47 : decode cX4_join 47 = .ok (.iload_n 1, 1) := by decide +kernel
theorem dX4_join_48 : decode cX4_join 48 = .ok (.iload_n 2, 1) := by decide +kernel
theorem dX4_join_49 : decode cX4_join 49 = .ok (.if_icmp .ne 7, 3) := by decide +kernel
theorem dX4_join_52 : decode cX4_join 52 = .ok (.iconst 1, 1) := by decide +kernel
theorem dX4_join_53 : decode cX4_join 53 = .ok (.goto 4, 3) := by decide +kernel
theorem dX4_join_56 : decode cX4_join 56 = .ok (.iconst 0, 1) := by decide +kernel
theorem dX4_join_57 : decode cX4_join 57 = .ok (.ireturn, 1) := by decide +kernel
theorem dX5_init_0 : decode cX5_init 0 = .ok (.aload_n 0, 1) := by decide +kernel
theorem dX5_init_1 : decode cX5_init 1 = .ok (.invokespecial 1, 3) := by decide +kernel
theorem dX5_init_4 : decode cX5_init 4 = .ok (.aload_n 0, 1) := by decide +kernel
theorem dX5_init_5 : decode cX5_init 5 = .ok (.iload_n 1, 1) := by decide +kernel
theorem dX5_init_6 : decode cX5_init 6 = .ok (.putfield 7, 3) := by decide +kernel
theorem dX5_init_9 : decode cX5_init 9 = .ok (.aload_n 0, 1) := by decide +kernel
theorem dX5_init_10 : decode cX5_init 10 = .ok (.lload_n 2, 1) := by decide +kernel
theorem dX5_init_11 : decode cX5_init 11 = .ok (.putfield 13, 3) := by decide +kernel
theorem dX5_init_14 : decode cX5_init 14 = .ok (.aload_n 0, 1) := by decide +kernel
theorem dX5_init_15 : decode cX5_init 15 = .ok (.iload 4, 2) := by decide +kernel
theorem dX5_init_17 : decode cX5_init 17 = .ok (.putfield 17, 3) := by decide +kernel
theorem dX5_init_20 : decode cX5_init 20 = .ok (.aload_n 0, 1) := by decide +kernel
theorem dX5_init_21 : decode cX5_init 21 = .ok (.aload 5, 2) := by decide +kernel
theorem dX5_init_23 : decode cX5_init 23 = .ok (.putfield 20, 3) := by decide +kernel
theorem dX5_init_26 : decode cX5_init 26 = .ok (.return_, 1) := by decide +kernel
theorem dX6_init_0 : decode cX6_init 0 = .ok (.aload_n 0, 1) := by decide +kernel
theorem dX6_init_1 : decode cX6_init 1 = .ok (.invokespecial 3, 3) := by decide +kernel
theorem dX6_init_4 : decode cX6_init 4 = .ok (.aload_n 0, 1) := by decide +kernel
theorem dX6_init_5 : decode cX6_init 5 = .ok (.bipush 12, 2) := by decide +kernel
theorem dX6_init_7 : decode cX6_init 7 = .ok (.newarray .boolean, 2) := by decide +kernel
theorem dX6_init_9 : decode cX6_init 9 = .ok (.putfield 9, 3) := by decide +kernel
theorem dX6_init_12 : decode cX6_init 12 = .ok (.aload_n 0, 1) := by decide +kernel
theorem dX6_init_13 : decode cX6_init 13 = .ok (.bipush 12, 2) := by decide +kernel
theorem dX6_init_15 : decode cX6_init 15 = .ok (.newarray .int, 2) := by decide +kernel
theorem dX6_init_17 : decode cX6_init 17 = .ok (.putfield 15, 3) := by decide +kernel
theorem dX6_init_20 : decode cX6_init 20 = .ok (.aload_n 0, 1) := by decide +kernel
theorem dX6_init_21 : decode cX6_init 21 = .ok (.bipush 12, 2) := by decide +kernel
theorem dX6_init_23 : decode cX6_init 23 = .ok (.newarray .int, 2) := by decide +kernel
theorem dX6_init_25 : decode cX6_init 25 = .ok (.putfield 19, 3) := by decide +kernel
theorem dX6_init_28 : decode cX6_init 28 = .ok (.aload_n 0, 1) := by decide +kernel
theorem dX6_init_29 : decode cX6_init 29 = .ok (.sipush 2772, 3) := by decide +kernel
theorem dX6_init_32 : decode cX6_init 32 = .ok (.newarray .byte, 2) := by decide +kernel
theorem dX6_init_34 : decode cX6_init 34 = .ok (.putfield 22, 3) := by decide +kernel
theorem dX6_init_37 : decode cX6_init 37 = .ok (.aload_n 0, 1) := by decide +kernel
theorem dX6_init_38 : decode cX6_init 38 = .ok (.iconst (-1), 1) := by decide +kernel
theorem dX6_init_39 : decode cX6_init 39 = .ok (.putfield 26, 3) := by decide +kernel
theorem dX6_init_42 : decode cX6_init 42 = .ok (.aload_n 0, 1) := by decide +kernel
theorem dX6_init_43 : decode cX6_init 43 = .ok (.iconst (-1), 1) := by decide +kernel
theorem dX6_init_44 : decode cX6_init 44 = .ok (.putfield 30, 3) := by decide +kernel
theorem dX6_init_47 : decode cX6_init 47 = .ok (.return_, 1) := by decide +kernel
theorem dX6_compose_0 : decode cX6_compose 0 = .ok (.aload_n 0, 1) := by decide +kernel
theorem dX6_compose_1 : decode cX6_compose 1 = .ok (.iconst 0, 1) := by decide +kernel
theorem dX6_compose_2 : decode cX6_compose 2 = .ok (.putfield 33, 3) := by decide +kernel
theorem dX6_compose_5 : decode cX6_compose 5 = .ok (.aload_n 0, 1) := by decide +kernel
theorem dX6_compose_6 : decode cX6_compose 6 = .ok (.iconst 0, 1) := by decide +kernel
theorem dX6_compose_7 : decode cX6_compose 7 = .ok (.putfield 36, 3) := by decide +kernel
theorem dX6_compose_10 : decode cX6_compose 10 = .ok (.aload_n 0, 1) := by decide +kernel
theorem dX6_compose_11 : decode cX6_compose 11 = .ok (.aload_n 1, 1) := by decide +kernel
theorem dX6_compose_12 : decode cX6_compose 12 = .ok (.aload_n 2, 1) := by decide +kernel
theorem dX6_compose_13 : decode cX6_compose 13 = .ok (.invokevirtual 39, 3) := by decide +kernel
theorem dX6_compose_16 : decode cX6_compose 16 = .ok (.aload_n 0, 1) := by decide +kernel
theorem dX6_compose_17 : decode cX6_compose 17 = .ok (.getfield 43, 3) := by decide +kernel
theorem dX6_compose_20 : decode cX6_compose 20 = .ok (.ifCond .ne 17, 3) := by decide +kernel
theorem dX6_compose_23 : decode cX6_compose 23 = .ok (.aload_n 0, 1) := by decide +kernel
theorem dX6_compose_24 : decode cX6_compose 24 = .ok (.aload_n 1, 1) := by decide +kernel
theorem dX6_compose_25 : decode cX6_compose 25 = .ok (.invokevirtual 46, 3) := by decide +kernel
theorem dX6_compose_28 : decode cX6_compose 28 = .ok (.aload_n 0, 1) := by decide +kernel
theorem dX6_compose_29 : decode cX6_compose 29 = .ok (.aload_n 1, 1) := by decide +kernel
theorem dX6_compose_30 : decode cX6_compose 30 = .ok (.aload_n 2, 1) := by decide +kernel
theorem dX6_compose_31 : decode cX6_compose 31 = .ok (.iload_n 3, 1) := by decide +kernel
theorem dX6_compose_32 : decode cX6_compose 32 = .ok (.aload 4, 2) := by decide +kernel
theorem dX6_compose_34 : decode cX6_compose 34 = .ok (.invokevirtual 50, 3) := by decide +kernel
theorem dX6_compose_37 : decode cX6_compose 37 = .ok (.return_, 1) := by decide +kernel
theorem dX6_settle_0 : decode cX6_settle 0 = .ok (.iconst 0, 1) := by decide +kernel
theorem dX6_settle_1 : decode cX6_settle 1 = .ok (.istore_n 3, 1) := by decide +kernel
theorem dX6_settle_2 : decode cX6_settle 2 = .ok (.iload_n 3, 1) := by decide +kernel
theorem dX6_settle_3 : decode cX6_settle 3 = .ok (.aload_n 1, 1) := by decide +kernel
theorem dX6_settle_4 : decode cX6_settle 4 = .ok (.getfield 54, 3) := by decide +kernel
theorem dX6_settle_7 : decode cX6_settle 7 = .ok (.if_icmp .ge 36, 3) := by decide +kernel
theorem dX6_settle_10 : decode cX6_settle 10 = .ok (.aload_n 0, 1) := by decide +kernel
theorem dX6_settle_11 : decode cX6_settle 11 = .ok (.getfield 9, 3) := by decide +kernel
theorem dX6_settle_14 : decode cX6_settle 14 = .ok (.iload_n 3, 1) := by decide +kernel
theorem dX6_settle_15 : decode cX6_settle 15 = .ok (.aload_n 1, 1) := by decide +kernel
theorem dX6_settle_16 : decode cX6_settle 16 = .ok (.getfield 59, 3) := by decide +kernel
theorem dX6_settle_19 : decode cX6_settle 19 = .ok (.iload_n 3, 1) := by decide +kernel
theorem dX6_settle_20 : decode cX6_settle 20 = .ok (.aaload, 1) := by decide +kernel
theorem dX6_settle_21 : decode cX6_settle 21 = .ok (.getfield 63, 3) := by decide +kernel
theorem dX6_settle_24 : decode cX6_settle 24 = .ok (.aload_n 2, 1) := by decide +kernel
theorem dX6_settle_25 : decode cX6_settle 25 = .ok (.invokevirtual 69, 3) := by decide +kernel
theorem dX6_settle_28 : decode cX6_settle 28 = .ok (.ifCond .eq 7, 3) := by decide +kernel
theorem dX6_settle_31 : decode cX6_settle 31 = .ok (.iconst 1, 1) := by decide +kernel
theorem dX6_settle_32 : decode cX6_settle 32 = .ok (.goto 4, 3) := by decide +kernel
theorem dX6_settle_35 : decode cX6_settle 35 = .ok (.iconst 0, 1) := by decide +kernel
theorem dX6_settle_36 : decode cX6_settle 36 = .ok (.bastore, 1) := by decide +kernel
theorem dX6_settle_37 : decode cX6_settle 37 = .ok (.iinc 3 1, 3) := by decide +kernel
theorem dX6_settle_40 : decode cX6_settle 40 = .ok (.goto (-38), 3) := by decide +kernel
theorem dX6_settle_43 : decode cX6_settle 43 = .ok (.iconst 1, 1) := by decide +kernel
theorem dX6_settle_44 : decode cX6_settle 44 = .ok (.istore_n 3, 1) := by decide +kernel
theorem dX6_settle_45 : decode cX6_settle 45 = .ok (.iconst 0, 1) := by decide +kernel
theorem dX6_settle_46 : decode cX6_settle 46 = .ok (.istore 4, 2) := by decide +kernel
theorem dX6_settle_48 : decode cX6_settle 48 = .ok (.iload 4, 2) := by decide +kernel
theorem dX6_settle_50 : decode cX6_settle 50 = .ok (.aload_n 1, 1) := by decide +kernel
theorem dX6_settle_51 : decode cX6_settle 51 = .ok (.getfield 54, 3) := by decide +kernel
theorem dX6_settle_54 : decode cX6_settle 54 = .ok (.if_icmp .ge 19, 3) := by decide +kernel
theorem dX6_settle_57 : decode cX6_settle 57 = .ok (.iload_n 3, 1) := by decide +kernel
theorem dX6_settle_58 : decode cX6_settle 58 = .ok (.ifCond .eq 15, 3) := by decide +kernel
theorem dX6_settle_61 : decode cX6_settle 61 = .ok (.aload_n 0, 1) := by decide +kernel
theorem dX6_settle_62 : decode cX6_settle 62 = .ok (.aload_n 1, 1) := by decide +kernel
theorem dX6_settle_63 : decode cX6_settle 63 = .ok (.invokevirtual 75, 3) := by decide +kernel
theorem dX6_settle_66 : decode cX6_settle 66 = .ok (.istore_n 3, 1) := by decide +kernel
theorem dX6_settle_67 : decode cX6_settle 67 = .ok (.iinc 4 1, 3) := by decide +kernel
theorem dX6_settle_70 : decode cX6_settle 70 = .ok (.goto (-22), 3) := by decide +kernel
theorem dX6_settle_73 : decode cX6_settle 73 = .ok (.aload_n 0, 1) := by decide +kernel
theorem dX6_settle_74 : decode cX6_settle 74 = .ok (.aload_n 1, 1) := by decide +kernel
theorem dX6_settle_75 : decode cX6_settle 75 = .ok (.invokevirtual 79, 3) := by decide +kernel
theorem dX6_settle_78 : decode cX6_settle 78 = .ok (.return_, 1) := by decide +kernel
theorem dX6_readsLike_0 : decode cX6_readsLike 0 = .ok (.aload_n 0, 1) := by decide +kernel
theorem dX6_readsLike_1 : decode cX6_readsLike 1 = .ok (.getfield 43, 3) := by decide +kernel
theorem dX6_readsLike_4 : decode cX6_readsLike 4 = .ok (.aload_n 1, 1) := by decide +kernel
theorem dX6_readsLike_5 : decode cX6_readsLike 5 = .ok (.getfield 43, 3) := by decide +kernel
theorem dX6_readsLike_8 : decode cX6_readsLike 8 = .ok (.if_icmp .ne 36, 3) := by decide +kernel
theorem dX6_readsLike_11 : decode cX6_readsLike 11 = .ok (.aload_n 0, 1) := by decide +kernel
theorem dX6_readsLike_12 : decode cX6_readsLike 12 = .ok (.getfield 26, 3) := by decide +kernel
theorem dX6_readsLike_15 : decode cX6_readsLike 15 = .ok (.aload_n 1, 1) := by decide +kernel
theorem dX6_readsLike_16 : decode cX6_readsLike 16 = .ok (.getfield 26, 3) := by decide +kernel
theorem dX6_readsLike_19 : decode cX6_readsLike 19 = .ok (.if_icmp .ne 25, 3) := by decide +kernel
theorem dX6_readsLike_22 : decode cX6_readsLike 22 = .ok (.aload_n 0, 1) := by decide +kernel
theorem dX6_readsLike_23 : decode cX6_readsLike 23 = .ok (.getfield 30, 3) := by decide +kernel
theorem dX6_readsLike_26 : decode cX6_readsLike 26 = .ok (.aload_n 1, 1) := by decide +kernel
theorem dX6_readsLike_27 : decode cX6_readsLike 27 = .ok (.getfield 30, 3) := by decide +kernel
theorem dX6_readsLike_30 : decode cX6_readsLike 30 = .ok (.if_icmp .ne 14, 3) := by decide +kernel
theorem dX6_readsLike_33 : decode cX6_readsLike 33 = .ok (.aload_n 0, 1) := by decide +kernel
theorem dX6_readsLike_34 : decode cX6_readsLike 34 = .ok (.getfield 36, 3) := by decide +kernel
theorem dX6_readsLike_37 : decode cX6_readsLike 37 = .ok (.aload_n 1, 1) := by decide +kernel
theorem dX6_readsLike_38 : decode cX6_readsLike 38 = .ok (.getfield 36, 3) := by decide +kernel
theorem dX6_readsLike_41 : decode cX6_readsLike 41 = .ok (.if_icmp .eq 5, 3) := by decide +kernel
theorem dX6_readsLike_44 : decode cX6_readsLike 44 = .ok (.iconst 0, 1) := by decide +kernel
theorem dX6_readsLike_45 : decode cX6_readsLike 45 = .ok (.ireturn, 1) := by decide +kernel
theorem dX6_readsLike_46 : decode cX6_readsLike 46 = .ok (.iconst 0, 1) := by decide +kernel
theorem dX6_readsLike_47 : decode cX6_readsLike 47 = .ok (.istore_n 2, 1) := by decide +kernel
theorem dX6_readsLike_48 : decode cX6_readsLike 48 = .ok (.iload_n 2, 1) := by decide +kernel
theorem dX6_readsLike_49 : decode cX6_readsLike 49 = .ok (.aload_n 0, 1) := by decide +kernel
theorem dX6_readsLike_50 : decode cX6_readsLike 50 = .ok (.getfield 36, 3) := by decide +kernel
theorem dX6_readsLike_53 : decode cX6_readsLike 53 = .ok (.if_icmp .ge 26, 3) := by decide +kernel
theorem dX6_readsLike_56 : decode cX6_readsLike 56 = .ok (.aload_n 0, 1) := by decide +kernel
theorem dX6_readsLike_57 : decode cX6_readsLike 57 = .ok (.getfield 22, 3) := by decide +kernel
theorem dX6_readsLike_60 : decode cX6_readsLike 60 = .ok (.iload_n 2, 1) := by decide +kernel
theorem dX6_readsLike_61 : decode cX6_readsLike 61 = .ok (.baload, 1) := by decide +kernel
theorem dX6_readsLike_62 : decode cX6_readsLike 62 = .ok (.aload_n 1, 1) := by decide +kernel
theorem dX6_readsLike_63 : decode cX6_readsLike 63 = .ok (.getfield 22, 3) := by decide +kernel
theorem dX6_readsLike_66 : decode cX6_readsLike 66 = .ok (.iload_n 2, 1) := by decide +kernel
theorem dX6_readsLike_67 : decode cX6_readsLike 67 = .ok (.baload, 1) := by decide +kernel
theorem dX6_readsLike_68 : decode cX6_readsLike 68 = .ok (.if_icmp .eq 5, 3) := by decide +kernel
theorem dX6_readsLike_71 : decode cX6_readsLike 71 = .ok (.iconst 0, 1) := by decide +kernel
theorem dX6_readsLike_72 : decode cX6_readsLike 72 = .ok (.ireturn, 1) := by decide +kernel
theorem dX6_readsLike_73 : decode cX6_readsLike 73 = .ok (.iinc 2 1, 3) := by decide +kernel
theorem dX6_readsLike_76 : decode cX6_readsLike 76 = .ok (.goto (-28), 3) := by decide +kernel
theorem dX6_readsLike_79 : decode cX6_readsLike 79 = .ok (.iconst 1, 1) := by decide +kernel
theorem dX6_readsLike_80 : decode cX6_readsLike 80 = .ok (.ireturn, 1) := by decide +kernel
theorem dX6_addNeeded_0 : decode cX6_addNeeded 0 = .ok (.iconst 0, 1) := by decide +kernel
theorem dX6_addNeeded_1 : decode cX6_addNeeded 1 = .ok (.istore_n 2, 1) := by decide +kernel
theorem dX6_addNeeded_2 : decode cX6_addNeeded 2 = .ok (.iconst 0, 1) := by decide +kernel
theorem dX6_addNeeded_3 : decode cX6_addNeeded 3 = .ok (.istore_n 3, 1) := by decide +kernel
theorem dX6_addNeeded_4 : decode cX6_addNeeded 4 = .ok (.iload_n 3, 1) := by decide +kernel
theorem dX6_addNeeded_5 : decode cX6_addNeeded 5 = .ok (.aload_n 1, 1) := by decide +kernel
theorem dX6_addNeeded_6 : decode cX6_addNeeded 6 = .ok (.getfield 54, 3) := by decide +kernel
theorem dX6_addNeeded_9 : decode cX6_addNeeded 9 = .ok (.if_icmp .ge 75, 3) := by decide +kernel
theorem dX6_addNeeded_12 : decode cX6_addNeeded 12 = .ok (.aload_n 1, 1) := by decide +kernel
theorem dX6_addNeeded_13 : decode cX6_addNeeded 13 = .ok (.getfield 59, 3) := by decide +kernel
theorem dX6_addNeeded_16 : decode cX6_addNeeded 16 = .ok (.iload_n 3, 1) := by decide +kernel
theorem dX6_addNeeded_17 : decode cX6_addNeeded 17 = .ok (.aaload, 1) := by decide +kernel
theorem dX6_addNeeded_18 : decode cX6_addNeeded 18 = .ok (.astore 4, 2) := by decide +kernel
theorem dX6_addNeeded_20 : decode cX6_addNeeded 20 = .ok (.iconst 0, 1) := by decide +kernel
theorem dX6_addNeeded_21 : decode cX6_addNeeded 21 = .ok (.istore 5, 2) := by decide +kernel
theorem dX6_addNeeded_23 : decode cX6_addNeeded 23 = .ok (.aload_n 0, 1) := by decide +kernel
theorem dX6_addNeeded_24 : decode cX6_addNeeded 24 = .ok (.getfield 9, 3) := by decide +kernel
theorem dX6_addNeeded_27 : decode cX6_addNeeded 27 = .ok (.iload_n 3, 1) := by decide +kernel
theorem dX6_addNeeded_28 : decode cX6_addNeeded 28 = .ok (.baload, 1) := by decide +kernel
theorem dX6_addNeeded_29 : decode cX6_addNeeded 29 = .ok (.ifCond .eq 49, 3) := by decide +kernel
theorem dX6_addNeeded_32 : decode cX6_addNeeded 32 = .ok (.iload 5, 2) := by decide +kernel
theorem dX6_addNeeded_34 : decode cX6_addNeeded 34 = .ok (.aload 4, 2) := by decide +kernel
theorem dX6_addNeeded_36 : decode cX6_addNeeded 36 = .ok (.getfield 82, 3) := by decide +kernel
theorem dX6_addNeeded_39 : decode cX6_addNeeded 39 = .ok (.if_icmp .ge 39, 3) := by decide +kernel
theorem dX6_addNeeded_42 : decode cX6_addNeeded 42 = .ok (.aload 4, 2) := by decide +kernel
theorem dX6_addNeeded_44 : decode cX6_addNeeded 44 = .ok (.getfield 85, 3) := by decide +kernel
theorem dX6_addNeeded_47 : decode cX6_addNeeded 47 = .ok (.iload 5, 2) := by decide +kernel
theorem dX6_addNeeded_49 : decode cX6_addNeeded 49 = .ok (.iaload, 1) := by decide +kernel
theorem dX6_addNeeded_50 : decode cX6_addNeeded 50 = .ok (.istore 6, 2) := by decide +kernel
theorem dX6_addNeeded_52 : decode cX6_addNeeded 52 = .ok (.aload_n 0, 1) := by decide +kernel
theorem dX6_addNeeded_53 : decode cX6_addNeeded 53 = .ok (.getfield 9, 3) := by decide +kernel
theorem dX6_addNeeded_56 : decode cX6_addNeeded 56 = .ok (.iload 6, 2) := by decide +kernel
theorem dX6_addNeeded_58 : decode cX6_addNeeded 58 = .ok (.baload, 1) := by decide +kernel
theorem dX6_addNeeded_59 : decode cX6_addNeeded 59 = .ok (.ifCond .ne 13, 3) := by decide +kernel
theorem dX6_addNeeded_62 : decode cX6_addNeeded 62 = .ok (.aload_n 0, 1) := by decide +kernel
theorem dX6_addNeeded_63 : decode cX6_addNeeded 63 = .ok (.getfield 9, 3) := by decide +kernel
theorem dX6_addNeeded_66 : decode cX6_addNeeded 66 = .ok (.iload 6, 2) := by decide +kernel
theorem dX6_addNeeded_68 : decode cX6_addNeeded 68 = .ok (.iconst 1, 1) := by decide +kernel
theorem dX6_addNeeded_69 : decode cX6_addNeeded 69 = .ok (.bastore, 1) := by decide +kernel
theorem dX6_addNeeded_70 : decode cX6_addNeeded 70 = .ok (.iconst 1, 1) := by decide +kernel
theorem dX6_addNeeded_71 : decode cX6_addNeeded 71 = .ok (.istore_n 2, 1) := by decide +kernel
theorem dX6_addNeeded_72 : decode cX6_addNeeded 72 = .ok (.iinc 5 1, 3) := by decide +kernel
theorem dX6_addNeeded_75 : decode cX6_addNeeded 75 = .ok (.goto (-52), 3) := by decide +kernel
theorem dX6_addNeeded_78 : decode cX6_addNeeded 78 = .ok (.iinc 3 1, 3) := by decide +kernel
theorem dX6_addNeeded_81 : decode cX6_addNeeded 81 = .ok (.goto (-77), 3) := by decide +kernel
theorem dX6_addNeeded_84 : decode cX6_addNeeded 84 = .ok (.iload_n 2, 1) := by decide +kernel
theorem dX6_addNeeded_85 : decode cX6_addNeeded 85 = .ok (.ireturn, 1) := by decide +kernel
theorem dX6_findQuarrel_0 : decode cX6_findQuarrel 0 = .ok (.aload_n 0, 1) := by decide +kernel
theorem dX6_findQuarrel_1 : decode cX6_findQuarrel 1 = .ok (.iconst 0, 1) := by decide +kernel
theorem dX6_findQuarrel_2 : decode cX6_findQuarrel 2 = .ok (.putfield 43, 3) := by decide +kernel
theorem dX6_findQuarrel_5 : decode cX6_findQuarrel 5 = .ok (.aload_n 0, 1) := by decide +kernel
theorem dX6_findQuarrel_6 : decode cX6_findQuarrel 6 = .ok (.iconst (-1), 1) := by decide +kernel
theorem dX6_findQuarrel_7 : decode cX6_findQuarrel 7 = .ok (.putfield 26, 3) := by decide +kernel
theorem dX6_findQuarrel_10 : decode cX6_findQuarrel 10 = .ok (.aload_n 0, 1) := by decide +kernel
theorem dX6_findQuarrel_11 : decode cX6_findQuarrel 11 = .ok (.iconst (-1), 1) := by decide +kernel
theorem dX6_findQuarrel_12 : decode cX6_findQuarrel 12 = .ok (.putfield 30, 3) := by decide +kernel
theorem dX6_findQuarrel_15 : decode cX6_findQuarrel 15 = .ok (.aload_n 0, 1) := by decide +kernel
theorem dX6_findQuarrel_16 : decode cX6_findQuarrel 16 = .ok (.aload_n 1, 1) := by decide +kernel
theorem dX6_findQuarrel_17 : decode cX6_findQuarrel 17 = .ok (.invokevirtual 88, 3) := by decide +kernel
theorem dX6_findQuarrel_20 : decode cX6_findQuarrel 20 = .ok (.ifCond .ne 19, 3) := by decide +kernel
theorem dX6_findQuarrel_23 : decode cX6_findQuarrel 23 = .ok (.aload_n 0, 1) := by decide +kernel
theorem dX6_findQuarrel_24 : decode cX6_findQuarrel 24 = .ok (.aload_n 1, 1) := by decide +kernel
theorem dX6_findQuarrel_25 : decode cX6_findQuarrel 25 = .ok (.invokevirtual 91, 3) := by decide +kernel
theorem dX6_findQuarrel_28 : decode cX6_findQuarrel 28 = .ok (.ifCond .ne 11, 3) := by decide +kernel
theorem dX6_findQuarrel_31 : decode cX6_findQuarrel 31 = .ok (.aload_n 0, 1) := by decide +kernel
theorem dX6_findQuarrel_32 : decode cX6_findQuarrel 32 = .ok (.aload_n 1, 1) := by decide +kernel
theorem dX6_findQuarrel_33 : decode cX6_findQuarrel 33 = .ok (.invokevirtual 94, 3) := by decide +kernel
theorem dX6_findQuarrel_36 : decode cX6_findQuarrel 36 = .ok (.ifCond .eq 7, 3) := by decide +kernel
theorem dX6_findQuarrel_39 : decode cX6_findQuarrel 39 = .ok (.iconst 1, 1) := by decide +kernel
theorem dX6_findQuarrel_40 : decode cX6_findQuarrel 40 = .ok (.goto 4, 3) := by decide +kernel
theorem dX6_findQuarrel_43 : decode cX6_findQuarrel 43 = .ok (.iconst 0, 1) := by decide +kernel
theorem dX6_findQuarrel_44 : decode cX6_findQuarrel 44 = .ok (.istore_n 2, 1) := by decide +kernel
theorem dX6_findQuarrel_45 : decode cX6_findQuarrel 45 = .ok (.iload_n 2, 1) := by decide +kernel
theorem dX6_findQuarrel_46 : decode cX6_findQuarrel 46 = .ok (.ifCond .ne 16, 3) := by decide +kernel
theorem dX6_findQuarrel_49 : decode cX6_findQuarrel 49 = .ok (.aload_n 0, 1) := by decide +kernel
theorem dX6_findQuarrel_50 : decode cX6_findQuarrel 50 = .ok (.aload_n 1, 1) := by decide +kernel
theorem dX6_findQuarrel_51 : decode cX6_findQuarrel 51 = .ok (.invokevirtual 97, 3) := by decide +kernel
theorem dX6_findQuarrel_54 : decode cX6_findQuarrel 54 = .ok (.ifCond .eq 8, 3) := by decide +kernel
theorem dX6_findQuarrel_57 : decode cX6_findQuarrel 57 = .ok (.aload_n 0, 1) := by decide +kernel
theorem dX6_findQuarrel_58 : decode cX6_findQuarrel 58 = .ok (.iconst 4, 1) := by decide +kernel
theorem dX6_findQuarrel_59 : decode cX6_findQuarrel 59 = .ok (.putfield 43, 3) := by decide +kernel
theorem dX6_findQuarrel_62 : decode cX6_findQuarrel 62 = .ok (.return_, 1) := by decide +kernel
theorem dX6_findMissing_0 : decode cX6_findMissing 0 = .ok (.iconst 0, 1) := by decide +kernel
theorem dX6_findMissing_1 : decode cX6_findMissing 1 = .ok (.istore_n 2, 1) := by decide +kernel
theorem dX6_findMissing_2 : decode cX6_findMissing 2 = .ok (.iload_n 2, 1) := by decide +kernel
theorem dX6_findMissing_3 : decode cX6_findMissing 3 = .ok (.aload_n 1, 1) := by decide +kernel
theorem dX6_findMissing_4 : decode cX6_findMissing 4 = .ok (.getfield 54, 3) := by decide +kernel
theorem dX6_findMissing_7 : decode cX6_findMissing 7 = .ok (.if_icmp .ge 42, 3) := by decide +kernel
theorem dX6_findMissing_10 : decode cX6_findMissing 10 = .ok (.aload_n 1, 1) := by decide +kernel
theorem dX6_findMissing_11 : decode cX6_findMissing 11 = .ok (.getfield 59, 3) := by decide +kernel
theorem dX6_findMissing_14 : decode cX6_findMissing 14 = .ok (.iload_n 2, 1) := by decide +kernel
theorem dX6_findMissing_15 : decode cX6_findMissing 15 = .ok (.aaload, 1) := by decide +kernel
theorem dX6_findMissing_16 : decode cX6_findMissing 16 = .ok (.getfield 100, 3) := by decide +kernel
theorem dX6_findMissing_19 : decode cX6_findMissing 19 = .ok (.ifCond .eq 24, 3) := by decide +kernel
theorem dX6_findMissing_22 : decode cX6_findMissing 22 = .ok (.aload_n 0, 1) := by decide +kernel
theorem dX6_findMissing_23 : decode cX6_findMissing 23 = .ok (.getfield 9, 3) := by decide +kernel
theorem dX6_findMissing_26 : decode cX6_findMissing 26 = .ok (.iload_n 2, 1) := by decide +kernel
theorem dX6_findMissing_27 : decode cX6_findMissing 27 = .ok (.baload, 1) := by decide +kernel
theorem dX6_findMissing_28 : decode cX6_findMissing 28 = .ok (.ifCond .ne 15, 3) := by decide +kernel
theorem dX6_findMissing_31 : decode cX6_findMissing 31 = .ok (.aload_n 0, 1) := by decide +kernel
theorem dX6_findMissing_32 : decode cX6_findMissing 32 = .ok (.iconst 1, 1) := by decide +kernel
theorem dX6_findMissing_33 : decode cX6_findMissing 33 = .ok (.putfield 43, 3) := by decide +kernel
theorem dX6_findMissing_36 : decode cX6_findMissing 36 = .ok (.aload_n 0, 1) := by decide +kernel
theorem dX6_findMissing_37 : decode cX6_findMissing 37 = .ok (.iload_n 2, 1) := by decide +kernel
theorem dX6_findMissing_38 : decode cX6_findMissing 38 = .ok (.putfield 26, 3) := by decide +kernel
theorem dX6_findMissing_41 : decode cX6_findMissing 41 = .ok (.iconst 1, 1) := by decide +kernel
theorem dX6_findMissing_42 : decode cX6_findMissing 42 = .ok (.ireturn, 1) := by decide +kernel
theorem dX6_findMissing_43 : decode cX6_findMissing 43 = .ok (.iinc 2 1, 3) := by decide +kernel
theorem dX6_findMissing_46 : decode cX6_findMissing 46 = .ok (.goto (-44), 3) := by decide +kernel
theorem dX6_findMissing_49 : decode cX6_findMissing 49 = .ok (.iconst 0, 1) := by decide +kernel
theorem dX6_findMissing_50 : decode cX6_findMissing 50 = .ok (.ireturn, 1) := by decide +kernel
theorem dX6_findBarred_0 : decode cX6_findBarred 0 = .ok (.iconst 0, 1) := by decide +kernel
theorem dX6_findBarred_1 : decode cX6_findBarred 1 = .ok (.istore_n 2, 1) := by decide +kernel
theorem dX6_findBarred_2 : decode cX6_findBarred 2 = .ok (.iload_n 2, 1) := by decide +kernel
theorem dX6_findBarred_3 : decode cX6_findBarred 3 = .ok (.aload_n 1, 1) := by decide +kernel
theorem dX6_findBarred_4 : decode cX6_findBarred 4 = .ok (.getfield 54, 3) := by decide +kernel
theorem dX6_findBarred_7 : decode cX6_findBarred 7 = .ok (.if_icmp .ge 86, 3) := by decide +kernel
theorem dX6_findBarred_10 : decode cX6_findBarred 10 = .ok (.aload_n 1, 1) := by decide +kernel
theorem dX6_findBarred_11 : decode cX6_findBarred 11 = .ok (.getfield 59, 3) := by decide +kernel
theorem dX6_findBarred_14 : decode cX6_findBarred 14 = .ok (.iload_n 2, 1) := by decide +kernel
theorem dX6_findBarred_15 : decode cX6_findBarred 15 = .ok (.aaload, 1) := by decide +kernel
theorem dX6_findBarred_16 : decode cX6_findBarred 16 = .ok (.astore_n 3, 1) := by decide +kernel
theorem dX6_findBarred_17 : decode cX6_findBarred 17 = .ok (.iconst 0, 1) := by decide +kernel
theorem dX6_findBarred_18 : decode cX6_findBarred 18 = .ok (.istore 4, 2) := by decide +kernel
theorem dX6_findBarred_20 : decode cX6_findBarred 20 = .ok (.aload_n 0, 1) := by decide +kernel
theorem dX6_findBarred_21 : decode cX6_findBarred 21 = .ok (.getfield 9, 3) := by decide +kernel
theorem dX6_findBarred_24 : decode cX6_findBarred 24 = .ok (.iload_n 2, 1) := by decide +kernel
theorem dX6_findBarred_25 : decode cX6_findBarred 25 = .ok (.baload, 1) := by decide +kernel
theorem dX6_findBarred_26 : decode cX6_findBarred 26 = .ok (.ifCond .eq 61, 3) := by decide +kernel
theorem dX6_findBarred_29 : decode cX6_findBarred 29 = .ok (.iload 4, 2) := by decide +kernel
theorem dX6_findBarred_31 : decode cX6_findBarred 31 = .ok (.aload_n 3, 1) := by decide +kernel
theorem dX6_findBarred_32 : decode cX6_findBarred 32 = .ok (.getfield 104, 3) := by decide +kernel
theorem dX6_findBarred_35 : decode cX6_findBarred 35 = .ok (.if_icmp .ge 52, 3) := by decide +kernel
theorem dX6_findBarred_38 : decode cX6_findBarred 38 = .ok (.aload_n 3, 1) := by decide +kernel
theorem dX6_findBarred_39 : decode cX6_findBarred 39 = .ok (.getfield 107, 3) := by decide +kernel
theorem dX6_findBarred_42 : decode cX6_findBarred 42 = .ok (.iload 4, 2) := by decide +kernel
theorem dX6_findBarred_44 : decode cX6_findBarred 44 = .ok (.iaload, 1) := by decide +kernel
theorem dX6_findBarred_45 : decode cX6_findBarred 45 = .ok (.istore 5, 2) := by decide +kernel
theorem dX6_findBarred_47 : decode cX6_findBarred 47 = .ok (.iload 5, 2) := by decide +kernel
theorem dX6_findBarred_49 : decode cX6_findBarred 49 = .ok (.iload_n 2, 1) := by decide +kernel
theorem dX6_findBarred_50 : decode cX6_findBarred 50 = .ok (.if_icmp .eq 31, 3) := by decide +kernel
theorem dX6_findBarred_53 : decode cX6_findBarred 53 = .ok (.aload_n 0, 1) := by decide +kernel
theorem dX6_findBarred_54 : decode cX6_findBarred 54 = .ok (.getfield 9, 3) := by decide +kernel
theorem dX6_findBarred_57 : decode cX6_findBarred 57 = .ok (.iload 5, 2) := by decide +kernel
theorem dX6_findBarred_59 : decode cX6_findBarred 59 = .ok (.baload, 1) := by decide +kernel
theorem dX6_findBarred_60 : decode cX6_findBarred 60 = .ok (.ifCond .eq 21, 3) := by decide +kernel
theorem dX6_findBarred_63 : decode cX6_findBarred 63 = .ok (.aload_n 0, 1) := by decide +kernel
theorem dX6_findBarred_64 : decode cX6_findBarred 64 = .ok (.iconst 2, 1) := by decide +kernel
theorem dX6_findBarred_65 : decode cX6_findBarred 65 = .ok (.putfield 43, 3) := by decide +kernel
theorem dX6_findBarred_68 : decode cX6_findBarred 68 = .ok (.aload_n 0, 1) := by decide +kernel
theorem dX6_findBarred_69 : decode cX6_findBarred 69 = .ok (.iload_n 2, 1) := by decide +kernel
theorem dX6_findBarred_70 : decode cX6_findBarred 70 = .ok (.putfield 26, 3) := by decide +kernel
theorem dX6_findBarred_73 : decode cX6_findBarred 73 = .ok (.aload_n 0, 1) := by decide +kernel
theorem dX6_findBarred_74 : decode cX6_findBarred 74 = .ok (.iload 5, 2) := by decide +kernel
theorem dX6_findBarred_76 : decode cX6_findBarred 76 = .ok (.putfield 30, 3) := by decide +kernel
theorem dX6_findBarred_79 : decode cX6_findBarred 79 = .ok (.iconst 1, 1) := by decide +kernel
theorem dX6_findBarred_80 : decode cX6_findBarred 80 = .ok (.ireturn, 1) := by decide +kernel
theorem dX6_findBarred_81 : decode cX6_findBarred 81 = .ok (.iinc 4 1, 3) := by decide +kernel
theorem dX6_findBarred_84 : decode cX6_findBarred 84 = .ok (.goto (-64), 3) := by decide +kernel
theorem dX6_findBarred_87 : decode cX6_findBarred 87 = .ok (.iinc 2 1, 3) := by decide +kernel
theorem dX6_findBarred_90 : decode cX6_findBarred 90 = .ok (.goto (-88), 3) := by decide +kernel
theorem dX6_findBarred_93 : decode cX6_findBarred 93 = .ok (.iconst 0, 1) := by decide +kernel
theorem dX6_findBarred_94 : decode cX6_findBarred 94 = .ok (.ireturn, 1) := by decide +kernel
theorem dX6_findBadReference_0 : decode cX6_findBadReference 0 = .ok (.iconst 0, 1) := by decide +kernel
theorem dX6_findBadReference_1 : decode cX6_findBadReference 1 = .ok (.istore_n 2, 1) := by decide +kernel
theorem dX6_findBadReference_2 : decode cX6_findBadReference 2 = .ok (.iload_n 2, 1) := by decide +kernel
theorem dX6_findBadReference_3 : decode cX6_findBadReference 3 = .ok (.aload_n 1, 1) := by decide +kernel
theorem dX6_findBadReference_4 : decode cX6_findBadReference 4 = .ok (.getfield 54, 3) := by decide +kernel
theorem dX6_findBadReference_7 : decode cX6_findBadReference 7 = .ok (.if_icmp .ge 96, 3) := by decide +kernel
theorem dX6_findBadReference_10 : decode cX6_findBadReference 10 = .ok (.aload_n 1, 1) := by decide +kernel
theorem dX6_findBadReference_11 : decode cX6_findBadReference 11 = .ok (.getfield 59, 3) := by decide +kernel
theorem dX6_findBadReference_14 : decode cX6_findBadReference 14 = .ok (.iload_n 2, 1) := by decide +kernel
theorem dX6_findBadReference_15 : decode cX6_findBadReference 15 = .ok (.aaload, 1) := by decide +kernel
theorem dX6_findBadReference_16 : decode cX6_findBadReference 16 = .ok (.astore_n 3, 1) := by decide +kernel
theorem dX6_findBadReference_17 : decode cX6_findBadReference 17 = .ok (.iconst 0, 1) := by decide +kernel
theorem dX6_findBadReference_18 : decode cX6_findBadReference 18 = .ok (.istore 4, 2) := by decide +kernel
theorem dX6_findBadReference_20 : decode cX6_findBadReference 20 = .ok (.aload_n 0, 1) := by decide +kernel
theorem dX6_findBadReference_21 : decode cX6_findBadReference 21 = .ok (.getfield 9, 3) := by decide +kernel
theorem dX6_findBadReference_24 : decode cX6_findBadReference 24 = .ok (.iload_n 2, 1) := by decide +kernel
theorem dX6_findBadReference_25 : decode cX6_findBadReference 25 = .ok (.baload, 1) := by decide +kernel
theorem dX6_findBadReference_26 : decode cX6_findBadReference 26 = .ok (.ifCond .eq 71, 3) := by decide +kernel
theorem dX6_findBadReference_29 : decode cX6_findBadReference 29 = .ok (.iload 4, 2) := by decide +kernel
theorem dX6_findBadReference_31 : decode cX6_findBadReference 31 = .ok (.aload_n 3, 1) := by decide +kernel
theorem dX6_findBadReference_32 : decode cX6_findBadReference 32 = .ok (.getfield 110, 3) := by decide +kernel
theorem dX6_findBadReference_35 : decode cX6_findBadReference 35 = .ok (.if_icmp .ge 62, 3) := by decide +kernel
theorem dX6_findBadReference_38 : decode cX6_findBadReference 38 = .ok (.aload_n 3, 1) := by decide +kernel
theorem dX6_findBadReference_39 : decode cX6_findBadReference 39 = .ok (.getfield 113, 3) := by decide +kernel
theorem dX6_findBadReference_42 : decode cX6_findBadReference 42 = .ok (.iload 4, 2) := by decide +kernel
theorem dX6_findBadReference_44 : decode cX6_findBadReference 44 = .ok (.aaload, 1) := by decide +kernel
theorem dX6_findBadReference_45 : decode cX6_findBadReference 45 = .ok (.astore 5, 2) := by decide +kernel
theorem dX6_findBadReference_47 : decode cX6_findBadReference 47 = .ok (.aload 5, 2) := by decide +kernel
theorem dX6_findBadReference_49 : decode cX6_findBadReference 49 = .ok (.getfield 117, 3) := by decide +kernel
theorem dX6_findBadReference_52 : decode cX6_findBadReference 52 = .ok (.bipush 9, 2) := by decide +kernel
theorem dX6_findBadReference_54 : decode cX6_findBadReference 54 = .ok (.if_icmp .ne 37, 3) := by decide +kernel
theorem dX6_findBadReference_57 : decode cX6_findBadReference 57 = .ok (.aload_n 0, 1) := by decide +kernel
theorem dX6_findBadReference_58 : decode cX6_findBadReference 58 = .ok (.getfield 9, 3) := by decide +kernel
theorem dX6_findBadReference_61 : decode cX6_findBadReference 61 = .ok (.aload 5, 2) := by decide +kernel
theorem dX6_findBadReference_63 : decode cX6_findBadReference 63 = .ok (.getfield 124, 3) := by decide +kernel
theorem dX6_findBadReference_66 : decode cX6_findBadReference 66 = .ok (.baload, 1) := by decide +kernel
theorem dX6_findBadReference_67 : decode cX6_findBadReference 67 = .ok (.ifCond .ne 24, 3) := by decide +kernel
theorem dX6_findBadReference_70 : decode cX6_findBadReference 70 = .ok (.aload_n 0, 1) := by decide +kernel
theorem dX6_findBadReference_71 : decode cX6_findBadReference 71 = .ok (.iconst 3, 1) := by decide +kernel
theorem dX6_findBadReference_72 : decode cX6_findBadReference 72 = .ok (.putfield 43, 3) := by decide +kernel
theorem dX6_findBadReference_75 : decode cX6_findBadReference 75 = .ok (.aload_n 0, 1) := by decide +kernel
theorem dX6_findBadReference_76 : decode cX6_findBadReference 76 = .ok (.iload_n 2, 1) := by decide +kernel
theorem dX6_findBadReference_77 : decode cX6_findBadReference 77 = .ok (.putfield 26, 3) := by decide +kernel
theorem dX6_findBadReference_80 : decode cX6_findBadReference 80 = .ok (.aload_n 0, 1) := by decide +kernel
theorem dX6_findBadReference_81 : decode cX6_findBadReference 81 = .ok (.aload 5, 2) := by decide +kernel
theorem dX6_findBadReference_83 : decode cX6_findBadReference 83 = .ok (.getfield 124, 3) := by decide +kernel
theorem dX6_findBadReference_86 : decode cX6_findBadReference 86 = .ok (.putfield 30, 3) := by decide +kernel
theorem dX6_findBadReference_89 : decode cX6_findBadReference 89 = .ok (.iconst 1, 1) := by decide +kernel
theorem dX6_findBadReference_90 : decode cX6_findBadReference 90 = .ok (.ireturn, 1) := by decide +kernel
theorem dX6_findBadReference_91 : decode cX6_findBadReference 91 = .ok (.iinc 4 1, 3) := by decide +kernel
theorem dX6_findBadReference_94 : decode cX6_findBadReference 94 = .ok (.goto (-74), 3) := by decide +kernel
theorem dX6_findBadReference_97 : decode cX6_findBadReference 97 = .ok (.iinc 2 1, 3) := by decide +kernel
theorem dX6_findBadReference_100 : decode cX6_findBadReference 100 = .ok (.goto (-98), 3) := by decide +kernel
theorem dX6_findBadReference_103 : decode cX6_findBadReference 103 = .ok (.iconst 0, 1) := by decide +kernel
theorem dX6_findBadReference_104 : decode cX6_findBadReference 104 = .ok (.ireturn, 1) := by decide +kernel
theorem dX6_isEmpty_0 : decode cX6_isEmpty 0 = .ok (.iconst 0, 1) := by decide +kernel
theorem dX6_isEmpty_1 : decode cX6_isEmpty 1 = .ok (.istore_n 2, 1) := by decide +kernel
theorem dX6_isEmpty_2 : decode cX6_isEmpty 2 = .ok (.iload_n 2, 1) := by decide +kernel
theorem dX6_isEmpty_3 : decode cX6_isEmpty 3 = .ok (.aload_n 1, 1) := by decide +kernel
theorem dX6_isEmpty_4 : decode cX6_isEmpty 4 = .ok (.getfield 54, 3) := by decide +kernel
theorem dX6_isEmpty_7 : decode cX6_isEmpty 7 = .ok (.if_icmp .ge 20, 3) := by decide +kernel
theorem dX6_isEmpty_10 : decode cX6_isEmpty 10 = .ok (.aload_n 0, 1) := by decide +kernel
theorem dX6_isEmpty_11 : decode cX6_isEmpty 11 = .ok (.getfield 9, 3) := by decide +kernel
theorem dX6_isEmpty_14 : decode cX6_isEmpty 14 = .ok (.iload_n 2, 1) := by decide +kernel
theorem dX6_isEmpty_15 : decode cX6_isEmpty 15 = .ok (.baload, 1) := by decide +kernel
theorem dX6_isEmpty_16 : decode cX6_isEmpty 16 = .ok (.ifCond .eq 5, 3) := by decide +kernel
theorem dX6_isEmpty_19 : decode cX6_isEmpty 19 = .ok (.iconst 0, 1) := by decide +kernel
theorem dX6_isEmpty_20 : decode cX6_isEmpty 20 = .ok (.ireturn, 1) := by decide +kernel
theorem dX6_isEmpty_21 : decode cX6_isEmpty 21 = .ok (.iinc 2 1, 3) := by decide +kernel
theorem dX6_isEmpty_24 : decode cX6_isEmpty 24 = .ok (.goto (-22), 3) := by decide +kernel
theorem dX6_isEmpty_27 : decode cX6_isEmpty 27 = .ok (.iconst 1, 1) := by decide +kernel
theorem dX6_isEmpty_28 : decode cX6_isEmpty 28 = .ok (.ireturn, 1) := by decide +kernel
theorem dX6_numberParts_0 : decode cX6_numberParts 0 = .ok (.iconst 0, 1) := by decide +kernel
theorem dX6_numberParts_1 : decode cX6_numberParts 1 = .ok (.istore_n 2, 1) := by decide +kernel
theorem dX6_numberParts_2 : decode cX6_numberParts 2 = .ok (.iload_n 2, 1) := by decide +kernel
theorem dX6_numberParts_3 : decode cX6_numberParts 3 = .ok (.aload_n 1, 1) := by decide +kernel
theorem dX6_numberParts_4 : decode cX6_numberParts 4 = .ok (.getfield 54, 3) := by decide +kernel
theorem dX6_numberParts_7 : decode cX6_numberParts 7 = .ok (.if_icmp .ge 55, 3) := by decide +kernel
theorem dX6_numberParts_10 : decode cX6_numberParts 10 = .ok (.aload_n 1, 1) := by decide +kernel
theorem dX6_numberParts_11 : decode cX6_numberParts 11 = .ok (.getfield 127, 3) := by decide +kernel
theorem dX6_numberParts_14 : decode cX6_numberParts 14 = .ok (.iload_n 2, 1) := by decide +kernel
theorem dX6_numberParts_15 : decode cX6_numberParts 15 = .ok (.iaload, 1) := by decide +kernel
theorem dX6_numberParts_16 : decode cX6_numberParts 16 = .ok (.istore_n 3, 1) := by decide +kernel
theorem dX6_numberParts_17 : decode cX6_numberParts 17 = .ok (.aload_n 0, 1) := by decide +kernel
theorem dX6_numberParts_18 : decode cX6_numberParts 18 = .ok (.getfield 9, 3) := by decide +kernel
theorem dX6_numberParts_21 : decode cX6_numberParts 21 = .ok (.iload_n 3, 1) := by decide +kernel
theorem dX6_numberParts_22 : decode cX6_numberParts 22 = .ok (.baload, 1) := by decide +kernel
theorem dX6_numberParts_23 : decode cX6_numberParts 23 = .ok (.ifCond .eq 33, 3) := by decide +kernel
theorem dX6_numberParts_26 : decode cX6_numberParts 26 = .ok (.aload_n 0, 1) := by decide +kernel
theorem dX6_numberParts_27 : decode cX6_numberParts 27 = .ok (.getfield 15, 3) := by decide +kernel
theorem dX6_numberParts_30 : decode cX6_numberParts 30 = .ok (.aload_n 0, 1) := by decide +kernel
theorem dX6_numberParts_31 : decode cX6_numberParts 31 = .ok (.getfield 33, 3) := by decide +kernel
theorem dX6_numberParts_34 : decode cX6_numberParts 34 = .ok (.iload_n 3, 1) := by decide +kernel
theorem dX6_numberParts_35 : decode cX6_numberParts 35 = .ok (.iastore, 1) := by decide +kernel
theorem dX6_numberParts_36 : decode cX6_numberParts 36 = .ok (.aload_n 0, 1) := by decide +kernel
theorem dX6_numberParts_37 : decode cX6_numberParts 37 = .ok (.dup, 1) := by decide +kernel
theorem dX6_numberParts_38 : decode cX6_numberParts 38 = .ok (.getfield 33, 3) := by decide +kernel
theorem dX6_numberParts_41 : decode cX6_numberParts 41 = .ok (.iconst 1, 1) := by decide +kernel
theorem dX6_numberParts_42 : decode cX6_numberParts 42 = .ok (.iadd, 1) := by decide +kernel
theorem dX6_numberParts_43 : decode cX6_numberParts 43 = .ok (.putfield 33, 3) := by decide +kernel
theorem dX6_numberParts_46 : decode cX6_numberParts 46 = .ok (.aload_n 0, 1) := by decide +kernel
theorem dX6_numberParts_47 : decode cX6_numberParts 47 = .ok (.getfield 19, 3) := by decide +kernel
theorem dX6_numberParts_50 : decode cX6_numberParts 50 = .ok (.iload_n 3, 1) := by decide +kernel
theorem dX6_numberParts_51 : decode cX6_numberParts 51 = .ok (.aload_n 0, 1) := by decide +kernel
theorem dX6_numberParts_52 : decode cX6_numberParts 52 = .ok (.getfield 33, 3) := by decide +kernel
theorem dX6_numberParts_55 : decode cX6_numberParts 55 = .ok (.iastore, 1) := by decide +kernel
theorem dX6_numberParts_56 : decode cX6_numberParts 56 = .ok (.iinc 2 1, 3) := by decide +kernel
theorem dX6_numberParts_59 : decode cX6_numberParts 59 = .ok (.goto (-57), 3) := by decide +kernel
theorem dX6_numberParts_62 : decode cX6_numberParts 62 = .ok (.return_, 1) := by decide +kernel
theorem dX6_printParts_0 : decode cX6_printParts 0 = .ok (.iconst 0, 1) := by decide +kernel
theorem dX6_printParts_1 : decode cX6_printParts 1 = .ok (.istore 5, 2) := by decide +kernel
theorem dX6_printParts_3 : decode cX6_printParts 3 = .ok (.iload 5, 2) := by decide +kernel
theorem dX6_printParts_5 : decode cX6_printParts 5 = .ok (.aload_n 0, 1) := by decide +kernel
theorem dX6_printParts_6 : decode cX6_printParts 6 = .ok (.getfield 33, 3) := by decide +kernel
theorem dX6_printParts_9 : decode cX6_printParts 9 = .ok (.if_icmp .ge 147, 3) := by decide +kernel
theorem dX6_printParts_12 : decode cX6_printParts 12 = .ok (.aload_n 1, 1) := by decide +kernel
theorem dX6_printParts_13 : decode cX6_printParts 13 = .ok (.getfield 59, 3) := by decide +kernel
theorem dX6_printParts_16 : decode cX6_printParts 16 = .ok (.aload_n 0, 1) := by decide +kernel
theorem dX6_printParts_17 : decode cX6_printParts 17 = .ok (.getfield 15, 3) := by decide +kernel
theorem dX6_printParts_20 : decode cX6_printParts 20 = .ok (.iload 5, 2) := by decide +kernel
theorem dX6_printParts_22 : decode cX6_printParts 22 = .ok (.iaload, 1) := by decide +kernel
theorem dX6_printParts_23 : decode cX6_printParts 23 = .ok (.aaload, 1) := by decide +kernel
theorem dX6_printParts_24 : decode cX6_printParts 24 = .ok (.astore 6, 2) := by decide +kernel
theorem dX6_printParts_26 : decode cX6_printParts 26 = .ok (.aload_n 0, 1) := by decide +kernel
theorem dX6_printParts_27 : decode cX6_printParts 27 = .ok (.iload 5, 2) := by decide +kernel
theorem dX6_printParts_29 : decode cX6_printParts 29 = .ok (.iconst 1, 1) := by decide +kernel
theorem dX6_printParts_30 : decode cX6_printParts 30 = .ok (.iadd, 1) := by decide +kernel
theorem dX6_printParts_31 : decode cX6_printParts 31 = .ok (.invokevirtual 130, 3) := by decide +kernel
theorem dX6_printParts_34 : decode cX6_printParts 34 = .ok (.iconst 0, 1) := by decide +kernel
theorem dX6_printParts_35 : decode cX6_printParts 35 = .ok (.istore 7, 2) := by decide +kernel
theorem dX6_printParts_37 : decode cX6_printParts 37 = .ok (.iload 7, 2) := by decide +kernel
theorem dX6_printParts_39 : decode cX6_printParts 39 = .ok (.aload 6, 2) := by decide +kernel
theorem dX6_printParts_41 : decode cX6_printParts 41 = .ok (.getfield 110, 3) := by decide +kernel
theorem dX6_printParts_44 : decode cX6_printParts 44 = .ok (.if_icmp .ge 106, 3) := by decide +kernel
theorem dX6_printParts_47 : decode cX6_printParts 47 = .ok (.aload 6, 2) := by decide +kernel
theorem dX6_printParts_49 : decode cX6_printParts 49 = .ok (.getfield 113, 3) := by decide +kernel
theorem dX6_printParts_52 : decode cX6_printParts 52 = .ok (.iload 7, 2) := by decide +kernel
theorem dX6_printParts_54 : decode cX6_printParts 54 = .ok (.aaload, 1) := by decide +kernel
theorem dX6_printParts_55 : decode cX6_printParts 55 = .ok (.astore 8, 2) := by decide +kernel
theorem dX6_printParts_57 : decode cX6_printParts 57 = .ok (.aload 8, 2) := by decide +kernel
theorem dX6_printParts_59 : decode cX6_printParts 59 = .ok (.getfield 117, 3) := by decide +kernel
theorem dX6_printParts_62 : decode cX6_printParts 62 = .ok (.bipush 11, 2) := by decide +kernel
theorem dX6_printParts_64 : decode cX6_printParts 64 = .ok (.if_icmp .ne 15, 3) := by decide +kernel
theorem dX6_printParts_67 : decode cX6_printParts 67 = .ok (.aload_n 0, 1) := by decide +kernel
theorem dX6_printParts_68 : decode cX6_printParts 68 = .ok (.aload 8, 2) := by decide +kernel
theorem dX6_printParts_70 : decode cX6_printParts 70 = .ok (.getfield 134, 3) := by decide +kernel
theorem dX6_printParts_73 : decode cX6_printParts 73 = .ok (.invokevirtual 138, 3) := by decide +kernel
theorem dX6_printParts_76 : decode cX6_printParts 76 = .ok (.goto 68, 3) := by decide +kernel
theorem dX6_printParts_79 : decode cX6_printParts 79 = .ok (.aload 8, 2) := by decide +kernel
theorem dX6_printParts_81 : decode cX6_printParts 81 = .ok (.getfield 117, 3) := by decide +kernel
theorem dX6_printParts_84 : decode cX6_printParts 84 = .ok (.bipush 9, 2) := by decide +kernel
theorem dX6_printParts_86 : decode cX6_printParts 86 = .ok (.if_icmp .ne 20, 3) := by decide +kernel
theorem dX6_printParts_89 : decode cX6_printParts 89 = .ok (.aload_n 0, 1) := by decide +kernel
theorem dX6_printParts_90 : decode cX6_printParts 90 = .ok (.aload_n 0, 1) := by decide +kernel
theorem dX6_printParts_91 : decode cX6_printParts 91 = .ok (.getfield 19, 3) := by decide +kernel
theorem dX6_printParts_94 : decode cX6_printParts 94 = .ok (.aload 8, 2) := by decide +kernel
theorem dX6_printParts_96 : decode cX6_printParts 96 = .ok (.getfield 124, 3) := by decide +kernel
theorem dX6_printParts_99 : decode cX6_printParts 99 = .ok (.iaload, 1) := by decide +kernel
theorem dX6_printParts_100 : decode cX6_printParts 100 = .ok (.invokevirtual 130, 3) := by decide +kernel
theorem dX6_printParts_103 : decode cX6_printParts 103 = .ok (.goto 41, 3) := by decide +kernel
theorem dX6_printParts_106 : decode cX6_printParts 106 = .ok (.aload 8, 2) := by decide +kernel
theorem dX6_printParts_108 : decode cX6_printParts 108 = .ok (.getfield 142, 3) := by decide +kernel
theorem dX6_printParts_111 : decode cX6_printParts 111 = .ok (.aload_n 2, 1) := by decide +kernel
theorem dX6_printParts_112 : decode cX6_printParts 112 = .ok (.invokevirtual 69, 3) := by decide +kernel
theorem dX6_printParts_115 : decode cX6_printParts 115 = .ok (.istore 9, 2) := by decide +kernel
theorem dX6_printParts_117 : decode cX6_printParts 117 = .ok (.aload_n 0, 1) := by decide +kernel
theorem dX6_printParts_118 : decode cX6_printParts 118 = .ok (.aload 8, 2) := by decide +kernel
theorem dX6_printParts_120 : decode cX6_printParts 120 = .ok (.getfield 117, 3) := by decide +kernel
theorem dX6_printParts_123 : decode cX6_printParts 123 = .ok (.bipush 10, 2) := by decide +kernel
theorem dX6_printParts_125 : decode cX6_printParts 125 = .ok (.if_icmp .ne 14, 3) := by decide +kernel
theorem dX6_printParts_128 : decode cX6_printParts 128 = .ok (.aload 4, 2) := by decide +kernel
theorem dX6_printParts_130 : decode cX6_printParts 130 = .ok (.iload_n 3, 1) := by decide +kernel
theorem dX6_printParts_131 : decode cX6_printParts 131 = .ok (.iload 9, 2) := by decide +kernel
theorem dX6_printParts_133 : decode cX6_printParts 133 = .ok (.invokevirtual 145, 3) := by decide +kernel
theorem dX6_printParts_136 : decode cX6_printParts 136 = .ok (.goto 5, 3) := by decide +kernel
theorem dX6_printParts_139 : decode cX6_printParts 139 = .ok (.iload 9, 2) := by decide +kernel
theorem dX6_printParts_141 : decode cX6_printParts 141 = .ok (.invokevirtual 130, 3) := by decide +kernel
theorem dX6_printParts_144 : decode cX6_printParts 144 = .ok (.iinc 7 1, 3) := by decide +kernel
theorem dX6_printParts_147 : decode cX6_printParts 147 = .ok (.goto (-110), 3) := by decide +kernel
theorem dX6_printParts_150 : decode cX6_printParts 150 = .ok (.iinc 5 1, 3) := by decide +kernel
theorem dX6_printParts_153 : decode cX6_printParts 153 = .ok (.goto (-150), 3) := by decide +kernel
theorem dX6_printParts_156 : decode cX6_printParts 156 = .ok (.return_, 1) := by decide +kernel
theorem dX6_printWord_0 : decode cX6_printWord 0 = .ok (.aload_n 0, 1) := by decide +kernel
theorem dX6_printWord_1 : decode cX6_printWord 1 = .ok (.invokevirtual 151, 3) := by decide +kernel
theorem dX6_printWord_4 : decode cX6_printWord 4 = .ok (.bipush 45, 2) := by decide +kernel
theorem dX6_printWord_6 : decode cX6_printWord 6 = .ok (.istore_n 3, 1) := by decide +kernel
theorem dX6_printWord_7 : decode cX6_printWord 7 = .ok (.iload_n 3, 1) := by decide +kernel
theorem dX6_printWord_8 : decode cX6_printWord 8 = .ok (.ifCond .lt 32, 3) := by decide +kernel
theorem dX6_printWord_11 : decode cX6_printWord 11 = .ok (.lload_n 1, 1) := by decide +kernel
theorem dX6_printWord_12 : decode cX6_printWord 12 = .ok (.iload_n 3, 1) := by decide +kernel
theorem dX6_printWord_13 : decode cX6_printWord 13 = .ok (.lushr, 1) := by decide +kernel
theorem dX6_printWord_14 : decode cX6_printWord 14 = .ok (.l2i, 1) := by decide +kernel
theorem dX6_printWord_15 : decode cX6_printWord 15 = .ok (.bipush 31, 2) := by decide +kernel
theorem dX6_printWord_17 : decode cX6_printWord 17 = .ok (.iand, 1) := by decide +kernel
theorem dX6_printWord_18 : decode cX6_printWord 18 = .ok (.istore 4, 2) := by decide +kernel
theorem dX6_printWord_20 : decode cX6_printWord 20 = .ok (.iload 4, 2) := by decide +kernel
theorem dX6_printWord_22 : decode cX6_printWord 22 = .ok (.ifCond .eq 12, 3) := by decide +kernel
theorem dX6_printWord_25 : decode cX6_printWord 25 = .ok (.aload_n 0, 1) := by decide +kernel
theorem dX6_printWord_26 : decode cX6_printWord 26 = .ok (.bipush 96, 2) := by decide +kernel
theorem dX6_printWord_28 : decode cX6_printWord 28 = .ok (.iload 4, 2) := by decide +kernel
theorem dX6_printWord_30 : decode cX6_printWord 30 = .ok (.iadd, 1) := by decide +kernel
theorem dX6_printWord_31 : decode cX6_printWord 31 = .ok (.invokevirtual 154, 3) := by decide +kernel
theorem dX6_printWord_34 : decode cX6_printWord 34 = .ok (.iinc 3 (-5), 3) := by decide +kernel
theorem dX6_printWord_37 : decode cX6_printWord 37 = .ok (.goto (-30), 3) := by decide +kernel
theorem dX6_printWord_40 : decode cX6_printWord 40 = .ok (.return_, 1) := by decide +kernel
theorem dX6_printNumber_0 : decode cX6_printNumber 0 = .ok (.aload_n 0, 1) := by decide +kernel
theorem dX6_printNumber_1 : decode cX6_printNumber 1 = .ok (.invokevirtual 151, 3) := by decide +kernel
theorem dX6_printNumber_4 : decode cX6_printNumber 4 = .ok (.iload_n 1, 1) := by decide +kernel
theorem dX6_printNumber_5 : decode cX6_printNumber 5 = .ok (.ifCond .ge 9, 3) := by decide +kernel
theorem dX6_printNumber_8 : decode cX6_printNumber 8 = .ok (.aload_n 0, 1) := by decide +kernel
theorem dX6_printNumber_9 : decode cX6_printNumber 9 = .ok (.bipush 45, 2) := by decide +kernel
theorem dX6_printNumber_11 : decode cX6_printNumber 11 = .ok (.invokevirtual 154, 3) := by decide +kernel
theorem dX6_printNumber_14 : decode cX6_printNumber 14 = .ok (.iload_n 1, 1) := by decide +kernel
theorem dX6_printNumber_15 : decode cX6_printNumber 15 = .ok (.invokestatic 157, 3) := by decide +kernel
theorem dX6_printNumber_18 : decode cX6_printNumber 18 = .ok (.istore_n 2, 1) := by decide +kernel
theorem dX6_printNumber_19 : decode cX6_printNumber 19 = .ok (.iconst 1, 1) := by decide +kernel
theorem dX6_printNumber_20 : decode cX6_printNumber 20 = .ok (.istore_n 3, 1) := by decide +kernel
theorem dX6_printNumber_21 : decode cX6_printNumber 21 = .ok (.iconst 1, 1) := by decide +kernel
theorem dX6_printNumber_22 : decode cX6_printNumber 22 = .ok (.istore 4, 2) := by decide +kernel
theorem dX6_printNumber_24 : decode cX6_printNumber 24 = .ok (.iload 4, 2) := by decide +kernel
theorem dX6_printNumber_26 : decode cX6_printNumber 26 = .ok (.bipush 10, 2) := by decide +kernel
theorem dX6_printNumber_28 : decode cX6_printNumber 28 = .ok (.if_icmp .ge 22, 3) := by decide +kernel
theorem dX6_printNumber_31 : decode cX6_printNumber 31 = .ok (.iload_n 2, 1) := by decide +kernel
theorem dX6_printNumber_32 : decode cX6_printNumber 32 = .ok (.iload_n 3, 1) := by decide +kernel
theorem dX6_printNumber_33 : decode cX6_printNumber 33 = .ok (.idiv, 1) := by decide +kernel
theorem dX6_printNumber_34 : decode cX6_printNumber 34 = .ok (.bipush 10, 2) := by decide +kernel
theorem dX6_printNumber_36 : decode cX6_printNumber 36 = .ok (.if_icmp .lt 14, 3) := by decide +kernel
theorem dX6_printNumber_39 : decode cX6_printNumber 39 = .ok (.iload_n 3, 1) := by decide +kernel
theorem dX6_printNumber_40 : decode cX6_printNumber 40 = .ok (.bipush 10, 2) := by decide +kernel
theorem dX6_printNumber_42 : decode cX6_printNumber 42 = .ok (.imul, 1) := by decide +kernel
theorem dX6_printNumber_43 : decode cX6_printNumber 43 = .ok (.istore_n 3, 1) := by decide +kernel
theorem dX6_printNumber_44 : decode cX6_printNumber 44 = .ok (.iinc 4 1, 3) := by decide +kernel
theorem dX6_printNumber_47 : decode cX6_printNumber 47 = .ok (.goto (-23), 3) := by decide +kernel
theorem dX6_printNumber_50 : decode cX6_printNumber 50 = .ok (.iload_n 3, 1) := by decide +kernel
theorem dX6_printNumber_51 : decode cX6_printNumber 51 = .ok (.iconst 1, 1) := by decide +kernel
theorem dX6_printNumber_52 : decode cX6_printNumber 52 = .ok (.if_icmp .lt 24, 3) := by decide +kernel
theorem dX6_printNumber_55 : decode cX6_printNumber 55 = .ok (.aload_n 0, 1) := by decide +kernel
theorem dX6_printNumber_56 : decode cX6_printNumber 56 = .ok (.bipush 48, 2) := by decide +kernel
theorem dX6_printNumber_58 : decode cX6_printNumber 58 = .ok (.iload_n 2, 1) := by decide +kernel
theorem dX6_printNumber_59 : decode cX6_printNumber 59 = .ok (.iload_n 3, 1) := by decide +kernel
theorem dX6_printNumber_60 : decode cX6_printNumber 60 = .ok (.idiv, 1) := by decide +kernel
theorem dX6_printNumber_61 : decode cX6_printNumber 61 = .ok (.bipush 10, 2) := by decide +kernel
theorem dX6_printNumber_63 : decode cX6_printNumber 63 = .ok (.irem, 1) := by decide +kernel
theorem dX6_printNumber_64 : decode cX6_printNumber 64 = .ok (.iadd, 1) := by decide +kernel
theorem dX6_printNumber_65 : decode cX6_printNumber 65 = .ok (.invokevirtual 154, 3) := by decide +kernel
theorem dX6_printNumber_68 : decode cX6_printNumber 68 = .ok (.iload_n 3, 1) := by decide +kernel
theorem dX6_printNumber_69 : decode cX6_printNumber 69 = .ok (.bipush 10, 2) := by decide +kernel
theorem dX6_printNumber_71 : decode cX6_printNumber 71 = .ok (.idiv, 1) := by decide +kernel
theorem dX6_printNumber_72 : decode cX6_printNumber 72 = .ok (.istore_n 3, 1) := by decide +kernel
theorem dX6_printNumber_73 : decode cX6_printNumber 73 = .ok (.goto (-23), 3) := by decide +kernel
theorem dX6_printNumber_76 : decode cX6_printNumber 76 = .ok (.return_, 1) := by decide +kernel
theorem dX6_printBlankBetween_0 : decode cX6_printBlankBetween 0 = .ok (.aload_n 0, 1) := by decide +kernel
theorem dX6_printBlankBetween_1 : decode cX6_printBlankBetween 1 = .ok (.getfield 36, 3) := by decide +kernel
theorem dX6_printBlankBetween_4 : decode cX6_printBlankBetween 4 = .ok (.ifCond .le 9, 3) := by decide +kernel
theorem dX6_printBlankBetween_7 : decode cX6_printBlankBetween 7 = .ok (.aload_n 0, 1) := by decide +kernel
theorem dX6_printBlankBetween_8 : decode cX6_printBlankBetween 8 = .ok (.bipush 32, 2) := by decide +kernel
theorem dX6_printBlankBetween_10 : decode cX6_printBlankBetween 10 = .ok (.invokevirtual 154, 3) := by decide +kernel
theorem dX6_printBlankBetween_13 : decode cX6_printBlankBetween 13 = .ok (.return_, 1) := by decide +kernel
theorem dX6_printSign_0 : decode cX6_printSign 0 = .ok (.aload_n 0, 1) := by decide +kernel
theorem dX6_printSign_1 : decode cX6_printSign 1 = .ok (.getfield 36, 3) := by decide +kernel
theorem dX6_printSign_4 : decode cX6_printSign 4 = .ok (.aload_n 0, 1) := by decide +kernel
theorem dX6_printSign_5 : decode cX6_printSign 5 = .ok (.getfield 22, 3) := by decide +kernel
theorem dX6_printSign_8 : decode cX6_printSign 8 = .ok (.arraylength, 1) := by decide +kernel
theorem dX6_printSign_9 : decode cX6_printSign 9 = .ok (.if_icmp .ge 24, 3) := by decide +kernel
theorem dX6_printSign_12 : decode cX6_printSign 12 = .ok (.aload_n 0, 1) := by decide +kernel
theorem dX6_printSign_13 : decode cX6_printSign 13 = .ok (.getfield 22, 3) := by decide +kernel
theorem dX6_printSign_16 : decode cX6_printSign 16 = .ok (.aload_n 0, 1) := by decide +kernel
theorem dX6_printSign_17 : decode cX6_printSign 17 = .ok (.getfield 36, 3) := by decide +kernel
theorem dX6_printSign_20 : decode cX6_printSign 20 = .ok (.iload_n 1, 1) := by decide +kernel
theorem dX6_printSign_21 : decode cX6_printSign 21 = .ok (.i2b, 1) := by decide +kernel
theorem dX6_printSign_22 : decode cX6_printSign 22 = .ok (.bastore, 1) := by decide +kernel
theorem dX6_printSign_23 : decode cX6_printSign 23 = .ok (.aload_n 0, 1) := by decide +kernel
theorem dX6_printSign_24 : decode cX6_printSign 24 = .ok (.dup, 1) := by decide +kernel
theorem dX6_printSign_25 : decode cX6_printSign 25 = .ok (.getfield 36, 3) := by decide +kernel
theorem dX6_printSign_28 : decode cX6_printSign 28 = .ok (.iconst 1, 1) := by decide +kernel
theorem dX6_printSign_29 : decode cX6_printSign 29 = .ok (.iadd, 1) := by decide +kernel
theorem dX6_printSign_30 : decode cX6_printSign 30 = .ok (.putfield 36, 3) := by decide +kernel
theorem dX6_printSign_33 : decode cX6_printSign 33 = .ok (.return_, 1) := by decide +kernel
theorem dX7_init_0 : decode cX7_init 0 = .ok (.aload_n 0, 1) := by decide +kernel
theorem dX7_init_1 : decode cX7_init 1 = .ok (.invokespecial 3, 3) := by decide +kernel
theorem dX7_init_4 : decode cX7_init 4 = .ok (.aload_n 0, 1) := by decide +kernel
theorem dX7_init_5 : decode cX7_init 5 = .ok (.bipush 6, 2) := by decide +kernel
theorem dX7_init_7 : decode cX7_init 7 = .ok (.newarray .int, 2) := by decide +kernel
theorem dX7_init_9 : decode cX7_init 9 = .ok (.putfield 9, 3) := by decide +kernel
theorem dX7_init_12 : decode cX7_init 12 = .ok (.aload_n 0, 1) := by decide +kernel
theorem dX7_init_13 : decode cX7_init 13 = .ok (.bipush 6, 2) := by decide +kernel
theorem dX7_init_15 : decode cX7_init 15 = .ok (.newarray .int, 2) := by decide +kernel
theorem dX7_init_17 : decode cX7_init 17 = .ok (.putfield 15, 3) := by decide +kernel
theorem dX7_init_20 : decode cX7_init 20 = .ok (.aload_n 0, 1) := by decide +kernel
theorem dX7_init_21 : decode cX7_init 21 = .ok (.new 18, 3) := by decide +kernel
theorem dX7_init_24 : decode cX7_init 24 = .ok (.dup, 1) := by decide +kernel
theorem dX7_init_25 : decode cX7_init 25 = .ok (.aload_n 1, 1) := by decide +kernel
theorem dX7_init_26 : decode cX7_init 26 = .ok (.iload_n 2, 1) := by decide +kernel
theorem dX7_init_27 : decode cX7_init 27 = .ok (.invokespecial 20, 3) := by decide +kernel
theorem dX7_init_30 : decode cX7_init 30 = .ok (.putfield 23, 3) := by decide +kernel
theorem dX7_init_33 : decode cX7_init 33 = .ok (.aload_n 0, 1) := by decide +kernel
theorem dX7_init_34 : decode cX7_init 34 = .ok (.aload_n 3, 1) := by decide +kernel
theorem dX7_init_35 : decode cX7_init 35 = .ok (.putfield 27, 3) := by decide +kernel
theorem dX7_init_38 : decode cX7_init 38 = .ok (.aload_n 0, 1) := by decide +kernel
theorem dX7_init_39 : decode cX7_init 39 = .ok (.iload_n 2, 1) := by decide +kernel
theorem dX7_init_40 : decode cX7_init 40 = .ok (.bipush 7, 2) := by decide +kernel
theorem dX7_init_42 : decode cX7_init 42 = .ok (.idiv, 1) := by decide +kernel
theorem dX7_init_43 : decode cX7_init 43 = .ok (.iconst 1, 1) := by decide +kernel
theorem dX7_init_44 : decode cX7_init 44 = .ok (.iadd, 1) := by decide +kernel
theorem dX7_init_45 : decode cX7_init 45 = .ok (.newarray .long, 2) := by decide +kernel
theorem dX7_init_47 : decode cX7_init 47 = .ok (.putfield 31, 3) := by decide +kernel
theorem dX7_init_50 : decode cX7_init 50 = .ok (.aload_n 0, 1) := by decide +kernel
theorem dX7_init_51 : decode cX7_init 51 = .ok (.iload_n 2, 1) := by decide +kernel
theorem dX7_init_52 : decode cX7_init 52 = .ok (.newarray .int, 2) := by decide +kernel
theorem dX7_init_54 : decode cX7_init 54 = .ok (.putfield 35, 3) := by decide +kernel
theorem dX7_init_57 : decode cX7_init 57 = .ok (.return_, 1) := by decide +kernel
theorem dX7_fillEdition_0 : decode cX7_fillEdition 0 = .ok (.aload_n 0, 1) := by decide +kernel
theorem dX7_fillEdition_1 : decode cX7_fillEdition 1 = .ok (.getfield 23, 3) := by decide +kernel
theorem dX7_fillEdition_4 : decode cX7_fillEdition 4 = .ok (.invokevirtual 38, 3) := by decide +kernel
theorem dX7_fillEdition_7 : decode cX7_fillEdition 7 = .ok (.aload_n 0, 1) := by decide +kernel
theorem dX7_fillEdition_8 : decode cX7_fillEdition 8 = .ok (.invokevirtual 41, 3) := by decide +kernel
theorem dX7_fillEdition_11 : decode cX7_fillEdition 11 = .ok (.iconst 0, 1) := by decide +kernel
theorem dX7_fillEdition_12 : decode cX7_fillEdition 12 = .ok (.istore_n 1, 1) := by decide +kernel
theorem dX7_fillEdition_13 : decode cX7_fillEdition 13 = .ok (.iload_n 1, 1) := by decide +kernel
theorem dX7_fillEdition_14 : decode cX7_fillEdition 14 = .ok (.bipush 8, 2) := by decide +kernel
theorem dX7_fillEdition_16 : decode cX7_fillEdition 16 = .ok (.if_icmp .gt 23, 3) := by decide +kernel
theorem dX7_fillEdition_19 : decode cX7_fillEdition 19 = .ok (.aload_n 0, 1) := by decide +kernel
theorem dX7_fillEdition_20 : decode cX7_fillEdition 20 = .ok (.getfield 23, 3) := by decide +kernel
theorem dX7_fillEdition_23 : decode cX7_fillEdition 23 = .ok (.getfield 44, 3) := by decide +kernel
theorem dX7_fillEdition_26 : decode cX7_fillEdition 26 = .ok (.ifCond .ne 13, 3) := by decide +kernel
theorem dX7_fillEdition_29 : decode cX7_fillEdition 29 = .ok (.aload_n 0, 1) := by decide +kernel
theorem dX7_fillEdition_30 : decode cX7_fillEdition 30 = .ok (.invokevirtual 48, 3) := by decide +kernel
theorem dX7_fillEdition_33 : decode cX7_fillEdition 33 = .ok (.iinc 1 1, 3) := by decide +kernel
theorem dX7_fillEdition_36 : decode cX7_fillEdition 36 = .ok (.goto (-23), 3) := by decide +kernel
theorem dX7_fillEdition_39 : decode cX7_fillEdition 39 = .ok (.iconst 0, 1) := by decide +kernel
theorem dX7_fillEdition_40 : decode cX7_fillEdition 40 = .ok (.istore_n 1, 1) := by decide +kernel
theorem dX7_fillEdition_41 : decode cX7_fillEdition 41 = .ok (.iload_n 1, 1) := by decide +kernel
theorem dX7_fillEdition_42 : decode cX7_fillEdition 42 = .ok (.bipush 12, 2) := by decide +kernel
theorem dX7_fillEdition_44 : decode cX7_fillEdition 44 = .ok (.if_icmp .gt 24, 3) := by decide +kernel
theorem dX7_fillEdition_47 : decode cX7_fillEdition 47 = .ok (.aload_n 0, 1) := by decide +kernel
theorem dX7_fillEdition_48 : decode cX7_fillEdition 48 = .ok (.getfield 23, 3) := by decide +kernel
theorem dX7_fillEdition_51 : decode cX7_fillEdition 51 = .ok (.getfield 44, 3) := by decide +kernel
theorem dX7_fillEdition_54 : decode cX7_fillEdition 54 = .ok (.iconst 2, 1) := by decide +kernel
theorem dX7_fillEdition_55 : decode cX7_fillEdition 55 = .ok (.if_icmp .ne 13, 3) := by decide +kernel
theorem dX7_fillEdition_58 : decode cX7_fillEdition 58 = .ok (.aload_n 0, 1) := by decide +kernel
theorem dX7_fillEdition_59 : decode cX7_fillEdition 59 = .ok (.invokevirtual 51, 3) := by decide +kernel
theorem dX7_fillEdition_62 : decode cX7_fillEdition 62 = .ok (.iinc 1 1, 3) := by decide +kernel
theorem dX7_fillEdition_65 : decode cX7_fillEdition 65 = .ok (.goto (-24), 3) := by decide +kernel
theorem dX7_fillEdition_68 : decode cX7_fillEdition 68 = .ok (.aload_n 0, 1) := by decide +kernel
theorem dX7_fillEdition_69 : decode cX7_fillEdition 69 = .ok (.bipush 14, 2) := by decide +kernel
theorem dX7_fillEdition_71 : decode cX7_fillEdition 71 = .ok (.invokevirtual 54, 3) := by decide +kernel
theorem dX7_fillEdition_74 : decode cX7_fillEdition 74 = .ok (.goto 9, 3) := by decide +kernel
theorem dX7_fillEdition_77 : decode cX7_fillEdition 77 = .ok (.astore_n 1, 1) := by decide +kernel
theorem dX7_fillEdition_78 : decode cX7_fillEdition 78 = .ok (.aload_n 0, 1) := by decide +kernel
theorem dX7_fillEdition_79 : decode cX7_fillEdition 79 = .ok (.getfield 60, 3) := by decide +kernel
theorem dX7_fillEdition_82 : decode cX7_fillEdition 82 = .ok (.ireturn, 1) := by decide +kernel
theorem dX7_fillEdition_83 : decode cX7_fillEdition 83 = .ok (.iconst 0, 1) := by decide +kernel
theorem dX7_fillEdition_84 : decode cX7_fillEdition 84 = .ok (.ireturn, 1) := by decide +kernel
theorem dX7_fail_0 : decode cX7_fail 0 = .ok (.aload_n 0, 1) := by decide +kernel
theorem dX7_fail_1 : decode cX7_fail 1 = .ok (.iload_n 1, 1) := by decide +kernel
theorem dX7_fail_2 : decode cX7_fail 2 = .ok (.bipush 16, 2) := by decide +kernel
theorem dX7_fail_4 : decode cX7_fail 4 = .ok (.aload_n 0, 1) := by decide +kernel
theorem dX7_fail_5 : decode cX7_fail 5 = .ok (.getfield 23, 3) := by decide +kernel
theorem dX7_fail_8 : decode cX7_fail 8 = .ok (.getfield 63, 3) := by decide +kernel
theorem dX7_fail_11 : decode cX7_fail 11 = .ok (.imul, 1) := by decide +kernel
theorem dX7_fail_12 : decode cX7_fail 12 = .ok (.iadd, 1) := by decide +kernel
theorem dX7_fail_13 : decode cX7_fail 13 = .ok (.putfield 60, 3) := by decide +kernel
theorem dX7_fail_16 : decode cX7_fail 16 = .ok (.new 58, 3) := by decide +kernel
theorem dX7_fail_19 : decode cX7_fail 19 = .ok (.dup, 1) := by decide +kernel
theorem dX7_fail_20 : decode cX7_fail 20 = .ok (.ldc 66, 2) := by decide +kernel
theorem dX7_fail_22 : decode cX7_fail 22 = .ok (.invokespecial 68, 3) := by decide +kernel
theorem dX7_fail_25 : decode cX7_fail 25 = .ok (.athrow, 1) := by decide +kernel
theorem dX7_require_0 : decode cX7_require 0 = .ok (.aload_n 0, 1) := by decide +kernel
theorem dX7_require_1 : decode cX7_require 1 = .ok (.getfield 23, 3) := by decide +kernel
theorem dX7_require_4 : decode cX7_require 4 = .ok (.getfield 44, 3) := by decide +kernel
theorem dX7_require_7 : decode cX7_require 7 = .ok (.iload_n 1, 1) := by decide +kernel
theorem dX7_require_8 : decode cX7_require 8 = .ok (.if_icmp .eq 8, 3) := by decide +kernel
theorem dX7_require_11 : decode cX7_require 11 = .ok (.aload_n 0, 1) := by decide +kernel
theorem dX7_require_12 : decode cX7_require 12 = .ok (.iconst 1, 1) := by decide +kernel
theorem dX7_require_13 : decode cX7_require 13 = .ok (.invokevirtual 71, 3) := by decide +kernel
theorem dX7_require_16 : decode cX7_require 16 = .ok (.return_, 1) := by decide +kernel
theorem dX7_pass_0 : decode cX7_pass 0 = .ok (.aload_n 0, 1) := by decide +kernel
theorem dX7_pass_1 : decode cX7_pass 1 = .ok (.iload_n 1, 1) := by decide +kernel
theorem dX7_pass_2 : decode cX7_pass 2 = .ok (.invokevirtual 54, 3) := by decide +kernel
theorem dX7_pass_5 : decode cX7_pass 5 = .ok (.aload_n 0, 1) := by decide +kernel
theorem dX7_pass_6 : decode cX7_pass 6 = .ok (.getfield 23, 3) := by decide +kernel
theorem dX7_pass_9 : decode cX7_pass 9 = .ok (.invokevirtual 74, 3) := by decide +kernel
theorem dX7_pass_12 : decode cX7_pass 12 = .ok (.return_, 1) := by decide +kernel
theorem dX7_requireNumber_0 : decode cX7_requireNumber 0 = .ok (.aload_n 0, 1) := by decide +kernel
theorem dX7_requireNumber_1 : decode cX7_requireNumber 1 = .ok (.bipush 12, 2) := by decide +kernel
theorem dX7_requireNumber_3 : decode cX7_requireNumber 3 = .ok (.invokevirtual 54, 3) := by decide +kernel
theorem dX7_requireNumber_6 : decode cX7_requireNumber 6 = .ok (.aload_n 0, 1) := by decide +kernel
theorem dX7_requireNumber_7 : decode cX7_requireNumber 7 = .ok (.getfield 23, 3) := by decide +kernel
theorem dX7_requireNumber_10 : decode cX7_requireNumber 10 = .ok (.getfield 77, 3) := by decide +kernel
theorem dX7_requireNumber_13 : decode cX7_requireNumber 13 = .ok (.iload_n 1, 1) := by decide +kernel
theorem dX7_requireNumber_14 : decode cX7_requireNumber 14 = .ok (.i2l, 1) := by decide +kernel
theorem dX7_requireNumber_15 : decode cX7_requireNumber 15 = .ok (.lcmp, 1) := by decide +kernel
theorem dX7_requireNumber_16 : decode cX7_requireNumber 16 = .ok (.ifCond .lt 17, 3) := by decide +kernel
theorem dX7_requireNumber_19 : decode cX7_requireNumber 19 = .ok (.aload_n 0, 1) := by decide +kernel
theorem dX7_requireNumber_20 : decode cX7_requireNumber 20 = .ok (.getfield 23, 3) := by decide +kernel
theorem dX7_requireNumber_23 : decode cX7_requireNumber 23 = .ok (.getfield 77, 3) := by decide +kernel
theorem dX7_requireNumber_26 : decode cX7_requireNumber 26 = .ok (.ldc2_w 81, 3) := by decide +kernel
theorem dX7_requireNumber_29 : decode cX7_requireNumber 29 = .ok (.lcmp, 1) := by decide +kernel
theorem dX7_requireNumber_30 : decode cX7_requireNumber 30 = .ok (.ifCond .le 8, 3) := by decide +kernel
theorem dX7_requireNumber_33 : decode cX7_requireNumber 33 = .ok (.aload_n 0, 1) := by decide +kernel
theorem dX7_requireNumber_34 : decode cX7_requireNumber 34 = .ok (.iconst 4, 1) := by decide +kernel
theorem dX7_requireNumber_35 : decode cX7_requireNumber 35 = .ok (.invokevirtual 71, 3) := by decide +kernel
theorem dX7_requireNumber_38 : decode cX7_requireNumber 38 = .ok (.aload_n 0, 1) := by decide +kernel
theorem dX7_requireNumber_39 : decode cX7_requireNumber 39 = .ok (.getfield 23, 3) := by decide +kernel
theorem dX7_requireNumber_42 : decode cX7_requireNumber 42 = .ok (.getfield 77, 3) := by decide +kernel
theorem dX7_requireNumber_45 : decode cX7_requireNumber 45 = .ok (.l2i, 1) := by decide +kernel
theorem dX7_requireNumber_46 : decode cX7_requireNumber 46 = .ok (.ireturn, 1) := by decide +kernel
theorem dX7_findToldNames_0 : decode cX7_findToldNames 0 = .ok (.iconst 1, 1) := by decide +kernel
theorem dX7_findToldNames_1 : decode cX7_findToldNames 1 = .ok (.istore_n 1, 1) := by decide +kernel
theorem dX7_findToldNames_2 : decode cX7_findToldNames 2 = .ok (.iload_n 1, 1) := by decide +kernel
theorem dX7_findToldNames_3 : decode cX7_findToldNames 3 = .ok (.aload_n 0, 1) := by decide +kernel
theorem dX7_findToldNames_4 : decode cX7_findToldNames 4 = .ok (.getfield 23, 3) := by decide +kernel
theorem dX7_findToldNames_7 : decode cX7_findToldNames 7 = .ok (.getfield 83, 3) := by decide +kernel
theorem dX7_findToldNames_10 : decode cX7_findToldNames 10 = .ok (.if_icmp .ge 60, 3) := by decide +kernel
theorem dX7_findToldNames_13 : decode cX7_findToldNames 13 = .ok (.aload_n 0, 1) := by decide +kernel
theorem dX7_findToldNames_14 : decode cX7_findToldNames 14 = .ok (.getfield 23, 3) := by decide +kernel
theorem dX7_findToldNames_17 : decode cX7_findToldNames 17 = .ok (.iload_n 1, 1) := by decide +kernel
theorem dX7_findToldNames_18 : decode cX7_findToldNames 18 = .ok (.invokevirtual 86, 3) := by decide +kernel
theorem dX7_findToldNames_21 : decode cX7_findToldNames 21 = .ok (.ifCond .eq 43, 3) := by decide +kernel
theorem dX7_findToldNames_24 : decode cX7_findToldNames 24 = .ok (.aload_n 0, 1) := by decide +kernel
theorem dX7_findToldNames_25 : decode cX7_findToldNames 25 = .ok (.getfield 90, 3) := by decide +kernel
theorem dX7_findToldNames_28 : decode cX7_findToldNames 28 = .ok (.aload_n 0, 1) := by decide +kernel
theorem dX7_findToldNames_29 : decode cX7_findToldNames 29 = .ok (.getfield 31, 3) := by decide +kernel
theorem dX7_findToldNames_32 : decode cX7_findToldNames 32 = .ok (.arraylength, 1) := by decide +kernel
theorem dX7_findToldNames_33 : decode cX7_findToldNames 33 = .ok (.if_icmp .ge 31, 3) := by decide +kernel
theorem dX7_findToldNames_36 : decode cX7_findToldNames 36 = .ok (.aload_n 0, 1) := by decide +kernel
theorem dX7_findToldNames_37 : decode cX7_findToldNames 37 = .ok (.getfield 31, 3) := by decide +kernel
theorem dX7_findToldNames_40 : decode cX7_findToldNames 40 = .ok (.aload_n 0, 1) := by decide +kernel
theorem dX7_findToldNames_41 : decode cX7_findToldNames 41 = .ok (.getfield 90, 3) := by decide +kernel
theorem dX7_findToldNames_44 : decode cX7_findToldNames 44 = .ok (.aload_n 0, 1) := by decide +kernel
theorem dX7_findToldNames_45 : decode cX7_findToldNames 45 = .ok (.getfield 23, 3) := by decide +kernel
theorem dX7_findToldNames_48 : decode cX7_findToldNames 48 = .ok (.getfield 93, 3) := by decide +kernel
theorem dX7_findToldNames_51 : decode cX7_findToldNames 51 = .ok (.iload_n 1, 1) := by decide +kernel
theorem dX7_findToldNames_52 : decode cX7_findToldNames 52 = .ok (.laload, 1) := by decide +kernel
theorem dX7_findToldNames_53 : decode cX7_findToldNames 53 = .ok (.lastore, 1) := by decide +kernel
theorem dX7_findToldNames_54 : decode cX7_findToldNames 54 = .ok (.aload_n 0, 1) := by decide +kernel
theorem dX7_findToldNames_55 : decode cX7_findToldNames 55 = .ok (.dup, 1) := by decide +kernel
theorem dX7_findToldNames_56 : decode cX7_findToldNames 56 = .ok (.getfield 90, 3) := by decide +kernel
theorem dX7_findToldNames_59 : decode cX7_findToldNames 59 = .ok (.iconst 1, 1) := by decide +kernel
theorem dX7_findToldNames_60 : decode cX7_findToldNames 60 = .ok (.iadd, 1) := by decide +kernel
theorem dX7_findToldNames_61 : decode cX7_findToldNames 61 = .ok (.putfield 90, 3) := by decide +kernel
theorem dX7_findToldNames_64 : decode cX7_findToldNames 64 = .ok (.iinc 1 1, 3) := by decide +kernel
theorem dX7_findToldNames_67 : decode cX7_findToldNames 67 = .ok (.goto (-65), 3) := by decide +kernel
theorem dX7_findToldNames_70 : decode cX7_findToldNames 70 = .ok (.return_, 1) := by decide +kernel
theorem dX7_readFact_0 : decode cX7_readFact 0 = .ok (.aload_n 0, 1) := by decide +kernel
end
section
theorem dX7_readFact_1 : decode cX7_readFact 1 = .ok (.getfield 27, 3) := by decide +kernel
theorem dX7_readFact_4 : decode cX7_readFact 4 = .ok (.getfield 96, 3) := by decide +kernel
theorem dX7_readFact_7 : decode cX7_readFact 7 = .ok (.bipush 8, 2) := by decide +kernel
theorem dX7_readFact_9 : decode cX7_readFact 9 = .ok (.if_icmp .lt 8, 3) := by decide +kernel
theorem dX7_readFact_12 : decode cX7_readFact 12 = .ok (.aload_n 0, 1) := by decide +kernel
theorem dX7_readFact_13 : decode cX7_readFact 13 = .ok (.iconst 5, 1) := by decide +kernel
theorem dX7_readFact_14 : decode cX7_readFact 14 = .ok (.invokevirtual 71, 3) := by decide +kernel
theorem dX7_readFact_17 : decode cX7_readFact 17 = .ok (.aload_n 0, 1) := by decide +kernel
theorem dX7_readFact_18 : decode cX7_readFact 18 = .ok (.getfield 23, 3) := by decide +kernel
theorem dX7_readFact_21 : decode cX7_readFact 21 = .ok (.invokevirtual 74, 3) := by decide +kernel
theorem dX7_readFact_24 : decode cX7_readFact 24 = .ok (.aload_n 0, 1) := by decide +kernel
theorem dX7_readFact_25 : decode cX7_readFact 25 = .ok (.bipush 11, 2) := by decide +kernel
theorem dX7_readFact_27 : decode cX7_readFact 27 = .ok (.invokevirtual 54, 3) := by decide +kernel
theorem dX7_readFact_30 : decode cX7_readFact 30 = .ok (.aload_n 0, 1) := by decide +kernel
theorem dX7_readFact_31 : decode cX7_readFact 31 = .ok (.getfield 23, 3) := by decide +kernel
theorem dX7_readFact_34 : decode cX7_readFact 34 = .ok (.getfield 77, 3) := by decide +kernel
theorem dX7_readFact_37 : decode cX7_readFact 37 = .ok (.lstore_n 1, 1) := by decide +kernel
theorem dX7_readFact_38 : decode cX7_readFact 38 = .ok (.aload_n 0, 1) := by decide +kernel
theorem dX7_readFact_39 : decode cX7_readFact 39 = .ok (.getfield 27, 3) := by decide +kernel
theorem dX7_readFact_42 : decode cX7_readFact 42 = .ok (.lload_n 1, 1) := by decide +kernel
theorem dX7_readFact_43 : decode cX7_readFact 43 = .ok (.invokevirtual 101, 3) := by decide +kernel
theorem dX7_readFact_46 : decode cX7_readFact 46 = .ok (.iconst (-1), 1) := by decide +kernel
theorem dX7_readFact_47 : decode cX7_readFact 47 = .ok (.if_icmp .eq 8, 3) := by decide +kernel
theorem dX7_readFact_50 : decode cX7_readFact 50 = .ok (.aload_n 0, 1) := by decide +kernel
theorem dX7_readFact_51 : decode cX7_readFact 51 = .ok (.iconst 3, 1) := by decide +kernel
theorem dX7_readFact_52 : decode cX7_readFact 52 = .ok (.invokevirtual 71, 3) := by decide +kernel
theorem dX7_readFact_55 : decode cX7_readFact 55 = .ok (.aload_n 0, 1) := by decide +kernel
theorem dX7_readFact_56 : decode cX7_readFact 56 = .ok (.getfield 23, 3) := by decide +kernel
theorem dX7_readFact_59 : decode cX7_readFact 59 = .ok (.invokevirtual 74, 3) := by decide +kernel
theorem dX7_readFact_62 : decode cX7_readFact 62 = .ok (.aload_n 0, 1) := by decide +kernel
theorem dX7_readFact_63 : decode cX7_readFact 63 = .ok (.iconst 0, 1) := by decide +kernel
theorem dX7_readFact_64 : decode cX7_readFact 64 = .ok (.invokevirtual 105, 3) := by decide +kernel
theorem dX7_readFact_67 : decode cX7_readFact 67 = .ok (.istore_n 3, 1) := by decide +kernel
theorem dX7_readFact_68 : decode cX7_readFact 68 = .ok (.aload_n 0, 1) := by decide +kernel
theorem dX7_readFact_69 : decode cX7_readFact 69 = .ok (.getfield 23, 3) := by decide +kernel
theorem dX7_readFact_72 : decode cX7_readFact 72 = .ok (.invokevirtual 74, 3) := by decide +kernel
theorem dX7_readFact_75 : decode cX7_readFact 75 = .ok (.aload_n 0, 1) := by decide +kernel
theorem dX7_readFact_76 : decode cX7_readFact 76 = .ok (.iconst 1, 1) := by decide +kernel
theorem dX7_readFact_77 : decode cX7_readFact 77 = .ok (.invokevirtual 109, 3) := by decide +kernel
theorem dX7_readFact_80 : decode cX7_readFact 80 = .ok (.aload_n 0, 1) := by decide +kernel
theorem dX7_readFact_81 : decode cX7_readFact 81 = .ok (.iload_n 3, 1) := by decide +kernel
theorem dX7_readFact_82 : decode cX7_readFact 82 = .ok (.invokevirtual 105, 3) := by decide +kernel
theorem dX7_readFact_85 : decode cX7_readFact 85 = .ok (.istore 4, 2) := by decide +kernel
theorem dX7_readFact_87 : decode cX7_readFact 87 = .ok (.aload_n 0, 1) := by decide +kernel
theorem dX7_readFact_88 : decode cX7_readFact 88 = .ok (.getfield 27, 3) := by decide +kernel
theorem dX7_readFact_91 : decode cX7_readFact 91 = .ok (.getfield 112, 3) := by decide +kernel
theorem dX7_readFact_94 : decode cX7_readFact 94 = .ok (.iload 4, 2) := by decide +kernel
theorem dX7_readFact_96 : decode cX7_readFact 96 = .ok (.iload_n 3, 1) := by decide +kernel
theorem dX7_readFact_97 : decode cX7_readFact 97 = .ok (.isub, 1) := by decide +kernel
theorem dX7_readFact_98 : decode cX7_readFact 98 = .ok (.iconst 1, 1) := by decide +kernel
theorem dX7_readFact_99 : decode cX7_readFact 99 = .ok (.iadd, 1) := by decide +kernel
theorem dX7_readFact_100 : decode cX7_readFact 100 = .ok (.imul, 1) := by decide +kernel
theorem dX7_readFact_101 : decode cX7_readFact 101 = .ok (.sipush 2000, 3) := by decide +kernel
theorem dX7_readFact_104 : decode cX7_readFact 104 = .ok (.if_icmp .le 8, 3) := by decide +kernel
theorem dX7_readFact_107 : decode cX7_readFact 107 = .ok (.aload_n 0, 1) := by decide +kernel
theorem dX7_readFact_108 : decode cX7_readFact 108 = .ok (.iconst 5, 1) := by decide +kernel
theorem dX7_readFact_109 : decode cX7_readFact 109 = .ok (.invokevirtual 71, 3) := by decide +kernel
theorem dX7_readFact_112 : decode cX7_readFact 112 = .ok (.aload_n 0, 1) := by decide +kernel
theorem dX7_readFact_113 : decode cX7_readFact 113 = .ok (.getfield 23, 3) := by decide +kernel
theorem dX7_readFact_116 : decode cX7_readFact 116 = .ok (.invokevirtual 74, 3) := by decide +kernel
theorem dX7_readFact_119 : decode cX7_readFact 119 = .ok (.aload_n 0, 1) := by decide +kernel
theorem dX7_readFact_120 : decode cX7_readFact 120 = .ok (.bipush 59, 2) := by decide +kernel
theorem dX7_readFact_122 : decode cX7_readFact 122 = .ok (.invokevirtual 109, 3) := by decide +kernel
theorem dX7_readFact_125 : decode cX7_readFact 125 = .ok (.aload_n 0, 1) := by decide +kernel
theorem dX7_readFact_126 : decode cX7_readFact 126 = .ok (.getfield 27, 3) := by decide +kernel
theorem dX7_readFact_129 : decode cX7_readFact 129 = .ok (.lload_n 1, 1) := by decide +kernel
theorem dX7_readFact_130 : decode cX7_readFact 130 = .ok (.iload_n 3, 1) := by decide +kernel
theorem dX7_readFact_131 : decode cX7_readFact 131 = .ok (.iload 4, 2) := by decide +kernel
theorem dX7_readFact_133 : decode cX7_readFact 133 = .ok (.invokevirtual 115, 3) := by decide +kernel
theorem dX7_readFact_136 : decode cX7_readFact 136 = .ok (.return_, 1) := by decide +kernel
theorem dX7_readClause_0 : decode cX7_readClause 0 = .ok (.aload_n 0, 1) := by decide +kernel
theorem dX7_readClause_1 : decode cX7_readClause 1 = .ok (.getfield 27, 3) := by decide +kernel
theorem dX7_readClause_4 : decode cX7_readClause 4 = .ok (.getfield 119, 3) := by decide +kernel
theorem dX7_readClause_7 : decode cX7_readClause 7 = .ok (.bipush 12, 2) := by decide +kernel
theorem dX7_readClause_9 : decode cX7_readClause 9 = .ok (.if_icmp .lt 8, 3) := by decide +kernel
theorem dX7_readClause_12 : decode cX7_readClause 12 = .ok (.aload_n 0, 1) := by decide +kernel
theorem dX7_readClause_13 : decode cX7_readClause 13 = .ok (.iconst 5, 1) := by decide +kernel
theorem dX7_readClause_14 : decode cX7_readClause 14 = .ok (.invokevirtual 71, 3) := by decide +kernel
theorem dX7_readClause_17 : decode cX7_readClause 17 = .ok (.aload_n 0, 1) := by decide +kernel
theorem dX7_readClause_18 : decode cX7_readClause 18 = .ok (.getfield 23, 3) := by decide +kernel
theorem dX7_readClause_21 : decode cX7_readClause 21 = .ok (.invokevirtual 74, 3) := by decide +kernel
theorem dX7_readClause_24 : decode cX7_readClause 24 = .ok (.aload_n 0, 1) := by decide +kernel
theorem dX7_readClause_25 : decode cX7_readClause 25 = .ok (.bipush 11, 2) := by decide +kernel
theorem dX7_readClause_27 : decode cX7_readClause 27 = .ok (.invokevirtual 54, 3) := by decide +kernel
theorem dX7_readClause_30 : decode cX7_readClause 30 = .ok (.aload_n 0, 1) := by decide +kernel
theorem dX7_readClause_31 : decode cX7_readClause 31 = .ok (.getfield 23, 3) := by decide +kernel
theorem dX7_readClause_34 : decode cX7_readClause 34 = .ok (.getfield 77, 3) := by decide +kernel
theorem dX7_readClause_37 : decode cX7_readClause 37 = .ok (.lstore_n 1, 1) := by decide +kernel
theorem dX7_readClause_38 : decode cX7_readClause 38 = .ok (.aload_n 0, 1) := by decide +kernel
theorem dX7_readClause_39 : decode cX7_readClause 39 = .ok (.getfield 27, 3) := by decide +kernel
theorem dX7_readClause_42 : decode cX7_readClause 42 = .ok (.lload_n 1, 1) := by decide +kernel
theorem dX7_readClause_43 : decode cX7_readClause 43 = .ok (.invokevirtual 122, 3) := by decide +kernel
theorem dX7_readClause_46 : decode cX7_readClause 46 = .ok (.ifCond .eq 8, 3) := by decide +kernel
theorem dX7_readClause_49 : decode cX7_readClause 49 = .ok (.aload_n 0, 1) := by decide +kernel
theorem dX7_readClause_50 : decode cX7_readClause 50 = .ok (.iconst 3, 1) := by decide +kernel
theorem dX7_readClause_51 : decode cX7_readClause 51 = .ok (.invokevirtual 71, 3) := by decide +kernel
theorem dX7_readClause_54 : decode cX7_readClause 54 = .ok (.aload_n 0, 1) := by decide +kernel
theorem dX7_readClause_55 : decode cX7_readClause 55 = .ok (.getfield 23, 3) := by decide +kernel
theorem dX7_readClause_58 : decode cX7_readClause 58 = .ok (.invokevirtual 74, 3) := by decide +kernel
theorem dX7_readClause_61 : decode cX7_readClause 61 = .ok (.aload_n 0, 1) := by decide +kernel
theorem dX7_readClause_62 : decode cX7_readClause 62 = .ok (.iconst 3, 1) := by decide +kernel
theorem dX7_readClause_63 : decode cX7_readClause 63 = .ok (.invokevirtual 109, 3) := by decide +kernel
theorem dX7_readClause_66 : decode cX7_readClause 66 = .ok (.aload_n 0, 1) := by decide +kernel
theorem dX7_readClause_67 : decode cX7_readClause 67 = .ok (.iconst 0, 1) := by decide +kernel
theorem dX7_readClause_68 : decode cX7_readClause 68 = .ok (.invokevirtual 105, 3) := by decide +kernel
theorem dX7_readClause_71 : decode cX7_readClause 71 = .ok (.istore_n 3, 1) := by decide +kernel
theorem dX7_readClause_72 : decode cX7_readClause 72 = .ok (.aload_n 0, 1) := by decide +kernel
theorem dX7_readClause_73 : decode cX7_readClause 73 = .ok (.getfield 23, 3) := by decide +kernel
theorem dX7_readClause_76 : decode cX7_readClause 76 = .ok (.invokevirtual 74, 3) := by decide +kernel
theorem dX7_readClause_79 : decode cX7_readClause 79 = .ok (.aload_n 0, 1) := by decide +kernel
theorem dX7_readClause_80 : decode cX7_readClause 80 = .ok (.getfield 23, 3) := by decide +kernel
theorem dX7_readClause_83 : decode cX7_readClause 83 = .ok (.getfield 44, 3) := by decide +kernel
theorem dX7_readClause_86 : decode cX7_readClause 86 = .ok (.iconst 4, 1) := by decide +kernel
theorem dX7_readClause_87 : decode cX7_readClause 87 = .ok (.if_icmp .ne 7, 3) := by decide +kernel
theorem dX7_readClause_90 : decode cX7_readClause 90 = .ok (.iconst 1, 1) := by decide +kernel
theorem dX7_readClause_91 : decode cX7_readClause 91 = .ok (.goto 4, 3) := by decide +kernel
theorem dX7_readClause_94 : decode cX7_readClause 94 = .ok (.iconst 0, 1) := by decide +kernel
theorem dX7_readClause_95 : decode cX7_readClause 95 = .ok (.istore 4, 2) := by decide +kernel
theorem dX7_readClause_97 : decode cX7_readClause 97 = .ok (.iload 4, 2) := by decide +kernel
theorem dX7_readClause_99 : decode cX7_readClause 99 = .ok (.ifCond .eq 10, 3) := by decide +kernel
theorem dX7_readClause_102 : decode cX7_readClause 102 = .ok (.aload_n 0, 1) := by decide +kernel
theorem dX7_readClause_103 : decode cX7_readClause 103 = .ok (.getfield 23, 3) := by decide +kernel
theorem dX7_readClause_106 : decode cX7_readClause 106 = .ok (.invokevirtual 74, 3) := by decide +kernel
theorem dX7_readClause_109 : decode cX7_readClause 109 = .ok (.aload_n 0, 1) := by decide +kernel
theorem dX7_readClause_110 : decode cX7_readClause 110 = .ok (.iconst 5, 1) := by decide +kernel
theorem dX7_readClause_111 : decode cX7_readClause 111 = .ok (.invokevirtual 109, 3) := by decide +kernel
theorem dX7_readClause_114 : decode cX7_readClause 114 = .ok (.new 126, 3) := by decide +kernel
theorem dX7_readClause_117 : decode cX7_readClause 117 = .ok (.dup, 1) := by decide +kernel
theorem dX7_readClause_118 : decode cX7_readClause 118 = .ok (.lload_n 1, 1) := by decide +kernel
theorem dX7_readClause_119 : decode cX7_readClause 119 = .ok (.iload_n 3, 1) := by decide +kernel
theorem dX7_readClause_120 : decode cX7_readClause 120 = .ok (.iload 4, 2) := by decide +kernel
theorem dX7_readClause_122 : decode cX7_readClause 122 = .ok (.aload_n 0, 1) := by decide +kernel
theorem dX7_readClause_123 : decode cX7_readClause 123 = .ok (.invokevirtual 128, 3) := by decide +kernel
theorem dX7_readClause_126 : decode cX7_readClause 126 = .ok (.invokespecial 132, 3) := by decide +kernel
theorem dX7_readClause_129 : decode cX7_readClause 129 = .ok (.astore 5, 2) := by decide +kernel
theorem dX7_readClause_131 : decode cX7_readClause 131 = .ok (.aload_n 0, 1) := by decide +kernel
theorem dX7_readClause_132 : decode cX7_readClause 132 = .ok (.bipush 59, 2) := by decide +kernel
theorem dX7_readClause_134 : decode cX7_readClause 134 = .ok (.invokevirtual 109, 3) := by decide +kernel
theorem dX7_readClause_137 : decode cX7_readClause 137 = .ok (.aload_n 0, 1) := by decide +kernel
theorem dX7_readClause_138 : decode cX7_readClause 138 = .ok (.aload 5, 2) := by decide +kernel
theorem dX7_readClause_140 : decode cX7_readClause 140 = .ok (.invokevirtual 135, 3) := by decide +kernel
theorem dX7_readClause_143 : decode cX7_readClause 143 = .ok (.aload_n 0, 1) := by decide +kernel
theorem dX7_readClause_144 : decode cX7_readClause 144 = .ok (.bipush 8, 2) := by decide +kernel
theorem dX7_readClause_146 : decode cX7_readClause 146 = .ok (.invokevirtual 109, 3) := by decide +kernel
theorem dX7_readClause_149 : decode cX7_readClause 149 = .ok (.aload_n 0, 1) := by decide +kernel
theorem dX7_readClause_150 : decode cX7_readClause 150 = .ok (.aload 5, 2) := by decide +kernel
theorem dX7_readClause_152 : decode cX7_readClause 152 = .ok (.invokevirtual 139, 3) := by decide +kernel
theorem dX7_readClause_155 : decode cX7_readClause 155 = .ok (.aload_n 0, 1) := by decide +kernel
theorem dX7_readClause_156 : decode cX7_readClause 156 = .ok (.bipush 59, 2) := by decide +kernel
theorem dX7_readClause_158 : decode cX7_readClause 158 = .ok (.invokevirtual 109, 3) := by decide +kernel
theorem dX7_readClause_161 : decode cX7_readClause 161 = .ok (.aload_n 0, 1) := by decide +kernel
theorem dX7_readClause_162 : decode cX7_readClause 162 = .ok (.getfield 27, 3) := by decide +kernel
theorem dX7_readClause_165 : decode cX7_readClause 165 = .ok (.aload 5, 2) := by decide +kernel
theorem dX7_readClause_167 : decode cX7_readClause 167 = .ok (.invokevirtual 142, 3) := by decide +kernel
theorem dX7_readClause_170 : decode cX7_readClause 170 = .ok (.return_, 1) := by decide +kernel
theorem dX7_readLinks_0 : decode cX7_readLinks 0 = .ok (.iconst 0, 1) := by decide +kernel
theorem dX7_readLinks_1 : decode cX7_readLinks 1 = .ok (.istore_n 2, 1) := by decide +kernel
theorem dX7_readLinks_2 : decode cX7_readLinks 2 = .ok (.iload_n 2, 1) := by decide +kernel
theorem dX7_readLinks_3 : decode cX7_readLinks 3 = .ok (.bipush 8, 2) := by decide +kernel
theorem dX7_readLinks_5 : decode cX7_readLinks 5 = .ok (.if_icmp .gt 30, 3) := by decide +kernel
theorem dX7_readLinks_8 : decode cX7_readLinks 8 = .ok (.aload_n 0, 1) := by decide +kernel
theorem dX7_readLinks_9 : decode cX7_readLinks 9 = .ok (.getfield 23, 3) := by decide +kernel
theorem dX7_readLinks_12 : decode cX7_readLinks 12 = .ok (.getfield 44, 3) := by decide +kernel
theorem dX7_readLinks_15 : decode cX7_readLinks 15 = .ok (.bipush 6, 2) := by decide +kernel
theorem dX7_readLinks_17 : decode cX7_readLinks 17 = .ok (.if_icmp .ne 18, 3) := by decide +kernel
theorem dX7_readLinks_20 : decode cX7_readLinks 20 = .ok (.aload_n 1, 1) := by decide +kernel
theorem dX7_readLinks_21 : decode cX7_readLinks 21 = .ok (.aload_n 0, 1) := by decide +kernel
theorem dX7_readLinks_22 : decode cX7_readLinks 22 = .ok (.aload_n 1, 1) := by decide +kernel
theorem dX7_readLinks_23 : decode cX7_readLinks 23 = .ok (.invokevirtual 145, 3) := by decide +kernel
theorem dX7_readLinks_26 : decode cX7_readLinks 26 = .ok (.invokevirtual 149, 3) := by decide +kernel
theorem dX7_readLinks_29 : decode cX7_readLinks 29 = .ok (.iinc 2 1, 3) := by decide +kernel
theorem dX7_readLinks_32 : decode cX7_readLinks 32 = .ok (.goto (-30), 3) := by decide +kernel
theorem dX7_readLinks_35 : decode cX7_readLinks 35 = .ok (.iconst 0, 1) := by decide +kernel
theorem dX7_readLinks_36 : decode cX7_readLinks 36 = .ok (.istore_n 2, 1) := by decide +kernel
theorem dX7_readLinks_37 : decode cX7_readLinks 37 = .ok (.iload_n 2, 1) := by decide +kernel
theorem dX7_readLinks_38 : decode cX7_readLinks 38 = .ok (.bipush 8, 2) := by decide +kernel
theorem dX7_readLinks_40 : decode cX7_readLinks 40 = .ok (.if_icmp .gt 30, 3) := by decide +kernel
theorem dX7_readLinks_43 : decode cX7_readLinks 43 = .ok (.aload_n 0, 1) := by decide +kernel
theorem dX7_readLinks_44 : decode cX7_readLinks 44 = .ok (.getfield 23, 3) := by decide +kernel
theorem dX7_readLinks_47 : decode cX7_readLinks 47 = .ok (.getfield 44, 3) := by decide +kernel
theorem dX7_readLinks_50 : decode cX7_readLinks 50 = .ok (.bipush 7, 2) := by decide +kernel
theorem dX7_readLinks_52 : decode cX7_readLinks 52 = .ok (.if_icmp .ne 18, 3) := by decide +kernel
theorem dX7_readLinks_55 : decode cX7_readLinks 55 = .ok (.aload_n 1, 1) := by decide +kernel
theorem dX7_readLinks_56 : decode cX7_readLinks 56 = .ok (.aload_n 0, 1) := by decide +kernel
theorem dX7_readLinks_57 : decode cX7_readLinks 57 = .ok (.aload_n 1, 1) := by decide +kernel
theorem dX7_readLinks_58 : decode cX7_readLinks 58 = .ok (.invokevirtual 145, 3) := by decide +kernel
theorem dX7_readLinks_61 : decode cX7_readLinks 61 = .ok (.invokevirtual 152, 3) := by decide +kernel
theorem dX7_readLinks_64 : decode cX7_readLinks 64 = .ok (.iinc 2 1, 3) := by decide +kernel
theorem dX7_readLinks_67 : decode cX7_readLinks 67 = .ok (.goto (-30), 3) := by decide +kernel
theorem dX7_readLinks_70 : decode cX7_readLinks 70 = .ok (.return_, 1) := by decide +kernel
theorem dX7_readLink_0 : decode cX7_readLink 0 = .ok (.aload_n 1, 1) := by decide +kernel
theorem dX7_readLink_1 : decode cX7_readLink 1 = .ok (.invokevirtual 155, 3) := by decide +kernel
theorem dX7_readLink_4 : decode cX7_readLink 4 = .ok (.ifCond .eq 8, 3) := by decide +kernel
theorem dX7_readLink_7 : decode cX7_readLink 7 = .ok (.aload_n 0, 1) := by decide +kernel
theorem dX7_readLink_8 : decode cX7_readLink 8 = .ok (.iconst 5, 1) := by decide +kernel
theorem dX7_readLink_9 : decode cX7_readLink 9 = .ok (.invokevirtual 71, 3) := by decide +kernel
theorem dX7_readLink_12 : decode cX7_readLink 12 = .ok (.aload_n 0, 1) := by decide +kernel
theorem dX7_readLink_13 : decode cX7_readLink 13 = .ok (.getfield 23, 3) := by decide +kernel
theorem dX7_readLink_16 : decode cX7_readLink 16 = .ok (.invokevirtual 74, 3) := by decide +kernel
theorem dX7_readLink_19 : decode cX7_readLink 19 = .ok (.aload_n 0, 1) := by decide +kernel
theorem dX7_readLink_20 : decode cX7_readLink 20 = .ok (.invokevirtual 159, 3) := by decide +kernel
theorem dX7_readLink_23 : decode cX7_readLink 23 = .ok (.istore_n 2, 1) := by decide +kernel
theorem dX7_readLink_24 : decode cX7_readLink 24 = .ok (.aload_n 0, 1) := by decide +kernel
theorem dX7_readLink_25 : decode cX7_readLink 25 = .ok (.bipush 59, 2) := by decide +kernel
theorem dX7_readLink_27 : decode cX7_readLink 27 = .ok (.invokevirtual 109, 3) := by decide +kernel
theorem dX7_readLink_30 : decode cX7_readLink 30 = .ok (.iload_n 2, 1) := by decide +kernel
theorem dX7_readLink_31 : decode cX7_readLink 31 = .ok (.ireturn, 1) := by decide +kernel
theorem dX7_readTarget_0 : decode cX7_readTarget 0 = .ok (.aload_n 0, 1) := by decide +kernel
theorem dX7_readTarget_1 : decode cX7_readTarget 1 = .ok (.bipush 11, 2) := by decide +kernel
theorem dX7_readTarget_3 : decode cX7_readTarget 3 = .ok (.invokevirtual 54, 3) := by decide +kernel
theorem dX7_readTarget_6 : decode cX7_readTarget 6 = .ok (.iconst 0, 1) := by decide +kernel
theorem dX7_readTarget_7 : decode cX7_readTarget 7 = .ok (.istore_n 1, 1) := by decide +kernel
theorem dX7_readTarget_8 : decode cX7_readTarget 8 = .ok (.iload_n 1, 1) := by decide +kernel
theorem dX7_readTarget_9 : decode cX7_readTarget 9 = .ok (.aload_n 0, 1) := by decide +kernel
theorem dX7_readTarget_10 : decode cX7_readTarget 10 = .ok (.getfield 90, 3) := by decide +kernel
theorem dX7_readTarget_13 : decode cX7_readTarget 13 = .ok (.if_icmp .ge 35, 3) := by decide +kernel
theorem dX7_readTarget_16 : decode cX7_readTarget 16 = .ok (.aload_n 0, 1) := by decide +kernel
theorem dX7_readTarget_17 : decode cX7_readTarget 17 = .ok (.getfield 31, 3) := by decide +kernel
theorem dX7_readTarget_20 : decode cX7_readTarget 20 = .ok (.iload_n 1, 1) := by decide +kernel
theorem dX7_readTarget_21 : decode cX7_readTarget 21 = .ok (.laload, 1) := by decide +kernel
theorem dX7_readTarget_22 : decode cX7_readTarget 22 = .ok (.aload_n 0, 1) := by decide +kernel
theorem dX7_readTarget_23 : decode cX7_readTarget 23 = .ok (.getfield 23, 3) := by decide +kernel
theorem dX7_readTarget_26 : decode cX7_readTarget 26 = .ok (.getfield 77, 3) := by decide +kernel
theorem dX7_readTarget_29 : decode cX7_readTarget 29 = .ok (.lcmp, 1) := by decide +kernel
theorem dX7_readTarget_30 : decode cX7_readTarget 30 = .ok (.ifCond .ne 12, 3) := by decide +kernel
theorem dX7_readTarget_33 : decode cX7_readTarget 33 = .ok (.aload_n 0, 1) := by decide +kernel
theorem dX7_readTarget_34 : decode cX7_readTarget 34 = .ok (.getfield 23, 3) := by decide +kernel
theorem dX7_readTarget_37 : decode cX7_readTarget 37 = .ok (.invokevirtual 74, 3) := by decide +kernel
theorem dX7_readTarget_40 : decode cX7_readTarget 40 = .ok (.iload_n 1, 1) := by decide +kernel
theorem dX7_readTarget_41 : decode cX7_readTarget 41 = .ok (.ireturn, 1) := by decide +kernel
theorem dX7_readTarget_42 : decode cX7_readTarget 42 = .ok (.iinc 1 1, 3) := by decide +kernel
theorem dX7_readTarget_45 : decode cX7_readTarget 45 = .ok (.goto (-37), 3) := by decide +kernel
theorem dX7_readTarget_48 : decode cX7_readTarget 48 = .ok (.aload_n 0, 1) := by decide +kernel
theorem dX7_readTarget_49 : decode cX7_readTarget 49 = .ok (.iconst 2, 1) := by decide +kernel
theorem dX7_readTarget_50 : decode cX7_readTarget 50 = .ok (.invokevirtual 71, 3) := by decide +kernel
theorem dX7_readTarget_53 : decode cX7_readTarget 53 = .ok (.iconst (-1), 1) := by decide +kernel
theorem dX7_readTarget_54 : decode cX7_readTarget 54 = .ok (.ireturn, 1) := by decide +kernel
theorem dX7_readItems_0 : decode cX7_readItems 0 = .ok (.iconst 0, 1) := by decide +kernel
theorem dX7_readItems_1 : decode cX7_readItems 1 = .ok (.istore_n 2, 1) := by decide +kernel
theorem dX7_readItems_2 : decode cX7_readItems 2 = .ok (.iload_n 2, 1) := by decide +kernel
theorem dX7_readItems_3 : decode cX7_readItems 3 = .ok (.bipush 20, 2) := by decide +kernel
theorem dX7_readItems_5 : decode cX7_readItems 5 = .ok (.if_icmp .gt 36, 3) := by decide +kernel
theorem dX7_readItems_8 : decode cX7_readItems 8 = .ok (.aload_n 0, 1) := by decide +kernel
theorem dX7_readItems_9 : decode cX7_readItems 9 = .ok (.invokevirtual 163, 3) := by decide +kernel
theorem dX7_readItems_12 : decode cX7_readItems 12 = .ok (.ifCond .eq 29, 3) := by decide +kernel
theorem dX7_readItems_15 : decode cX7_readItems 15 = .ok (.aload_n 1, 1) := by decide +kernel
theorem dX7_readItems_16 : decode cX7_readItems 16 = .ok (.invokevirtual 166, 3) := by decide +kernel
theorem dX7_readItems_19 : decode cX7_readItems 19 = .ok (.ifCond .eq 8, 3) := by decide +kernel
theorem dX7_readItems_22 : decode cX7_readItems 22 = .ok (.aload_n 0, 1) := by decide +kernel
theorem dX7_readItems_23 : decode cX7_readItems 23 = .ok (.iconst 5, 1) := by decide +kernel
theorem dX7_readItems_24 : decode cX7_readItems 24 = .ok (.invokevirtual 71, 3) := by decide +kernel
theorem dX7_readItems_27 : decode cX7_readItems 27 = .ok (.aload_n 1, 1) := by decide +kernel
theorem dX7_readItems_28 : decode cX7_readItems 28 = .ok (.aload_n 0, 1) := by decide +kernel
theorem dX7_readItems_29 : decode cX7_readItems 29 = .ok (.invokevirtual 169, 3) := by decide +kernel
theorem dX7_readItems_32 : decode cX7_readItems 32 = .ok (.invokevirtual 173, 3) := by decide +kernel
theorem dX7_readItems_35 : decode cX7_readItems 35 = .ok (.iinc 2 1, 3) := by decide +kernel
theorem dX7_readItems_38 : decode cX7_readItems 38 = .ok (.goto (-36), 3) := by decide +kernel
theorem dX7_readItems_41 : decode cX7_readItems 41 = .ok (.return_, 1) := by decide +kernel
theorem dX7_startsItem_0 : decode cX7_startsItem 0 = .ok (.aload_n 0, 1) := by decide +kernel
theorem dX7_startsItem_1 : decode cX7_startsItem 1 = .ok (.getfield 23, 3) := by decide +kernel
theorem dX7_startsItem_4 : decode cX7_startsItem 4 = .ok (.getfield 44, 3) := by decide +kernel
theorem dX7_startsItem_7 : decode cX7_startsItem 7 = .ok (.bipush 11, 2) := by decide +kernel
theorem dX7_startsItem_9 : decode cX7_startsItem 9 = .ok (.if_icmp .eq 39, 3) := by decide +kernel
theorem dX7_startsItem_12 : decode cX7_startsItem 12 = .ok (.aload_n 0, 1) := by decide +kernel
theorem dX7_startsItem_13 : decode cX7_startsItem 13 = .ok (.getfield 23, 3) := by decide +kernel
theorem dX7_startsItem_16 : decode cX7_startsItem 16 = .ok (.getfield 44, 3) := by decide +kernel
theorem dX7_startsItem_19 : decode cX7_startsItem 19 = .ok (.bipush 61, 2) := by decide +kernel
theorem dX7_startsItem_21 : decode cX7_startsItem 21 = .ok (.if_icmp .eq 27, 3) := by decide +kernel
theorem dX7_startsItem_24 : decode cX7_startsItem 24 = .ok (.aload_n 0, 1) := by decide +kernel
theorem dX7_startsItem_25 : decode cX7_startsItem 25 = .ok (.getfield 23, 3) := by decide +kernel
theorem dX7_startsItem_28 : decode cX7_startsItem 28 = .ok (.getfield 44, 3) := by decide +kernel
theorem dX7_startsItem_31 : decode cX7_startsItem 31 = .ok (.bipush 9, 2) := by decide +kernel
theorem dX7_startsItem_33 : decode cX7_startsItem 33 = .ok (.if_icmp .eq 15, 3) := by decide +kernel
theorem dX7_startsItem_36 : decode cX7_startsItem 36 = .ok (.aload_n 0, 1) := by decide +kernel
theorem dX7_startsItem_37 : decode cX7_startsItem 37 = .ok (.getfield 23, 3) := by decide +kernel
theorem dX7_startsItem_40 : decode cX7_startsItem 40 = .ok (.getfield 44, 3) := by decide +kernel
theorem dX7_startsItem_43 : decode cX7_startsItem 43 = .ok (.bipush 10, 2) := by decide +kernel
theorem dX7_startsItem_45 : decode cX7_startsItem 45 = .ok (.if_icmp .ne 7, 3) := by decide +kernel
theorem dX7_startsItem_48 : decode cX7_startsItem 48 = .ok (.iconst 1, 1) := by decide +kernel
theorem dX7_startsItem_49 : decode cX7_startsItem 49 = .ok (.goto 4, 3) := by decide +kernel
theorem dX7_startsItem_52 : decode cX7_startsItem 52 = .ok (.iconst 0, 1) := by decide +kernel
theorem dX7_startsItem_53 : decode cX7_startsItem 53 = .ok (.ireturn, 1) := by decide +kernel
theorem dX7_readItem_0 : decode cX7_readItem 0 = .ok (.aload_n 0, 1) := by decide +kernel
theorem dX7_readItem_1 : decode cX7_readItem 1 = .ok (.getfield 23, 3) := by decide +kernel
theorem dX7_readItem_4 : decode cX7_readItem 4 = .ok (.getfield 44, 3) := by decide +kernel
theorem dX7_readItem_7 : decode cX7_readItem 7 = .ok (.istore_n 1, 1) := by decide +kernel
theorem dX7_readItem_8 : decode cX7_readItem 8 = .ok (.aload_n 0, 1) := by decide +kernel
theorem dX7_readItem_9 : decode cX7_readItem 9 = .ok (.getfield 23, 3) := by decide +kernel
theorem dX7_readItem_12 : decode cX7_readItem 12 = .ok (.getfield 77, 3) := by decide +kernel
theorem dX7_readItem_15 : decode cX7_readItem 15 = .ok (.lstore_n 2, 1) := by decide +kernel
theorem dX7_readItem_16 : decode cX7_readItem 16 = .ok (.aload_n 0, 1) := by decide +kernel
theorem dX7_readItem_17 : decode cX7_readItem 17 = .ok (.getfield 23, 3) := by decide +kernel
theorem dX7_readItem_20 : decode cX7_readItem 20 = .ok (.invokevirtual 74, 3) := by decide +kernel
theorem dX7_readItem_23 : decode cX7_readItem 23 = .ok (.iload_n 1, 1) := by decide +kernel
theorem dX7_readItem_24 : decode cX7_readItem 24 = .ok (.bipush 11, 2) := by decide +kernel
theorem dX7_readItem_26 : decode cX7_readItem 26 = .ok (.if_icmp .ne 15, 3) := by decide +kernel
theorem dX7_readItem_29 : decode cX7_readItem 29 = .ok (.new 177, 3) := by decide +kernel
theorem dX7_readItem_32 : decode cX7_readItem 32 = .ok (.dup, 1) := by decide +kernel
theorem dX7_readItem_33 : decode cX7_readItem 33 = .ok (.iload_n 1, 1) := by decide +kernel
theorem dX7_readItem_34 : decode cX7_readItem 34 = .ok (.lload_n 2, 1) := by decide +kernel
theorem dX7_readItem_35 : decode cX7_readItem 35 = .ok (.iconst (-1), 1) := by decide +kernel
theorem dX7_readItem_36 : decode cX7_readItem 36 = .ok (.aconst_null, 1) := by decide +kernel
theorem dX7_readItem_37 : decode cX7_readItem 37 = .ok (.invokespecial 179, 3) := by decide +kernel
theorem dX7_readItem_40 : decode cX7_readItem 40 = .ok (.areturn, 1) := by decide +kernel
theorem dX7_readItem_41 : decode cX7_readItem 41 = .ok (.iload_n 1, 1) := by decide +kernel
theorem dX7_readItem_42 : decode cX7_readItem 42 = .ok (.bipush 9, 2) := by decide +kernel
theorem dX7_readItem_44 : decode cX7_readItem 44 = .ok (.if_icmp .ne 18, 3) := by decide +kernel
theorem dX7_readItem_47 : decode cX7_readItem 47 = .ok (.new 177, 3) := by decide +kernel
theorem dX7_readItem_50 : decode cX7_readItem 50 = .ok (.dup, 1) := by decide +kernel
theorem dX7_readItem_51 : decode cX7_readItem 51 = .ok (.iload_n 1, 1) := by decide +kernel
theorem dX7_readItem_52 : decode cX7_readItem 52 = .ok (.lload_n 2, 1) := by decide +kernel
theorem dX7_readItem_53 : decode cX7_readItem 53 = .ok (.aload_n 0, 1) := by decide +kernel
theorem dX7_readItem_54 : decode cX7_readItem 54 = .ok (.invokevirtual 159, 3) := by decide +kernel
theorem dX7_readItem_57 : decode cX7_readItem 57 = .ok (.aconst_null, 1) := by decide +kernel
theorem dX7_readItem_58 : decode cX7_readItem 58 = .ok (.invokespecial 179, 3) := by decide +kernel
theorem dX7_readItem_61 : decode cX7_readItem 61 = .ok (.areturn, 1) := by decide +kernel
theorem dX7_readItem_62 : decode cX7_readItem 62 = .ok (.new 177, 3) := by decide +kernel
theorem dX7_readItem_65 : decode cX7_readItem 65 = .ok (.dup, 1) := by decide +kernel
theorem dX7_readItem_66 : decode cX7_readItem 66 = .ok (.iload_n 1, 1) := by decide +kernel
theorem dX7_readItem_67 : decode cX7_readItem 67 = .ok (.lload_n 2, 1) := by decide +kernel
theorem dX7_readItem_68 : decode cX7_readItem 68 = .ok (.iconst (-1), 1) := by decide +kernel
theorem dX7_readItem_69 : decode cX7_readItem 69 = .ok (.aload_n 0, 1) := by decide +kernel
theorem dX7_readItem_70 : decode cX7_readItem 70 = .ok (.invokevirtual 128, 3) := by decide +kernel
theorem dX7_readItem_73 : decode cX7_readItem 73 = .ok (.invokespecial 179, 3) := by decide +kernel
theorem dX7_readItem_76 : decode cX7_readItem 76 = .ok (.areturn, 1) := by decide +kernel
theorem dX7_readFormula_0 : decode cX7_readFormula 0 = .ok (.aload_n 0, 1) := by decide +kernel
theorem dX7_readFormula_1 : decode cX7_readFormula 1 = .ok (.iconst 0, 1) := by decide +kernel
theorem dX7_readFormula_2 : decode cX7_readFormula 2 = .ok (.putfield 182, 3) := by decide +kernel
theorem dX7_readFormula_5 : decode cX7_readFormula 5 = .ok (.aload_n 0, 1) := by decide +kernel
theorem dX7_readFormula_6 : decode cX7_readFormula 6 = .ok (.iconst 0, 1) := by decide +kernel
theorem dX7_readFormula_7 : decode cX7_readFormula 7 = .ok (.invokevirtual 185, 3) := by decide +kernel
theorem dX7_readFormula_10 : decode cX7_readFormula 10 = .ok (.iconst 0, 1) := by decide +kernel
theorem dX7_readFormula_11 : decode cX7_readFormula 11 = .ok (.istore_n 1, 1) := by decide +kernel
theorem dX7_readFormula_12 : decode cX7_readFormula 12 = .ok (.iconst 1, 1) := by decide +kernel
theorem dX7_readFormula_13 : decode cX7_readFormula 13 = .ok (.istore_n 2, 1) := by decide +kernel
theorem dX7_readFormula_14 : decode cX7_readFormula 14 = .ok (.iconst 0, 1) := by decide +kernel
theorem dX7_readFormula_15 : decode cX7_readFormula 15 = .ok (.istore_n 3, 1) := by decide +kernel
theorem dX7_readFormula_16 : decode cX7_readFormula 16 = .ok (.iload_n 3, 1) := by decide +kernel
theorem dX7_readFormula_17 : decode cX7_readFormula 17 = .ok (.aload_n 0, 1) := by decide +kernel
theorem dX7_readFormula_18 : decode cX7_readFormula 18 = .ok (.getfield 23, 3) := by decide +kernel
theorem dX7_readFormula_21 : decode cX7_readFormula 21 = .ok (.getfield 83, 3) := by decide +kernel
theorem dX7_readFormula_24 : decode cX7_readFormula 24 = .ok (.if_icmp .ge 36, 3) := by decide +kernel
theorem dX7_readFormula_27 : decode cX7_readFormula 27 = .ok (.iload_n 2, 1) := by decide +kernel
theorem dX7_readFormula_28 : decode cX7_readFormula 28 = .ok (.ifCond .eq 32, 3) := by decide +kernel
theorem dX7_readFormula_31 : decode cX7_readFormula 31 = .ok (.aload_n 0, 1) := by decide +kernel
theorem dX7_readFormula_32 : decode cX7_readFormula 32 = .ok (.iload_n 1, 1) := by decide +kernel
theorem dX7_readFormula_33 : decode cX7_readFormula 33 = .ok (.invokevirtual 188, 3) := by decide +kernel
theorem dX7_readFormula_36 : decode cX7_readFormula 36 = .ok (.istore_n 1, 1) := by decide +kernel
theorem dX7_readFormula_37 : decode cX7_readFormula 37 = .ok (.aload_n 0, 1) := by decide +kernel
theorem dX7_readFormula_38 : decode cX7_readFormula 38 = .ok (.iload_n 1, 1) := by decide +kernel
theorem dX7_readFormula_39 : decode cX7_readFormula 39 = .ok (.invokevirtual 191, 3) := by decide +kernel
theorem dX7_readFormula_42 : decode cX7_readFormula 42 = .ok (.aload_n 0, 1) := by decide +kernel
theorem dX7_readFormula_43 : decode cX7_readFormula 43 = .ok (.iload_n 1, 1) := by decide +kernel
theorem dX7_readFormula_44 : decode cX7_readFormula 44 = .ok (.invokevirtual 194, 3) := by decide +kernel
theorem dX7_readFormula_47 : decode cX7_readFormula 47 = .ok (.istore_n 1, 1) := by decide +kernel
theorem dX7_readFormula_48 : decode cX7_readFormula 48 = .ok (.aload_n 0, 1) := by decide +kernel
theorem dX7_readFormula_49 : decode cX7_readFormula 49 = .ok (.iload_n 1, 1) := by decide +kernel
theorem dX7_readFormula_50 : decode cX7_readFormula 50 = .ok (.invokevirtual 197, 3) := by decide +kernel
theorem dX7_readFormula_53 : decode cX7_readFormula 53 = .ok (.istore_n 2, 1) := by decide +kernel
theorem dX7_readFormula_54 : decode cX7_readFormula 54 = .ok (.iinc 3 1, 3) := by decide +kernel
theorem dX7_readFormula_57 : decode cX7_readFormula 57 = .ok (.goto (-41), 3) := by decide +kernel
theorem dX7_readFormula_60 : decode cX7_readFormula 60 = .ok (.iload_n 1, 1) := by decide +kernel
theorem dX7_readFormula_61 : decode cX7_readFormula 61 = .ok (.ifCond .le 8, 3) := by decide +kernel
theorem dX7_readFormula_64 : decode cX7_readFormula 64 = .ok (.aload_n 0, 1) := by decide +kernel
theorem dX7_readFormula_65 : decode cX7_readFormula 65 = .ok (.iconst 1, 1) := by decide +kernel
theorem dX7_readFormula_66 : decode cX7_readFormula 66 = .ok (.invokevirtual 71, 3) := by decide +kernel
theorem dX7_readFormula_69 : decode cX7_readFormula 69 = .ok (.aload_n 0, 1) := by decide +kernel
theorem dX7_readFormula_70 : decode cX7_readFormula 70 = .ok (.aload_n 0, 1) := by decide +kernel
theorem dX7_readFormula_71 : decode cX7_readFormula 71 = .ok (.getfield 15, 3) := by decide +kernel
theorem dX7_readFormula_74 : decode cX7_readFormula 74 = .ok (.iconst 0, 1) := by decide +kernel
theorem dX7_readFormula_75 : decode cX7_readFormula 75 = .ok (.iaload, 1) := by decide +kernel
theorem dX7_readFormula_76 : decode cX7_readFormula 76 = .ok (.invokevirtual 200, 3) := by decide +kernel
theorem dX7_readFormula_79 : decode cX7_readFormula 79 = .ok (.new 203, 3) := by decide +kernel
theorem dX7_readFormula_82 : decode cX7_readFormula 82 = .ok (.dup, 1) := by decide +kernel
theorem dX7_readFormula_83 : decode cX7_readFormula 83 = .ok (.aload_n 0, 1) := by decide +kernel
theorem dX7_readFormula_84 : decode cX7_readFormula 84 = .ok (.getfield 35, 3) := by decide +kernel
theorem dX7_readFormula_87 : decode cX7_readFormula 87 = .ok (.aload_n 0, 1) := by decide +kernel
theorem dX7_readFormula_88 : decode cX7_readFormula 88 = .ok (.getfield 182, 3) := by decide +kernel
theorem dX7_readFormula_91 : decode cX7_readFormula 91 = .ok (.invokestatic 205, 3) := by decide +kernel
theorem dX7_readFormula_94 : decode cX7_readFormula 94 = .ok (.invokespecial 211, 3) := by decide +kernel
theorem dX7_readFormula_97 : decode cX7_readFormula 97 = .ok (.areturn, 1) := by decide +kernel
theorem dX7_readOpenings_0 : decode cX7_readOpenings 0 = .ok (.iload_n 1, 1) := by decide +kernel
theorem dX7_readOpenings_1 : decode cX7_readOpenings 1 = .ok (.istore_n 2, 1) := by decide +kernel
theorem dX7_readOpenings_2 : decode cX7_readOpenings 2 = .ok (.iconst 0, 1) := by decide +kernel
theorem dX7_readOpenings_3 : decode cX7_readOpenings 3 = .ok (.istore_n 3, 1) := by decide +kernel
theorem dX7_readOpenings_4 : decode cX7_readOpenings 4 = .ok (.iload_n 3, 1) := by decide +kernel
theorem dX7_readOpenings_5 : decode cX7_readOpenings 5 = .ok (.iconst 5, 1) := by decide +kernel
theorem dX7_readOpenings_6 : decode cX7_readOpenings 6 = .ok (.if_icmp .gt 46, 3) := by decide +kernel
theorem dX7_readOpenings_9 : decode cX7_readOpenings 9 = .ok (.aload_n 0, 1) := by decide +kernel
theorem dX7_readOpenings_10 : decode cX7_readOpenings 10 = .ok (.getfield 23, 3) := by decide +kernel
theorem dX7_readOpenings_13 : decode cX7_readOpenings 13 = .ok (.getfield 44, 3) := by decide +kernel
theorem dX7_readOpenings_16 : decode cX7_readOpenings 16 = .ok (.bipush 40, 2) := by decide +kernel
theorem dX7_readOpenings_18 : decode cX7_readOpenings 18 = .ok (.if_icmp .ne 34, 3) := by decide +kernel
theorem dX7_readOpenings_21 : decode cX7_readOpenings 21 = .ok (.iload_n 2, 1) := by decide +kernel
theorem dX7_readOpenings_22 : decode cX7_readOpenings 22 = .ok (.iconst 5, 1) := by decide +kernel
theorem dX7_readOpenings_23 : decode cX7_readOpenings 23 = .ok (.if_icmp .lt 8, 3) := by decide +kernel
theorem dX7_readOpenings_26 : decode cX7_readOpenings 26 = .ok (.aload_n 0, 1) := by decide +kernel
theorem dX7_readOpenings_27 : decode cX7_readOpenings 27 = .ok (.iconst 5, 1) := by decide +kernel
theorem dX7_readOpenings_28 : decode cX7_readOpenings 28 = .ok (.invokevirtual 71, 3) := by decide +kernel
theorem dX7_readOpenings_31 : decode cX7_readOpenings 31 = .ok (.iinc 2 1, 3) := by decide +kernel
theorem dX7_readOpenings_34 : decode cX7_readOpenings 34 = .ok (.aload_n 0, 1) := by decide +kernel
theorem dX7_readOpenings_35 : decode cX7_readOpenings 35 = .ok (.iload_n 2, 1) := by decide +kernel
theorem dX7_readOpenings_36 : decode cX7_readOpenings 36 = .ok (.invokevirtual 185, 3) := by decide +kernel
theorem dX7_readOpenings_39 : decode cX7_readOpenings 39 = .ok (.aload_n 0, 1) := by decide +kernel
theorem dX7_readOpenings_40 : decode cX7_readOpenings 40 = .ok (.getfield 23, 3) := by decide +kernel
theorem dX7_readOpenings_43 : decode cX7_readOpenings 43 = .ok (.invokevirtual 74, 3) := by decide +kernel
theorem dX7_readOpenings_46 : decode cX7_readOpenings 46 = .ok (.iinc 3 1, 3) := by decide +kernel
theorem dX7_readOpenings_49 : decode cX7_readOpenings 49 = .ok (.goto (-45), 3) := by decide +kernel
theorem dX7_readOpenings_52 : decode cX7_readOpenings 52 = .ok (.iload_n 2, 1) := by decide +kernel
theorem dX7_readOpenings_53 : decode cX7_readOpenings 53 = .ok (.ireturn, 1) := by decide +kernel
theorem dX7_readValue_0 : decode cX7_readValue 0 = .ok (.aload_n 0, 1) := by decide +kernel
theorem dX7_readValue_1 : decode cX7_readValue 1 = .ok (.getfield 23, 3) := by decide +kernel
theorem dX7_readValue_4 : decode cX7_readValue 4 = .ok (.getfield 44, 3) := by decide +kernel
theorem dX7_readValue_7 : decode cX7_readValue 7 = .ok (.bipush 11, 2) := by decide +kernel
theorem dX7_readValue_9 : decode cX7_readValue 9 = .ok (.if_icmp .ne 7, 3) := by decide +kernel
theorem dX7_readValue_12 : decode cX7_readValue 12 = .ok (.iconst 1, 1) := by decide +kernel
theorem dX7_readValue_13 : decode cX7_readValue 13 = .ok (.goto 4, 3) := by decide +kernel
theorem dX7_readValue_16 : decode cX7_readValue 16 = .ok (.iconst 0, 1) := by decide +kernel
theorem dX7_readValue_17 : decode cX7_readValue 17 = .ok (.istore_n 2, 1) := by decide +kernel
theorem dX7_readValue_18 : decode cX7_readValue 18 = .ok (.iload_n 2, 1) := by decide +kernel
theorem dX7_readValue_19 : decode cX7_readValue 19 = .ok (.ifCond .ne 20, 3) := by decide +kernel
theorem dX7_readValue_22 : decode cX7_readValue 22 = .ok (.aload_n 0, 1) := by decide +kernel
theorem dX7_readValue_23 : decode cX7_readValue 23 = .ok (.getfield 23, 3) := by decide +kernel
theorem dX7_readValue_26 : decode cX7_readValue 26 = .ok (.getfield 44, 3) := by decide +kernel
theorem dX7_readValue_29 : decode cX7_readValue 29 = .ok (.bipush 12, 2) := by decide +kernel
theorem dX7_readValue_31 : decode cX7_readValue 31 = .ok (.if_icmp .eq 8, 3) := by decide +kernel
theorem dX7_readValue_34 : decode cX7_readValue 34 = .ok (.aload_n 0, 1) := by decide +kernel
theorem dX7_readValue_35 : decode cX7_readValue 35 = .ok (.iconst 1, 1) := by decide +kernel
theorem dX7_readValue_36 : decode cX7_readValue 36 = .ok (.invokevirtual 71, 3) := by decide +kernel
theorem dX7_readValue_39 : decode cX7_readValue 39 = .ok (.iload_n 2, 1) := by decide +kernel
theorem dX7_readValue_40 : decode cX7_readValue 40 = .ok (.ifCond .eq 20, 3) := by decide +kernel
theorem dX7_readValue_43 : decode cX7_readValue 43 = .ok (.aload_n 0, 1) := by decide +kernel
theorem dX7_readValue_44 : decode cX7_readValue 44 = .ok (.getfield 27, 3) := by decide +kernel
theorem dX7_readValue_47 : decode cX7_readValue 47 = .ok (.aload_n 0, 1) := by decide +kernel
theorem dX7_readValue_48 : decode cX7_readValue 48 = .ok (.getfield 23, 3) := by decide +kernel
theorem dX7_readValue_51 : decode cX7_readValue 51 = .ok (.getfield 77, 3) := by decide +kernel
theorem dX7_readValue_54 : decode cX7_readValue 54 = .ok (.invokevirtual 101, 3) := by decide +kernel
theorem dX7_readValue_57 : decode cX7_readValue 57 = .ok (.goto 11, 3) := by decide +kernel
theorem dX7_readValue_60 : decode cX7_readValue 60 = .ok (.aload_n 0, 1) := by decide +kernel
theorem dX7_readValue_61 : decode cX7_readValue 61 = .ok (.getfield 23, 3) := by decide +kernel
theorem dX7_readValue_64 : decode cX7_readValue 64 = .ok (.getfield 77, 3) := by decide +kernel
theorem dX7_readValue_67 : decode cX7_readValue 67 = .ok (.l2i, 1) := by decide +kernel
theorem dX7_readValue_68 : decode cX7_readValue 68 = .ok (.istore_n 3, 1) := by decide +kernel
theorem dX7_readValue_69 : decode cX7_readValue 69 = .ok (.iload_n 3, 1) := by decide +kernel
theorem dX7_readValue_70 : decode cX7_readValue 70 = .ok (.iconst (-1), 1) := by decide +kernel
theorem dX7_readValue_71 : decode cX7_readValue 71 = .ok (.if_icmp .ne 8, 3) := by decide +kernel
theorem dX7_readValue_74 : decode cX7_readValue 74 = .ok (.aload_n 0, 1) := by decide +kernel
theorem dX7_readValue_75 : decode cX7_readValue 75 = .ok (.iconst 2, 1) := by decide +kernel
theorem dX7_readValue_76 : decode cX7_readValue 76 = .ok (.invokevirtual 71, 3) := by decide +kernel
theorem dX7_readValue_79 : decode cX7_readValue 79 = .ok (.iload_n 1, 1) := by decide +kernel
theorem dX7_readValue_80 : decode cX7_readValue 80 = .ok (.iconst 5, 1) := by decide +kernel
theorem dX7_readValue_81 : decode cX7_readValue 81 = .ok (.if_icmp .lt 8, 3) := by decide +kernel
theorem dX7_readValue_84 : decode cX7_readValue 84 = .ok (.aload_n 0, 1) := by decide +kernel
theorem dX7_readValue_85 : decode cX7_readValue 85 = .ok (.iconst 5, 1) := by decide +kernel
theorem dX7_readValue_86 : decode cX7_readValue 86 = .ok (.invokevirtual 71, 3) := by decide +kernel
theorem dX7_readValue_89 : decode cX7_readValue 89 = .ok (.aload_n 0, 1) := by decide +kernel
theorem dX7_readValue_90 : decode cX7_readValue 90 = .ok (.iload_n 2, 1) := by decide +kernel
theorem dX7_readValue_91 : decode cX7_readValue 91 = .ok (.ifCond .eq 7, 3) := by decide +kernel
theorem dX7_readValue_94 : decode cX7_readValue 94 = .ok (.iconst 2, 1) := by decide +kernel
theorem dX7_readValue_95 : decode cX7_readValue 95 = .ok (.goto 4, 3) := by decide +kernel
theorem dX7_readValue_98 : decode cX7_readValue 98 = .ok (.iconst 1, 1) := by decide +kernel
theorem dX7_readValue_99 : decode cX7_readValue 99 = .ok (.bipush 8, 2) := by decide +kernel
theorem dX7_readValue_101 : decode cX7_readValue 101 = .ok (.iload_n 3, 1) := by decide +kernel
theorem dX7_readValue_102 : decode cX7_readValue 102 = .ok (.imul, 1) := by decide +kernel
theorem dX7_readValue_103 : decode cX7_readValue 103 = .ok (.iadd, 1) := by decide +kernel
theorem dX7_readValue_104 : decode cX7_readValue 104 = .ok (.invokevirtual 200, 3) := by decide +kernel
theorem dX7_readValue_107 : decode cX7_readValue 107 = .ok (.aload_n 0, 1) := by decide +kernel
theorem dX7_readValue_108 : decode cX7_readValue 108 = .ok (.aload_n 0, 1) := by decide +kernel
theorem dX7_readValue_109 : decode cX7_readValue 109 = .ok (.getfield 9, 3) := by decide +kernel
theorem dX7_readValue_112 : decode cX7_readValue 112 = .ok (.iload_n 1, 1) := by decide +kernel
theorem dX7_readValue_113 : decode cX7_readValue 113 = .ok (.iaload, 1) := by decide +kernel
theorem dX7_readValue_114 : decode cX7_readValue 114 = .ok (.invokevirtual 200, 3) := by decide +kernel
theorem dX7_readValue_117 : decode cX7_readValue 117 = .ok (.aload_n 0, 1) := by decide +kernel
theorem dX7_readValue_118 : decode cX7_readValue 118 = .ok (.getfield 23, 3) := by decide +kernel
theorem dX7_readValue_121 : decode cX7_readValue 121 = .ok (.invokevirtual 74, 3) := by decide +kernel
theorem dX7_readValue_124 : decode cX7_readValue 124 = .ok (.return_, 1) := by decide +kernel
theorem dX7_readClosings_0 : decode cX7_readClosings 0 = .ok (.iload_n 1, 1) := by decide +kernel
theorem dX7_readClosings_1 : decode cX7_readClosings 1 = .ok (.istore_n 2, 1) := by decide +kernel
theorem dX7_readClosings_2 : decode cX7_readClosings 2 = .ok (.iconst 0, 1) := by decide +kernel
theorem dX7_readClosings_3 : decode cX7_readClosings 3 = .ok (.istore_n 3, 1) := by decide +kernel
theorem dX7_readClosings_4 : decode cX7_readClosings 4 = .ok (.iload_n 3, 1) := by decide +kernel
theorem dX7_readClosings_5 : decode cX7_readClosings 5 = .ok (.iconst 5, 1) := by decide +kernel
theorem dX7_readClosings_6 : decode cX7_readClosings 6 = .ok (.if_icmp .ge 55, 3) := by decide +kernel
theorem dX7_readClosings_9 : decode cX7_readClosings 9 = .ok (.iload_n 2, 1) := by decide +kernel
theorem dX7_readClosings_10 : decode cX7_readClosings 10 = .ok (.ifCond .le 51, 3) := by decide +kernel
theorem dX7_readClosings_13 : decode cX7_readClosings 13 = .ok (.aload_n 0, 1) := by decide +kernel
theorem dX7_readClosings_14 : decode cX7_readClosings 14 = .ok (.getfield 23, 3) := by decide +kernel
theorem dX7_readClosings_17 : decode cX7_readClosings 17 = .ok (.getfield 44, 3) := by decide +kernel
theorem dX7_readClosings_20 : decode cX7_readClosings 20 = .ok (.bipush 41, 2) := by decide +kernel
theorem dX7_readClosings_22 : decode cX7_readClosings 22 = .ok (.if_icmp .ne 39, 3) := by decide +kernel
theorem dX7_readClosings_25 : decode cX7_readClosings 25 = .ok (.aload_n 0, 1) := by decide +kernel
theorem dX7_readClosings_26 : decode cX7_readClosings 26 = .ok (.aload_n 0, 1) := by decide +kernel
theorem dX7_readClosings_27 : decode cX7_readClosings 27 = .ok (.getfield 15, 3) := by decide +kernel
theorem dX7_readClosings_30 : decode cX7_readClosings 30 = .ok (.iload_n 2, 1) := by decide +kernel
theorem dX7_readClosings_31 : decode cX7_readClosings 31 = .ok (.iaload, 1) := by decide +kernel
theorem dX7_readClosings_32 : decode cX7_readClosings 32 = .ok (.invokevirtual 200, 3) := by decide +kernel
theorem dX7_readClosings_35 : decode cX7_readClosings 35 = .ok (.iinc 2 (-1), 3) := by decide +kernel
theorem dX7_readClosings_38 : decode cX7_readClosings 38 = .ok (.aload_n 0, 1) := by decide +kernel
theorem dX7_readClosings_39 : decode cX7_readClosings 39 = .ok (.aload_n 0, 1) := by decide +kernel
theorem dX7_readClosings_40 : decode cX7_readClosings 40 = .ok (.getfield 9, 3) := by decide +kernel
theorem dX7_readClosings_43 : decode cX7_readClosings 43 = .ok (.iload_n 2, 1) := by decide +kernel
theorem dX7_readClosings_44 : decode cX7_readClosings 44 = .ok (.iaload, 1) := by decide +kernel
theorem dX7_readClosings_45 : decode cX7_readClosings 45 = .ok (.invokevirtual 200, 3) := by decide +kernel
theorem dX7_readClosings_48 : decode cX7_readClosings 48 = .ok (.aload_n 0, 1) := by decide +kernel
theorem dX7_readClosings_49 : decode cX7_readClosings 49 = .ok (.getfield 23, 3) := by decide +kernel
theorem dX7_readClosings_52 : decode cX7_readClosings 52 = .ok (.invokevirtual 74, 3) := by decide +kernel
theorem dX7_readClosings_55 : decode cX7_readClosings 55 = .ok (.iinc 3 1, 3) := by decide +kernel
theorem dX7_readClosings_58 : decode cX7_readClosings 58 = .ok (.goto (-54), 3) := by decide +kernel
theorem dX7_readClosings_61 : decode cX7_readClosings 61 = .ok (.iload_n 2, 1) := by decide +kernel
theorem dX7_readClosings_62 : decode cX7_readClosings 62 = .ok (.ireturn, 1) := by decide +kernel
theorem dX7_readOperator_0 : decode cX7_readOperator 0 = .ok (.aload_n 0, 1) := by decide +kernel
theorem dX7_readOperator_1 : decode cX7_readOperator 1 = .ok (.getfield 23, 3) := by decide +kernel
theorem dX7_readOperator_4 : decode cX7_readOperator 4 = .ok (.getfield 44, 3) := by decide +kernel
theorem dX7_readOperator_7 : decode cX7_readOperator 7 = .ok (.bipush 43, 2) := by decide +kernel
theorem dX7_readOperator_9 : decode cX7_readOperator 9 = .ok (.if_icmp .eq 15, 3) := by decide +kernel
theorem dX7_readOperator_12 : decode cX7_readOperator 12 = .ok (.aload_n 0, 1) := by decide +kernel
theorem dX7_readOperator_13 : decode cX7_readOperator 13 = .ok (.getfield 23, 3) := by decide +kernel
theorem dX7_readOperator_16 : decode cX7_readOperator 16 = .ok (.getfield 44, 3) := by decide +kernel
theorem dX7_readOperator_19 : decode cX7_readOperator 19 = .ok (.bipush 45, 2) := by decide +kernel
theorem dX7_readOperator_21 : decode cX7_readOperator 21 = .ok (.if_icmp .ne 7, 3) := by decide +kernel
theorem dX7_readOperator_24 : decode cX7_readOperator 24 = .ok (.iconst 1, 1) := by decide +kernel
theorem dX7_readOperator_25 : decode cX7_readOperator 25 = .ok (.goto 4, 3) := by decide +kernel
theorem dX7_readOperator_28 : decode cX7_readOperator 28 = .ok (.iconst 0, 1) := by decide +kernel
theorem dX7_readOperator_29 : decode cX7_readOperator 29 = .ok (.istore_n 2, 1) := by decide +kernel
theorem dX7_readOperator_30 : decode cX7_readOperator 30 = .ok (.aload_n 0, 1) := by decide +kernel
theorem dX7_readOperator_31 : decode cX7_readOperator 31 = .ok (.getfield 23, 3) := by decide +kernel
theorem dX7_readOperator_34 : decode cX7_readOperator 34 = .ok (.getfield 44, 3) := by decide +kernel
theorem dX7_readOperator_37 : decode cX7_readOperator 37 = .ok (.bipush 60, 2) := by decide +kernel
theorem dX7_readOperator_39 : decode cX7_readOperator 39 = .ok (.if_icmp .eq 15, 3) := by decide +kernel
theorem dX7_readOperator_42 : decode cX7_readOperator 42 = .ok (.aload_n 0, 1) := by decide +kernel
theorem dX7_readOperator_43 : decode cX7_readOperator 43 = .ok (.getfield 23, 3) := by decide +kernel
theorem dX7_readOperator_46 : decode cX7_readOperator 46 = .ok (.getfield 44, 3) := by decide +kernel
theorem dX7_readOperator_49 : decode cX7_readOperator 49 = .ok (.bipush 61, 2) := by decide +kernel
theorem dX7_readOperator_51 : decode cX7_readOperator 51 = .ok (.if_icmp .ne 7, 3) := by decide +kernel
theorem dX7_readOperator_54 : decode cX7_readOperator 54 = .ok (.iconst 1, 1) := by decide +kernel
theorem dX7_readOperator_55 : decode cX7_readOperator 55 = .ok (.goto 4, 3) := by decide +kernel
theorem dX7_readOperator_58 : decode cX7_readOperator 58 = .ok (.iconst 0, 1) := by decide +kernel
theorem dX7_readOperator_59 : decode cX7_readOperator 59 = .ok (.istore_n 3, 1) := by decide +kernel
theorem dX7_readOperator_60 : decode cX7_readOperator 60 = .ok (.iload_n 2, 1) := by decide +kernel
theorem dX7_readOperator_61 : decode cX7_readOperator 61 = .ok (.ifCond .eq 29, 3) := by decide +kernel
theorem dX7_readOperator_64 : decode cX7_readOperator 64 = .ok (.aload_n 0, 1) := by decide +kernel
theorem dX7_readOperator_65 : decode cX7_readOperator 65 = .ok (.getfield 9, 3) := by decide +kernel
theorem dX7_readOperator_68 : decode cX7_readOperator 68 = .ok (.iload_n 1, 1) := by decide +kernel
theorem dX7_readOperator_69 : decode cX7_readOperator 69 = .ok (.aload_n 0, 1) := by decide +kernel
theorem dX7_readOperator_70 : decode cX7_readOperator 70 = .ok (.getfield 23, 3) := by decide +kernel
theorem dX7_readOperator_73 : decode cX7_readOperator 73 = .ok (.getfield 44, 3) := by decide +kernel
theorem dX7_readOperator_76 : decode cX7_readOperator 76 = .ok (.bipush 43, 2) := by decide +kernel
theorem dX7_readOperator_78 : decode cX7_readOperator 78 = .ok (.if_icmp .ne 7, 3) := by decide +kernel
theorem dX7_readOperator_81 : decode cX7_readOperator 81 = .ok (.iconst 3, 1) := by decide +kernel
theorem dX7_readOperator_82 : decode cX7_readOperator 82 = .ok (.goto 4, 3) := by decide +kernel
theorem dX7_readOperator_85 : decode cX7_readOperator 85 = .ok (.iconst 4, 1) := by decide +kernel
theorem dX7_readOperator_86 : decode cX7_readOperator 86 = .ok (.iastore, 1) := by decide +kernel
theorem dX7_readOperator_87 : decode cX7_readOperator 87 = .ok (.goto 52, 3) := by decide +kernel
theorem dX7_readOperator_90 : decode cX7_readOperator 90 = .ok (.iload_n 3, 1) := by decide +kernel
theorem dX7_readOperator_91 : decode cX7_readOperator 91 = .ok (.ifCond .eq 46, 3) := by decide +kernel
theorem dX7_readOperator_94 : decode cX7_readOperator 94 = .ok (.aload_n 0, 1) := by decide +kernel
theorem dX7_readOperator_95 : decode cX7_readOperator 95 = .ok (.getfield 15, 3) := by decide +kernel
theorem dX7_readOperator_98 : decode cX7_readOperator 98 = .ok (.iload_n 1, 1) := by decide +kernel
theorem dX7_readOperator_99 : decode cX7_readOperator 99 = .ok (.iaload, 1) := by decide +kernel
theorem dX7_readOperator_100 : decode cX7_readOperator 100 = .ok (.ifCond .ne 37, 3) := by decide +kernel
theorem dX7_readOperator_103 : decode cX7_readOperator 103 = .ok (.aload_n 0, 1) := by decide +kernel
theorem dX7_readOperator_104 : decode cX7_readOperator 104 = .ok (.getfield 15, 3) := by decide +kernel
theorem dX7_readOperator_107 : decode cX7_readOperator 107 = .ok (.iload_n 1, 1) := by decide +kernel
theorem dX7_readOperator_108 : decode cX7_readOperator 108 = .ok (.aload_n 0, 1) := by decide +kernel
theorem dX7_readOperator_109 : decode cX7_readOperator 109 = .ok (.getfield 23, 3) := by decide +kernel
theorem dX7_readOperator_112 : decode cX7_readOperator 112 = .ok (.getfield 44, 3) := by decide +kernel
theorem dX7_readOperator_115 : decode cX7_readOperator 115 = .ok (.bipush 60, 2) := by decide +kernel
theorem dX7_readOperator_117 : decode cX7_readOperator 117 = .ok (.if_icmp .ne 7, 3) := by decide +kernel
theorem dX7_readOperator_120 : decode cX7_readOperator 120 = .ok (.iconst 5, 1) := by decide +kernel
theorem dX7_readOperator_121 : decode cX7_readOperator 121 = .ok (.goto 5, 3) := by decide +kernel
theorem dX7_readOperator_124 : decode cX7_readOperator 124 = .ok (.bipush 6, 2) := by decide +kernel
theorem dX7_readOperator_126 : decode cX7_readOperator 126 = .ok (.iastore, 1) := by decide +kernel
theorem dX7_readOperator_127 : decode cX7_readOperator 127 = .ok (.aload_n 0, 1) := by decide +kernel
theorem dX7_readOperator_128 : decode cX7_readOperator 128 = .ok (.getfield 9, 3) := by decide +kernel
theorem dX7_readOperator_131 : decode cX7_readOperator 131 = .ok (.iload_n 1, 1) := by decide +kernel
theorem dX7_readOperator_132 : decode cX7_readOperator 132 = .ok (.iconst 0, 1) := by decide +kernel
theorem dX7_readOperator_133 : decode cX7_readOperator 133 = .ok (.iastore, 1) := by decide +kernel
theorem dX7_readOperator_134 : decode cX7_readOperator 134 = .ok (.goto 5, 3) := by decide +kernel
theorem dX7_readOperator_137 : decode cX7_readOperator 137 = .ok (.iconst 0, 1) := by decide +kernel
theorem dX7_readOperator_138 : decode cX7_readOperator 138 = .ok (.ireturn, 1) := by decide +kernel
theorem dX7_readOperator_139 : decode cX7_readOperator 139 = .ok (.aload_n 0, 1) := by decide +kernel
theorem dX7_readOperator_140 : decode cX7_readOperator 140 = .ok (.getfield 23, 3) := by decide +kernel
theorem dX7_readOperator_143 : decode cX7_readOperator 143 = .ok (.invokevirtual 74, 3) := by decide +kernel
theorem dX7_readOperator_146 : decode cX7_readOperator 146 = .ok (.iconst 1, 1) := by decide +kernel
theorem dX7_readOperator_147 : decode cX7_readOperator 147 = .ok (.ireturn, 1) := by decide +kernel
theorem dX7_openLevel_0 : decode cX7_openLevel 0 = .ok (.aload_n 0, 1) := by decide +kernel
theorem dX7_openLevel_1 : decode cX7_openLevel 1 = .ok (.getfield 9, 3) := by decide +kernel
theorem dX7_openLevel_4 : decode cX7_openLevel 4 = .ok (.iload_n 1, 1) := by decide +kernel
theorem dX7_openLevel_5 : decode cX7_openLevel 5 = .ok (.iconst 0, 1) := by decide +kernel
theorem dX7_openLevel_6 : decode cX7_openLevel 6 = .ok (.iastore, 1) := by decide +kernel
theorem dX7_openLevel_7 : decode cX7_openLevel 7 = .ok (.aload_n 0, 1) := by decide +kernel
theorem dX7_openLevel_8 : decode cX7_openLevel 8 = .ok (.getfield 15, 3) := by decide +kernel
theorem dX7_openLevel_11 : decode cX7_openLevel 11 = .ok (.iload_n 1, 1) := by decide +kernel
theorem dX7_openLevel_12 : decode cX7_openLevel 12 = .ok (.iconst 0, 1) := by decide +kernel
theorem dX7_openLevel_13 : decode cX7_openLevel 13 = .ok (.iastore, 1) := by decide +kernel
theorem dX7_openLevel_14 : decode cX7_openLevel 14 = .ok (.return_, 1) := by decide +kernel
theorem dX7_addOperation_0 : decode cX7_addOperation 0 = .ok (.iload_n 1, 1) := by decide +kernel
theorem dX7_addOperation_1 : decode cX7_addOperation 1 = .ok (.ifCond .eq 35, 3) := by decide +kernel
theorem dX7_addOperation_4 : decode cX7_addOperation 4 = .ok (.aload_n 0, 1) := by decide +kernel
theorem dX7_addOperation_5 : decode cX7_addOperation 5 = .ok (.getfield 182, 3) := by decide +kernel
theorem dX7_addOperation_8 : decode cX7_addOperation 8 = .ok (.aload_n 0, 1) := by decide +kernel
theorem dX7_addOperation_9 : decode cX7_addOperation 9 = .ok (.getfield 35, 3) := by decide +kernel
theorem dX7_addOperation_12 : decode cX7_addOperation 12 = .ok (.arraylength, 1) := by decide +kernel
theorem dX7_addOperation_13 : decode cX7_addOperation 13 = .ok (.if_icmp .ge 23, 3) := by decide +kernel
theorem dX7_addOperation_16 : decode cX7_addOperation 16 = .ok (.aload_n 0, 1) := by decide +kernel
theorem dX7_addOperation_17 : decode cX7_addOperation 17 = .ok (.getfield 35, 3) := by decide +kernel
theorem dX7_addOperation_20 : decode cX7_addOperation 20 = .ok (.aload_n 0, 1) := by decide +kernel
theorem dX7_addOperation_21 : decode cX7_addOperation 21 = .ok (.getfield 182, 3) := by decide +kernel
theorem dX7_addOperation_24 : decode cX7_addOperation 24 = .ok (.iload_n 1, 1) := by decide +kernel
theorem dX7_addOperation_25 : decode cX7_addOperation 25 = .ok (.iastore, 1) := by decide +kernel
theorem dX7_addOperation_26 : decode cX7_addOperation 26 = .ok (.aload_n 0, 1) := by decide +kernel
theorem dX7_addOperation_27 : decode cX7_addOperation 27 = .ok (.dup, 1) := by decide +kernel
theorem dX7_addOperation_28 : decode cX7_addOperation 28 = .ok (.getfield 182, 3) := by decide +kernel
theorem dX7_addOperation_31 : decode cX7_addOperation 31 = .ok (.iconst 1, 1) := by decide +kernel
theorem dX7_addOperation_32 : decode cX7_addOperation 32 = .ok (.iadd, 1) := by decide +kernel
theorem dX7_addOperation_33 : decode cX7_addOperation 33 = .ok (.putfield 182, 3) := by decide +kernel
theorem dX7_addOperation_36 : decode cX7_addOperation 36 = .ok (.return_, 1) := by decide +kernel
theorem dX8_init_0 : decode cX8_init 0 = .ok (.aload_n 0, 1) := by decide +kernel
theorem dX8_init_1 : decode cX8_init 1 = .ok (.invokespecial 3, 3) := by decide +kernel
theorem dX8_init_4 : decode cX8_init 4 = .ok (.aload_n 0, 1) := by decide +kernel
theorem dX8_init_5 : decode cX8_init 5 = .ok (.new 9, 3) := by decide +kernel
theorem dX8_init_8 : decode cX8_init 8 = .ok (.dup, 1) := by decide +kernel
theorem dX8_init_9 : decode cX8_init 9 = .ok (.invokespecial 11, 3) := by decide +kernel
theorem dX8_init_12 : decode cX8_init 12 = .ok (.putfield 12, 3) := by decide +kernel
theorem dX8_init_15 : decode cX8_init 15 = .ok (.aload_n 0, 1) := by decide +kernel
theorem dX8_init_16 : decode cX8_init 16 = .ok (.new 18, 3) := by decide +kernel
theorem dX8_init_19 : decode cX8_init 19 = .ok (.dup, 1) := by decide +kernel
theorem dX8_init_20 : decode cX8_init 20 = .ok (.invokespecial 20, 3) := by decide +kernel
theorem dX8_init_23 : decode cX8_init 23 = .ok (.putfield 21, 3) := by decide +kernel
theorem dX8_init_26 : decode cX8_init 26 = .ok (.aload_n 0, 1) := by decide +kernel
theorem dX8_init_27 : decode cX8_init 27 = .ok (.new 18, 3) := by decide +kernel
theorem dX8_init_30 : decode cX8_init 30 = .ok (.dup, 1) := by decide +kernel
theorem dX8_init_31 : decode cX8_init 31 = .ok (.invokespecial 20, 3) := by decide +kernel
theorem dX8_init_34 : decode cX8_init 34 = .ok (.putfield 25, 3) := by decide +kernel
theorem dX8_init_37 : decode cX8_init 37 = .ok (.return_, 1) := by decide +kernel
theorem dX8_judgeWorlds_0 : decode cX8_judgeWorlds 0 = .ok (.aload_n 1, 1) := by decide +kernel
theorem dX8_judgeWorlds_1 : decode cX8_judgeWorlds 1 = .ok (.getfield 28, 3) := by decide +kernel
theorem dX8_judgeWorlds_4 : decode cX8_judgeWorlds 4 = .ok (.ifCond .eq 4, 3) := by decide +kernel
theorem dX8_judgeWorlds_7 : decode cX8_judgeWorlds 7 = .ok (.return_, 1) := by decide +kernel
theorem dX8_judgeWorlds_8 : decode cX8_judgeWorlds 8 = .ok (.aload_n 1, 1) := by decide +kernel
theorem dX8_judgeWorlds_9 : decode cX8_judgeWorlds 9 = .ok (.iconst 1, 1) := by decide +kernel
theorem dX8_judgeWorlds_10 : decode cX8_judgeWorlds 10 = .ok (.putfield 28, 3) := by decide +kernel
theorem dX8_judgeWorlds_13 : decode cX8_judgeWorlds 13 = .ok (.aload_n 1, 1) := by decide +kernel
theorem dX8_judgeWorlds_14 : decode cX8_judgeWorlds 14 = .ok (.getfield 34, 3) := by decide +kernel
theorem dX8_judgeWorlds_17 : decode cX8_judgeWorlds 17 = .ok (.iconst (-1), 1) := by decide +kernel
theorem dX8_judgeWorlds_18 : decode cX8_judgeWorlds 18 = .ok (.invokestatic 38, 3) := by decide +kernel
theorem dX8_judgeWorlds_21 : decode cX8_judgeWorlds 21 = .ok (.iconst 0, 1) := by decide +kernel
theorem dX8_judgeWorlds_22 : decode cX8_judgeWorlds 22 = .ok (.istore_n 2, 1) := by decide +kernel
theorem dX8_judgeWorlds_23 : decode cX8_judgeWorlds 23 = .ok (.iload_n 2, 1) := by decide +kernel
theorem dX8_judgeWorlds_24 : decode cX8_judgeWorlds 24 = .ok (.aload_n 1, 1) := by decide +kernel
theorem dX8_judgeWorlds_25 : decode cX8_judgeWorlds 25 = .ok (.getfield 44, 3) := by decide +kernel
theorem dX8_judgeWorlds_28 : decode cX8_judgeWorlds 28 = .ok (.if_icmp .ge 64, 3) := by decide +kernel
theorem dX8_judgeWorlds_31 : decode cX8_judgeWorlds 31 = .ok (.aload_n 0, 1) := by decide +kernel
theorem dX8_judgeWorlds_32 : decode cX8_judgeWorlds 32 = .ok (.getfield 12, 3) := by decide +kernel
theorem dX8_judgeWorlds_35 : decode cX8_judgeWorlds 35 = .ok (.aload_n 1, 1) := by decide +kernel
theorem dX8_judgeWorlds_36 : decode cX8_judgeWorlds 36 = .ok (.iload_n 2, 1) := by decide +kernel
theorem dX8_judgeWorlds_37 : decode cX8_judgeWorlds 37 = .ok (.invokevirtual 48, 3) := by decide +kernel
theorem dX8_judgeWorlds_40 : decode cX8_judgeWorlds 40 = .ok (.aload_n 0, 1) := by decide +kernel
theorem dX8_judgeWorlds_41 : decode cX8_judgeWorlds 41 = .ok (.getfield 21, 3) := by decide +kernel
theorem dX8_judgeWorlds_44 : decode cX8_judgeWorlds 44 = .ok (.aload_n 1, 1) := by decide +kernel
theorem dX8_judgeWorlds_45 : decode cX8_judgeWorlds 45 = .ok (.aload_n 0, 1) := by decide +kernel
theorem dX8_judgeWorlds_46 : decode cX8_judgeWorlds 46 = .ok (.getfield 12, 3) := by decide +kernel
theorem dX8_judgeWorlds_49 : decode cX8_judgeWorlds 49 = .ok (.invokevirtual 52, 3) := by decide +kernel
theorem dX8_judgeWorlds_52 : decode cX8_judgeWorlds 52 = .ok (.aload_n 0, 1) := by decide +kernel
theorem dX8_judgeWorlds_53 : decode cX8_judgeWorlds 53 = .ok (.getfield 21, 3) := by decide +kernel
theorem dX8_judgeWorlds_56 : decode cX8_judgeWorlds 56 = .ok (.getfield 56, 3) := by decide +kernel
theorem dX8_judgeWorlds_59 : decode cX8_judgeWorlds 59 = .ok (.istore_n 3, 1) := by decide +kernel
theorem dX8_judgeWorlds_60 : decode cX8_judgeWorlds 60 = .ok (.aload_n 1, 1) := by decide +kernel
theorem dX8_judgeWorlds_61 : decode cX8_judgeWorlds 61 = .ok (.getfield 59, 3) := by decide +kernel
theorem dX8_judgeWorlds_64 : decode cX8_judgeWorlds 64 = .ok (.iload_n 3, 1) := by decide +kernel
theorem dX8_judgeWorlds_65 : decode cX8_judgeWorlds 65 = .ok (.iaload, 1) := by decide +kernel
theorem dX8_judgeWorlds_66 : decode cX8_judgeWorlds 66 = .ok (.ifCond .ne 10, 3) := by decide +kernel
theorem dX8_judgeWorlds_69 : decode cX8_judgeWorlds 69 = .ok (.aload_n 1, 1) := by decide +kernel
theorem dX8_judgeWorlds_70 : decode cX8_judgeWorlds 70 = .ok (.getfield 34, 3) := by decide +kernel
theorem dX8_judgeWorlds_73 : decode cX8_judgeWorlds 73 = .ok (.iload_n 3, 1) := by decide +kernel
theorem dX8_judgeWorlds_74 : decode cX8_judgeWorlds 74 = .ok (.iload_n 2, 1) := by decide +kernel
theorem dX8_judgeWorlds_75 : decode cX8_judgeWorlds 75 = .ok (.iastore, 1) := by decide +kernel
theorem dX8_judgeWorlds_76 : decode cX8_judgeWorlds 76 = .ok (.aload_n 1, 1) := by decide +kernel
theorem dX8_judgeWorlds_77 : decode cX8_judgeWorlds 77 = .ok (.getfield 59, 3) := by decide +kernel
theorem dX8_judgeWorlds_80 : decode cX8_judgeWorlds 80 = .ok (.iload_n 3, 1) := by decide +kernel
theorem dX8_judgeWorlds_81 : decode cX8_judgeWorlds 81 = .ok (.dup2, 1) := by decide +kernel
theorem dX8_judgeWorlds_82 : decode cX8_judgeWorlds 82 = .ok (.iaload, 1) := by decide +kernel
theorem dX8_judgeWorlds_83 : decode cX8_judgeWorlds 83 = .ok (.iconst 1, 1) := by decide +kernel
theorem dX8_judgeWorlds_84 : decode cX8_judgeWorlds 84 = .ok (.iadd, 1) := by decide +kernel
theorem dX8_judgeWorlds_85 : decode cX8_judgeWorlds 85 = .ok (.iastore, 1) := by decide +kernel
theorem dX8_judgeWorlds_86 : decode cX8_judgeWorlds 86 = .ok (.iinc 2 1, 3) := by decide +kernel
theorem dX8_judgeWorlds_89 : decode cX8_judgeWorlds 89 = .ok (.goto (-66), 3) := by decide +kernel
theorem dX8_judgeWorlds_92 : decode cX8_judgeWorlds 92 = .ok (.return_, 1) := by decide +kernel
theorem dX8_compareWorlds_0 : decode cX8_compareWorlds 0 = .ok (.aload_n 0, 1) := by decide +kernel
theorem dX8_compareWorlds_1 : decode cX8_compareWorlds 1 = .ok (.getfield 62, 3) := by decide +kernel
theorem dX8_compareWorlds_4 : decode cX8_compareWorlds 4 = .ok (.aload_n 1, 1) := by decide +kernel
theorem dX8_compareWorlds_5 : decode cX8_compareWorlds 5 = .ok (.if_acmp .ne 20, 3) := by decide +kernel
theorem dX8_compareWorlds_8 : decode cX8_compareWorlds 8 = .ok (.aload_n 0, 1) := by decide +kernel
theorem dX8_compareWorlds_9 : decode cX8_compareWorlds 9 = .ok (.getfield 66, 3) := by decide +kernel
theorem dX8_compareWorlds_12 : decode cX8_compareWorlds 12 = .ok (.aload_n 2, 1) := by decide +kernel
theorem dX8_compareWorlds_13 : decode cX8_compareWorlds 13 = .ok (.if_acmp .ne 12, 3) := by decide +kernel
theorem dX8_compareWorlds_16 : decode cX8_compareWorlds 16 = .ok (.aload_n 0, 1) := by decide +kernel
theorem dX8_compareWorlds_17 : decode cX8_compareWorlds 17 = .ok (.getfield 69, 3) := by decide +kernel
theorem dX8_compareWorlds_20 : decode cX8_compareWorlds 20 = .ok (.iload_n 3, 1) := by decide +kernel
theorem dX8_compareWorlds_21 : decode cX8_compareWorlds 21 = .ok (.if_icmp .ne 4, 3) := by decide +kernel
theorem dX8_compareWorlds_24 : decode cX8_compareWorlds 24 = .ok (.return_, 1) := by decide +kernel
theorem dX8_compareWorlds_25 : decode cX8_compareWorlds 25 = .ok (.aload_n 0, 1) := by decide +kernel
theorem dX8_compareWorlds_26 : decode cX8_compareWorlds 26 = .ok (.aload_n 1, 1) := by decide +kernel
theorem dX8_compareWorlds_27 : decode cX8_compareWorlds 27 = .ok (.putfield 62, 3) := by decide +kernel
theorem dX8_compareWorlds_30 : decode cX8_compareWorlds 30 = .ok (.aload_n 0, 1) := by decide +kernel
theorem dX8_compareWorlds_31 : decode cX8_compareWorlds 31 = .ok (.aload_n 2, 1) := by decide +kernel
theorem dX8_compareWorlds_32 : decode cX8_compareWorlds 32 = .ok (.putfield 66, 3) := by decide +kernel
theorem dX8_compareWorlds_35 : decode cX8_compareWorlds 35 = .ok (.aload_n 0, 1) := by decide +kernel
theorem dX8_compareWorlds_36 : decode cX8_compareWorlds 36 = .ok (.iload_n 3, 1) := by decide +kernel
theorem dX8_compareWorlds_37 : decode cX8_compareWorlds 37 = .ok (.putfield 69, 3) := by decide +kernel
theorem dX8_compareWorlds_40 : decode cX8_compareWorlds 40 = .ok (.aload_n 0, 1) := by decide +kernel
theorem dX8_compareWorlds_41 : decode cX8_compareWorlds 41 = .ok (.iconst 0, 1) := by decide +kernel
theorem dX8_compareWorlds_42 : decode cX8_compareWorlds 42 = .ok (.putfield 72, 3) := by decide +kernel
theorem dX8_compareWorlds_45 : decode cX8_compareWorlds 45 = .ok (.aload_n 0, 1) := by decide +kernel
theorem dX8_compareWorlds_46 : decode cX8_compareWorlds 46 = .ok (.iconst (-1), 1) := by decide +kernel
theorem dX8_compareWorlds_47 : decode cX8_compareWorlds 47 = .ok (.putfield 75, 3) := by decide +kernel
theorem dX8_compareWorlds_50 : decode cX8_compareWorlds 50 = .ok (.iconst 0, 1) := by decide +kernel
theorem dX8_compareWorlds_51 : decode cX8_compareWorlds 51 = .ok (.istore 5, 2) := by decide +kernel
theorem dX8_compareWorlds_53 : decode cX8_compareWorlds 53 = .ok (.iload 5, 2) := by decide +kernel
theorem dX8_compareWorlds_55 : decode cX8_compareWorlds 55 = .ok (.aload_n 1, 1) := by decide +kernel
theorem dX8_compareWorlds_56 : decode cX8_compareWorlds 56 = .ok (.getfield 44, 3) := by decide +kernel
theorem dX8_compareWorlds_59 : decode cX8_compareWorlds 59 = .ok (.if_icmp .ge 93, 3) := by decide +kernel
theorem dX8_compareWorlds_62 : decode cX8_compareWorlds 62 = .ok (.aload_n 0, 1) := by decide +kernel
theorem dX8_compareWorlds_63 : decode cX8_compareWorlds 63 = .ok (.getfield 12, 3) := by decide +kernel
theorem dX8_compareWorlds_66 : decode cX8_compareWorlds 66 = .ok (.aload_n 1, 1) := by decide +kernel
theorem dX8_compareWorlds_67 : decode cX8_compareWorlds 67 = .ok (.iload 5, 2) := by decide +kernel
theorem dX8_compareWorlds_69 : decode cX8_compareWorlds 69 = .ok (.invokevirtual 48, 3) := by decide +kernel
theorem dX8_compareWorlds_72 : decode cX8_compareWorlds 72 = .ok (.aload_n 0, 1) := by decide +kernel
theorem dX8_compareWorlds_73 : decode cX8_compareWorlds 73 = .ok (.getfield 21, 3) := by decide +kernel
theorem dX8_compareWorlds_76 : decode cX8_compareWorlds 76 = .ok (.aload_n 1, 1) := by decide +kernel
theorem dX8_compareWorlds_77 : decode cX8_compareWorlds 77 = .ok (.aload_n 0, 1) := by decide +kernel
theorem dX8_compareWorlds_78 : decode cX8_compareWorlds 78 = .ok (.getfield 12, 3) := by decide +kernel
theorem dX8_compareWorlds_81 : decode cX8_compareWorlds 81 = .ok (.iload_n 3, 1) := by decide +kernel
theorem dX8_compareWorlds_82 : decode cX8_compareWorlds 82 = .ok (.aload 4, 2) := by decide +kernel
theorem dX8_compareWorlds_84 : decode cX8_compareWorlds 84 = .ok (.invokevirtual 78, 3) := by decide +kernel
theorem dX8_compareWorlds_87 : decode cX8_compareWorlds 87 = .ok (.aload_n 0, 1) := by decide +kernel
theorem dX8_compareWorlds_88 : decode cX8_compareWorlds 88 = .ok (.getfield 25, 3) := by decide +kernel
theorem dX8_compareWorlds_91 : decode cX8_compareWorlds 91 = .ok (.aload_n 2, 1) := by decide +kernel
theorem dX8_compareWorlds_92 : decode cX8_compareWorlds 92 = .ok (.aload_n 0, 1) := by decide +kernel
theorem dX8_compareWorlds_93 : decode cX8_compareWorlds 93 = .ok (.getfield 12, 3) := by decide +kernel
theorem dX8_compareWorlds_96 : decode cX8_compareWorlds 96 = .ok (.iload_n 3, 1) := by decide +kernel
theorem dX8_compareWorlds_97 : decode cX8_compareWorlds 97 = .ok (.aload 4, 2) := by decide +kernel
theorem dX8_compareWorlds_99 : decode cX8_compareWorlds 99 = .ok (.invokevirtual 78, 3) := by decide +kernel
theorem dX8_compareWorlds_102 : decode cX8_compareWorlds 102 = .ok (.aload_n 0, 1) := by decide +kernel
theorem dX8_compareWorlds_103 : decode cX8_compareWorlds 103 = .ok (.getfield 21, 3) := by decide +kernel
theorem dX8_compareWorlds_106 : decode cX8_compareWorlds 106 = .ok (.aload_n 0, 1) := by decide +kernel
theorem dX8_compareWorlds_107 : decode cX8_compareWorlds 107 = .ok (.getfield 25, 3) := by decide +kernel
theorem dX8_compareWorlds_110 : decode cX8_compareWorlds 110 = .ok (.invokevirtual 82, 3) := by decide +kernel
theorem dX8_compareWorlds_113 : decode cX8_compareWorlds 113 = .ok (.ifCond .ne 33, 3) := by decide +kernel
theorem dX8_compareWorlds_116 : decode cX8_compareWorlds 116 = .ok (.aload_n 0, 1) := by decide +kernel
theorem dX8_compareWorlds_117 : decode cX8_compareWorlds 117 = .ok (.aload_n 0, 1) := by decide +kernel
theorem dX8_compareWorlds_118 : decode cX8_compareWorlds 118 = .ok (.getfield 72, 3) := by decide +kernel
theorem dX8_compareWorlds_121 : decode cX8_compareWorlds 121 = .ok (.ifCond .ne 8, 3) := by decide +kernel
theorem dX8_compareWorlds_124 : decode cX8_compareWorlds 124 = .ok (.iload 5, 2) := by decide +kernel
theorem dX8_compareWorlds_126 : decode cX8_compareWorlds 126 = .ok (.goto 7, 3) := by decide +kernel
theorem dX8_compareWorlds_129 : decode cX8_compareWorlds 129 = .ok (.aload_n 0, 1) := by decide +kernel
theorem dX8_compareWorlds_130 : decode cX8_compareWorlds 130 = .ok (.getfield 75, 3) := by decide +kernel
theorem dX8_compareWorlds_133 : decode cX8_compareWorlds 133 = .ok (.putfield 75, 3) := by decide +kernel
theorem dX8_compareWorlds_136 : decode cX8_compareWorlds 136 = .ok (.aload_n 0, 1) := by decide +kernel
theorem dX8_compareWorlds_137 : decode cX8_compareWorlds 137 = .ok (.dup, 1) := by decide +kernel
theorem dX8_compareWorlds_138 : decode cX8_compareWorlds 138 = .ok (.getfield 72, 3) := by decide +kernel
theorem dX8_compareWorlds_141 : decode cX8_compareWorlds 141 = .ok (.iconst 1, 1) := by decide +kernel
theorem dX8_compareWorlds_142 : decode cX8_compareWorlds 142 = .ok (.iadd, 1) := by decide +kernel
theorem dX8_compareWorlds_143 : decode cX8_compareWorlds 143 = .ok (.putfield 72, 3) := by decide +kernel
theorem dX8_compareWorlds_146 : decode cX8_compareWorlds 146 = .ok (.iinc 5 1, 3) := by decide +kernel
theorem dX8_compareWorlds_149 : decode cX8_compareWorlds 149 = .ok (.goto (-96), 3) := by decide +kernel
theorem dX8_compareWorlds_152 : decode cX8_compareWorlds 152 = .ok (.return_, 1) := by decide +kernel
theorem dX8_forgetComparison_0 : decode cX8_forgetComparison 0 = .ok (.aload_n 0, 1) := by decide +kernel
theorem dX8_forgetComparison_1 : decode cX8_forgetComparison 1 = .ok (.aconst_null, 1) := by decide +kernel
theorem dX8_forgetComparison_2 : decode cX8_forgetComparison 2 = .ok (.putfield 62, 3) := by decide +kernel
theorem dX8_forgetComparison_5 : decode cX8_forgetComparison 5 = .ok (.aload_n 0, 1) := by decide +kernel
theorem dX8_forgetComparison_6 : decode cX8_forgetComparison 6 = .ok (.aconst_null, 1) := by decide +kernel
theorem dX8_forgetComparison_7 : decode cX8_forgetComparison 7 = .ok (.putfield 66, 3) := by decide +kernel
theorem dX8_forgetComparison_10 : decode cX8_forgetComparison 10 = .ok (.return_, 1) := by decide +kernel
theorem dX9_init_0 : decode cX9_init 0 = .ok (.aload_n 0, 1) := by decide +kernel
theorem dX9_init_1 : decode cX9_init 1 = .ok (.invokespecial 3, 3) := by decide +kernel
theorem dX9_init_4 : decode cX9_init 4 = .ok (.aload_n 0, 1) := by decide +kernel
theorem dX9_init_5 : decode cX9_init 5 = .ok (.bipush 11, 2) := by decide +kernel
theorem dX9_init_7 : decode cX9_init 7 = .ok (.newarray .long, 2) := by decide +kernel
theorem dX9_init_9 : decode cX9_init 9 = .ok (.putfield 11, 3) := by decide +kernel
theorem dX9_init_12 : decode cX9_init 12 = .ok (.aload_n 0, 1) := by decide +kernel
theorem dX9_init_13 : decode cX9_init 13 = .ok (.bipush 14, 2) := by decide +kernel
theorem dX9_init_15 : decode cX9_init 15 = .ok (.putfield 15, 3) := by decide +kernel
theorem dX9_init_18 : decode cX9_init 18 = .ok (.aload_n 0, 1) := by decide +kernel
theorem dX9_init_19 : decode cX9_init 19 = .ok (.aload_n 1, 1) := by decide +kernel
theorem dX9_init_20 : decode cX9_init 20 = .ok (.putfield 19, 3) := by decide +kernel
theorem dX9_init_23 : decode cX9_init 23 = .ok (.aload_n 0, 1) := by decide +kernel
theorem dX9_init_24 : decode cX9_init 24 = .ok (.iload_n 2, 1) := by decide +kernel
theorem dX9_init_25 : decode cX9_init 25 = .ok (.putfield 23, 3) := by decide +kernel
theorem dX9_init_28 : decode cX9_init 28 = .ok (.aload_n 0, 1) := by decide +kernel
theorem dX9_init_29 : decode cX9_init 29 = .ok (.iload_n 2, 1) := by decide +kernel
theorem dX9_init_30 : decode cX9_init 30 = .ok (.iconst 1, 1) := by decide +kernel
theorem dX9_init_31 : decode cX9_init 31 = .ok (.iadd, 1) := by decide +kernel
theorem dX9_init_32 : decode cX9_init 32 = .ok (.newarray .int, 2) := by decide +kernel
theorem dX9_init_34 : decode cX9_init 34 = .ok (.putfield 26, 3) := by decide +kernel
theorem dX9_init_37 : decode cX9_init 37 = .ok (.aload_n 0, 1) := by decide +kernel
theorem dX9_init_38 : decode cX9_init 38 = .ok (.iload_n 2, 1) := by decide +kernel
theorem dX9_init_39 : decode cX9_init 39 = .ok (.iconst 1, 1) := by decide +kernel
theorem dX9_init_40 : decode cX9_init 40 = .ok (.iadd, 1) := by decide +kernel
theorem dX9_init_41 : decode cX9_init 41 = .ok (.newarray .int, 2) := by decide +kernel
theorem dX9_init_43 : decode cX9_init 43 = .ok (.putfield 30, 3) := by decide +kernel
theorem dX9_init_46 : decode cX9_init 46 = .ok (.aload_n 0, 1) := by decide +kernel
theorem dX9_init_47 : decode cX9_init 47 = .ok (.iload_n 2, 1) := by decide +kernel
theorem dX9_init_48 : decode cX9_init 48 = .ok (.iconst 1, 1) := by decide +kernel
theorem dX9_init_49 : decode cX9_init 49 = .ok (.iadd, 1) := by decide +kernel
theorem dX9_init_50 : decode cX9_init 50 = .ok (.newarray .long, 2) := by decide +kernel
theorem dX9_init_52 : decode cX9_init 52 = .ok (.putfield 33, 3) := by decide +kernel
theorem dX9_init_55 : decode cX9_init 55 = .ok (.return_, 1) := by decide +kernel
theorem dX9_cutText_0 : decode cX9_cutText 0 = .ok (.aload_n 0, 1) := by decide +kernel
theorem dX9_cutText_1 : decode cX9_cutText 1 = .ok (.invokevirtual 36, 3) := by decide +kernel
theorem dX9_cutText_4 : decode cX9_cutText 4 = .ok (.iconst 0, 1) := by decide +kernel
theorem dX9_cutText_5 : decode cX9_cutText 5 = .ok (.istore_n 1, 1) := by decide +kernel
theorem dX9_cutText_6 : decode cX9_cutText 6 = .ok (.iconst 0, 1) := by decide +kernel
theorem dX9_cutText_7 : decode cX9_cutText 7 = .ok (.istore_n 2, 1) := by decide +kernel
theorem dX9_cutText_8 : decode cX9_cutText 8 = .ok (.iload_n 2, 1) := by decide +kernel
theorem dX9_cutText_9 : decode cX9_cutText 9 = .ok (.aload_n 0, 1) := by decide +kernel
theorem dX9_cutText_10 : decode cX9_cutText 10 = .ok (.getfield 23, 3) := by decide +kernel
theorem dX9_cutText_13 : decode cX9_cutText 13 = .ok (.if_icmp .ge 99, 3) := by decide +kernel
theorem dX9_cutText_16 : decode cX9_cutText 16 = .ok (.iload_n 1, 1) := by decide +kernel
theorem dX9_cutText_17 : decode cX9_cutText 17 = .ok (.aload_n 0, 1) := by decide +kernel
theorem dX9_cutText_18 : decode cX9_cutText 18 = .ok (.getfield 23, 3) := by decide +kernel
theorem dX9_cutText_21 : decode cX9_cutText 21 = .ok (.if_icmp .ge 91, 3) := by decide +kernel
theorem dX9_cutText_24 : decode cX9_cutText 24 = .ok (.aload_n 0, 1) := by decide +kernel
theorem dX9_cutText_25 : decode cX9_cutText 25 = .ok (.getfield 19, 3) := by decide +kernel
theorem dX9_cutText_28 : decode cX9_cutText 28 = .ok (.iload_n 1, 1) := by decide +kernel
theorem dX9_cutText_29 : decode cX9_cutText 29 = .ok (.baload, 1) := by decide +kernel
theorem dX9_cutText_30 : decode cX9_cutText 30 = .ok (.istore_n 3, 1) := by decide +kernel
theorem dX9_cutText_31 : decode cX9_cutText 31 = .ok (.iload_n 3, 1) := by decide +kernel
theorem dX9_cutText_32 : decode cX9_cutText 32 = .ok (.bipush 10, 2) := by decide +kernel
theorem dX9_cutText_34 : decode cX9_cutText 34 = .ok (.if_icmp .eq 9, 3) := by decide +kernel
theorem dX9_cutText_37 : decode cX9_cutText 37 = .ok (.iload_n 3, 1) := by decide +kernel
theorem dX9_cutText_38 : decode cX9_cutText 38 = .ok (.bipush 32, 2) := by decide +kernel
theorem dX9_cutText_40 : decode cX9_cutText 40 = .ok (.if_icmp .ne 9, 3) := by decide +kernel
theorem dX9_cutText_43 : decode cX9_cutText 43 = .ok (.iinc 1 1, 3) := by decide +kernel
theorem dX9_cutText_46 : decode cX9_cutText 46 = .ok (.goto 60, 3) := by decide +kernel
theorem dX9_cutText_49 : decode cX9_cutText 49 = .ok (.iload_n 3, 1) := by decide +kernel
theorem dX9_cutText_50 : decode cX9_cutText 50 = .ok (.invokestatic 39, 3) := by decide +kernel
theorem dX9_cutText_53 : decode cX9_cutText 53 = .ok (.ifCond .eq 12, 3) := by decide +kernel
theorem dX9_cutText_56 : decode cX9_cutText 56 = .ok (.aload_n 0, 1) := by decide +kernel
theorem dX9_cutText_57 : decode cX9_cutText 57 = .ok (.iload_n 1, 1) := by decide +kernel
theorem dX9_cutText_58 : decode cX9_cutText 58 = .ok (.invokevirtual 43, 3) := by decide +kernel
theorem dX9_cutText_61 : decode cX9_cutText 61 = .ok (.istore_n 1, 1) := by decide +kernel
theorem dX9_cutText_62 : decode cX9_cutText 62 = .ok (.goto 44, 3) := by decide +kernel
theorem dX9_cutText_65 : decode cX9_cutText 65 = .ok (.iload_n 3, 1) := by decide +kernel
theorem dX9_cutText_66 : decode cX9_cutText 66 = .ok (.invokestatic 47, 3) := by decide +kernel
theorem dX9_cutText_69 : decode cX9_cutText 69 = .ok (.ifCond .eq 12, 3) := by decide +kernel
theorem dX9_cutText_72 : decode cX9_cutText 72 = .ok (.aload_n 0, 1) := by decide +kernel
theorem dX9_cutText_73 : decode cX9_cutText 73 = .ok (.iload_n 1, 1) := by decide +kernel
theorem dX9_cutText_74 : decode cX9_cutText 74 = .ok (.invokevirtual 50, 3) := by decide +kernel
theorem dX9_cutText_77 : decode cX9_cutText 77 = .ok (.istore_n 1, 1) := by decide +kernel
theorem dX9_cutText_78 : decode cX9_cutText 78 = .ok (.goto 28, 3) := by decide +kernel
theorem dX9_cutText_81 : decode cX9_cutText 81 = .ok (.aload_n 0, 1) := by decide +kernel
theorem dX9_cutText_82 : decode cX9_cutText 82 = .ok (.ldc 53, 2) := by decide +kernel
theorem dX9_cutText_84 : decode cX9_cutText 84 = .ok (.iload_n 3, 1) := by decide +kernel
theorem dX9_cutText_85 : decode cX9_cutText 85 = .ok (.i2c, 1) := by decide +kernel
theorem dX9_cutText_86 : decode cX9_cutText 86 = .ok (.invokevirtual 55, 3) := by decide +kernel
theorem dX9_cutText_89 : decode cX9_cutText 89 = .ok (.ifCond .ge 8, 3) := by decide +kernel
theorem dX9_cutText_92 : decode cX9_cutText 92 = .ok (.bipush 13, 2) := by decide +kernel
theorem dX9_cutText_94 : decode cX9_cutText 94 = .ok (.goto 4, 3) := by decide +kernel
theorem dX9_cutText_97 : decode cX9_cutText 97 = .ok (.iload_n 3, 1) := by decide +kernel
theorem dX9_cutText_98 : decode cX9_cutText 98 = .ok (.iload_n 1, 1) := by decide +kernel
theorem dX9_cutText_99 : decode cX9_cutText 99 = .ok (.lconst 0, 1) := by decide +kernel
theorem dX9_cutText_100 : decode cX9_cutText 100 = .ok (.invokevirtual 60, 3) := by decide +kernel
theorem dX9_cutText_103 : decode cX9_cutText 103 = .ok (.iinc 1 1, 3) := by decide +kernel
theorem dX9_cutText_106 : decode cX9_cutText 106 = .ok (.iinc 2 1, 3) := by decide +kernel
theorem dX9_cutText_109 : decode cX9_cutText 109 = .ok (.goto (-101), 3) := by decide +kernel
theorem dX9_cutText_112 : decode cX9_cutText 112 = .ok (.aload_n 0, 1) := by decide +kernel
theorem dX9_cutText_113 : decode cX9_cutText 113 = .ok (.bipush 14, 2) := by decide +kernel
theorem dX9_cutText_115 : decode cX9_cutText 115 = .ok (.aload_n 0, 1) := by decide +kernel
theorem dX9_cutText_116 : decode cX9_cutText 116 = .ok (.getfield 23, 3) := by decide +kernel
theorem dX9_cutText_119 : decode cX9_cutText 119 = .ok (.lconst 0, 1) := by decide +kernel
theorem dX9_cutText_120 : decode cX9_cutText 120 = .ok (.invokevirtual 60, 3) := by decide +kernel
theorem dX9_cutText_123 : decode cX9_cutText 123 = .ok (.aload_n 0, 1) := by decide +kernel
theorem dX9_cutText_124 : decode cX9_cutText 124 = .ok (.invokevirtual 64, 3) := by decide +kernel
theorem dX9_cutText_127 : decode cX9_cutText 127 = .ok (.return_, 1) := by decide +kernel
theorem dX9_toNext_0 : decode cX9_toNext 0 = .ok (.aload_n 0, 1) := by decide +kernel
theorem dX9_toNext_1 : decode cX9_toNext 1 = .ok (.getfield 67, 3) := by decide +kernel
theorem dX9_toNext_4 : decode cX9_toNext 4 = .ok (.aload_n 0, 1) := by decide +kernel
theorem dX9_toNext_5 : decode cX9_toNext 5 = .ok (.getfield 70, 3) := by decide +kernel
theorem dX9_toNext_8 : decode cX9_toNext 8 = .ok (.if_icmp .ge 52, 3) := by decide +kernel
theorem dX9_toNext_11 : decode cX9_toNext 11 = .ok (.aload_n 0, 1) := by decide +kernel
theorem dX9_toNext_12 : decode cX9_toNext 12 = .ok (.aload_n 0, 1) := by decide +kernel
theorem dX9_toNext_13 : decode cX9_toNext 13 = .ok (.getfield 26, 3) := by decide +kernel
theorem dX9_toNext_16 : decode cX9_toNext 16 = .ok (.aload_n 0, 1) := by decide +kernel
theorem dX9_toNext_17 : decode cX9_toNext 17 = .ok (.getfield 67, 3) := by decide +kernel
theorem dX9_toNext_20 : decode cX9_toNext 20 = .ok (.iaload, 1) := by decide +kernel
theorem dX9_toNext_21 : decode cX9_toNext 21 = .ok (.putfield 15, 3) := by decide +kernel
theorem dX9_toNext_24 : decode cX9_toNext 24 = .ok (.aload_n 0, 1) := by decide +kernel
theorem dX9_toNext_25 : decode cX9_toNext 25 = .ok (.aload_n 0, 1) := by decide +kernel
theorem dX9_toNext_26 : decode cX9_toNext 26 = .ok (.getfield 30, 3) := by decide +kernel
theorem dX9_toNext_29 : decode cX9_toNext 29 = .ok (.aload_n 0, 1) := by decide +kernel
theorem dX9_toNext_30 : decode cX9_toNext 30 = .ok (.getfield 67, 3) := by decide +kernel
theorem dX9_toNext_33 : decode cX9_toNext 33 = .ok (.iaload, 1) := by decide +kernel
theorem dX9_toNext_34 : decode cX9_toNext 34 = .ok (.putfield 73, 3) := by decide +kernel
theorem dX9_toNext_37 : decode cX9_toNext 37 = .ok (.aload_n 0, 1) := by decide +kernel
theorem dX9_toNext_38 : decode cX9_toNext 38 = .ok (.aload_n 0, 1) := by decide +kernel
theorem dX9_toNext_39 : decode cX9_toNext 39 = .ok (.getfield 33, 3) := by decide +kernel
theorem dX9_toNext_42 : decode cX9_toNext 42 = .ok (.aload_n 0, 1) := by decide +kernel
theorem dX9_toNext_43 : decode cX9_toNext 43 = .ok (.getfield 67, 3) := by decide +kernel
theorem dX9_toNext_46 : decode cX9_toNext 46 = .ok (.laload, 1) := by decide +kernel
theorem dX9_toNext_47 : decode cX9_toNext 47 = .ok (.putfield 76, 3) := by decide +kernel
theorem dX9_toNext_50 : decode cX9_toNext 50 = .ok (.aload_n 0, 1) := by decide +kernel
theorem dX9_toNext_51 : decode cX9_toNext 51 = .ok (.dup, 1) := by decide +kernel
theorem dX9_toNext_52 : decode cX9_toNext 52 = .ok (.getfield 67, 3) := by decide +kernel
theorem dX9_toNext_55 : decode cX9_toNext 55 = .ok (.iconst 1, 1) := by decide +kernel
theorem dX9_toNext_56 : decode cX9_toNext 56 = .ok (.iadd, 1) := by decide +kernel
theorem dX9_toNext_57 : decode cX9_toNext 57 = .ok (.putfield 67, 3) := by decide +kernel
theorem dX9_toNext_60 : decode cX9_toNext 60 = .ok (.return_, 1) := by decide +kernel
theorem dX9_tellsClause_0 : decode cX9_tellsClause 0 = .ok (.iload_n 1, 1) := by decide +kernel
theorem dX9_tellsClause_1 : decode cX9_tellsClause 1 = .ok (.iconst 1, 1) := by decide +kernel
theorem dX9_tellsClause_2 : decode cX9_tellsClause 2 = .ok (.if_icmp .lt 38, 3) := by decide +kernel
theorem dX9_tellsClause_5 : decode cX9_tellsClause 5 = .ok (.iload_n 1, 1) := by decide +kernel
theorem dX9_tellsClause_6 : decode cX9_tellsClause 6 = .ok (.aload_n 0, 1) := by decide +kernel
theorem dX9_tellsClause_7 : decode cX9_tellsClause 7 = .ok (.getfield 70, 3) := by decide +kernel
theorem dX9_tellsClause_10 : decode cX9_tellsClause 10 = .ok (.if_icmp .ge 30, 3) := by decide +kernel
theorem dX9_tellsClause_13 : decode cX9_tellsClause 13 = .ok (.aload_n 0, 1) := by decide +kernel
theorem dX9_tellsClause_14 : decode cX9_tellsClause 14 = .ok (.getfield 26, 3) := by decide +kernel
theorem dX9_tellsClause_17 : decode cX9_tellsClause 17 = .ok (.iload_n 1, 1) := by decide +kernel
theorem dX9_tellsClause_18 : decode cX9_tellsClause 18 = .ok (.iaload, 1) := by decide +kernel
theorem dX9_tellsClause_19 : decode cX9_tellsClause 19 = .ok (.bipush 11, 2) := by decide +kernel
theorem dX9_tellsClause_21 : decode cX9_tellsClause 21 = .ok (.if_icmp .gt 19, 3) := by decide +kernel
theorem dX9_tellsClause_24 : decode cX9_tellsClause 24 = .ok (.aload_n 0, 1) := by decide +kernel
theorem dX9_tellsClause_25 : decode cX9_tellsClause 25 = .ok (.getfield 26, 3) := by decide +kernel
theorem dX9_tellsClause_28 : decode cX9_tellsClause 28 = .ok (.iload_n 1, 1) := by decide +kernel
theorem dX9_tellsClause_29 : decode cX9_tellsClause 29 = .ok (.iconst 1, 1) := by decide +kernel
theorem dX9_tellsClause_30 : decode cX9_tellsClause 30 = .ok (.isub, 1) := by decide +kernel
theorem dX9_tellsClause_31 : decode cX9_tellsClause 31 = .ok (.iaload, 1) := by decide +kernel
theorem dX9_tellsClause_32 : decode cX9_tellsClause 32 = .ok (.iconst 2, 1) := by decide +kernel
theorem dX9_tellsClause_33 : decode cX9_tellsClause 33 = .ok (.if_icmp .ne 7, 3) := by decide +kernel
theorem dX9_tellsClause_36 : decode cX9_tellsClause 36 = .ok (.iconst 1, 1) := by decide +kernel
theorem dX9_tellsClause_37 : decode cX9_tellsClause 37 = .ok (.goto 4, 3) := by decide +kernel
theorem dX9_tellsClause_40 : decode cX9_tellsClause 40 = .ok (.iconst 0, 1) := by decide +kernel
theorem dX9_tellsClause_41 : decode cX9_tellsClause 41 = .ok (.ireturn, 1) := by decide +kernel
theorem dX9_keep_0 : decode cX9_keep 0 = .ok (.aload_n 0, 1) := by decide +kernel
theorem dX9_keep_1 : decode cX9_keep 1 = .ok (.getfield 70, 3) := by decide +kernel
theorem dX9_keep_4 : decode cX9_keep 4 = .ok (.aload_n 0, 1) := by decide +kernel
theorem dX9_keep_5 : decode cX9_keep 5 = .ok (.getfield 26, 3) := by decide +kernel
theorem dX9_keep_8 : decode cX9_keep 8 = .ok (.arraylength, 1) := by decide +kernel
theorem dX9_keep_9 : decode cX9_keep 9 = .ok (.if_icmp .ge 43, 3) := by decide +kernel
theorem dX9_keep_12 : decode cX9_keep 12 = .ok (.aload_n 0, 1) := by decide +kernel
theorem dX9_keep_13 : decode cX9_keep 13 = .ok (.getfield 26, 3) := by decide +kernel
theorem dX9_keep_16 : decode cX9_keep 16 = .ok (.aload_n 0, 1) := by decide +kernel
theorem dX9_keep_17 : decode cX9_keep 17 = .ok (.getfield 70, 3) := by decide +kernel
theorem dX9_keep_20 : decode cX9_keep 20 = .ok (.iload_n 1, 1) := by decide +kernel
theorem dX9_keep_21 : decode cX9_keep 21 = .ok (.iastore, 1) := by decide +kernel
theorem dX9_keep_22 : decode cX9_keep 22 = .ok (.aload_n 0, 1) := by decide +kernel
theorem dX9_keep_23 : decode cX9_keep 23 = .ok (.getfield 30, 3) := by decide +kernel
theorem dX9_keep_26 : decode cX9_keep 26 = .ok (.aload_n 0, 1) := by decide +kernel
theorem dX9_keep_27 : decode cX9_keep 27 = .ok (.getfield 70, 3) := by decide +kernel
theorem dX9_keep_30 : decode cX9_keep 30 = .ok (.iload_n 2, 1) := by decide +kernel
theorem dX9_keep_31 : decode cX9_keep 31 = .ok (.iastore, 1) := by decide +kernel
theorem dX9_keep_32 : decode cX9_keep 32 = .ok (.aload_n 0, 1) := by decide +kernel
theorem dX9_keep_33 : decode cX9_keep 33 = .ok (.getfield 33, 3) := by decide +kernel
theorem dX9_keep_36 : decode cX9_keep 36 = .ok (.aload_n 0, 1) := by decide +kernel
theorem dX9_keep_37 : decode cX9_keep 37 = .ok (.getfield 70, 3) := by decide +kernel
theorem dX9_keep_40 : decode cX9_keep 40 = .ok (.lload_n 3, 1) := by decide +kernel
theorem dX9_keep_41 : decode cX9_keep 41 = .ok (.lastore, 1) := by decide +kernel
theorem dX9_keep_42 : decode cX9_keep 42 = .ok (.aload_n 0, 1) := by decide +kernel
theorem dX9_keep_43 : decode cX9_keep 43 = .ok (.dup, 1) := by decide +kernel
theorem dX9_keep_44 : decode cX9_keep 44 = .ok (.getfield 70, 3) := by decide +kernel
theorem dX9_keep_47 : decode cX9_keep 47 = .ok (.iconst 1, 1) := by decide +kernel
theorem dX9_keep_48 : decode cX9_keep 48 = .ok (.iadd, 1) := by decide +kernel
theorem dX9_keep_49 : decode cX9_keep 49 = .ok (.putfield 70, 3) := by decide +kernel
theorem dX9_keep_52 : decode cX9_keep 52 = .ok (.return_, 1) := by decide +kernel
theorem dX9_cutLetters_0 : decode cX9_cutLetters 0 = .ok (.lconst 0, 1) := by decide +kernel
theorem dX9_cutLetters_1 : decode cX9_cutLetters 1 = .ok (.lstore_n 2, 1) := by decide +kernel
theorem dX9_cutLetters_2 : decode cX9_cutLetters 2 = .ok (.iload_n 1, 1) := by decide +kernel
theorem dX9_cutLetters_3 : decode cX9_cutLetters 3 = .ok (.istore 4, 2) := by decide +kernel
theorem dX9_cutLetters_5 : decode cX9_cutLetters 5 = .ok (.iload 4, 2) := by decide +kernel
theorem dX9_cutLetters_7 : decode cX9_cutLetters 7 = .ok (.aload_n 0, 1) := by decide +kernel
theorem dX9_cutLetters_8 : decode cX9_cutLetters 8 = .ok (.getfield 23, 3) := by decide +kernel
theorem dX9_cutLetters_11 : decode cX9_cutLetters 11 = .ok (.if_icmp .ge 34, 3) := by decide +kernel
theorem dX9_cutLetters_14 : decode cX9_cutLetters 14 = .ok (.aload_n 0, 1) := by decide +kernel
theorem dX9_cutLetters_15 : decode cX9_cutLetters 15 = .ok (.getfield 19, 3) := by decide +kernel
theorem dX9_cutLetters_18 : decode cX9_cutLetters 18 = .ok (.iload 4, 2) := by decide +kernel
theorem dX9_cutLetters_20 : decode cX9_cutLetters 20 = .ok (.baload, 1) := by decide +kernel
theorem dX9_cutLetters_21 : decode cX9_cutLetters 21 = .ok (.invokestatic 39, 3) := by decide +kernel
theorem dX9_cutLetters_24 : decode cX9_cutLetters 24 = .ok (.ifCond .eq 21, 3) := by decide +kernel
theorem dX9_cutLetters_27 : decode cX9_cutLetters 27 = .ok (.lload_n 2, 1) := by decide +kernel
theorem dX9_cutLetters_28 : decode cX9_cutLetters 28 = .ok (.aload_n 0, 1) := by decide +kernel
theorem dX9_cutLetters_29 : decode cX9_cutLetters 29 = .ok (.getfield 19, 3) := by decide +kernel
theorem dX9_cutLetters_32 : decode cX9_cutLetters 32 = .ok (.iload 4, 2) := by decide +kernel
theorem dX9_cutLetters_34 : decode cX9_cutLetters 34 = .ok (.baload, 1) := by decide +kernel
theorem dX9_cutLetters_35 : decode cX9_cutLetters 35 = .ok (.invokestatic 80, 3) := by decide +kernel
theorem dX9_cutLetters_38 : decode cX9_cutLetters 38 = .ok (.lstore_n 2, 1) := by decide +kernel
theorem dX9_cutLetters_39 : decode cX9_cutLetters 39 = .ok (.iinc 4 1, 3) := by decide +kernel
theorem dX9_cutLetters_42 : decode cX9_cutLetters 42 = .ok (.goto (-37), 3) := by decide +kernel
theorem dX9_cutLetters_45 : decode cX9_cutLetters 45 = .ok (.aload_n 0, 1) := by decide +kernel
theorem dX9_cutLetters_46 : decode cX9_cutLetters 46 = .ok (.iload 4, 2) := by decide +kernel
theorem dX9_cutLetters_48 : decode cX9_cutLetters 48 = .ok (.iload_n 1, 1) := by decide +kernel
theorem dX9_cutLetters_49 : decode cX9_cutLetters 49 = .ok (.isub, 1) := by decide +kernel
theorem dX9_cutLetters_50 : decode cX9_cutLetters 50 = .ok (.bipush 10, 2) := by decide +kernel
theorem dX9_cutLetters_52 : decode cX9_cutLetters 52 = .ok (.if_icmp .le 8, 3) := by decide +kernel
theorem dX9_cutLetters_55 : decode cX9_cutLetters 55 = .ok (.bipush 13, 2) := by decide +kernel
theorem dX9_cutLetters_57 : decode cX9_cutLetters 57 = .ok (.goto 8, 3) := by decide +kernel
theorem dX9_cutLetters_60 : decode cX9_cutLetters 60 = .ok (.aload_n 0, 1) := by decide +kernel
theorem dX9_cutLetters_61 : decode cX9_cutLetters 61 = .ok (.lload_n 2, 1) := by decide +kernel
theorem dX9_cutLetters_62 : decode cX9_cutLetters 62 = .ok (.invokevirtual 84, 3) := by decide +kernel
theorem dX9_cutLetters_65 : decode cX9_cutLetters 65 = .ok (.iload_n 1, 1) := by decide +kernel
theorem dX9_cutLetters_66 : decode cX9_cutLetters 66 = .ok (.lload_n 2, 1) := by decide +kernel
theorem dX9_cutLetters_67 : decode cX9_cutLetters 67 = .ok (.invokevirtual 60, 3) := by decide +kernel
theorem dX9_cutLetters_70 : decode cX9_cutLetters 70 = .ok (.iload 4, 2) := by decide +kernel
theorem dX9_cutLetters_72 : decode cX9_cutLetters 72 = .ok (.ireturn, 1) := by decide +kernel
theorem dX9_cutDigits_0 : decode cX9_cutDigits 0 = .ok (.iconst 0, 1) := by decide +kernel
theorem dX9_cutDigits_1 : decode cX9_cutDigits 1 = .ok (.istore_n 2, 1) := by decide +kernel
theorem dX9_cutDigits_2 : decode cX9_cutDigits 2 = .ok (.iload_n 1, 1) := by decide +kernel
theorem dX9_cutDigits_3 : decode cX9_cutDigits 3 = .ok (.istore_n 3, 1) := by decide +kernel
theorem dX9_cutDigits_4 : decode cX9_cutDigits 4 = .ok (.iload_n 3, 1) := by decide +kernel
theorem dX9_cutDigits_5 : decode cX9_cutDigits 5 = .ok (.aload_n 0, 1) := by decide +kernel
theorem dX9_cutDigits_6 : decode cX9_cutDigits 6 = .ok (.getfield 23, 3) := by decide +kernel
theorem dX9_cutDigits_9 : decode cX9_cutDigits 9 = .ok (.if_icmp .ge 36, 3) := by decide +kernel
theorem dX9_cutDigits_12 : decode cX9_cutDigits 12 = .ok (.aload_n 0, 1) := by decide +kernel
theorem dX9_cutDigits_13 : decode cX9_cutDigits 13 = .ok (.getfield 19, 3) := by decide +kernel
theorem dX9_cutDigits_16 : decode cX9_cutDigits 16 = .ok (.iload_n 3, 1) := by decide +kernel
theorem dX9_cutDigits_17 : decode cX9_cutDigits 17 = .ok (.baload, 1) := by decide +kernel
theorem dX9_cutDigits_18 : decode cX9_cutDigits 18 = .ok (.invokestatic 47, 3) := by decide +kernel
theorem dX9_cutDigits_21 : decode cX9_cutDigits 21 = .ok (.ifCond .eq 24, 3) := by decide +kernel
theorem dX9_cutDigits_24 : decode cX9_cutDigits 24 = .ok (.iload_n 2, 1) := by decide +kernel
theorem dX9_cutDigits_25 : decode cX9_cutDigits 25 = .ok (.bipush 10, 2) := by decide +kernel
theorem dX9_cutDigits_27 : decode cX9_cutDigits 27 = .ok (.imul, 1) := by decide +kernel
theorem dX9_cutDigits_28 : decode cX9_cutDigits 28 = .ok (.aload_n 0, 1) := by decide +kernel
theorem dX9_cutDigits_29 : decode cX9_cutDigits 29 = .ok (.getfield 19, 3) := by decide +kernel
theorem dX9_cutDigits_32 : decode cX9_cutDigits 32 = .ok (.iload_n 3, 1) := by decide +kernel
theorem dX9_cutDigits_33 : decode cX9_cutDigits 33 = .ok (.baload, 1) := by decide +kernel
theorem dX9_cutDigits_34 : decode cX9_cutDigits 34 = .ok (.iadd, 1) := by decide +kernel
theorem dX9_cutDigits_35 : decode cX9_cutDigits 35 = .ok (.bipush 48, 2) := by decide +kernel
theorem dX9_cutDigits_37 : decode cX9_cutDigits 37 = .ok (.isub, 1) := by decide +kernel
theorem dX9_cutDigits_38 : decode cX9_cutDigits 38 = .ok (.istore_n 2, 1) := by decide +kernel
theorem dX9_cutDigits_39 : decode cX9_cutDigits 39 = .ok (.iinc 3 1, 3) := by decide +kernel
theorem dX9_cutDigits_42 : decode cX9_cutDigits 42 = .ok (.goto (-38), 3) := by decide +kernel
theorem dX9_cutDigits_45 : decode cX9_cutDigits 45 = .ok (.aload_n 0, 1) := by decide +kernel
theorem dX9_cutDigits_46 : decode cX9_cutDigits 46 = .ok (.iload_n 3, 1) := by decide +kernel
theorem dX9_cutDigits_47 : decode cX9_cutDigits 47 = .ok (.iload_n 1, 1) := by decide +kernel
theorem dX9_cutDigits_48 : decode cX9_cutDigits 48 = .ok (.isub, 1) := by decide +kernel
theorem dX9_cutDigits_49 : decode cX9_cutDigits 49 = .ok (.iconst 4, 1) := by decide +kernel
theorem dX9_cutDigits_50 : decode cX9_cutDigits 50 = .ok (.if_icmp .le 8, 3) := by decide +kernel
theorem dX9_cutDigits_53 : decode cX9_cutDigits 53 = .ok (.bipush 13, 2) := by decide +kernel
theorem dX9_cutDigits_55 : decode cX9_cutDigits 55 = .ok (.goto 5, 3) := by decide +kernel
theorem dX9_cutDigits_58 : decode cX9_cutDigits 58 = .ok (.bipush 12, 2) := by decide +kernel
theorem dX9_cutDigits_60 : decode cX9_cutDigits 60 = .ok (.iload_n 1, 1) := by decide +kernel
theorem dX9_cutDigits_61 : decode cX9_cutDigits 61 = .ok (.iload_n 2, 1) := by decide +kernel
theorem dX9_cutDigits_62 : decode cX9_cutDigits 62 = .ok (.i2l, 1) := by decide +kernel
theorem dX9_cutDigits_63 : decode cX9_cutDigits 63 = .ok (.invokevirtual 60, 3) := by decide +kernel
theorem dX9_cutDigits_66 : decode cX9_cutDigits 66 = .ok (.iload_n 3, 1) := by decide +kernel
theorem dX9_cutDigits_67 : decode cX9_cutDigits 67 = .ok (.ireturn, 1) := by decide +kernel
theorem dX9_kindOfWord_0 : decode cX9_kindOfWord 0 = .ok (.iconst 0, 1) := by decide +kernel
theorem dX9_kindOfWord_1 : decode cX9_kindOfWord 1 = .ok (.istore_n 3, 1) := by decide +kernel
theorem dX9_kindOfWord_2 : decode cX9_kindOfWord 2 = .ok (.iload_n 3, 1) := by decide +kernel
theorem dX9_kindOfWord_3 : decode cX9_kindOfWord 3 = .ok (.bipush 11, 2) := by decide +kernel
theorem dX9_kindOfWord_5 : decode cX9_kindOfWord 5 = .ok (.if_icmp .ge 22, 3) := by decide +kernel
theorem dX9_kindOfWord_8 : decode cX9_kindOfWord 8 = .ok (.aload_n 0, 1) := by decide +kernel
theorem dX9_kindOfWord_9 : decode cX9_kindOfWord 9 = .ok (.getfield 11, 3) := by decide +kernel
theorem dX9_kindOfWord_12 : decode cX9_kindOfWord 12 = .ok (.iload_n 3, 1) := by decide +kernel
theorem dX9_kindOfWord_13 : decode cX9_kindOfWord 13 = .ok (.laload, 1) := by decide +kernel
theorem dX9_kindOfWord_14 : decode cX9_kindOfWord 14 = .ok (.lload_n 1, 1) := by decide +kernel
theorem dX9_kindOfWord_15 : decode cX9_kindOfWord 15 = .ok (.lcmp, 1) := by decide +kernel
theorem dX9_kindOfWord_16 : decode cX9_kindOfWord 16 = .ok (.ifCond .ne 5, 3) := by decide +kernel
theorem dX9_kindOfWord_19 : decode cX9_kindOfWord 19 = .ok (.iload_n 3, 1) := by decide +kernel
theorem dX9_kindOfWord_20 : decode cX9_kindOfWord 20 = .ok (.ireturn, 1) := by decide +kernel
theorem dX9_kindOfWord_21 : decode cX9_kindOfWord 21 = .ok (.iinc 3 1, 3) := by decide +kernel
theorem dX9_kindOfWord_24 : decode cX9_kindOfWord 24 = .ok (.goto (-22), 3) := by decide +kernel
theorem dX9_kindOfWord_27 : decode cX9_kindOfWord 27 = .ok (.bipush 11, 2) := by decide +kernel
theorem dX9_kindOfWord_29 : decode cX9_kindOfWord 29 = .ok (.ireturn, 1) := by decide +kernel
theorem dX9_packReserved_0 : decode cX9_packReserved 0 = .ok (.lconst 0, 1) := by decide +kernel
theorem dX9_packReserved_1 : decode cX9_packReserved 1 = .ok (.lstore_n 1, 1) := by decide +kernel
theorem dX9_packReserved_2 : decode cX9_packReserved 2 = .ok (.iconst 0, 1) := by decide +kernel
theorem dX9_packReserved_3 : decode cX9_packReserved 3 = .ok (.istore_n 3, 1) := by decide +kernel
theorem dX9_packReserved_4 : decode cX9_packReserved 4 = .ok (.iconst 0, 1) := by decide +kernel
theorem dX9_packReserved_5 : decode cX9_packReserved 5 = .ok (.istore 4, 2) := by decide +kernel
theorem dX9_packReserved_7 : decode cX9_packReserved 7 = .ok (.iload 4, 2) := by decide +kernel
theorem dX9_packReserved_9 : decode cX9_packReserved 9 = .ok (.ldc 88, 2) := by decide +kernel
theorem dX9_packReserved_11 : decode cX9_packReserved 11 = .ok (.invokevirtual 90, 3) := by decide +kernel
theorem dX9_packReserved_14 : decode cX9_packReserved 14 = .ok (.if_icmp .ge 54, 3) := by decide +kernel
theorem dX9_packReserved_17 : decode cX9_packReserved 17 = .ok (.iload_n 3, 1) := by decide +kernel
theorem dX9_packReserved_18 : decode cX9_packReserved 18 = .ok (.bipush 11, 2) := by decide +kernel
theorem dX9_packReserved_20 : decode cX9_packReserved 20 = .ok (.if_icmp .ge 48, 3) := by decide +kernel
theorem dX9_packReserved_23 : decode cX9_packReserved 23 = .ok (.ldc 88, 2) := by decide +kernel
theorem dX9_packReserved_25 : decode cX9_packReserved 25 = .ok (.iload 4, 2) := by decide +kernel
theorem dX9_packReserved_27 : decode cX9_packReserved 27 = .ok (.invokevirtual 94, 3) := by decide +kernel
theorem dX9_packReserved_30 : decode cX9_packReserved 30 = .ok (.bipush 32, 2) := by decide +kernel
theorem dX9_packReserved_32 : decode cX9_packReserved 32 = .ok (.if_icmp .ne 18, 3) := by decide +kernel
theorem dX9_packReserved_35 : decode cX9_packReserved 35 = .ok (.aload_n 0, 1) := by decide +kernel
theorem dX9_packReserved_36 : decode cX9_packReserved 36 = .ok (.getfield 11, 3) := by decide +kernel
theorem dX9_packReserved_39 : decode cX9_packReserved 39 = .ok (.iload_n 3, 1) := by decide +kernel
theorem dX9_packReserved_40 : decode cX9_packReserved 40 = .ok (.lload_n 1, 1) := by decide +kernel
theorem dX9_packReserved_41 : decode cX9_packReserved 41 = .ok (.lastore, 1) := by decide +kernel
theorem dX9_packReserved_42 : decode cX9_packReserved 42 = .ok (.iinc 3 1, 3) := by decide +kernel
theorem dX9_packReserved_45 : decode cX9_packReserved 45 = .ok (.lconst 0, 1) := by decide +kernel
theorem dX9_packReserved_46 : decode cX9_packReserved 46 = .ok (.lstore_n 1, 1) := by decide +kernel
theorem dX9_packReserved_47 : decode cX9_packReserved 47 = .ok (.goto 15, 3) := by decide +kernel
theorem dX9_packReserved_50 : decode cX9_packReserved 50 = .ok (.lload_n 1, 1) := by decide +kernel
theorem dX9_packReserved_51 : decode cX9_packReserved 51 = .ok (.ldc 88, 2) := by decide +kernel
theorem dX9_packReserved_53 : decode cX9_packReserved 53 = .ok (.iload 4, 2) := by decide +kernel
theorem dX9_packReserved_55 : decode cX9_packReserved 55 = .ok (.invokevirtual 94, 3) := by decide +kernel
theorem dX9_packReserved_58 : decode cX9_packReserved 58 = .ok (.invokestatic 80, 3) := by decide +kernel
theorem dX9_packReserved_61 : decode cX9_packReserved 61 = .ok (.lstore_n 1, 1) := by decide +kernel
theorem dX9_packReserved_62 : decode cX9_packReserved 62 = .ok (.iinc 4 1, 3) := by decide +kernel
theorem dX9_packReserved_65 : decode cX9_packReserved 65 = .ok (.goto (-58), 3) := by decide +kernel
theorem dX9_packReserved_68 : decode cX9_packReserved 68 = .ok (.return_, 1) := by decide +kernel
theorem dX9_packLetter_0 : decode cX9_packLetter 0 = .ok (.lload_n 0, 1) := by decide +kernel
theorem dX9_packLetter_1 : decode cX9_packLetter 1 = .ok (.ldc2_w 98, 3) := by decide +kernel
theorem dX9_packLetter_4 : decode cX9_packLetter 4 = .ok (.lmul, 1) := by decide +kernel
theorem dX9_packLetter_5 : decode cX9_packLetter 5 = .ok (.iload_n 2, 1) := by decide +kernel
theorem dX9_packLetter_6 : decode cX9_packLetter 6 = .ok (.i2l, 1) := by decide +kernel
theorem dX9_packLetter_7 : decode cX9_packLetter 7 = .ok (.ladd, 1) := by decide +kernel
theorem dX9_packLetter_8 : decode cX9_packLetter 8 = .ok (.ldc2_w 100, 3) := by decide +kernel
theorem dX9_packLetter_11 : decode cX9_packLetter 11 = .ok (.lsub, 1) := by decide +kernel
theorem dX9_packLetter_12 : decode cX9_packLetter 12 = .ok (.lconst 1, 1) := by decide +kernel
theorem dX9_packLetter_13 : decode cX9_packLetter 13 = .ok (.ladd, 1) := by decide +kernel
theorem dX9_packLetter_14 : decode cX9_packLetter 14 = .ok (.lreturn, 1) := by decide +kernel
theorem dX9_isLetter_0 : decode cX9_isLetter 0 = .ok (.iload_n 0, 1) := by decide +kernel
theorem dX9_isLetter_1 : decode cX9_isLetter 1 = .ok (.bipush 97, 2) := by decide +kernel
theorem dX9_isLetter_3 : decode cX9_isLetter 3 = .ok (.if_icmp .lt 13, 3) := by decide +kernel
theorem dX9_isLetter_6 : decode cX9_isLetter 6 = .ok (.iload_n 0, 1) := by decide +kernel
theorem dX9_isLetter_7 : decode cX9_isLetter 7 = .ok (.bipush 122, 2) := by decide +kernel
theorem dX9_isLetter_9 : decode cX9_isLetter 9 = .ok (.if_icmp .gt 7, 3) := by decide +kernel
theorem dX9_isLetter_12 : decode cX9_isLetter 12 = .ok (.iconst 1, 1) := by decide +kernel
theorem dX9_isLetter_13 : decode cX9_isLetter 13 = .ok (.goto 4, 3) := by decide +kernel
theorem dX9_isLetter_16 : decode cX9_isLetter 16 = .ok (.iconst 0, 1) := by decide +kernel
theorem dX9_isLetter_17 : decode cX9_isLetter 17 = .ok (.ireturn, 1) := by decide +kernel
theorem dX9_isDigit_0 : decode cX9_isDigit 0 = .ok (.iload_n 0, 1) := by decide +kernel
theorem dX9_isDigit_1 : decode cX9_isDigit 1 = .ok (.bipush 48, 2) := by decide +kernel
theorem dX9_isDigit_3 : decode cX9_isDigit 3 = .ok (.if_icmp .lt 13, 3) := by decide +kernel
theorem dX9_isDigit_6 : decode cX9_isDigit 6 = .ok (.iload_n 0, 1) := by decide +kernel
theorem dX9_isDigit_7 : decode cX9_isDigit 7 = .ok (.bipush 57, 2) := by decide +kernel
theorem dX9_isDigit_9 : decode cX9_isDigit 9 = .ok (.if_icmp .gt 7, 3) := by decide +kernel
theorem dX9_isDigit_12 : decode cX9_isDigit 12 = .ok (.iconst 1, 1) := by decide +kernel
theorem dX9_isDigit_13 : decode cX9_isDigit 13 = .ok (.goto 4, 3) := by decide +kernel
theorem dX9_isDigit_16 : decode cX9_isDigit 16 = .ok (.iconst 0, 1) := by decide +kernel
theorem dX9_isDigit_17 : decode cX9_isDigit 17 = .ok (.ireturn, 1) := by decide +kernel
theorem dX10_init_0 : decode cX10_init 0 = .ok (.aload_n 0, 1) := by decide +kernel
theorem dX10_init_1 : decode cX10_init 1 = .ok (.invokespecial 1, 3) := by decide +kernel
theorem dX10_init_4 : decode cX10_init 4 = .ok (.aload_n 0, 1) := by decide +kernel
theorem dX10_init_5 : decode cX10_init 5 = .ok (.sipush 2400, 3) := by decide +kernel
theorem dX10_init_8 : decode cX10_init 8 = .ok (.newarray .byte, 2) := by decide +kernel
theorem dX10_init_10 : decode cX10_init 10 = .ok (.putfield 9, 3) := by decide +kernel
theorem dX10_init_13 : decode cX10_init 13 = .ok (.aload_n 0, 1) := by decide +kernel
theorem dX10_init_14 : decode cX10_init 14 = .ok (.bipush 6, 2) := by decide +kernel
theorem dX10_init_16 : decode cX10_init 16 = .ok (.anewarray 13, 3) := by decide +kernel
theorem dX10_init_19 : decode cX10_init 19 = .ok (.putfield 15, 3) := by decide +kernel
theorem dX10_init_22 : decode cX10_init 22 = .ok (.aload_n 0, 1) := by decide +kernel
theorem dX10_init_23 : decode cX10_init 23 = .ok (.new 19, 3) := by decide +kernel
theorem dX10_init_26 : decode cX10_init 26 = .ok (.dup, 1) := by decide +kernel
theorem dX10_init_27 : decode cX10_init 27 = .ok (.invokespecial 21, 3) := by decide +kernel
theorem dX10_init_30 : decode cX10_init 30 = .ok (.putfield 22, 3) := by decide +kernel
theorem dX10_init_33 : decode cX10_init 33 = .ok (.aload_n 0, 1) := by decide +kernel
theorem dX10_init_34 : decode cX10_init 34 = .ok (.new 26, 3) := by decide +kernel
theorem dX10_init_37 : decode cX10_init 37 = .ok (.dup, 1) := by decide +kernel
theorem dX10_init_38 : decode cX10_init 38 = .ok (.invokespecial 28, 3) := by decide +kernel
theorem dX10_init_41 : decode cX10_init 41 = .ok (.putfield 29, 3) := by decide +kernel
theorem dX10_init_44 : decode cX10_init 44 = .ok (.aload_n 0, 1) := by decide +kernel
theorem dX10_init_45 : decode cX10_init 45 = .ok (.new 33, 3) := by decide +kernel
theorem dX10_init_48 : decode cX10_init 48 = .ok (.dup, 1) := by decide +kernel
theorem dX10_init_49 : decode cX10_init 49 = .ok (.invokespecial 35, 3) := by decide +kernel
theorem dX10_init_52 : decode cX10_init 52 = .ok (.putfield 36, 3) := by decide +kernel
theorem dX10_init_55 : decode cX10_init 55 = .ok (.aload_n 0, 1) := by decide +kernel
theorem dX10_init_56 : decode cX10_init 56 = .ok (.new 40, 3) := by decide +kernel
theorem dX10_init_59 : decode cX10_init 59 = .ok (.dup, 1) := by decide +kernel
theorem dX10_init_60 : decode cX10_init 60 = .ok (.invokespecial 42, 3) := by decide +kernel
theorem dX10_init_63 : decode cX10_init 63 = .ok (.putfield 43, 3) := by decide +kernel
theorem dX10_init_66 : decode cX10_init 66 = .ok (.return_, 1) := by decide +kernel
theorem dX10_feed_0 : decode cX10_feed 0 = .ok (.aload_n 0, 1) := by decide +kernel
theorem dX10_feed_1 : decode cX10_feed 1 = .ok (.lload_n 1, 1) := by decide +kernel
theorem dX10_feed_2 : decode cX10_feed 2 = .ok (.invokevirtual 47, 3) := by decide +kernel
theorem dX10_feed_5 : decode cX10_feed 5 = .ok (.aload_n 0, 1) := by decide +kernel
theorem dX10_feed_6 : decode cX10_feed 6 = .ok (.lload_n 3, 1) := by decide +kernel
theorem dX10_feed_7 : decode cX10_feed 7 = .ok (.invokevirtual 47, 3) := by decide +kernel
theorem dX10_feed_10 : decode cX10_feed 10 = .ok (.aload_n 0, 1) := by decide +kernel
theorem dX10_feed_11 : decode cX10_feed 11 = .ok (.lload 5, 2) := by decide +kernel
theorem dX10_feed_13 : decode cX10_feed 13 = .ok (.invokevirtual 47, 3) := by decide +kernel
theorem dX10_feed_16 : decode cX10_feed 16 = .ok (.aload_n 0, 1) := by decide +kernel
theorem dX10_feed_17 : decode cX10_feed 17 = .ok (.getfield 51, 3) := by decide +kernel
theorem dX10_feed_20 : decode cX10_feed 20 = .ok (.ireturn, 1) := by decide +kernel
theorem dX10_edition_0 : decode cX10_edition 0 = .ok (.aload_n 0, 1) := by decide +kernel
theorem dX10_edition_1 : decode cX10_edition 1 = .ok (.getfield 51, 3) := by decide +kernel
theorem dX10_edition_4 : decode cX10_edition 4 = .ok (.istore_n 2, 1) := by decide +kernel
theorem dX10_edition_5 : decode cX10_edition 5 = .ok (.aload_n 0, 1) := by decide +kernel
theorem dX10_edition_6 : decode cX10_edition 6 = .ok (.iconst 0, 1) := by decide +kernel
theorem dX10_edition_7 : decode cX10_edition 7 = .ok (.putfield 51, 3) := by decide +kernel
theorem dX10_edition_10 : decode cX10_edition 10 = .ok (.iload_n 1, 1) := by decide +kernel
theorem dX10_edition_11 : decode cX10_edition 11 = .ok (.invokestatic 55, 3) := by decide +kernel
theorem dX10_edition_14 : decode cX10_edition 14 = .ok (.ifCond .eq 20, 3) := by decide +kernel
theorem dX10_edition_17 : decode cX10_edition 17 = .ok (.aload_n 0, 1) := by decide +kernel
theorem dX10_edition_18 : decode cX10_edition 18 = .ok (.getfield 59, 3) := by decide +kernel
theorem dX10_edition_21 : decode cX10_edition 21 = .ok (.bipush 6, 2) := by decide +kernel
theorem dX10_edition_23 : decode cX10_edition 23 = .ok (.if_icmp .ge 11, 3) := by decide +kernel
theorem dX10_edition_26 : decode cX10_edition 26 = .ok (.iload_n 1, 1) := by decide +kernel
theorem dX10_edition_27 : decode cX10_edition 27 = .ok (.aload_n 0, 1) := by decide +kernel
theorem dX10_edition_28 : decode cX10_edition 28 = .ok (.invokevirtual 62, 3) := by decide +kernel
theorem dX10_edition_31 : decode cX10_edition 31 = .ok (.if_icmp .gt 5, 3) := by decide +kernel
theorem dX10_edition_34 : decode cX10_edition 34 = .ok (.iconst (-1), 1) := by decide +kernel
theorem dX10_edition_35 : decode cX10_edition 35 = .ok (.ireturn, 1) := by decide +kernel
theorem dX10_edition_36 : decode cX10_edition 36 = .ok (.new 13, 3) := by decide +kernel
theorem dX10_edition_39 : decode cX10_edition 39 = .ok (.dup, 1) := by decide +kernel
theorem dX10_edition_40 : decode cX10_edition 40 = .ok (.aload_n 0, 1) := by decide +kernel
theorem dX10_edition_41 : decode cX10_edition 41 = .ok (.getfield 59, 3) := by decide +kernel
theorem dX10_edition_44 : decode cX10_edition 44 = .ok (.iload_n 1, 1) := by decide +kernel
theorem dX10_edition_45 : decode cX10_edition 45 = .ok (.invokespecial 66, 3) := by decide +kernel
theorem dX10_edition_48 : decode cX10_edition 48 = .ok (.astore_n 3, 1) := by decide +kernel
theorem dX10_edition_49 : decode cX10_edition 49 = .ok (.new 69, 3) := by decide +kernel
theorem dX10_edition_52 : decode cX10_edition 52 = .ok (.dup, 1) := by decide +kernel
theorem dX10_edition_53 : decode cX10_edition 53 = .ok (.aload_n 0, 1) := by decide +kernel
theorem dX10_edition_54 : decode cX10_edition 54 = .ok (.getfield 9, 3) := by decide +kernel
theorem dX10_edition_57 : decode cX10_edition 57 = .ok (.iload_n 2, 1) := by decide +kernel
theorem dX10_edition_58 : decode cX10_edition 58 = .ok (.aload_n 3, 1) := by decide +kernel
theorem dX10_edition_59 : decode cX10_edition 59 = .ok (.invokespecial 71, 3) := by decide +kernel
theorem dX10_edition_62 : decode cX10_edition 62 = .ok (.invokevirtual 74, 3) := by decide +kernel
theorem dX10_edition_65 : decode cX10_edition 65 = .ok (.istore 4, 2) := by decide +kernel
theorem dX10_edition_67 : decode cX10_edition 67 = .ok (.iload 4, 2) := by decide +kernel
theorem dX10_edition_69 : decode cX10_edition 69 = .ok (.ifCond .eq 6, 3) := by decide +kernel
theorem dX10_edition_72 : decode cX10_edition 72 = .ok (.iload 4, 2) := by decide +kernel
theorem dX10_edition_74 : decode cX10_edition 74 = .ok (.ireturn, 1) := by decide +kernel
theorem dX10_edition_75 : decode cX10_edition 75 = .ok (.aload_n 0, 1) := by decide +kernel
theorem dX10_edition_76 : decode cX10_edition 76 = .ok (.getfield 15, 3) := by decide +kernel
theorem dX10_edition_79 : decode cX10_edition 79 = .ok (.aload_n 0, 1) := by decide +kernel
theorem dX10_edition_80 : decode cX10_edition 80 = .ok (.getfield 59, 3) := by decide +kernel
theorem dX10_edition_83 : decode cX10_edition 83 = .ok (.aload_n 3, 1) := by decide +kernel
theorem dX10_edition_84 : decode cX10_edition 84 = .ok (.aastore, 1) := by decide +kernel
theorem dX10_edition_85 : decode cX10_edition 85 = .ok (.aload_n 0, 1) := by decide +kernel
theorem dX10_edition_86 : decode cX10_edition 86 = .ok (.dup, 1) := by decide +kernel
theorem dX10_edition_87 : decode cX10_edition 87 = .ok (.getfield 59, 3) := by decide +kernel
theorem dX10_edition_90 : decode cX10_edition 90 = .ok (.iconst 1, 1) := by decide +kernel
theorem dX10_edition_91 : decode cX10_edition 91 = .ok (.iadd, 1) := by decide +kernel
theorem dX10_edition_92 : decode cX10_edition 92 = .ok (.putfield 59, 3) := by decide +kernel
theorem dX10_edition_95 : decode cX10_edition 95 = .ok (.aload_n 0, 1) := by decide +kernel
theorem dX10_edition_96 : decode cX10_edition 96 = .ok (.aload_n 3, 1) := by decide +kernel
theorem dX10_edition_97 : decode cX10_edition 97 = .ok (.invokevirtual 77, 3) := by decide +kernel
theorem dX10_edition_100 : decode cX10_edition 100 = .ok (.iconst 0, 1) := by decide +kernel
theorem dX10_edition_101 : decode cX10_edition 101 = .ok (.ireturn, 1) := by decide +kernel
theorem dX10_take_0 : decode cX10_take 0 = .ok (.aload_n 0, 1) := by decide +kernel
theorem dX10_take_1 : decode cX10_take 1 = .ok (.iload_n 1, 1) := by decide +kernel
theorem dX10_take_2 : decode cX10_take 2 = .ok (.invokevirtual 81, 3) := by decide +kernel
theorem dX10_take_5 : decode cX10_take 5 = .ok (.astore_n 2, 1) := by decide +kernel
theorem dX10_take_6 : decode cX10_take 6 = .ok (.aload_n 2, 1) := by decide +kernel
theorem dX10_take_7 : decode cX10_take 7 = .ok (.ifnonnull 5, 3) := by decide +kernel
theorem dX10_take_10 : decode cX10_take 10 = .ok (.iconst 0, 1) := by decide +kernel
theorem dX10_take_11 : decode cX10_take 11 = .ok (.ireturn, 1) := by decide +kernel
theorem dX10_take_12 : decode cX10_take 12 = .ok (.aload_n 0, 1) := by decide +kernel
theorem dX10_take_13 : decode cX10_take 13 = .ok (.aload_n 2, 1) := by decide +kernel
theorem dX10_take_14 : decode cX10_take 14 = .ok (.invokevirtual 77, 3) := by decide +kernel
theorem dX10_take_17 : decode cX10_take 17 = .ok (.iconst 1, 1) := by decide +kernel
theorem dX10_take_18 : decode cX10_take 18 = .ok (.ireturn, 1) := by decide +kernel
theorem dX10_inForce_0 : decode cX10_inForce 0 = .ok (.iload_n 1, 1) := by decide +kernel
theorem dX10_inForce_1 : decode cX10_inForce 1 = .ok (.invokestatic 55, 3) := by decide +kernel
theorem dX10_inForce_4 : decode cX10_inForce 4 = .ok (.ifCond .ne 5, 3) := by decide +kernel
theorem dX10_inForce_7 : decode cX10_inForce 7 = .ok (.iconst (-1), 1) := by decide +kernel
theorem dX10_inForce_8 : decode cX10_inForce 8 = .ok (.ireturn, 1) := by decide +kernel
theorem dX10_inForce_9 : decode cX10_inForce 9 = .ok (.aload_n 0, 1) := by decide +kernel
theorem dX10_inForce_10 : decode cX10_inForce 10 = .ok (.getfield 59, 3) := by decide +kernel
theorem dX10_inForce_13 : decode cX10_inForce 13 = .ok (.iconst 1, 1) := by decide +kernel
theorem dX10_inForce_14 : decode cX10_inForce 14 = .ok (.isub, 1) := by decide +kernel
theorem dX10_inForce_15 : decode cX10_inForce 15 = .ok (.istore_n 2, 1) := by decide +kernel
theorem dX10_inForce_16 : decode cX10_inForce 16 = .ok (.iload_n 2, 1) := by decide +kernel
theorem dX10_inForce_17 : decode cX10_inForce 17 = .ok (.ifCond .lt 34, 3) := by decide +kernel
theorem dX10_inForce_20 : decode cX10_inForce 20 = .ok (.aload_n 0, 1) := by decide +kernel
theorem dX10_inForce_21 : decode cX10_inForce 21 = .ok (.iload_n 2, 1) := by decide +kernel
theorem dX10_inForce_22 : decode cX10_inForce 22 = .ok (.invokevirtual 81, 3) := by decide +kernel
theorem dX10_inForce_25 : decode cX10_inForce 25 = .ok (.astore_n 3, 1) := by decide +kernel
theorem dX10_inForce_26 : decode cX10_inForce 26 = .ok (.aload_n 3, 1) := by decide +kernel
theorem dX10_inForce_27 : decode cX10_inForce 27 = .ok (.ifnull 18, 3) := by decide +kernel
theorem dX10_inForce_30 : decode cX10_inForce 30 = .ok (.aload_n 3, 1) := by decide +kernel
theorem dX10_inForce_31 : decode cX10_inForce 31 = .ok (.getfield 85, 3) := by decide +kernel
theorem dX10_inForce_34 : decode cX10_inForce 34 = .ok (.iload_n 1, 1) := by decide +kernel
theorem dX10_inForce_35 : decode cX10_inForce 35 = .ok (.if_icmp .gt 10, 3) := by decide +kernel
theorem dX10_inForce_38 : decode cX10_inForce 38 = .ok (.aload_n 0, 1) := by decide +kernel
theorem dX10_inForce_39 : decode cX10_inForce 39 = .ok (.aload_n 3, 1) := by decide +kernel
theorem dX10_inForce_40 : decode cX10_inForce 40 = .ok (.invokevirtual 77, 3) := by decide +kernel
theorem dX10_inForce_43 : decode cX10_inForce 43 = .ok (.iload_n 2, 1) := by decide +kernel
theorem dX10_inForce_44 : decode cX10_inForce 44 = .ok (.ireturn, 1) := by decide +kernel
theorem dX10_inForce_45 : decode cX10_inForce 45 = .ok (.iinc 2 (-1), 3) := by decide +kernel
theorem dX10_inForce_48 : decode cX10_inForce 48 = .ok (.goto (-32), 3) := by decide +kernel
theorem dX10_inForce_51 : decode cX10_inForce 51 = .ok (.iconst (-1), 1) := by decide +kernel
theorem dX10_inForce_52 : decode cX10_inForce 52 = .ok (.ireturn, 1) := by decide +kernel
theorem dX10_fact_0 : decode cX10_fact 0 = .ok (.aload_n 0, 1) := by decide +kernel
theorem dX10_fact_1 : decode cX10_fact 1 = .ok (.getfield 88, 3) := by decide +kernel
theorem dX10_fact_4 : decode cX10_fact 4 = .ok (.ifnull 40, 3) := by decide +kernel
theorem dX10_fact_7 : decode cX10_fact 7 = .ok (.aload_n 0, 1) := by decide +kernel
theorem dX10_fact_8 : decode cX10_fact 8 = .ok (.getfield 88, 3) := by decide +kernel
theorem dX10_fact_11 : decode cX10_fact 11 = .ok (.iload_n 1, 1) := by decide +kernel
theorem dX10_fact_12 : decode cX10_fact 12 = .ok (.invokevirtual 92, 3) := by decide +kernel
theorem dX10_fact_15 : decode cX10_fact 15 = .ok (.ifCond .eq 29, 3) := by decide +kernel
theorem dX10_fact_18 : decode cX10_fact 18 = .ok (.iload_n 2, 1) := by decide +kernel
theorem dX10_fact_19 : decode cX10_fact 19 = .ok (.aload_n 0, 1) := by decide +kernel
theorem dX10_fact_20 : decode cX10_fact 20 = .ok (.getfield 88, 3) := by decide +kernel
theorem dX10_fact_23 : decode cX10_fact 23 = .ok (.getfield 95, 3) := by decide +kernel
theorem dX10_fact_26 : decode cX10_fact 26 = .ok (.iload_n 1, 1) := by decide +kernel
theorem dX10_fact_27 : decode cX10_fact 27 = .ok (.iaload, 1) := by decide +kernel
theorem dX10_fact_28 : decode cX10_fact 28 = .ok (.if_icmp .lt 16, 3) := by decide +kernel
theorem dX10_fact_31 : decode cX10_fact 31 = .ok (.iload_n 2, 1) := by decide +kernel
theorem dX10_fact_32 : decode cX10_fact 32 = .ok (.aload_n 0, 1) := by decide +kernel
theorem dX10_fact_33 : decode cX10_fact 33 = .ok (.getfield 88, 3) := by decide +kernel
theorem dX10_fact_36 : decode cX10_fact 36 = .ok (.getfield 99, 3) := by decide +kernel
theorem dX10_fact_39 : decode cX10_fact 39 = .ok (.iload_n 1, 1) := by decide +kernel
theorem dX10_fact_40 : decode cX10_fact 40 = .ok (.iaload, 1) := by decide +kernel
theorem dX10_fact_41 : decode cX10_fact 41 = .ok (.if_icmp .le 5, 3) := by decide +kernel
theorem dX10_fact_44 : decode cX10_fact 44 = .ok (.iconst 0, 1) := by decide +kernel
theorem dX10_fact_45 : decode cX10_fact 45 = .ok (.ireturn, 1) := by decide +kernel
theorem dX10_fact_46 : decode cX10_fact 46 = .ok (.aload_n 0, 1) := by decide +kernel
theorem dX10_fact_47 : decode cX10_fact 47 = .ok (.getfield 22, 3) := by decide +kernel
theorem dX10_fact_50 : decode cX10_fact 50 = .ok (.getfield 102, 3) := by decide +kernel
theorem dX10_fact_53 : decode cX10_fact 53 = .ok (.iload_n 1, 1) := by decide +kernel
theorem dX10_fact_54 : decode cX10_fact 54 = .ok (.iload_n 2, 1) := by decide +kernel
theorem dX10_fact_55 : decode cX10_fact 55 = .ok (.iastore, 1) := by decide +kernel
theorem dX10_fact_56 : decode cX10_fact 56 = .ok (.iconst 1, 1) := by decide +kernel
theorem dX10_fact_57 : decode cX10_fact 57 = .ok (.ireturn, 1) := by decide +kernel
theorem dX10_world_0 : decode cX10_world 0 = .ok (.aload_n 0, 1) := by decide +kernel
theorem dX10_world_1 : decode cX10_world 1 = .ok (.getfield 88, 3) := by decide +kernel
theorem dX10_world_4 : decode cX10_world 4 = .ok (.ifnull 18, 3) := by decide +kernel
theorem dX10_world_7 : decode cX10_world 7 = .ok (.iload_n 1, 1) := by decide +kernel
theorem dX10_world_8 : decode cX10_world 8 = .ok (.ifCond .lt 14, 3) := by decide +kernel
theorem dX10_world_11 : decode cX10_world 11 = .ok (.iload_n 1, 1) := by decide +kernel
theorem dX10_world_12 : decode cX10_world 12 = .ok (.aload_n 0, 1) := by decide +kernel
theorem dX10_world_13 : decode cX10_world 13 = .ok (.getfield 88, 3) := by decide +kernel
theorem dX10_world_16 : decode cX10_world 16 = .ok (.getfield 105, 3) := by decide +kernel
theorem dX10_world_19 : decode cX10_world 19 = .ok (.if_icmp .lt 5, 3) := by decide +kernel
theorem dX10_world_22 : decode cX10_world 22 = .ok (.iconst 0, 1) := by decide +kernel
theorem dX10_world_23 : decode cX10_world 23 = .ok (.ireturn, 1) := by decide +kernel
theorem dX10_world_24 : decode cX10_world 24 = .ok (.aload_n 0, 1) := by decide +kernel
theorem dX10_world_25 : decode cX10_world 25 = .ok (.getfield 22, 3) := by decide +kernel
theorem dX10_world_28 : decode cX10_world 28 = .ok (.aload_n 0, 1) := by decide +kernel
theorem dX10_world_29 : decode cX10_world 29 = .ok (.getfield 88, 3) := by decide +kernel
theorem dX10_world_32 : decode cX10_world 32 = .ok (.iload_n 1, 1) := by decide +kernel
theorem dX10_world_33 : decode cX10_world 33 = .ok (.invokevirtual 108, 3) := by decide +kernel
theorem dX10_world_36 : decode cX10_world 36 = .ok (.iconst 1, 1) := by decide +kernel
theorem dX10_world_37 : decode cX10_world 37 = .ok (.ireturn, 1) := by decide +kernel
theorem dX10_free_0 : decode cX10_free 0 = .ok (.iload_n 1, 1) := by decide +kernel
theorem dX10_free_1 : decode cX10_free 1 = .ok (.invokestatic 55, 3) := by decide +kernel
theorem dX10_free_4 : decode cX10_free 4 = .ok (.ifCond .ne 5, 3) := by decide +kernel
theorem dX10_free_7 : decode cX10_free 7 = .ok (.iconst 0, 1) := by decide +kernel
theorem dX10_free_8 : decode cX10_free 8 = .ok (.ireturn, 1) := by decide +kernel
theorem dX10_free_9 : decode cX10_free 9 = .ok (.iload_n 2, 1) := by decide +kernel
theorem dX10_free_10 : decode cX10_free 10 = .ok (.ifCond .eq 14, 3) := by decide +kernel
theorem dX10_free_13 : decode cX10_free 13 = .ok (.aload_n 0, 1) := by decide +kernel
theorem dX10_free_14 : decode cX10_free 14 = .ok (.getfield 29, 3) := by decide +kernel
theorem dX10_free_17 : decode cX10_free 17 = .ok (.iload_n 1, 1) := by decide +kernel
theorem dX10_free_18 : decode cX10_free 18 = .ok (.invokevirtual 112, 3) := by decide +kernel
theorem dX10_free_21 : decode cX10_free 21 = .ok (.goto 11, 3) := by decide +kernel
theorem dX10_free_24 : decode cX10_free 24 = .ok (.aload_n 0, 1) := by decide +kernel
theorem dX10_free_25 : decode cX10_free 25 = .ok (.getfield 29, 3) := by decide +kernel
theorem dX10_free_28 : decode cX10_free 28 = .ok (.iload_n 1, 1) := by decide +kernel
theorem dX10_free_29 : decode cX10_free 29 = .ok (.invokevirtual 115, 3) := by decide +kernel
theorem dX10_free_32 : decode cX10_free 32 = .ok (.istore_n 3, 1) := by decide +kernel
theorem dX10_free_33 : decode cX10_free 33 = .ok (.iload_n 3, 1) := by decide +kernel
theorem dX10_free_34 : decode cX10_free 34 = .ok (.ifCond .eq 10, 3) := by decide +kernel
theorem dX10_free_37 : decode cX10_free 37 = .ok (.aload_n 0, 1) := by decide +kernel
theorem dX10_free_38 : decode cX10_free 38 = .ok (.getfield 43, 3) := by decide +kernel
theorem dX10_free_41 : decode cX10_free 41 = .ok (.invokevirtual 118, 3) := by decide +kernel
theorem dX10_free_44 : decode cX10_free 44 = .ok (.iload_n 3, 1) := by decide +kernel
theorem dX10_free_45 : decode cX10_free 45 = .ok (.ireturn, 1) := by decide +kernel
theorem dX10_make_0 : decode cX10_make 0 = .ok (.aload_n 0, 1) := by decide +kernel
theorem dX10_make_1 : decode cX10_make 1 = .ok (.getfield 88, 3) := by decide +kernel
theorem dX10_make_4 : decode cX10_make 4 = .ok (.ifnull 10, 3) := by decide +kernel
theorem dX10_make_7 : decode cX10_make 7 = .ok (.iload_n 1, 1) := by decide +kernel
theorem dX10_make_8 : decode cX10_make 8 = .ok (.invokestatic 55, 3) := by decide +kernel
theorem dX10_make_11 : decode cX10_make 11 = .ok (.ifCond .ne 5, 3) := by decide +kernel
theorem dX10_make_14 : decode cX10_make 14 = .ok (.iconst (-1), 1) := by decide +kernel
theorem dX10_make_15 : decode cX10_make 15 = .ok (.ireturn, 1) := by decide +kernel
theorem dX10_make_16 : decode cX10_make 16 = .ok (.aload_n 0, 1) := by decide +kernel
theorem dX10_make_17 : decode cX10_make 17 = .ok (.iconst 1, 1) := by decide +kernel
theorem dX10_make_18 : decode cX10_make 18 = .ok (.putfield 121, 3) := by decide +kernel
theorem dX10_make_21 : decode cX10_make 21 = .ok (.aload_n 0, 1) := by decide +kernel
theorem dX10_make_22 : decode cX10_make 22 = .ok (.getfield 36, 3) := by decide +kernel
theorem dX10_make_25 : decode cX10_make 25 = .ok (.aload_n 0, 1) := by decide +kernel
theorem dX10_make_26 : decode cX10_make 26 = .ok (.getfield 88, 3) := by decide +kernel
theorem dX10_make_29 : decode cX10_make 29 = .ok (.aload_n 0, 1) := by decide +kernel
theorem dX10_make_30 : decode cX10_make 30 = .ok (.getfield 22, 3) := by decide +kernel
theorem dX10_make_33 : decode cX10_make 33 = .ok (.iload_n 1, 1) := by decide +kernel
theorem dX10_make_34 : decode cX10_make 34 = .ok (.aload_n 0, 1) := by decide +kernel
theorem dX10_make_35 : decode cX10_make 35 = .ok (.getfield 29, 3) := by decide +kernel
theorem dX10_make_38 : decode cX10_make 38 = .ok (.invokevirtual 125, 3) := by decide +kernel
theorem dX10_make_41 : decode cX10_make 41 = .ok (.aload_n 0, 1) := by decide +kernel
theorem dX10_make_42 : decode cX10_make 42 = .ok (.getfield 36, 3) := by decide +kernel
theorem dX10_make_45 : decode cX10_make 45 = .ok (.getfield 129, 3) := by decide +kernel
theorem dX10_make_48 : decode cX10_make 48 = .ok (.ireturn, 1) := by decide +kernel
theorem dX10_letter_0 : decode cX10_letter 0 = .ok (.aload_n 0, 1) := by decide +kernel
theorem dX10_letter_1 : decode cX10_letter 1 = .ok (.getfield 121, 3) := by decide +kernel
theorem dX10_letter_4 : decode cX10_letter 4 = .ok (.ifCond .ne 5, 3) := by decide +kernel
theorem dX10_letter_7 : decode cX10_letter 7 = .ok (.iconst (-1), 1) := by decide +kernel
theorem dX10_letter_8 : decode cX10_letter 8 = .ok (.ireturn, 1) := by decide +kernel
theorem dX10_letter_9 : decode cX10_letter 9 = .ok (.iload_n 1, 1) := by decide +kernel
theorem dX10_letter_10 : decode cX10_letter 10 = .ok (.tableswitch 62 0 3 #[30, 38, 46, 54], 30) := by decide +kernel
theorem dX10_letter_40 : decode cX10_letter 40 = .ok (.aload_n 0, 1) := by decide +kernel
theorem dX10_letter_41 : decode cX10_letter 41 = .ok (.getfield 36, 3) := by decide +kernel
theorem dX10_letter_44 : decode cX10_letter 44 = .ok (.getfield 132, 3) := by decide +kernel
theorem dX10_letter_47 : decode cX10_letter 47 = .ok (.ireturn, 1) := by decide +kernel
theorem dX10_letter_48 : decode cX10_letter 48 = .ok (.aload_n 0, 1) := by decide +kernel
theorem dX10_letter_49 : decode cX10_letter 49 = .ok (.getfield 36, 3) := by decide +kernel
theorem dX10_letter_52 : decode cX10_letter 52 = .ok (.getfield 135, 3) := by decide +kernel
theorem dX10_letter_55 : decode cX10_letter 55 = .ok (.ireturn, 1) := by decide +kernel
theorem dX10_letter_56 : decode cX10_letter 56 = .ok (.aload_n 0, 1) := by decide +kernel
theorem dX10_letter_57 : decode cX10_letter 57 = .ok (.getfield 36, 3) := by decide +kernel
theorem dX10_letter_60 : decode cX10_letter 60 = .ok (.getfield 138, 3) := by decide +kernel
theorem dX10_letter_63 : decode cX10_letter 63 = .ok (.ireturn, 1) := by decide +kernel
theorem dX10_letter_64 : decode cX10_letter 64 = .ok (.aload_n 0, 1) := by decide +kernel
theorem dX10_letter_65 : decode cX10_letter 65 = .ok (.getfield 36, 3) := by decide +kernel
theorem dX10_letter_68 : decode cX10_letter 68 = .ok (.getfield 141, 3) := by decide +kernel
theorem dX10_letter_71 : decode cX10_letter 71 = .ok (.ireturn, 1) := by decide +kernel
theorem dX10_letter_72 : decode cX10_letter 72 = .ok (.iconst (-1), 1) := by decide +kernel
theorem dX10_letter_73 : decode cX10_letter 73 = .ok (.ireturn, 1) := by decide +kernel
theorem dX10_out_0 : decode cX10_out 0 = .ok (.iload_n 1, 1) := by decide +kernel
theorem dX10_out_1 : decode cX10_out 1 = .ok (.ifCond .lt 14, 3) := by decide +kernel
theorem dX10_out_4 : decode cX10_out 4 = .ok (.iload_n 1, 1) := by decide +kernel
theorem dX10_out_5 : decode cX10_out 5 = .ok (.aload_n 0, 1) := by decide +kernel
theorem dX10_out_6 : decode cX10_out 6 = .ok (.getfield 36, 3) := by decide +kernel
theorem dX10_out_9 : decode cX10_out 9 = .ok (.getfield 132, 3) := by decide +kernel
theorem dX10_out_12 : decode cX10_out 12 = .ok (.if_icmp .lt 5, 3) := by decide +kernel
theorem dX10_out_15 : decode cX10_out 15 = .ok (.iconst (-1), 1) := by decide +kernel
theorem dX10_out_16 : decode cX10_out 16 = .ok (.ireturn, 1) := by decide +kernel
theorem dX10_out_17 : decode cX10_out 17 = .ok (.aload_n 0, 1) := by decide +kernel
theorem dX10_out_18 : decode cX10_out 18 = .ok (.getfield 36, 3) := by decide +kernel
theorem dX10_out_21 : decode cX10_out 21 = .ok (.getfield 144, 3) := by decide +kernel
theorem dX10_out_24 : decode cX10_out 24 = .ok (.iload_n 1, 1) := by decide +kernel
theorem dX10_out_25 : decode cX10_out 25 = .ok (.baload, 1) := by decide +kernel
theorem dX10_out_26 : decode cX10_out 26 = .ok (.ireturn, 1) := by decide +kernel
theorem dX10_part_0 : decode cX10_part 0 = .ok (.iload_n 1, 1) := by decide +kernel
theorem dX10_part_1 : decode cX10_part 1 = .ok (.iconst 1, 1) := by decide +kernel
theorem dX10_part_2 : decode cX10_part 2 = .ok (.if_icmp .lt 14, 3) := by decide +kernel
theorem dX10_part_5 : decode cX10_part 5 = .ok (.iload_n 1, 1) := by decide +kernel
theorem dX10_part_6 : decode cX10_part 6 = .ok (.aload_n 0, 1) := by decide +kernel
theorem dX10_part_7 : decode cX10_part 7 = .ok (.getfield 36, 3) := by decide +kernel
theorem dX10_part_10 : decode cX10_part 10 = .ok (.getfield 135, 3) := by decide +kernel
theorem dX10_part_13 : decode cX10_part 13 = .ok (.if_icmp .le 5, 3) := by decide +kernel
theorem dX10_part_16 : decode cX10_part 16 = .ok (.iconst (-1), 1) := by decide +kernel
theorem dX10_part_17 : decode cX10_part 17 = .ok (.ireturn, 1) := by decide +kernel
theorem dX10_part_18 : decode cX10_part 18 = .ok (.aload_n 0, 1) := by decide +kernel
theorem dX10_part_19 : decode cX10_part 19 = .ok (.getfield 36, 3) := by decide +kernel
theorem dX10_part_22 : decode cX10_part 22 = .ok (.getfield 147, 3) := by decide +kernel
theorem dX10_part_25 : decode cX10_part 25 = .ok (.iload_n 1, 1) := by decide +kernel
theorem dX10_part_26 : decode cX10_part 26 = .ok (.iconst 1, 1) := by decide +kernel
theorem dX10_part_27 : decode cX10_part 27 = .ok (.isub, 1) := by decide +kernel
theorem dX10_part_28 : decode cX10_part 28 = .ok (.iaload, 1) := by decide +kernel
theorem dX10_part_29 : decode cX10_part 29 = .ok (.ireturn, 1) := by decide +kernel
theorem dX10_working_0 : decode cX10_working 0 = .ok (.iload_n 1, 1) := by decide +kernel
theorem dX10_working_1 : decode cX10_working 1 = .ok (.invokestatic 55, 3) := by decide +kernel
theorem dX10_working_4 : decode cX10_working 4 = .ok (.ifCond .eq 15, 3) := by decide +kernel
theorem dX10_working_7 : decode cX10_working 7 = .ok (.iload_n 2, 1) := by decide +kernel
theorem dX10_working_8 : decode cX10_working 8 = .ok (.invokestatic 55, 3) := by decide +kernel
theorem dX10_working_11 : decode cX10_working 11 = .ok (.ifCond .eq 8, 3) := by decide +kernel
theorem dX10_working_14 : decode cX10_working 14 = .ok (.iload_n 1, 1) := by decide +kernel
theorem dX10_working_15 : decode cX10_working 15 = .ok (.iload_n 2, 1) := by decide +kernel
theorem dX10_working_16 : decode cX10_working 16 = .ok (.if_icmp .le 5, 3) := by decide +kernel
theorem dX10_working_19 : decode cX10_working 19 = .ok (.iconst (-1), 1) := by decide +kernel
theorem dX10_working_20 : decode cX10_working 20 = .ok (.ireturn, 1) := by decide +kernel
theorem dX10_working_21 : decode cX10_working 21 = .ok (.aload_n 0, 1) := by decide +kernel
theorem dX10_working_22 : decode cX10_working 22 = .ok (.getfield 29, 3) := by decide +kernel
theorem dX10_working_25 : decode cX10_working 25 = .ok (.iload_n 1, 1) := by decide +kernel
theorem dX10_working_26 : decode cX10_working 26 = .ok (.iload_n 2, 1) := by decide +kernel
theorem dX10_working_27 : decode cX10_working 27 = .ok (.invokevirtual 150, 3) := by decide +kernel
theorem dX10_working_30 : decode cX10_working 30 = .ok (.ireturn, 1) := by decide +kernel
theorem dX10_judge_0 : decode cX10_judge 0 = .ok (.aload_n 0, 1) := by decide +kernel
theorem dX10_judge_1 : decode cX10_judge 1 = .ok (.getfield 88, 3) := by decide +kernel
theorem dX10_judge_4 : decode cX10_judge 4 = .ok (.ifnull 22, 3) := by decide +kernel
theorem dX10_judge_7 : decode cX10_judge 7 = .ok (.iload_n 1, 1) := by decide +kernel
theorem dX10_judge_8 : decode cX10_judge 8 = .ok (.iconst 1, 1) := by decide +kernel
theorem dX10_judge_9 : decode cX10_judge 9 = .ok (.if_icmp .lt 17, 3) := by decide +kernel
theorem dX10_judge_12 : decode cX10_judge 12 = .ok (.iload_n 1, 1) := by decide +kernel
theorem dX10_judge_13 : decode cX10_judge 13 = .ok (.iconst 4, 1) := by decide +kernel
theorem dX10_judge_14 : decode cX10_judge 14 = .ok (.if_icmp .gt 12, 3) := by decide +kernel
theorem dX10_judge_17 : decode cX10_judge 17 = .ok (.iload_n 2, 1) := by decide +kernel
theorem dX10_judge_18 : decode cX10_judge 18 = .ok (.ifCond .lt 8, 3) := by decide +kernel
theorem dX10_judge_21 : decode cX10_judge 21 = .ok (.iload_n 2, 1) := by decide +kernel
theorem dX10_judge_22 : decode cX10_judge 22 = .ok (.iconst 1, 1) := by decide +kernel
theorem dX10_judge_23 : decode cX10_judge 23 = .ok (.if_icmp .le 5, 3) := by decide +kernel
theorem dX10_judge_26 : decode cX10_judge 26 = .ok (.iconst (-1), 1) := by decide +kernel
theorem dX10_judge_27 : decode cX10_judge 27 = .ok (.ireturn, 1) := by decide +kernel
theorem dX10_judge_28 : decode cX10_judge 28 = .ok (.aload_n 0, 1) := by decide +kernel
theorem dX10_judge_29 : decode cX10_judge 29 = .ok (.getfield 43, 3) := by decide +kernel
theorem dX10_judge_32 : decode cX10_judge 32 = .ok (.aload_n 0, 1) := by decide +kernel
theorem dX10_judge_33 : decode cX10_judge 33 = .ok (.getfield 88, 3) := by decide +kernel
theorem dX10_judge_36 : decode cX10_judge 36 = .ok (.invokevirtual 154, 3) := by decide +kernel
theorem dX10_judge_39 : decode cX10_judge 39 = .ok (.iload_n 2, 1) := by decide +kernel
theorem dX10_judge_40 : decode cX10_judge 40 = .ok (.ifCond .ne 15, 3) := by decide +kernel
theorem dX10_judge_43 : decode cX10_judge 43 = .ok (.aload_n 0, 1) := by decide +kernel
theorem dX10_judge_44 : decode cX10_judge 44 = .ok (.getfield 88, 3) := by decide +kernel
theorem dX10_judge_47 : decode cX10_judge 47 = .ok (.getfield 157, 3) := by decide +kernel
theorem dX10_judge_50 : decode cX10_judge 50 = .ok (.iload_n 1, 1) := by decide +kernel
theorem dX10_judge_51 : decode cX10_judge 51 = .ok (.iaload, 1) := by decide +kernel
theorem dX10_judge_52 : decode cX10_judge 52 = .ok (.goto 12, 3) := by decide +kernel
theorem dX10_judge_55 : decode cX10_judge 55 = .ok (.aload_n 0, 1) := by decide +kernel
theorem dX10_judge_56 : decode cX10_judge 56 = .ok (.getfield 88, 3) := by decide +kernel
theorem dX10_judge_59 : decode cX10_judge 59 = .ok (.getfield 160, 3) := by decide +kernel
theorem dX10_judge_62 : decode cX10_judge 62 = .ok (.iload_n 1, 1) := by decide +kernel
theorem dX10_judge_63 : decode cX10_judge 63 = .ok (.iaload, 1) := by decide +kernel
theorem dX10_judge_64 : decode cX10_judge 64 = .ok (.ireturn, 1) := by decide +kernel
theorem dX10_changed_0 : decode cX10_changed 0 = .ok (.aload_n 0, 1) := by decide +kernel
theorem dX10_changed_1 : decode cX10_changed 1 = .ok (.iload_n 1, 1) := by decide +kernel
theorem dX10_changed_2 : decode cX10_changed 2 = .ok (.invokevirtual 81, 3) := by decide +kernel
theorem dX10_changed_5 : decode cX10_changed 5 = .ok (.astore 5, 2) := by decide +kernel
theorem dX10_changed_7 : decode cX10_changed 7 = .ok (.aload_n 0, 1) := by decide +kernel
theorem dX10_changed_8 : decode cX10_changed 8 = .ok (.iload_n 2, 1) := by decide +kernel
theorem dX10_changed_9 : decode cX10_changed 9 = .ok (.invokevirtual 81, 3) := by decide +kernel
theorem dX10_changed_12 : decode cX10_changed 12 = .ok (.astore 6, 2) := by decide +kernel
theorem dX10_changed_14 : decode cX10_changed 14 = .ok (.aload 5, 2) := by decide +kernel
theorem dX10_changed_16 : decode cX10_changed 16 = .ok (.ifnull 26, 3) := by decide +kernel
theorem dX10_changed_19 : decode cX10_changed 19 = .ok (.aload 6, 2) := by decide +kernel
theorem dX10_changed_21 : decode cX10_changed 21 = .ok (.ifnull 21, 3) := by decide +kernel
theorem dX10_changed_24 : decode cX10_changed 24 = .ok (.iload_n 3, 1) := by decide +kernel
theorem dX10_changed_25 : decode cX10_changed 25 = .ok (.invokestatic 55, 3) := by decide +kernel
theorem dX10_changed_28 : decode cX10_changed 28 = .ok (.ifCond .eq 14, 3) := by decide +kernel
theorem dX10_changed_31 : decode cX10_changed 31 = .ok (.iload 4, 2) := by decide +kernel
end
section
theorem dX10_changed_33 : decode cX10_changed 33 = .ok (.ifCond .lt 9, 3) := by decide +kernel
theorem dX10_changed_36 : decode cX10_changed 36 = .ok (.iload 4, 2) := by decide +kernel
theorem dX10_changed_38 : decode cX10_changed 38 = .ok (.iconst 1, 1) := by decide +kernel
theorem dX10_changed_39 : decode cX10_changed 39 = .ok (.if_icmp .le 5, 3) := by decide +kernel
theorem dX10_changed_42 : decode cX10_changed 42 = .ok (.iconst (-1), 1) := by decide +kernel
theorem dX10_changed_43 : decode cX10_changed 43 = .ok (.ireturn, 1) := by decide +kernel
theorem dX10_changed_44 : decode cX10_changed 44 = .ok (.aload 5, 2) := by decide +kernel
theorem dX10_changed_46 : decode cX10_changed 46 = .ok (.aload 6, 2) := by decide +kernel
theorem dX10_changed_48 : decode cX10_changed 48 = .ok (.invokevirtual 163, 3) := by decide +kernel
theorem dX10_changed_51 : decode cX10_changed 51 = .ok (.ifCond .ne 6, 3) := by decide +kernel
theorem dX10_changed_54 : decode cX10_changed 54 = .ok (.bipush (-2), 2) := by decide +kernel
theorem dX10_changed_56 : decode cX10_changed 56 = .ok (.ireturn, 1) := by decide +kernel
theorem dX10_changed_57 : decode cX10_changed 57 = .ok (.aload_n 0, 1) := by decide +kernel
theorem dX10_changed_58 : decode cX10_changed 58 = .ok (.getfield 43, 3) := by decide +kernel
theorem dX10_changed_61 : decode cX10_changed 61 = .ok (.aload 5, 2) := by decide +kernel
theorem dX10_changed_63 : decode cX10_changed 63 = .ok (.aload 6, 2) := by decide +kernel
theorem dX10_changed_65 : decode cX10_changed 65 = .ok (.iload_n 3, 1) := by decide +kernel
theorem dX10_changed_66 : decode cX10_changed 66 = .ok (.aload_n 0, 1) := by decide +kernel
theorem dX10_changed_67 : decode cX10_changed 67 = .ok (.getfield 29, 3) := by decide +kernel
theorem dX10_changed_70 : decode cX10_changed 70 = .ok (.invokevirtual 167, 3) := by decide +kernel
theorem dX10_changed_73 : decode cX10_changed 73 = .ok (.iload 4, 2) := by decide +kernel
theorem dX10_changed_75 : decode cX10_changed 75 = .ok (.ifCond .ne 13, 3) := by decide +kernel
theorem dX10_changed_78 : decode cX10_changed 78 = .ok (.aload_n 0, 1) := by decide +kernel
theorem dX10_changed_79 : decode cX10_changed 79 = .ok (.getfield 43, 3) := by decide +kernel
theorem dX10_changed_82 : decode cX10_changed 82 = .ok (.getfield 171, 3) := by decide +kernel
theorem dX10_changed_85 : decode cX10_changed 85 = .ok (.goto 10, 3) := by decide +kernel
theorem dX10_changed_88 : decode cX10_changed 88 = .ok (.aload_n 0, 1) := by decide +kernel
theorem dX10_changed_89 : decode cX10_changed 89 = .ok (.getfield 43, 3) := by decide +kernel
theorem dX10_changed_92 : decode cX10_changed 92 = .ok (.getfield 174, 3) := by decide +kernel
theorem dX10_changed_95 : decode cX10_changed 95 = .ok (.ireturn, 1) := by decide +kernel
theorem dX10_look_0 : decode cX10_look 0 = .ok (.aload_n 0, 1) := by decide +kernel
theorem dX10_look_1 : decode cX10_look 1 = .ok (.getfield 88, 3) := by decide +kernel
theorem dX10_look_4 : decode cX10_look 4 = .ok (.ifnonnull 5, 3) := by decide +kernel
theorem dX10_look_7 : decode cX10_look 7 = .ok (.iconst (-1), 1) := by decide +kernel
theorem dX10_look_8 : decode cX10_look 8 = .ok (.ireturn, 1) := by decide +kernel
theorem dX10_look_9 : decode cX10_look 9 = .ok (.iload_n 1, 1) := by decide +kernel
theorem dX10_look_10 : decode cX10_look 10 = .ok (.tableswitch 90 0 5 #[38, 46, 54, 62, 70, 78], 38) := by decide +kernel
theorem dX10_look_48 : decode cX10_look 48 = .ok (.aload_n 0, 1) := by decide +kernel
theorem dX10_look_49 : decode cX10_look 49 = .ok (.getfield 88, 3) := by decide +kernel
theorem dX10_look_52 : decode cX10_look 52 = .ok (.getfield 177, 3) := by decide +kernel
theorem dX10_look_55 : decode cX10_look 55 = .ok (.ireturn, 1) := by decide +kernel
theorem dX10_look_56 : decode cX10_look 56 = .ok (.aload_n 0, 1) := by decide +kernel
theorem dX10_look_57 : decode cX10_look 57 = .ok (.getfield 88, 3) := by decide +kernel
theorem dX10_look_60 : decode cX10_look 60 = .ok (.getfield 180, 3) := by decide +kernel
theorem dX10_look_63 : decode cX10_look 63 = .ok (.ireturn, 1) := by decide +kernel
theorem dX10_look_64 : decode cX10_look 64 = .ok (.aload_n 0, 1) := by decide +kernel
theorem dX10_look_65 : decode cX10_look 65 = .ok (.getfield 88, 3) := by decide +kernel
theorem dX10_look_68 : decode cX10_look 68 = .ok (.getfield 183, 3) := by decide +kernel
theorem dX10_look_71 : decode cX10_look 71 = .ok (.ireturn, 1) := by decide +kernel
theorem dX10_look_72 : decode cX10_look 72 = .ok (.aload_n 0, 1) := by decide +kernel
theorem dX10_look_73 : decode cX10_look 73 = .ok (.getfield 88, 3) := by decide +kernel
theorem dX10_look_76 : decode cX10_look 76 = .ok (.getfield 105, 3) := by decide +kernel
theorem dX10_look_79 : decode cX10_look 79 = .ok (.ireturn, 1) := by decide +kernel
theorem dX10_look_80 : decode cX10_look 80 = .ok (.aload_n 0, 1) := by decide +kernel
theorem dX10_look_81 : decode cX10_look 81 = .ok (.getfield 88, 3) := by decide +kernel
theorem dX10_look_84 : decode cX10_look 84 = .ok (.getfield 85, 3) := by decide +kernel
theorem dX10_look_87 : decode cX10_look 87 = .ok (.ireturn, 1) := by decide +kernel
theorem dX10_look_88 : decode cX10_look 88 = .ok (.aload_n 0, 1) := by decide +kernel
theorem dX10_look_89 : decode cX10_look 89 = .ok (.getfield 22, 3) := by decide +kernel
theorem dX10_look_92 : decode cX10_look 92 = .ok (.aload_n 0, 1) := by decide +kernel
theorem dX10_look_93 : decode cX10_look 93 = .ok (.getfield 88, 3) := by decide +kernel
theorem dX10_look_96 : decode cX10_look 96 = .ok (.invokevirtual 186, 3) := by decide +kernel
theorem dX10_look_99 : decode cX10_look 99 = .ok (.ireturn, 1) := by decide +kernel
theorem dX10_look_100 : decode cX10_look 100 = .ok (.iconst (-1), 1) := by decide +kernel
theorem dX10_look_101 : decode cX10_look 101 = .ok (.ireturn, 1) := by decide +kernel
theorem dX10_told_0 : decode cX10_told 0 = .ok (.aload_n 0, 1) := by decide +kernel
theorem dX10_told_1 : decode cX10_told 1 = .ok (.getfield 88, 3) := by decide +kernel
theorem dX10_told_4 : decode cX10_told 4 = .ok (.ifnull 23, 3) := by decide +kernel
theorem dX10_told_7 : decode cX10_told 7 = .ok (.aload_n 0, 1) := by decide +kernel
theorem dX10_told_8 : decode cX10_told 8 = .ok (.getfield 88, 3) := by decide +kernel
theorem dX10_told_11 : decode cX10_told 11 = .ok (.iload_n 1, 1) := by decide +kernel
theorem dX10_told_12 : decode cX10_told 12 = .ok (.invokevirtual 92, 3) := by decide +kernel
theorem dX10_told_15 : decode cX10_told 15 = .ok (.ifCond .eq 12, 3) := by decide +kernel
theorem dX10_told_18 : decode cX10_told 18 = .ok (.iload_n 2, 1) := by decide +kernel
theorem dX10_told_19 : decode cX10_told 19 = .ok (.ifCond .lt 8, 3) := by decide +kernel
theorem dX10_told_22 : decode cX10_told 22 = .ok (.iload_n 2, 1) := by decide +kernel
theorem dX10_told_23 : decode cX10_told 23 = .ok (.iconst 2, 1) := by decide +kernel
theorem dX10_told_24 : decode cX10_told 24 = .ok (.if_icmp .le 13, 3) := by decide +kernel
theorem dX10_told_27 : decode cX10_told 27 = .ok (.new 190, 3) := by decide +kernel
theorem dX10_told_30 : decode cX10_told 30 = .ok (.dup, 1) := by decide +kernel
theorem dX10_told_31 : decode cX10_told 31 = .ok (.ldc 192, 2) := by decide +kernel
theorem dX10_told_33 : decode cX10_told 33 = .ok (.invokespecial 194, 3) := by decide +kernel
theorem dX10_told_36 : decode cX10_told 36 = .ok (.athrow, 1) := by decide +kernel
theorem dX10_told_37 : decode cX10_told 37 = .ok (.iload_n 2, 1) := by decide +kernel
theorem dX10_told_38 : decode cX10_told 38 = .ok (.ifCond .ne 13, 3) := by decide +kernel
theorem dX10_told_41 : decode cX10_told 41 = .ok (.aload_n 0, 1) := by decide +kernel
theorem dX10_told_42 : decode cX10_told 42 = .ok (.getfield 88, 3) := by decide +kernel
theorem dX10_told_45 : decode cX10_told 45 = .ok (.getfield 95, 3) := by decide +kernel
theorem dX10_told_48 : decode cX10_told 48 = .ok (.iload_n 1, 1) := by decide +kernel
theorem dX10_told_49 : decode cX10_told 49 = .ok (.iaload, 1) := by decide +kernel
theorem dX10_told_50 : decode cX10_told 50 = .ok (.ireturn, 1) := by decide +kernel
theorem dX10_told_51 : decode cX10_told 51 = .ok (.iload_n 2, 1) := by decide +kernel
theorem dX10_told_52 : decode cX10_told 52 = .ok (.iconst 1, 1) := by decide +kernel
theorem dX10_told_53 : decode cX10_told 53 = .ok (.if_icmp .ne 15, 3) := by decide +kernel
theorem dX10_told_56 : decode cX10_told 56 = .ok (.aload_n 0, 1) := by decide +kernel
theorem dX10_told_57 : decode cX10_told 57 = .ok (.getfield 88, 3) := by decide +kernel
theorem dX10_told_60 : decode cX10_told 60 = .ok (.getfield 99, 3) := by decide +kernel
theorem dX10_told_63 : decode cX10_told 63 = .ok (.iload_n 1, 1) := by decide +kernel
theorem dX10_told_64 : decode cX10_told 64 = .ok (.iaload, 1) := by decide +kernel
theorem dX10_told_65 : decode cX10_told 65 = .ok (.goto 12, 3) := by decide +kernel
theorem dX10_told_68 : decode cX10_told 68 = .ok (.aload_n 0, 1) := by decide +kernel
theorem dX10_told_69 : decode cX10_told 69 = .ok (.getfield 22, 3) := by decide +kernel
theorem dX10_told_72 : decode cX10_told 72 = .ok (.getfield 102, 3) := by decide +kernel
theorem dX10_told_75 : decode cX10_told 75 = .ok (.iload_n 1, 1) := by decide +kernel
theorem dX10_told_76 : decode cX10_told 76 = .ok (.iaload, 1) := by decide +kernel
theorem dX10_told_77 : decode cX10_told 77 = .ok (.ireturn, 1) := by decide +kernel
theorem dX10_count_0 : decode cX10_count 0 = .ok (.iload_n 1, 1) := by decide +kernel
theorem dX10_count_1 : decode cX10_count 1 = .ok (.tableswitch 45 0 2 #[27, 32, 37], 27) := by decide +kernel
theorem dX10_count_28 : decode cX10_count 28 = .ok (.aload_n 0, 1) := by decide +kernel
theorem dX10_count_29 : decode cX10_count 29 = .ok (.getfield 59, 3) := by decide +kernel
theorem dX10_count_32 : decode cX10_count 32 = .ok (.ireturn, 1) := by decide +kernel
theorem dX10_count_33 : decode cX10_count 33 = .ok (.aload_n 0, 1) := by decide +kernel
theorem dX10_count_34 : decode cX10_count 34 = .ok (.getfield 51, 3) := by decide +kernel
theorem dX10_count_37 : decode cX10_count 37 = .ok (.ireturn, 1) := by decide +kernel
theorem dX10_count_38 : decode cX10_count 38 = .ok (.aload_n 0, 1) := by decide +kernel
theorem dX10_count_39 : decode cX10_count 39 = .ok (.getfield 29, 3) := by decide +kernel
theorem dX10_count_42 : decode cX10_count 42 = .ok (.getfield 197, 3) := by decide +kernel
theorem dX10_count_45 : decode cX10_count 45 = .ok (.ireturn, 1) := by decide +kernel
theorem dX10_count_46 : decode cX10_count 46 = .ok (.iconst (-1), 1) := by decide +kernel
theorem dX10_count_47 : decode cX10_count 47 = .ok (.ireturn, 1) := by decide +kernel
theorem dX10_feedBytes_0 : decode cX10_feedBytes 0 = .ok (.bipush 56, 2) := by decide +kernel
theorem dX10_feedBytes_2 : decode cX10_feedBytes 2 = .ok (.istore_n 3, 1) := by decide +kernel
theorem dX10_feedBytes_3 : decode cX10_feedBytes 3 = .ok (.iload_n 3, 1) := by decide +kernel
theorem dX10_feedBytes_4 : decode cX10_feedBytes 4 = .ok (.ifCond .lt 84, 3) := by decide +kernel
theorem dX10_feedBytes_7 : decode cX10_feedBytes 7 = .ok (.lload_n 1, 1) := by decide +kernel
theorem dX10_feedBytes_8 : decode cX10_feedBytes 8 = .ok (.iload_n 3, 1) := by decide +kernel
theorem dX10_feedBytes_9 : decode cX10_feedBytes 9 = .ok (.lushr, 1) := by decide +kernel
theorem dX10_feedBytes_10 : decode cX10_feedBytes 10 = .ok (.l2i, 1) := by decide +kernel
theorem dX10_feedBytes_11 : decode cX10_feedBytes 11 = .ok (.sipush 255, 3) := by decide +kernel
theorem dX10_feedBytes_14 : decode cX10_feedBytes 14 = .ok (.iand, 1) := by decide +kernel
theorem dX10_feedBytes_15 : decode cX10_feedBytes 15 = .ok (.istore 4, 2) := by decide +kernel
theorem dX10_feedBytes_17 : decode cX10_feedBytes 17 = .ok (.iload 4, 2) := by decide +kernel
theorem dX10_feedBytes_19 : decode cX10_feedBytes 19 = .ok (.bipush 10, 2) := by decide +kernel
theorem dX10_feedBytes_21 : decode cX10_feedBytes 21 = .ok (.if_icmp .eq 17, 3) := by decide +kernel
theorem dX10_feedBytes_24 : decode cX10_feedBytes 24 = .ok (.iload 4, 2) := by decide +kernel
theorem dX10_feedBytes_26 : decode cX10_feedBytes 26 = .ok (.bipush 32, 2) := by decide +kernel
theorem dX10_feedBytes_28 : decode cX10_feedBytes 28 = .ok (.if_icmp .lt 14, 3) := by decide +kernel
theorem dX10_feedBytes_31 : decode cX10_feedBytes 31 = .ok (.iload 4, 2) := by decide +kernel
theorem dX10_feedBytes_33 : decode cX10_feedBytes 33 = .ok (.bipush 126, 2) := by decide +kernel
theorem dX10_feedBytes_35 : decode cX10_feedBytes 35 = .ok (.if_icmp .gt 7, 3) := by decide +kernel
theorem dX10_feedBytes_38 : decode cX10_feedBytes 38 = .ok (.iconst 1, 1) := by decide +kernel
theorem dX10_feedBytes_39 : decode cX10_feedBytes 39 = .ok (.goto 4, 3) := by decide +kernel
theorem dX10_feedBytes_42 : decode cX10_feedBytes 42 = .ok (.iconst 0, 1) := by decide +kernel
theorem dX10_feedBytes_43 : decode cX10_feedBytes 43 = .ok (.istore 5, 2) := by decide +kernel
theorem dX10_feedBytes_45 : decode cX10_feedBytes 45 = .ok (.iload 5, 2) := by decide +kernel
theorem dX10_feedBytes_47 : decode cX10_feedBytes 47 = .ok (.ifCond .eq 35, 3) := by decide +kernel
theorem dX10_feedBytes_50 : decode cX10_feedBytes 50 = .ok (.aload_n 0, 1) := by decide +kernel
theorem dX10_feedBytes_51 : decode cX10_feedBytes 51 = .ok (.getfield 51, 3) := by decide +kernel
theorem dX10_feedBytes_54 : decode cX10_feedBytes 54 = .ok (.sipush 2400, 3) := by decide +kernel
theorem dX10_feedBytes_57 : decode cX10_feedBytes 57 = .ok (.if_icmp .ge 25, 3) := by decide +kernel
theorem dX10_feedBytes_60 : decode cX10_feedBytes 60 = .ok (.aload_n 0, 1) := by decide +kernel
theorem dX10_feedBytes_61 : decode cX10_feedBytes 61 = .ok (.getfield 9, 3) := by decide +kernel
theorem dX10_feedBytes_64 : decode cX10_feedBytes 64 = .ok (.aload_n 0, 1) := by decide +kernel
theorem dX10_feedBytes_65 : decode cX10_feedBytes 65 = .ok (.getfield 51, 3) := by decide +kernel
theorem dX10_feedBytes_68 : decode cX10_feedBytes 68 = .ok (.iload 4, 2) := by decide +kernel
theorem dX10_feedBytes_70 : decode cX10_feedBytes 70 = .ok (.i2b, 1) := by decide +kernel
theorem dX10_feedBytes_71 : decode cX10_feedBytes 71 = .ok (.bastore, 1) := by decide +kernel
theorem dX10_feedBytes_72 : decode cX10_feedBytes 72 = .ok (.aload_n 0, 1) := by decide +kernel
theorem dX10_feedBytes_73 : decode cX10_feedBytes 73 = .ok (.dup, 1) := by decide +kernel
theorem dX10_feedBytes_74 : decode cX10_feedBytes 74 = .ok (.getfield 51, 3) := by decide +kernel
theorem dX10_feedBytes_77 : decode cX10_feedBytes 77 = .ok (.iconst 1, 1) := by decide +kernel
theorem dX10_feedBytes_78 : decode cX10_feedBytes 78 = .ok (.iadd, 1) := by decide +kernel
theorem dX10_feedBytes_79 : decode cX10_feedBytes 79 = .ok (.putfield 51, 3) := by decide +kernel
theorem dX10_feedBytes_82 : decode cX10_feedBytes 82 = .ok (.iinc 3 (-8), 3) := by decide +kernel
theorem dX10_feedBytes_85 : decode cX10_feedBytes 85 = .ok (.goto (-82), 3) := by decide +kernel
theorem dX10_feedBytes_88 : decode cX10_feedBytes 88 = .ok (.return_, 1) := by decide +kernel
theorem dX10_takeInHand_0 : decode cX10_takeInHand 0 = .ok (.aload_n 0, 1) := by decide +kernel
theorem dX10_takeInHand_1 : decode cX10_takeInHand 1 = .ok (.aload_n 1, 1) := by decide +kernel
theorem dX10_takeInHand_2 : decode cX10_takeInHand 2 = .ok (.putfield 88, 3) := by decide +kernel
theorem dX10_takeInHand_5 : decode cX10_takeInHand 5 = .ok (.aload_n 0, 1) := by decide +kernel
theorem dX10_takeInHand_6 : decode cX10_takeInHand 6 = .ok (.getfield 22, 3) := by decide +kernel
theorem dX10_takeInHand_9 : decode cX10_takeInHand 9 = .ok (.aload_n 1, 1) := by decide +kernel
theorem dX10_takeInHand_10 : decode cX10_takeInHand 10 = .ok (.iconst 0, 1) := by decide +kernel
theorem dX10_takeInHand_11 : decode cX10_takeInHand 11 = .ok (.invokevirtual 108, 3) := by decide +kernel
theorem dX10_takeInHand_14 : decode cX10_takeInHand 14 = .ok (.return_, 1) := by decide +kernel
theorem dX10_editionAt_0 : decode cX10_editionAt 0 = .ok (.iload_n 1, 1) := by decide +kernel
theorem dX10_editionAt_1 : decode cX10_editionAt 1 = .ok (.ifCond .lt 11, 3) := by decide +kernel
theorem dX10_editionAt_4 : decode cX10_editionAt 4 = .ok (.iload_n 1, 1) := by decide +kernel
theorem dX10_editionAt_5 : decode cX10_editionAt 5 = .ok (.aload_n 0, 1) := by decide +kernel
theorem dX10_editionAt_6 : decode cX10_editionAt 6 = .ok (.getfield 59, 3) := by decide +kernel
theorem dX10_editionAt_9 : decode cX10_editionAt 9 = .ok (.if_icmp .lt 7, 3) := by decide +kernel
theorem dX10_editionAt_12 : decode cX10_editionAt 12 = .ok (.aconst_null, 1) := by decide +kernel
theorem dX10_editionAt_13 : decode cX10_editionAt 13 = .ok (.goto 9, 3) := by decide +kernel
theorem dX10_editionAt_16 : decode cX10_editionAt 16 = .ok (.aload_n 0, 1) := by decide +kernel
theorem dX10_editionAt_17 : decode cX10_editionAt 17 = .ok (.getfield 15, 3) := by decide +kernel
theorem dX10_editionAt_20 : decode cX10_editionAt 20 = .ok (.iload_n 1, 1) := by decide +kernel
theorem dX10_editionAt_21 : decode cX10_editionAt 21 = .ok (.aaload, 1) := by decide +kernel
theorem dX10_editionAt_22 : decode cX10_editionAt 22 = .ok (.areturn, 1) := by decide +kernel
theorem dX10_latestStart_0 : decode cX10_latestStart 0 = .ok (.aload_n 0, 1) := by decide +kernel
theorem dX10_latestStart_1 : decode cX10_latestStart 1 = .ok (.aload_n 0, 1) := by decide +kernel
theorem dX10_latestStart_2 : decode cX10_latestStart 2 = .ok (.getfield 59, 3) := by decide +kernel
theorem dX10_latestStart_5 : decode cX10_latestStart 5 = .ok (.iconst 1, 1) := by decide +kernel
theorem dX10_latestStart_6 : decode cX10_latestStart 6 = .ok (.isub, 1) := by decide +kernel
theorem dX10_latestStart_7 : decode cX10_latestStart 7 = .ok (.invokevirtual 81, 3) := by decide +kernel
theorem dX10_latestStart_10 : decode cX10_latestStart 10 = .ok (.astore_n 1, 1) := by decide +kernel
theorem dX10_latestStart_11 : decode cX10_latestStart 11 = .ok (.aload_n 1, 1) := by decide +kernel
theorem dX10_latestStart_12 : decode cX10_latestStart 12 = .ok (.ifnonnull 7, 3) := by decide +kernel
theorem dX10_latestStart_15 : decode cX10_latestStart 15 = .ok (.iconst (-1), 1) := by decide +kernel
theorem dX10_latestStart_16 : decode cX10_latestStart 16 = .ok (.goto 7, 3) := by decide +kernel
theorem dX10_latestStart_19 : decode cX10_latestStart 19 = .ok (.aload_n 1, 1) := by decide +kernel
theorem dX10_latestStart_20 : decode cX10_latestStart 20 = .ok (.getfield 85, 3) := by decide +kernel
theorem dX10_latestStart_23 : decode cX10_latestStart 23 = .ok (.ireturn, 1) := by decide +kernel
theorem dX10_isDay_0 : decode cX10_isDay 0 = .ok (.iload_n 0, 1) := by decide +kernel
theorem dX10_isDay_1 : decode cX10_isDay 1 = .ok (.ifCond .lt 14, 3) := by decide +kernel
theorem dX10_isDay_4 : decode cX10_isDay 4 = .ok (.iload_n 0, 1) := by decide +kernel
theorem dX10_isDay_5 : decode cX10_isDay 5 = .ok (.sipush 9999, 3) := by decide +kernel
theorem dX10_isDay_8 : decode cX10_isDay 8 = .ok (.if_icmp .gt 7, 3) := by decide +kernel
theorem dX10_isDay_11 : decode cX10_isDay 11 = .ok (.iconst 1, 1) := by decide +kernel
theorem dX10_isDay_12 : decode cX10_isDay 12 = .ok (.goto 4, 3) := by decide +kernel
theorem dX10_isDay_15 : decode cX10_isDay 15 = .ok (.iconst 0, 1) := by decide +kernel
theorem dX10_isDay_16 : decode cX10_isDay 16 = .ok (.ireturn, 1) := by decide +kernel
theorem dX11_thrown_0 : decode cX11_thrown 0 = .ok (.aload_n 0, 1) := by decide +kernel
theorem dX11_thrown_1 : decode cX11_thrown 1 = .ok (.getfield 1, 3) := by decide +kernel
theorem dX11_thrown_4 : decode cX11_thrown 4 = .ok (.ireturn, 1) := by decide +kernel
theorem dX11_feed_0 : decode cX11_feed 0 = .ok (.aload_n 0, 1) := by decide +kernel
theorem dX11_feed_1 : decode cX11_feed 1 = .ok (.iconst 0, 1) := by decide +kernel
theorem dX11_feed_2 : decode cX11_feed 2 = .ok (.putfield 1, 3) := by decide +kernel
theorem dX11_feed_5 : decode cX11_feed 5 = .ok (.aload_n 0, 1) := by decide +kernel
theorem dX11_feed_6 : decode cX11_feed 6 = .ok (.lload_n 1, 1) := by decide +kernel
theorem dX11_feed_7 : decode cX11_feed 7 = .ok (.invokevirtual 7, 3) := by decide +kernel
theorem dX11_feed_10 : decode cX11_feed 10 = .ok (.aload_n 0, 1) := by decide +kernel
theorem dX11_feed_11 : decode cX11_feed 11 = .ok (.lload_n 3, 1) := by decide +kernel
theorem dX11_feed_12 : decode cX11_feed 12 = .ok (.invokevirtual 7, 3) := by decide +kernel
theorem dX11_feed_15 : decode cX11_feed 15 = .ok (.aload_n 0, 1) := by decide +kernel
theorem dX11_feed_16 : decode cX11_feed 16 = .ok (.lload 5, 2) := by decide +kernel
theorem dX11_feed_18 : decode cX11_feed 18 = .ok (.invokevirtual 7, 3) := by decide +kernel
theorem dX11_feed_21 : decode cX11_feed 21 = .ok (.aload_n 0, 1) := by decide +kernel
theorem dX11_feed_22 : decode cX11_feed 22 = .ok (.getfield 11, 3) := by decide +kernel
theorem dX11_feed_25 : decode cX11_feed 25 = .ok (.ireturn, 1) := by decide +kernel
theorem dX11_lay_0 : decode cX11_lay 0 = .ok (.bipush 56, 2) := by decide +kernel
theorem dX11_lay_2 : decode cX11_lay 2 = .ok (.istore_n 3, 1) := by decide +kernel
theorem dX11_lay_3 : decode cX11_lay 3 = .ok (.iload_n 3, 1) := by decide +kernel
theorem dX11_lay_4 : decode cX11_lay 4 = .ok (.ifCond .lt 71, 3) := by decide +kernel
theorem dX11_lay_7 : decode cX11_lay 7 = .ok (.lload_n 1, 1) := by decide +kernel
theorem dX11_lay_8 : decode cX11_lay 8 = .ok (.iload_n 3, 1) := by decide +kernel
theorem dX11_lay_9 : decode cX11_lay 9 = .ok (.lshr, 1) := by decide +kernel
theorem dX11_lay_10 : decode cX11_lay 10 = .ok (.l2i, 1) := by decide +kernel
theorem dX11_lay_11 : decode cX11_lay 11 = .ok (.sipush 255, 3) := by decide +kernel
theorem dX11_lay_14 : decode cX11_lay 14 = .ok (.iand, 1) := by decide +kernel
theorem dX11_lay_15 : decode cX11_lay 15 = .ok (.istore 4, 2) := by decide +kernel
theorem dX11_lay_17 : decode cX11_lay 17 = .ok (.iload 4, 2) := by decide +kernel
theorem dX11_lay_19 : decode cX11_lay 19 = .ok (.bipush 10, 2) := by decide +kernel
theorem dX11_lay_21 : decode cX11_lay 21 = .ok (.if_icmp .eq 17, 3) := by decide +kernel
theorem dX11_lay_24 : decode cX11_lay 24 = .ok (.iload 4, 2) := by decide +kernel
theorem dX11_lay_26 : decode cX11_lay 26 = .ok (.bipush 32, 2) := by decide +kernel
theorem dX11_lay_28 : decode cX11_lay 28 = .ok (.if_icmp .lt 41, 3) := by decide +kernel
theorem dX11_lay_31 : decode cX11_lay 31 = .ok (.iload 4, 2) := by decide +kernel
theorem dX11_lay_33 : decode cX11_lay 33 = .ok (.bipush 126, 2) := by decide +kernel
theorem dX11_lay_35 : decode cX11_lay 35 = .ok (.if_icmp .gt 34, 3) := by decide +kernel
theorem dX11_lay_38 : decode cX11_lay 38 = .ok (.aload_n 0, 1) := by decide +kernel
theorem dX11_lay_39 : decode cX11_lay 39 = .ok (.getfield 11, 3) := by decide +kernel
theorem dX11_lay_42 : decode cX11_lay 42 = .ok (.sipush 2400, 3) := by decide +kernel
theorem dX11_lay_45 : decode cX11_lay 45 = .ok (.if_icmp .ge 24, 3) := by decide +kernel
theorem dX11_lay_48 : decode cX11_lay 48 = .ok (.aload_n 0, 1) := by decide +kernel
theorem dX11_lay_49 : decode cX11_lay 49 = .ok (.getfield 14, 3) := by decide +kernel
theorem dX11_lay_52 : decode cX11_lay 52 = .ok (.aload_n 0, 1) := by decide +kernel
theorem dX11_lay_53 : decode cX11_lay 53 = .ok (.getfield 11, 3) := by decide +kernel
theorem dX11_lay_56 : decode cX11_lay 56 = .ok (.iload 4, 2) := by decide +kernel
theorem dX11_lay_58 : decode cX11_lay 58 = .ok (.iastore, 1) := by decide +kernel
theorem dX11_lay_59 : decode cX11_lay 59 = .ok (.aload_n 0, 1) := by decide +kernel
theorem dX11_lay_60 : decode cX11_lay 60 = .ok (.dup, 1) := by decide +kernel
theorem dX11_lay_61 : decode cX11_lay 61 = .ok (.getfield 11, 3) := by decide +kernel
theorem dX11_lay_64 : decode cX11_lay 64 = .ok (.iconst 1, 1) := by decide +kernel
theorem dX11_lay_65 : decode cX11_lay 65 = .ok (.iadd, 1) := by decide +kernel
theorem dX11_lay_66 : decode cX11_lay 66 = .ok (.putfield 11, 3) := by decide +kernel
theorem dX11_lay_69 : decode cX11_lay 69 = .ok (.iinc 3 (-8), 3) := by decide +kernel
theorem dX11_lay_72 : decode cX11_lay 72 = .ok (.goto (-69), 3) := by decide +kernel
theorem dX11_lay_75 : decode cX11_lay 75 = .ok (.return_, 1) := by decide +kernel
theorem dX11_init_0 : decode cX11_init 0 = .ok (.aload_n 0, 1) := by decide +kernel
theorem dX11_init_1 : decode cX11_init 1 = .ok (.invokespecial 18, 3) := by decide +kernel
theorem dX11_init_4 : decode cX11_init 4 = .ok (.aload_n 0, 1) := by decide +kernel
theorem dX11_init_5 : decode cX11_init 5 = .ok (.sipush 2400, 3) := by decide +kernel
theorem dX11_init_8 : decode cX11_init 8 = .ok (.newarray .int, 2) := by decide +kernel
theorem dX11_init_10 : decode cX11_init 10 = .ok (.putfield 14, 3) := by decide +kernel
theorem dX11_init_13 : decode cX11_init 13 = .ok (.aload_n 0, 1) := by decide +kernel
theorem dX11_init_14 : decode cX11_init 14 = .ok (.sipush 2402, 3) := by decide +kernel
theorem dX11_init_17 : decode cX11_init 17 = .ok (.newarray .int, 2) := by decide +kernel
theorem dX11_init_19 : decode cX11_init 19 = .ok (.putfield 24, 3) := by decide +kernel
theorem dX11_init_22 : decode cX11_init 22 = .ok (.aload_n 0, 1) := by decide +kernel
theorem dX11_init_23 : decode cX11_init 23 = .ok (.sipush 2402, 3) := by decide +kernel
theorem dX11_init_26 : decode cX11_init 26 = .ok (.newarray .int, 2) := by decide +kernel
theorem dX11_init_28 : decode cX11_init 28 = .ok (.putfield 27, 3) := by decide +kernel
theorem dX11_init_31 : decode cX11_init 31 = .ok (.aload_n 0, 1) := by decide +kernel
theorem dX11_init_32 : decode cX11_init 32 = .ok (.sipush 2402, 3) := by decide +kernel
theorem dX11_init_35 : decode cX11_init 35 = .ok (.newarray .long, 2) := by decide +kernel
theorem dX11_init_37 : decode cX11_init 37 = .ok (.putfield 30, 3) := by decide +kernel
theorem dX11_init_40 : decode cX11_init 40 = .ok (.aload_n 0, 1) := by decide +kernel
theorem dX11_init_41 : decode cX11_init 41 = .ok (.bipush 11, 2) := by decide +kernel
theorem dX11_init_43 : decode cX11_init 43 = .ok (.newarray .long, 2) := by decide +kernel
theorem dX11_init_45 : decode cX11_init 45 = .ok (.dup, 1) := by decide +kernel
theorem dX11_init_46 : decode cX11_init 46 = .ok (.iconst 0, 1) := by decide +kernel
theorem dX11_init_47 : decode cX11_init 47 = .ok (.ldc2_w 34, 3) := by decide +kernel
theorem dX11_init_50 : decode cX11_init 50 = .ok (.lastore, 1) := by decide +kernel
theorem dX11_init_51 : decode cX11_init 51 = .ok (.dup, 1) := by decide +kernel
theorem dX11_init_52 : decode cX11_init 52 = .ok (.iconst 1, 1) := by decide +kernel
theorem dX11_init_53 : decode cX11_init 53 = .ok (.ldc2_w 36, 3) := by decide +kernel
theorem dX11_init_56 : decode cX11_init 56 = .ok (.lastore, 1) := by decide +kernel
theorem dX11_init_57 : decode cX11_init 57 = .ok (.dup, 1) := by decide +kernel
theorem dX11_init_58 : decode cX11_init 58 = .ok (.iconst 2, 1) := by decide +kernel
theorem dX11_init_59 : decode cX11_init 59 = .ok (.ldc2_w 38, 3) := by decide +kernel
theorem dX11_init_62 : decode cX11_init 62 = .ok (.lastore, 1) := by decide +kernel
theorem dX11_init_63 : decode cX11_init 63 = .ok (.dup, 1) := by decide +kernel
theorem dX11_init_64 : decode cX11_init 64 = .ok (.iconst 3, 1) := by decide +kernel
theorem dX11_init_65 : decode cX11_init 65 = .ok (.ldc2_w 40, 3) := by decide +kernel
theorem dX11_init_68 : decode cX11_init 68 = .ok (.lastore, 1) := by decide +kernel
theorem dX11_init_69 : decode cX11_init 69 = .ok (.dup, 1) := by decide +kernel
theorem dX11_init_70 : decode cX11_init 70 = .ok (.iconst 4, 1) := by decide +kernel
theorem dX11_init_71 : decode cX11_init 71 = .ok (.ldc2_w 42, 3) := by decide +kernel
theorem dX11_init_74 : decode cX11_init 74 = .ok (.lastore, 1) := by decide +kernel
theorem dX11_init_75 : decode cX11_init 75 = .ok (.dup, 1) := by decide +kernel
theorem dX11_init_76 : decode cX11_init 76 = .ok (.iconst 5, 1) := by decide +kernel
theorem dX11_init_77 : decode cX11_init 77 = .ok (.ldc2_w 44, 3) := by decide +kernel
theorem dX11_init_80 : decode cX11_init 80 = .ok (.lastore, 1) := by decide +kernel
theorem dX11_init_81 : decode cX11_init 81 = .ok (.dup, 1) := by decide +kernel
theorem dX11_init_82 : decode cX11_init 82 = .ok (.bipush 6, 2) := by decide +kernel
theorem dX11_init_84 : decode cX11_init 84 = .ok (.ldc2_w 46, 3) := by decide +kernel
theorem dX11_init_87 : decode cX11_init 87 = .ok (.lastore, 1) := by decide +kernel
theorem dX11_init_88 : decode cX11_init 88 = .ok (.dup, 1) := by decide +kernel
theorem dX11_init_89 : decode cX11_init 89 = .ok (.bipush 7, 2) := by decide +kernel
theorem dX11_init_91 : decode cX11_init 91 = .ok (.ldc2_w 48, 3) := by decide +kernel
theorem dX11_init_94 : decode cX11_init 94 = .ok (.lastore, 1) := by decide +kernel
theorem dX11_init_95 : decode cX11_init 95 = .ok (.dup, 1) := by decide +kernel
theorem dX11_init_96 : decode cX11_init 96 = .ok (.bipush 8, 2) := by decide +kernel
theorem dX11_init_98 : decode cX11_init 98 = .ok (.ldc2_w 50, 3) := by decide +kernel
theorem dX11_init_101 : decode cX11_init 101 = .ok (.lastore, 1) := by decide +kernel
theorem dX11_init_102 : decode cX11_init 102 = .ok (.dup, 1) := by decide +kernel
theorem dX11_init_103 : decode cX11_init 103 = .ok (.bipush 9, 2) := by decide +kernel
theorem dX11_init_105 : decode cX11_init 105 = .ok (.ldc2_w 52, 3) := by decide +kernel
theorem dX11_init_108 : decode cX11_init 108 = .ok (.lastore, 1) := by decide +kernel
theorem dX11_init_109 : decode cX11_init 109 = .ok (.dup, 1) := by decide +kernel
theorem dX11_init_110 : decode cX11_init 110 = .ok (.bipush 10, 2) := by decide +kernel
theorem dX11_init_112 : decode cX11_init 112 = .ok (.ldc2_w 54, 3) := by decide +kernel
theorem dX11_init_115 : decode cX11_init 115 = .ok (.lastore, 1) := by decide +kernel
theorem dX11_init_116 : decode cX11_init 116 = .ok (.putfield 56, 3) := by decide +kernel
theorem dX11_init_119 : decode cX11_init 119 = .ok (.aload_n 0, 1) := by decide +kernel
theorem dX11_init_120 : decode cX11_init 120 = .ok (.bipush 6, 2) := by decide +kernel
theorem dX11_init_122 : decode cX11_init 122 = .ok (.newarray .int, 2) := by decide +kernel
theorem dX11_init_124 : decode cX11_init 124 = .ok (.putfield 59, 3) := by decide +kernel
theorem dX11_init_127 : decode cX11_init 127 = .ok (.aload_n 0, 1) := by decide +kernel
theorem dX11_init_128 : decode cX11_init 128 = .ok (.bipush 7, 2) := by decide +kernel
theorem dX11_init_130 : decode cX11_init 130 = .ok (.newarray .int, 2) := by decide +kernel
theorem dX11_init_132 : decode cX11_init 132 = .ok (.putfield 62, 3) := by decide +kernel
theorem dX11_init_135 : decode cX11_init 135 = .ok (.aload_n 0, 1) := by decide +kernel
theorem dX11_init_136 : decode cX11_init 136 = .ok (.bipush 56, 2) := by decide +kernel
theorem dX11_init_138 : decode cX11_init 138 = .ok (.newarray .long, 2) := by decide +kernel
theorem dX11_init_140 : decode cX11_init 140 = .ok (.putfield 65, 3) := by decide +kernel
theorem dX11_init_143 : decode cX11_init 143 = .ok (.aload_n 0, 1) := by decide +kernel
theorem dX11_init_144 : decode cX11_init 144 = .ok (.bipush 56, 2) := by decide +kernel
theorem dX11_init_146 : decode cX11_init 146 = .ok (.newarray .int, 2) := by decide +kernel
theorem dX11_init_148 : decode cX11_init 148 = .ok (.putfield 68, 3) := by decide +kernel
theorem dX11_init_151 : decode cX11_init 151 = .ok (.aload_n 0, 1) := by decide +kernel
theorem dX11_init_152 : decode cX11_init 152 = .ok (.bipush 56, 2) := by decide +kernel
theorem dX11_init_154 : decode cX11_init 154 = .ok (.newarray .int, 2) := by decide +kernel
theorem dX11_init_156 : decode cX11_init 156 = .ok (.putfield 71, 3) := by decide +kernel
theorem dX11_init_159 : decode cX11_init 159 = .ok (.aload_n 0, 1) := by decide +kernel
theorem dX11_init_160 : decode cX11_init 160 = .ok (.bipush 7, 2) := by decide +kernel
theorem dX11_init_162 : decode cX11_init 162 = .ok (.newarray .int, 2) := by decide +kernel
theorem dX11_init_164 : decode cX11_init 164 = .ok (.putfield 74, 3) := by decide +kernel
theorem dX11_init_167 : decode cX11_init 167 = .ok (.aload_n 0, 1) := by decide +kernel
theorem dX11_init_168 : decode cX11_init 168 = .ok (.bipush 84, 2) := by decide +kernel
theorem dX11_init_170 : decode cX11_init 170 = .ok (.newarray .long, 2) := by decide +kernel
theorem dX11_init_172 : decode cX11_init 172 = .ok (.putfield 77, 3) := by decide +kernel
theorem dX11_init_175 : decode cX11_init 175 = .ok (.aload_n 0, 1) := by decide +kernel
theorem dX11_init_176 : decode cX11_init 176 = .ok (.bipush 84, 2) := by decide +kernel
theorem dX11_init_178 : decode cX11_init 178 = .ok (.newarray .int, 2) := by decide +kernel
theorem dX11_init_180 : decode cX11_init 180 = .ok (.putfield 80, 3) := by decide +kernel
theorem dX11_init_183 : decode cX11_init 183 = .ok (.aload_n 0, 1) := by decide +kernel
theorem dX11_init_184 : decode cX11_init 184 = .ok (.bipush 84, 2) := by decide +kernel
theorem dX11_init_186 : decode cX11_init 186 = .ok (.newarray .boolean, 2) := by decide +kernel
theorem dX11_init_188 : decode cX11_init 188 = .ok (.putfield 83, 3) := by decide +kernel
theorem dX11_init_191 : decode cX11_init 191 = .ok (.aload_n 0, 1) := by decide +kernel
theorem dX11_init_192 : decode cX11_init 192 = .ok (.bipush 84, 2) := by decide +kernel
theorem dX11_init_194 : decode cX11_init 194 = .ok (.newarray .int, 2) := by decide +kernel
theorem dX11_init_196 : decode cX11_init 196 = .ok (.putfield 87, 3) := by decide +kernel
theorem dX11_init_199 : decode cX11_init 199 = .ok (.aload_n 0, 1) := by decide +kernel
theorem dX11_init_200 : decode cX11_init 200 = .ok (.bipush 84, 2) := by decide +kernel
theorem dX11_init_202 : decode cX11_init 202 = .ok (.newarray .int, 2) := by decide +kernel
theorem dX11_init_204 : decode cX11_init 204 = .ok (.putfield 90, 3) := by decide +kernel
theorem dX11_init_207 : decode cX11_init 207 = .ok (.aload_n 0, 1) := by decide +kernel
theorem dX11_init_208 : decode cX11_init 208 = .ok (.sipush 672, 3) := by decide +kernel
theorem dX11_init_211 : decode cX11_init 211 = .ok (.newarray .int, 2) := by decide +kernel
theorem dX11_init_213 : decode cX11_init 213 = .ok (.putfield 93, 3) := by decide +kernel
theorem dX11_init_216 : decode cX11_init 216 = .ok (.aload_n 0, 1) := by decide +kernel
theorem dX11_init_217 : decode cX11_init 217 = .ok (.sipush 672, 3) := by decide +kernel
theorem dX11_init_220 : decode cX11_init 220 = .ok (.newarray .boolean, 2) := by decide +kernel
theorem dX11_init_222 : decode cX11_init 222 = .ok (.putfield 96, 3) := by decide +kernel
theorem dX11_init_225 : decode cX11_init 225 = .ok (.aload_n 0, 1) := by decide +kernel
theorem dX11_init_226 : decode cX11_init 226 = .ok (.bipush 84, 2) := by decide +kernel
theorem dX11_init_228 : decode cX11_init 228 = .ok (.newarray .int, 2) := by decide +kernel
theorem dX11_init_230 : decode cX11_init 230 = .ok (.putfield 99, 3) := by decide +kernel
theorem dX11_init_233 : decode cX11_init 233 = .ok (.aload_n 0, 1) := by decide +kernel
theorem dX11_init_234 : decode cX11_init 234 = .ok (.sipush 1680, 3) := by decide +kernel
theorem dX11_init_237 : decode cX11_init 237 = .ok (.newarray .int, 2) := by decide +kernel
theorem dX11_init_239 : decode cX11_init 239 = .ok (.putfield 102, 3) := by decide +kernel
theorem dX11_init_242 : decode cX11_init 242 = .ok (.aload_n 0, 1) := by decide +kernel
theorem dX11_init_243 : decode cX11_init 243 = .ok (.sipush 1680, 3) := by decide +kernel
theorem dX11_init_246 : decode cX11_init 246 = .ok (.newarray .int, 2) := by decide +kernel
theorem dX11_init_248 : decode cX11_init 248 = .ok (.putfield 105, 3) := by decide +kernel
theorem dX11_init_251 : decode cX11_init 251 = .ok (.aload_n 0, 1) := by decide +kernel
theorem dX11_init_252 : decode cX11_init 252 = .ok (.sipush 1680, 3) := by decide +kernel
theorem dX11_init_255 : decode cX11_init 255 = .ok (.newarray .long, 2) := by decide +kernel
theorem dX11_init_257 : decode cX11_init 257 = .ok (.putfield 108, 3) := by decide +kernel
theorem dX11_init_260 : decode cX11_init 260 = .ok (.aload_n 0, 1) := by decide +kernel
theorem dX11_init_261 : decode cX11_init 261 = .ok (.sipush 18200, 3) := by decide +kernel
theorem dX11_init_264 : decode cX11_init 264 = .ok (.newarray .int, 2) := by decide +kernel
theorem dX11_init_266 : decode cX11_init 266 = .ok (.putfield 111, 3) := by decide +kernel
theorem dX11_init_269 : decode cX11_init 269 = .ok (.aload_n 0, 1) := by decide +kernel
theorem dX11_init_270 : decode cX11_init 270 = .ok (.sipush 18200, 3) := by decide +kernel
theorem dX11_init_273 : decode cX11_init 273 = .ok (.newarray .int, 2) := by decide +kernel
theorem dX11_init_275 : decode cX11_init 275 = .ok (.putfield 114, 3) := by decide +kernel
theorem dX11_init_278 : decode cX11_init 278 = .ok (.aload_n 0, 1) := by decide +kernel
theorem dX11_init_279 : decode cX11_init 279 = .ok (.bipush 7, 2) := by decide +kernel
theorem dX11_init_281 : decode cX11_init 281 = .ok (.newarray .int, 2) := by decide +kernel
theorem dX11_init_283 : decode cX11_init 283 = .ok (.putfield 117, 3) := by decide +kernel
theorem dX11_init_286 : decode cX11_init 286 = .ok (.aload_n 0, 1) := by decide +kernel
theorem dX11_init_287 : decode cX11_init 287 = .ok (.bipush 7, 2) := by decide +kernel
theorem dX11_init_289 : decode cX11_init 289 = .ok (.newarray .int, 2) := by decide +kernel
theorem dX11_init_291 : decode cX11_init 291 = .ok (.putfield 120, 3) := by decide +kernel
theorem dX11_init_294 : decode cX11_init 294 = .ok (.aload_n 0, 1) := by decide +kernel
theorem dX11_init_295 : decode cX11_init 295 = .ok (.bipush 8, 2) := by decide +kernel
theorem dX11_init_297 : decode cX11_init 297 = .ok (.newarray .int, 2) := by decide +kernel
theorem dX11_init_299 : decode cX11_init 299 = .ok (.putfield 123, 3) := by decide +kernel
theorem dX11_init_302 : decode cX11_init 302 = .ok (.aload_n 0, 1) := by decide +kernel
theorem dX11_init_303 : decode cX11_init 303 = .ok (.sipush 10000, 3) := by decide +kernel
theorem dX11_init_306 : decode cX11_init 306 = .ok (.newarray .boolean, 2) := by decide +kernel
theorem dX11_init_308 : decode cX11_init 308 = .ok (.putfield 126, 3) := by decide +kernel
theorem dX11_init_311 : decode cX11_init 311 = .ok (.aload_n 0, 1) := by decide +kernel
theorem dX11_init_312 : decode cX11_init 312 = .ok (.sipush 10000, 3) := by decide +kernel
theorem dX11_init_315 : decode cX11_init 315 = .ok (.newarray .int, 2) := by decide +kernel
theorem dX11_init_317 : decode cX11_init 317 = .ok (.putfield 129, 3) := by decide +kernel
theorem dX11_init_320 : decode cX11_init 320 = .ok (.aload_n 0, 1) := by decide +kernel
theorem dX11_init_321 : decode cX11_init 321 = .ok (.sipush 2600, 3) := by decide +kernel
theorem dX11_init_324 : decode cX11_init 324 = .ok (.newarray .int, 2) := by decide +kernel
theorem dX11_init_326 : decode cX11_init 326 = .ok (.putfield 132, 3) := by decide +kernel
theorem dX11_init_329 : decode cX11_init 329 = .ok (.aload_n 0, 1) := by decide +kernel
theorem dX11_init_330 : decode cX11_init 330 = .ok (.bipush 12, 2) := by decide +kernel
theorem dX11_init_332 : decode cX11_init 332 = .ok (.newarray .boolean, 2) := by decide +kernel
theorem dX11_init_334 : decode cX11_init 334 = .ok (.putfield 135, 3) := by decide +kernel
theorem dX11_init_337 : decode cX11_init 337 = .ok (.aload_n 0, 1) := by decide +kernel
theorem dX11_init_338 : decode cX11_init 338 = .ok (.bipush 12, 2) := by decide +kernel
theorem dX11_init_340 : decode cX11_init 340 = .ok (.newarray .int, 2) := by decide +kernel
theorem dX11_init_342 : decode cX11_init 342 = .ok (.putfield 138, 3) := by decide +kernel
theorem dX11_init_345 : decode cX11_init 345 = .ok (.aload_n 0, 1) := by decide +kernel
theorem dX11_init_346 : decode cX11_init 346 = .ok (.sipush 5000, 3) := by decide +kernel
theorem dX11_init_349 : decode cX11_init 349 = .ok (.newarray .int, 2) := by decide +kernel
theorem dX11_init_351 : decode cX11_init 351 = .ok (.putfield 141, 3) := by decide +kernel
theorem dX11_init_354 : decode cX11_init 354 = .ok (.aload_n 0, 1) := by decide +kernel
theorem dX11_init_355 : decode cX11_init 355 = .ok (.sipush 5000, 3) := by decide +kernel
theorem dX11_init_358 : decode cX11_init 358 = .ok (.newarray .int, 2) := by decide +kernel
theorem dX11_init_360 : decode cX11_init 360 = .ok (.putfield 144, 3) := by decide +kernel
theorem dX11_init_363 : decode cX11_init 363 = .ok (.aload_n 0, 1) := by decide +kernel
theorem dX11_init_364 : decode cX11_init 364 = .ok (.bipush 12, 2) := by decide +kernel
theorem dX11_init_366 : decode cX11_init 366 = .ok (.newarray .int, 2) := by decide +kernel
theorem dX11_init_368 : decode cX11_init 368 = .ok (.putfield 147, 3) := by decide +kernel
theorem dX11_init_371 : decode cX11_init 371 = .ok (.aload_n 0, 1) := by decide +kernel
theorem dX11_init_372 : decode cX11_init 372 = .ok (.bipush 8, 2) := by decide +kernel
theorem dX11_init_374 : decode cX11_init 374 = .ok (.newarray .int, 2) := by decide +kernel
theorem dX11_init_376 : decode cX11_init 376 = .ok (.putfield 150, 3) := by decide +kernel
theorem dX11_init_379 : decode cX11_init 379 = .ok (.aload_n 0, 1) := by decide +kernel
theorem dX11_init_380 : decode cX11_init 380 = .ok (.sipush 5000, 3) := by decide +kernel
theorem dX11_init_383 : decode cX11_init 383 = .ok (.newarray .int, 2) := by decide +kernel
theorem dX11_init_385 : decode cX11_init 385 = .ok (.putfield 153, 3) := by decide +kernel
theorem dX11_init_388 : decode cX11_init 388 = .ok (.aload_n 0, 1) := by decide +kernel
theorem dX11_init_389 : decode cX11_init 389 = .ok (.iconst (-1), 1) := by decide +kernel
theorem dX11_init_390 : decode cX11_init 390 = .ok (.putfield 156, 3) := by decide +kernel
theorem dX11_init_393 : decode cX11_init 393 = .ok (.aload_n 0, 1) := by decide +kernel
theorem dX11_init_394 : decode cX11_init 394 = .ok (.iconst (-1), 1) := by decide +kernel
theorem dX11_init_395 : decode cX11_init 395 = .ok (.putfield 159, 3) := by decide +kernel
theorem dX11_init_398 : decode cX11_init 398 = .ok (.return_, 1) := by decide +kernel
theorem dX11_isLetter_0 : decode cX11_isLetter 0 = .ok (.iload_n 0, 1) := by decide +kernel
theorem dX11_isLetter_1 : decode cX11_isLetter 1 = .ok (.bipush 97, 2) := by decide +kernel
theorem dX11_isLetter_3 : decode cX11_isLetter 3 = .ok (.if_icmp .lt 13, 3) := by decide +kernel
theorem dX11_isLetter_6 : decode cX11_isLetter 6 = .ok (.iload_n 0, 1) := by decide +kernel
theorem dX11_isLetter_7 : decode cX11_isLetter 7 = .ok (.bipush 122, 2) := by decide +kernel
theorem dX11_isLetter_9 : decode cX11_isLetter 9 = .ok (.if_icmp .gt 7, 3) := by decide +kernel
theorem dX11_isLetter_12 : decode cX11_isLetter 12 = .ok (.iconst 1, 1) := by decide +kernel
theorem dX11_isLetter_13 : decode cX11_isLetter 13 = .ok (.goto 4, 3) := by decide +kernel
theorem dX11_isLetter_16 : decode cX11_isLetter 16 = .ok (.iconst 0, 1) := by decide +kernel
theorem dX11_isLetter_17 : decode cX11_isLetter 17 = .ok (.ireturn, 1) := by decide +kernel
theorem dX11_isDigit_0 : decode cX11_isDigit 0 = .ok (.iload_n 0, 1) := by decide +kernel
theorem dX11_isDigit_1 : decode cX11_isDigit 1 = .ok (.bipush 48, 2) := by decide +kernel
theorem dX11_isDigit_3 : decode cX11_isDigit 3 = .ok (.if_icmp .lt 13, 3) := by decide +kernel
theorem dX11_isDigit_6 : decode cX11_isDigit 6 = .ok (.iload_n 0, 1) := by decide +kernel
theorem dX11_isDigit_7 : decode cX11_isDigit 7 = .ok (.bipush 57, 2) := by decide +kernel
theorem dX11_isDigit_9 : decode cX11_isDigit 9 = .ok (.if_icmp .gt 7, 3) := by decide +kernel
theorem dX11_isDigit_12 : decode cX11_isDigit 12 = .ok (.iconst 1, 1) := by decide +kernel
theorem dX11_isDigit_13 : decode cX11_isDigit 13 = .ok (.goto 4, 3) := by decide +kernel
theorem dX11_isDigit_16 : decode cX11_isDigit 16 = .ok (.iconst 0, 1) := by decide +kernel
theorem dX11_isDigit_17 : decode cX11_isDigit 17 = .ok (.ireturn, 1) := by decide +kernel
theorem dX11_rank_0 : decode cX11_rank 0 = .ok (.iload_n 0, 1) := by decide +kernel
theorem dX11_rank_1 : decode cX11_rank 1 = .ok (.invokestatic 162, 3) := by decide +kernel
theorem dX11_rank_4 : decode cX11_rank 4 = .ok (.ifCond .eq 10, 3) := by decide +kernel
theorem dX11_rank_7 : decode cX11_rank 7 = .ok (.iload_n 0, 1) := by decide +kernel
theorem dX11_rank_8 : decode cX11_rank 8 = .ok (.bipush 96, 2) := by decide +kernel
theorem dX11_rank_10 : decode cX11_rank 10 = .ok (.isub, 1) := by decide +kernel
theorem dX11_rank_11 : decode cX11_rank 11 = .ok (.goto 7, 3) := by decide +kernel
theorem dX11_rank_14 : decode cX11_rank 14 = .ok (.iload_n 0, 1) := by decide +kernel
theorem dX11_rank_15 : decode cX11_rank 15 = .ok (.bipush 21, 2) := by decide +kernel
theorem dX11_rank_17 : decode cX11_rank 17 = .ok (.isub, 1) := by decide +kernel
theorem dX11_rank_18 : decode cX11_rank 18 = .ok (.ireturn, 1) := by decide +kernel
theorem dX11_isSignOf_0 : decode cX11_isSignOf 0 = .ok (.iload_n 0, 1) := by decide +kernel
theorem dX11_isSignOf_1 : decode cX11_isSignOf 1 = .ok (.bipush 40, 2) := by decide +kernel
theorem dX11_isSignOf_3 : decode cX11_isSignOf 3 = .ok (.if_icmp .eq 39, 3) := by decide +kernel
theorem dX11_isSignOf_6 : decode cX11_isSignOf 6 = .ok (.iload_n 0, 1) := by decide +kernel
theorem dX11_isSignOf_7 : decode cX11_isSignOf 7 = .ok (.bipush 41, 2) := by decide +kernel
theorem dX11_isSignOf_9 : decode cX11_isSignOf 9 = .ok (.if_icmp .eq 33, 3) := by decide +kernel
theorem dX11_isSignOf_12 : decode cX11_isSignOf 12 = .ok (.iload_n 0, 1) := by decide +kernel
theorem dX11_isSignOf_13 : decode cX11_isSignOf 13 = .ok (.bipush 59, 2) := by decide +kernel
theorem dX11_isSignOf_15 : decode cX11_isSignOf 15 = .ok (.if_icmp .eq 27, 3) := by decide +kernel
theorem dX11_isSignOf_18 : decode cX11_isSignOf 18 = .ok (.iload_n 0, 1) := by decide +kernel
theorem dX11_isSignOf_19 : decode cX11_isSignOf 19 = .ok (.bipush 61, 2) := by decide +kernel
theorem dX11_isSignOf_21 : decode cX11_isSignOf 21 = .ok (.if_icmp .eq 21, 3) := by decide +kernel
theorem dX11_isSignOf_24 : decode cX11_isSignOf 24 = .ok (.iload_n 0, 1) := by decide +kernel
theorem dX11_isSignOf_25 : decode cX11_isSignOf 25 = .ok (.bipush 60, 2) := by decide +kernel
theorem dX11_isSignOf_27 : decode cX11_isSignOf 27 = .ok (.if_icmp .eq 15, 3) := by decide +kernel
theorem dX11_isSignOf_30 : decode cX11_isSignOf 30 = .ok (.iload_n 0, 1) := by decide +kernel
theorem dX11_isSignOf_31 : decode cX11_isSignOf 31 = .ok (.bipush 43, 2) := by decide +kernel
theorem dX11_isSignOf_33 : decode cX11_isSignOf 33 = .ok (.if_icmp .eq 9, 3) := by decide +kernel
theorem dX11_isSignOf_36 : decode cX11_isSignOf 36 = .ok (.iload_n 0, 1) := by decide +kernel
theorem dX11_isSignOf_37 : decode cX11_isSignOf 37 = .ok (.bipush 45, 2) := by decide +kernel
theorem dX11_isSignOf_39 : decode cX11_isSignOf 39 = .ok (.if_icmp .ne 7, 3) := by decide +kernel
theorem dX11_isSignOf_42 : decode cX11_isSignOf 42 = .ok (.iconst 1, 1) := by decide +kernel
theorem dX11_isSignOf_43 : decode cX11_isSignOf 43 = .ok (.goto 4, 3) := by decide +kernel
theorem dX11_isSignOf_46 : decode cX11_isSignOf 46 = .ok (.iconst 0, 1) := by decide +kernel
theorem dX11_isSignOf_47 : decode cX11_isSignOf 47 = .ok (.ireturn, 1) := by decide +kernel
theorem dX11_cutAll_0 : decode cX11_cutAll 0 = .ok (.aload_n 0, 1) := by decide +kernel
theorem dX11_cutAll_1 : decode cX11_cutAll 1 = .ok (.aload_n 0, 1) := by decide +kernel
theorem dX11_cutAll_2 : decode cX11_cutAll 2 = .ok (.getfield 11, 3) := by decide +kernel
theorem dX11_cutAll_5 : decode cX11_cutAll 5 = .ok (.putfield 166, 3) := by decide +kernel
theorem dX11_cutAll_8 : decode cX11_cutAll 8 = .ok (.aload_n 0, 1) := by decide +kernel
theorem dX11_cutAll_9 : decode cX11_cutAll 9 = .ok (.iconst 0, 1) := by decide +kernel
theorem dX11_cutAll_10 : decode cX11_cutAll 10 = .ok (.putfield 11, 3) := by decide +kernel
theorem dX11_cutAll_13 : decode cX11_cutAll 13 = .ok (.iconst 0, 1) := by decide +kernel
theorem dX11_cutAll_14 : decode cX11_cutAll 14 = .ok (.istore_n 1, 1) := by decide +kernel
theorem dX11_cutAll_15 : decode cX11_cutAll 15 = .ok (.iconst 0, 1) := by decide +kernel
theorem dX11_cutAll_16 : decode cX11_cutAll 16 = .ok (.istore_n 2, 1) := by decide +kernel
theorem dX11_cutAll_17 : decode cX11_cutAll 17 = .ok (.iload_n 2, 1) := by decide +kernel
theorem dX11_cutAll_18 : decode cX11_cutAll 18 = .ok (.aload_n 0, 1) := by decide +kernel
theorem dX11_cutAll_19 : decode cX11_cutAll 19 = .ok (.getfield 166, 3) := by decide +kernel
theorem dX11_cutAll_22 : decode cX11_cutAll 22 = .ok (.if_icmp .ge 257, 3) := by decide +kernel
theorem dX11_cutAll_25 : decode cX11_cutAll 25 = .ok (.aload_n 0, 1) := by decide +kernel
theorem dX11_cutAll_26 : decode cX11_cutAll 26 = .ok (.getfield 14, 3) := by decide +kernel
theorem dX11_cutAll_29 : decode cX11_cutAll 29 = .ok (.iload_n 2, 1) := by decide +kernel
theorem dX11_cutAll_30 : decode cX11_cutAll 30 = .ok (.iaload, 1) := by decide +kernel
theorem dX11_cutAll_31 : decode cX11_cutAll 31 = .ok (.istore_n 3, 1) := by decide +kernel
theorem dX11_cutAll_32 : decode cX11_cutAll 32 = .ok (.iload_n 3, 1) := by decide +kernel
theorem dX11_cutAll_33 : decode cX11_cutAll 33 = .ok (.bipush 10, 2) := by decide +kernel
theorem dX11_cutAll_35 : decode cX11_cutAll 35 = .ok (.if_icmp .eq 9, 3) := by decide +kernel
theorem dX11_cutAll_38 : decode cX11_cutAll 38 = .ok (.iload_n 3, 1) := by decide +kernel
theorem dX11_cutAll_39 : decode cX11_cutAll 39 = .ok (.bipush 32, 2) := by decide +kernel
theorem dX11_cutAll_41 : decode cX11_cutAll 41 = .ok (.if_icmp .ne 9, 3) := by decide +kernel
theorem dX11_cutAll_44 : decode cX11_cutAll 44 = .ok (.iinc 2 1, 3) := by decide +kernel
theorem dX11_cutAll_47 : decode cX11_cutAll 47 = .ok (.goto (-30), 3) := by decide +kernel
theorem dX11_cutAll_50 : decode cX11_cutAll 50 = .ok (.iload_n 2, 1) := by decide +kernel
theorem dX11_cutAll_51 : decode cX11_cutAll 51 = .ok (.istore 4, 2) := by decide +kernel
theorem dX11_cutAll_53 : decode cX11_cutAll 53 = .ok (.lconst 0, 1) := by decide +kernel
theorem dX11_cutAll_54 : decode cX11_cutAll 54 = .ok (.lstore 5, 2) := by decide +kernel
theorem dX11_cutAll_56 : decode cX11_cutAll 56 = .ok (.aload_n 0, 1) := by decide +kernel
theorem dX11_cutAll_57 : decode cX11_cutAll 57 = .ok (.getfield 27, 3) := by decide +kernel
theorem dX11_cutAll_60 : decode cX11_cutAll 60 = .ok (.iload_n 1, 1) := by decide +kernel
theorem dX11_cutAll_61 : decode cX11_cutAll 61 = .ok (.iload_n 2, 1) := by decide +kernel
theorem dX11_cutAll_62 : decode cX11_cutAll 62 = .ok (.iastore, 1) := by decide +kernel
theorem dX11_cutAll_63 : decode cX11_cutAll 63 = .ok (.iload_n 3, 1) := by decide +kernel
theorem dX11_cutAll_64 : decode cX11_cutAll 64 = .ok (.invokestatic 162, 3) := by decide +kernel
theorem dX11_cutAll_67 : decode cX11_cutAll 67 = .ok (.ifCond .eq 85, 3) := by decide +kernel
theorem dX11_cutAll_70 : decode cX11_cutAll 70 = .ok (.iload_n 2, 1) := by decide +kernel
theorem dX11_cutAll_71 : decode cX11_cutAll 71 = .ok (.aload_n 0, 1) := by decide +kernel
theorem dX11_cutAll_72 : decode cX11_cutAll 72 = .ok (.getfield 166, 3) := by decide +kernel
theorem dX11_cutAll_75 : decode cX11_cutAll 75 = .ok (.if_icmp .ge 54, 3) := by decide +kernel
theorem dX11_cutAll_78 : decode cX11_cutAll 78 = .ok (.aload_n 0, 1) := by decide +kernel
theorem dX11_cutAll_79 : decode cX11_cutAll 79 = .ok (.getfield 14, 3) := by decide +kernel
theorem dX11_cutAll_82 : decode cX11_cutAll 82 = .ok (.iload_n 2, 1) := by decide +kernel
theorem dX11_cutAll_83 : decode cX11_cutAll 83 = .ok (.iaload, 1) := by decide +kernel
theorem dX11_cutAll_84 : decode cX11_cutAll 84 = .ok (.invokestatic 162, 3) := by decide +kernel
theorem dX11_cutAll_87 : decode cX11_cutAll 87 = .ok (.ifCond .eq 42, 3) := by decide +kernel
theorem dX11_cutAll_90 : decode cX11_cutAll 90 = .ok (.iload_n 2, 1) := by decide +kernel
theorem dX11_cutAll_91 : decode cX11_cutAll 91 = .ok (.iload 4, 2) := by decide +kernel
theorem dX11_cutAll_93 : decode cX11_cutAll 93 = .ok (.isub, 1) := by decide +kernel
theorem dX11_cutAll_94 : decode cX11_cutAll 94 = .ok (.bipush 10, 2) := by decide +kernel
theorem dX11_cutAll_96 : decode cX11_cutAll 96 = .ok (.if_icmp .ge 23, 3) := by decide +kernel
theorem dX11_cutAll_99 : decode cX11_cutAll 99 = .ok (.ldc2_w 169, 3) := by decide +kernel
theorem dX11_cutAll_102 : decode cX11_cutAll 102 = .ok (.lload 5, 2) := by decide +kernel
theorem dX11_cutAll_104 : decode cX11_cutAll 104 = .ok (.lmul, 1) := by decide +kernel
theorem dX11_cutAll_105 : decode cX11_cutAll 105 = .ok (.aload_n 0, 1) := by decide +kernel
theorem dX11_cutAll_106 : decode cX11_cutAll 106 = .ok (.getfield 14, 3) := by decide +kernel
theorem dX11_cutAll_109 : decode cX11_cutAll 109 = .ok (.iload_n 2, 1) := by decide +kernel
theorem dX11_cutAll_110 : decode cX11_cutAll 110 = .ok (.iaload, 1) := by decide +kernel
theorem dX11_cutAll_111 : decode cX11_cutAll 111 = .ok (.invokestatic 171, 3) := by decide +kernel
theorem dX11_cutAll_114 : decode cX11_cutAll 114 = .ok (.i2l, 1) := by decide +kernel
theorem dX11_cutAll_115 : decode cX11_cutAll 115 = .ok (.ladd, 1) := by decide +kernel
theorem dX11_cutAll_116 : decode cX11_cutAll 116 = .ok (.goto 5, 3) := by decide +kernel
theorem dX11_cutAll_119 : decode cX11_cutAll 119 = .ok (.lload 5, 2) := by decide +kernel
theorem dX11_cutAll_121 : decode cX11_cutAll 121 = .ok (.lstore 5, 2) := by decide +kernel
theorem dX11_cutAll_123 : decode cX11_cutAll 123 = .ok (.iinc 2 1, 3) := by decide +kernel
theorem dX11_cutAll_126 : decode cX11_cutAll 126 = .ok (.goto (-56), 3) := by decide +kernel
theorem dX11_cutAll_129 : decode cX11_cutAll 129 = .ok (.aload_n 0, 1) := by decide +kernel
theorem dX11_cutAll_130 : decode cX11_cutAll 130 = .ok (.getfield 24, 3) := by decide +kernel
theorem dX11_cutAll_133 : decode cX11_cutAll 133 = .ok (.iload_n 1, 1) := by decide +kernel
theorem dX11_cutAll_134 : decode cX11_cutAll 134 = .ok (.iload_n 2, 1) := by decide +kernel
theorem dX11_cutAll_135 : decode cX11_cutAll 135 = .ok (.iload 4, 2) := by decide +kernel
theorem dX11_cutAll_137 : decode cX11_cutAll 137 = .ok (.isub, 1) := by decide +kernel
theorem dX11_cutAll_138 : decode cX11_cutAll 138 = .ok (.bipush 10, 2) := by decide +kernel
theorem dX11_cutAll_140 : decode cX11_cutAll 140 = .ok (.if_icmp .le 7, 3) := by decide +kernel
theorem dX11_cutAll_143 : decode cX11_cutAll 143 = .ok (.iconst 4, 1) := by decide +kernel
theorem dX11_cutAll_144 : decode cX11_cutAll 144 = .ok (.goto 4, 3) := by decide +kernel
theorem dX11_cutAll_147 : decode cX11_cutAll 147 = .ok (.iconst 1, 1) := by decide +kernel
theorem dX11_cutAll_148 : decode cX11_cutAll 148 = .ok (.iastore, 1) := by decide +kernel
theorem dX11_cutAll_149 : decode cX11_cutAll 149 = .ok (.goto 116, 3) := by decide +kernel
theorem dX11_cutAll_152 : decode cX11_cutAll 152 = .ok (.iload_n 3, 1) := by decide +kernel
theorem dX11_cutAll_153 : decode cX11_cutAll 153 = .ok (.invokestatic 175, 3) := by decide +kernel
theorem dX11_cutAll_156 : decode cX11_cutAll 156 = .ok (.ifCond .eq 84, 3) := by decide +kernel
theorem dX11_cutAll_159 : decode cX11_cutAll 159 = .ok (.iload_n 2, 1) := by decide +kernel
theorem dX11_cutAll_160 : decode cX11_cutAll 160 = .ok (.aload_n 0, 1) := by decide +kernel
theorem dX11_cutAll_161 : decode cX11_cutAll 161 = .ok (.getfield 166, 3) := by decide +kernel
theorem dX11_cutAll_164 : decode cX11_cutAll 164 = .ok (.if_icmp .ge 54, 3) := by decide +kernel
theorem dX11_cutAll_167 : decode cX11_cutAll 167 = .ok (.aload_n 0, 1) := by decide +kernel
theorem dX11_cutAll_168 : decode cX11_cutAll 168 = .ok (.getfield 14, 3) := by decide +kernel
theorem dX11_cutAll_171 : decode cX11_cutAll 171 = .ok (.iload_n 2, 1) := by decide +kernel
theorem dX11_cutAll_172 : decode cX11_cutAll 172 = .ok (.iaload, 1) := by decide +kernel
theorem dX11_cutAll_173 : decode cX11_cutAll 173 = .ok (.invokestatic 175, 3) := by decide +kernel
theorem dX11_cutAll_176 : decode cX11_cutAll 176 = .ok (.ifCond .eq 42, 3) := by decide +kernel
theorem dX11_cutAll_179 : decode cX11_cutAll 179 = .ok (.iload_n 2, 1) := by decide +kernel
theorem dX11_cutAll_180 : decode cX11_cutAll 180 = .ok (.iload 4, 2) := by decide +kernel
theorem dX11_cutAll_182 : decode cX11_cutAll 182 = .ok (.isub, 1) := by decide +kernel
theorem dX11_cutAll_183 : decode cX11_cutAll 183 = .ok (.iconst 4, 1) := by decide +kernel
theorem dX11_cutAll_184 : decode cX11_cutAll 184 = .ok (.if_icmp .ge 24, 3) := by decide +kernel
theorem dX11_cutAll_187 : decode cX11_cutAll 187 = .ok (.ldc2_w 178, 3) := by decide +kernel
theorem dX11_cutAll_190 : decode cX11_cutAll 190 = .ok (.lload 5, 2) := by decide +kernel
theorem dX11_cutAll_192 : decode cX11_cutAll 192 = .ok (.lmul, 1) := by decide +kernel
theorem dX11_cutAll_193 : decode cX11_cutAll 193 = .ok (.aload_n 0, 1) := by decide +kernel
theorem dX11_cutAll_194 : decode cX11_cutAll 194 = .ok (.getfield 14, 3) := by decide +kernel
theorem dX11_cutAll_197 : decode cX11_cutAll 197 = .ok (.iload_n 2, 1) := by decide +kernel
theorem dX11_cutAll_198 : decode cX11_cutAll 198 = .ok (.iaload, 1) := by decide +kernel
theorem dX11_cutAll_199 : decode cX11_cutAll 199 = .ok (.i2l, 1) := by decide +kernel
theorem dX11_cutAll_200 : decode cX11_cutAll 200 = .ok (.ladd, 1) := by decide +kernel
theorem dX11_cutAll_201 : decode cX11_cutAll 201 = .ok (.ldc2_w 180, 3) := by decide +kernel
theorem dX11_cutAll_204 : decode cX11_cutAll 204 = .ok (.lsub, 1) := by decide +kernel
theorem dX11_cutAll_205 : decode cX11_cutAll 205 = .ok (.goto 5, 3) := by decide +kernel
theorem dX11_cutAll_208 : decode cX11_cutAll 208 = .ok (.lload 5, 2) := by decide +kernel
theorem dX11_cutAll_210 : decode cX11_cutAll 210 = .ok (.lstore 5, 2) := by decide +kernel
theorem dX11_cutAll_212 : decode cX11_cutAll 212 = .ok (.iinc 2 1, 3) := by decide +kernel
theorem dX11_cutAll_215 : decode cX11_cutAll 215 = .ok (.goto (-56), 3) := by decide +kernel
theorem dX11_cutAll_218 : decode cX11_cutAll 218 = .ok (.aload_n 0, 1) := by decide +kernel
theorem dX11_cutAll_219 : decode cX11_cutAll 219 = .ok (.getfield 24, 3) := by decide +kernel
theorem dX11_cutAll_222 : decode cX11_cutAll 222 = .ok (.iload_n 1, 1) := by decide +kernel
theorem dX11_cutAll_223 : decode cX11_cutAll 223 = .ok (.iload_n 2, 1) := by decide +kernel
theorem dX11_cutAll_224 : decode cX11_cutAll 224 = .ok (.iload 4, 2) := by decide +kernel
theorem dX11_cutAll_226 : decode cX11_cutAll 226 = .ok (.isub, 1) := by decide +kernel
theorem dX11_cutAll_227 : decode cX11_cutAll 227 = .ok (.iconst 4, 1) := by decide +kernel
theorem dX11_cutAll_228 : decode cX11_cutAll 228 = .ok (.if_icmp .le 7, 3) := by decide +kernel
theorem dX11_cutAll_231 : decode cX11_cutAll 231 = .ok (.iconst 4, 1) := by decide +kernel
theorem dX11_cutAll_232 : decode cX11_cutAll 232 = .ok (.goto 4, 3) := by decide +kernel
theorem dX11_cutAll_235 : decode cX11_cutAll 235 = .ok (.iconst 2, 1) := by decide +kernel
theorem dX11_cutAll_236 : decode cX11_cutAll 236 = .ok (.iastore, 1) := by decide +kernel
theorem dX11_cutAll_237 : decode cX11_cutAll 237 = .ok (.goto 28, 3) := by decide +kernel
theorem dX11_cutAll_240 : decode cX11_cutAll 240 = .ok (.iload_n 3, 1) := by decide +kernel
theorem dX11_cutAll_241 : decode cX11_cutAll 241 = .ok (.i2l, 1) := by decide +kernel
theorem dX11_cutAll_242 : decode cX11_cutAll 242 = .ok (.lstore 5, 2) := by decide +kernel
theorem dX11_cutAll_244 : decode cX11_cutAll 244 = .ok (.aload_n 0, 1) := by decide +kernel
theorem dX11_cutAll_245 : decode cX11_cutAll 245 = .ok (.getfield 24, 3) := by decide +kernel
theorem dX11_cutAll_248 : decode cX11_cutAll 248 = .ok (.iload_n 1, 1) := by decide +kernel
theorem dX11_cutAll_249 : decode cX11_cutAll 249 = .ok (.iload_n 3, 1) := by decide +kernel
theorem dX11_cutAll_250 : decode cX11_cutAll 250 = .ok (.invokestatic 182, 3) := by decide +kernel
theorem dX11_cutAll_253 : decode cX11_cutAll 253 = .ok (.ifCond .eq 7, 3) := by decide +kernel
theorem dX11_cutAll_256 : decode cX11_cutAll 256 = .ok (.iconst 3, 1) := by decide +kernel
theorem dX11_cutAll_257 : decode cX11_cutAll 257 = .ok (.goto 4, 3) := by decide +kernel
theorem dX11_cutAll_260 : decode cX11_cutAll 260 = .ok (.iconst 4, 1) := by decide +kernel
theorem dX11_cutAll_261 : decode cX11_cutAll 261 = .ok (.iastore, 1) := by decide +kernel
theorem dX11_cutAll_262 : decode cX11_cutAll 262 = .ok (.iinc 2 1, 3) := by decide +kernel
theorem dX11_cutAll_265 : decode cX11_cutAll 265 = .ok (.aload_n 0, 1) := by decide +kernel
theorem dX11_cutAll_266 : decode cX11_cutAll 266 = .ok (.getfield 30, 3) := by decide +kernel
theorem dX11_cutAll_269 : decode cX11_cutAll 269 = .ok (.iload_n 1, 1) := by decide +kernel
theorem dX11_cutAll_270 : decode cX11_cutAll 270 = .ok (.lload 5, 2) := by decide +kernel
theorem dX11_cutAll_272 : decode cX11_cutAll 272 = .ok (.lastore, 1) := by decide +kernel
theorem dX11_cutAll_273 : decode cX11_cutAll 273 = .ok (.iinc 1 1, 3) := by decide +kernel
theorem dX11_cutAll_276 : decode cX11_cutAll 276 = .ok (.goto (-259), 3) := by decide +kernel
theorem dX11_cutAll_279 : decode cX11_cutAll 279 = .ok (.aload_n 0, 1) := by decide +kernel
theorem dX11_cutAll_280 : decode cX11_cutAll 280 = .ok (.getfield 24, 3) := by decide +kernel
theorem dX11_cutAll_283 : decode cX11_cutAll 283 = .ok (.iload_n 1, 1) := by decide +kernel
theorem dX11_cutAll_284 : decode cX11_cutAll 284 = .ok (.iconst 0, 1) := by decide +kernel
theorem dX11_cutAll_285 : decode cX11_cutAll 285 = .ok (.iastore, 1) := by decide +kernel
theorem dX11_cutAll_286 : decode cX11_cutAll 286 = .ok (.aload_n 0, 1) := by decide +kernel
theorem dX11_cutAll_287 : decode cX11_cutAll 287 = .ok (.getfield 27, 3) := by decide +kernel
theorem dX11_cutAll_290 : decode cX11_cutAll 290 = .ok (.iload_n 1, 1) := by decide +kernel
theorem dX11_cutAll_291 : decode cX11_cutAll 291 = .ok (.aload_n 0, 1) := by decide +kernel
theorem dX11_cutAll_292 : decode cX11_cutAll 292 = .ok (.getfield 166, 3) := by decide +kernel
theorem dX11_cutAll_295 : decode cX11_cutAll 295 = .ok (.iastore, 1) := by decide +kernel
theorem dX11_cutAll_296 : decode cX11_cutAll 296 = .ok (.aload_n 0, 1) := by decide +kernel
theorem dX11_cutAll_297 : decode cX11_cutAll 297 = .ok (.iconst 0, 1) := by decide +kernel
theorem dX11_cutAll_298 : decode cX11_cutAll 298 = .ok (.putfield 185, 3) := by decide +kernel
theorem dX11_cutAll_301 : decode cX11_cutAll 301 = .ok (.aload_n 0, 1) := by decide +kernel
theorem dX11_cutAll_302 : decode cX11_cutAll 302 = .ok (.iconst 0, 1) := by decide +kernel
theorem dX11_cutAll_303 : decode cX11_cutAll 303 = .ok (.putfield 188, 3) := by decide +kernel
theorem dX11_cutAll_306 : decode cX11_cutAll 306 = .ok (.return_, 1) := by decide +kernel
theorem dX11_wrong_0 : decode cX11_wrong 0 = .ok (.aload_n 0, 1) := by decide +kernel
theorem dX11_wrong_1 : decode cX11_wrong 1 = .ok (.getfield 188, 3) := by decide +kernel
theorem dX11_wrong_4 : decode cX11_wrong 4 = .ok (.ifCond .ne 21, 3) := by decide +kernel
theorem dX11_wrong_7 : decode cX11_wrong 7 = .ok (.aload_n 0, 1) := by decide +kernel
theorem dX11_wrong_8 : decode cX11_wrong 8 = .ok (.iload_n 1, 1) := by decide +kernel
theorem dX11_wrong_9 : decode cX11_wrong 9 = .ok (.bipush 16, 2) := by decide +kernel
theorem dX11_wrong_11 : decode cX11_wrong 11 = .ok (.aload_n 0, 1) := by decide +kernel
theorem dX11_wrong_12 : decode cX11_wrong 12 = .ok (.getfield 27, 3) := by decide +kernel
theorem dX11_wrong_15 : decode cX11_wrong 15 = .ok (.aload_n 0, 1) := by decide +kernel
theorem dX11_wrong_16 : decode cX11_wrong 16 = .ok (.getfield 185, 3) := by decide +kernel
theorem dX11_wrong_19 : decode cX11_wrong 19 = .ok (.iaload, 1) := by decide +kernel
theorem dX11_wrong_20 : decode cX11_wrong 20 = .ok (.imul, 1) := by decide +kernel
theorem dX11_wrong_21 : decode cX11_wrong 21 = .ok (.iadd, 1) := by decide +kernel
theorem dX11_wrong_22 : decode cX11_wrong 22 = .ok (.putfield 188, 3) := by decide +kernel
theorem dX11_wrong_25 : decode cX11_wrong 25 = .ok (.return_, 1) := by decide +kernel
theorem dX11_isSign_0 : decode cX11_isSign 0 = .ok (.aload_n 0, 1) := by decide +kernel
theorem dX11_isSign_1 : decode cX11_isSign 1 = .ok (.getfield 188, 3) := by decide +kernel
theorem dX11_isSign_4 : decode cX11_isSign 4 = .ok (.ifCond .ne 35, 3) := by decide +kernel
theorem dX11_isSign_7 : decode cX11_isSign 7 = .ok (.aload_n 0, 1) := by decide +kernel
theorem dX11_isSign_8 : decode cX11_isSign 8 = .ok (.getfield 24, 3) := by decide +kernel
theorem dX11_isSign_11 : decode cX11_isSign 11 = .ok (.aload_n 0, 1) := by decide +kernel
theorem dX11_isSign_12 : decode cX11_isSign 12 = .ok (.getfield 185, 3) := by decide +kernel
theorem dX11_isSign_15 : decode cX11_isSign 15 = .ok (.iaload, 1) := by decide +kernel
theorem dX11_isSign_16 : decode cX11_isSign 16 = .ok (.iconst 3, 1) := by decide +kernel
theorem dX11_isSign_17 : decode cX11_isSign 17 = .ok (.if_icmp .ne 22, 3) := by decide +kernel
theorem dX11_isSign_20 : decode cX11_isSign 20 = .ok (.aload_n 0, 1) := by decide +kernel
theorem dX11_isSign_21 : decode cX11_isSign 21 = .ok (.getfield 30, 3) := by decide +kernel
theorem dX11_isSign_24 : decode cX11_isSign 24 = .ok (.aload_n 0, 1) := by decide +kernel
theorem dX11_isSign_25 : decode cX11_isSign 25 = .ok (.getfield 185, 3) := by decide +kernel
theorem dX11_isSign_28 : decode cX11_isSign 28 = .ok (.laload, 1) := by decide +kernel
theorem dX11_isSign_29 : decode cX11_isSign 29 = .ok (.iload_n 1, 1) := by decide +kernel
theorem dX11_isSign_30 : decode cX11_isSign 30 = .ok (.i2l, 1) := by decide +kernel
theorem dX11_isSign_31 : decode cX11_isSign 31 = .ok (.lcmp, 1) := by decide +kernel
theorem dX11_isSign_32 : decode cX11_isSign 32 = .ok (.ifCond .ne 7, 3) := by decide +kernel
theorem dX11_isSign_35 : decode cX11_isSign 35 = .ok (.iconst 1, 1) := by decide +kernel
theorem dX11_isSign_36 : decode cX11_isSign 36 = .ok (.goto 4, 3) := by decide +kernel
theorem dX11_isSign_39 : decode cX11_isSign 39 = .ok (.iconst 0, 1) := by decide +kernel
theorem dX11_isSign_40 : decode cX11_isSign 40 = .ok (.ireturn, 1) := by decide +kernel
theorem dX11_isWord_0 : decode cX11_isWord 0 = .ok (.aload_n 0, 1) := by decide +kernel
theorem dX11_isWord_1 : decode cX11_isWord 1 = .ok (.getfield 188, 3) := by decide +kernel
theorem dX11_isWord_4 : decode cX11_isWord 4 = .ok (.ifCond .ne 39, 3) := by decide +kernel
theorem dX11_isWord_7 : decode cX11_isWord 7 = .ok (.aload_n 0, 1) := by decide +kernel
theorem dX11_isWord_8 : decode cX11_isWord 8 = .ok (.getfield 24, 3) := by decide +kernel
theorem dX11_isWord_11 : decode cX11_isWord 11 = .ok (.aload_n 0, 1) := by decide +kernel
theorem dX11_isWord_12 : decode cX11_isWord 12 = .ok (.getfield 185, 3) := by decide +kernel
theorem dX11_isWord_15 : decode cX11_isWord 15 = .ok (.iaload, 1) := by decide +kernel
theorem dX11_isWord_16 : decode cX11_isWord 16 = .ok (.iconst 1, 1) := by decide +kernel
theorem dX11_isWord_17 : decode cX11_isWord 17 = .ok (.if_icmp .ne 26, 3) := by decide +kernel
theorem dX11_isWord_20 : decode cX11_isWord 20 = .ok (.aload_n 0, 1) := by decide +kernel
theorem dX11_isWord_21 : decode cX11_isWord 21 = .ok (.getfield 30, 3) := by decide +kernel
theorem dX11_isWord_24 : decode cX11_isWord 24 = .ok (.aload_n 0, 1) := by decide +kernel
theorem dX11_isWord_25 : decode cX11_isWord 25 = .ok (.getfield 185, 3) := by decide +kernel
theorem dX11_isWord_28 : decode cX11_isWord 28 = .ok (.laload, 1) := by decide +kernel
theorem dX11_isWord_29 : decode cX11_isWord 29 = .ok (.aload_n 0, 1) := by decide +kernel
theorem dX11_isWord_30 : decode cX11_isWord 30 = .ok (.getfield 56, 3) := by decide +kernel
theorem dX11_isWord_33 : decode cX11_isWord 33 = .ok (.iload_n 1, 1) := by decide +kernel
theorem dX11_isWord_34 : decode cX11_isWord 34 = .ok (.laload, 1) := by decide +kernel
theorem dX11_isWord_35 : decode cX11_isWord 35 = .ok (.lcmp, 1) := by decide +kernel
theorem dX11_isWord_36 : decode cX11_isWord 36 = .ok (.ifCond .ne 7, 3) := by decide +kernel
theorem dX11_isWord_39 : decode cX11_isWord 39 = .ok (.iconst 1, 1) := by decide +kernel
theorem dX11_isWord_40 : decode cX11_isWord 40 = .ok (.goto 4, 3) := by decide +kernel
theorem dX11_isWord_43 : decode cX11_isWord 43 = .ok (.iconst 0, 1) := by decide +kernel
theorem dX11_isWord_44 : decode cX11_isWord 44 = .ok (.ireturn, 1) := by decide +kernel
theorem dX11_takeSign_0 : decode cX11_takeSign 0 = .ok (.aload_n 0, 1) := by decide +kernel
theorem dX11_takeSign_1 : decode cX11_takeSign 1 = .ok (.iload_n 1, 1) := by decide +kernel
theorem dX11_takeSign_2 : decode cX11_takeSign 2 = .ok (.invokevirtual 191, 3) := by decide +kernel
theorem dX11_takeSign_5 : decode cX11_takeSign 5 = .ok (.ifCond .eq 16, 3) := by decide +kernel
theorem dX11_takeSign_8 : decode cX11_takeSign 8 = .ok (.aload_n 0, 1) := by decide +kernel
theorem dX11_takeSign_9 : decode cX11_takeSign 9 = .ok (.dup, 1) := by decide +kernel
theorem dX11_takeSign_10 : decode cX11_takeSign 10 = .ok (.getfield 185, 3) := by decide +kernel
theorem dX11_takeSign_13 : decode cX11_takeSign 13 = .ok (.iconst 1, 1) := by decide +kernel
theorem dX11_takeSign_14 : decode cX11_takeSign 14 = .ok (.iadd, 1) := by decide +kernel
theorem dX11_takeSign_15 : decode cX11_takeSign 15 = .ok (.putfield 185, 3) := by decide +kernel
theorem dX11_takeSign_18 : decode cX11_takeSign 18 = .ok (.goto 8, 3) := by decide +kernel
theorem dX11_takeSign_21 : decode cX11_takeSign 21 = .ok (.aload_n 0, 1) := by decide +kernel
theorem dX11_takeSign_22 : decode cX11_takeSign 22 = .ok (.iconst 1, 1) := by decide +kernel
theorem dX11_takeSign_23 : decode cX11_takeSign 23 = .ok (.invokevirtual 194, 3) := by decide +kernel
theorem dX11_takeSign_26 : decode cX11_takeSign 26 = .ok (.return_, 1) := by decide +kernel
theorem dX11_hasSign_0 : decode cX11_hasSign 0 = .ok (.aload_n 0, 1) := by decide +kernel
theorem dX11_hasSign_1 : decode cX11_hasSign 1 = .ok (.iload_n 1, 1) := by decide +kernel
theorem dX11_hasSign_2 : decode cX11_hasSign 2 = .ok (.invokevirtual 191, 3) := by decide +kernel
theorem dX11_hasSign_5 : decode cX11_hasSign 5 = .ok (.istore_n 2, 1) := by decide +kernel
theorem dX11_hasSign_6 : decode cX11_hasSign 6 = .ok (.aload_n 0, 1) := by decide +kernel
theorem dX11_hasSign_7 : decode cX11_hasSign 7 = .ok (.dup, 1) := by decide +kernel
theorem dX11_hasSign_8 : decode cX11_hasSign 8 = .ok (.getfield 185, 3) := by decide +kernel
theorem dX11_hasSign_11 : decode cX11_hasSign 11 = .ok (.iload_n 2, 1) := by decide +kernel
theorem dX11_hasSign_12 : decode cX11_hasSign 12 = .ok (.ifCond .eq 7, 3) := by decide +kernel
theorem dX11_hasSign_15 : decode cX11_hasSign 15 = .ok (.iconst 1, 1) := by decide +kernel
theorem dX11_hasSign_16 : decode cX11_hasSign 16 = .ok (.goto 4, 3) := by decide +kernel
theorem dX11_hasSign_19 : decode cX11_hasSign 19 = .ok (.iconst 0, 1) := by decide +kernel
theorem dX11_hasSign_20 : decode cX11_hasSign 20 = .ok (.iadd, 1) := by decide +kernel
theorem dX11_hasSign_21 : decode cX11_hasSign 21 = .ok (.putfield 185, 3) := by decide +kernel
theorem dX11_hasSign_24 : decode cX11_hasSign 24 = .ok (.iload_n 2, 1) := by decide +kernel
theorem dX11_hasSign_25 : decode cX11_hasSign 25 = .ok (.ireturn, 1) := by decide +kernel
theorem dX11_hasWord_0 : decode cX11_hasWord 0 = .ok (.aload_n 0, 1) := by decide +kernel
theorem dX11_hasWord_1 : decode cX11_hasWord 1 = .ok (.iload_n 1, 1) := by decide +kernel
theorem dX11_hasWord_2 : decode cX11_hasWord 2 = .ok (.invokevirtual 198, 3) := by decide +kernel
theorem dX11_hasWord_5 : decode cX11_hasWord 5 = .ok (.istore_n 2, 1) := by decide +kernel
theorem dX11_hasWord_6 : decode cX11_hasWord 6 = .ok (.aload_n 0, 1) := by decide +kernel
theorem dX11_hasWord_7 : decode cX11_hasWord 7 = .ok (.dup, 1) := by decide +kernel
theorem dX11_hasWord_8 : decode cX11_hasWord 8 = .ok (.getfield 185, 3) := by decide +kernel
theorem dX11_hasWord_11 : decode cX11_hasWord 11 = .ok (.iload_n 2, 1) := by decide +kernel
theorem dX11_hasWord_12 : decode cX11_hasWord 12 = .ok (.ifCond .eq 7, 3) := by decide +kernel
theorem dX11_hasWord_15 : decode cX11_hasWord 15 = .ok (.iconst 1, 1) := by decide +kernel
theorem dX11_hasWord_16 : decode cX11_hasWord 16 = .ok (.goto 4, 3) := by decide +kernel
theorem dX11_hasWord_19 : decode cX11_hasWord 19 = .ok (.iconst 0, 1) := by decide +kernel
theorem dX11_hasWord_20 : decode cX11_hasWord 20 = .ok (.iadd, 1) := by decide +kernel
theorem dX11_hasWord_21 : decode cX11_hasWord 21 = .ok (.putfield 185, 3) := by decide +kernel
theorem dX11_hasWord_24 : decode cX11_hasWord 24 = .ok (.iload_n 2, 1) := by decide +kernel
theorem dX11_hasWord_25 : decode cX11_hasWord 25 = .ok (.ireturn, 1) := by decide +kernel
theorem dX11_takeWord_0 : decode cX11_takeWord 0 = .ok (.aload_n 0, 1) := by decide +kernel
theorem dX11_takeWord_1 : decode cX11_takeWord 1 = .ok (.iload_n 1, 1) := by decide +kernel
theorem dX11_takeWord_2 : decode cX11_takeWord 2 = .ok (.invokevirtual 201, 3) := by decide +kernel
theorem dX11_takeWord_5 : decode cX11_takeWord 5 = .ok (.ifCond .ne 8, 3) := by decide +kernel
theorem dX11_takeWord_8 : decode cX11_takeWord 8 = .ok (.aload_n 0, 1) := by decide +kernel
theorem dX11_takeWord_9 : decode cX11_takeWord 9 = .ok (.iconst 1, 1) := by decide +kernel
theorem dX11_takeWord_10 : decode cX11_takeWord 10 = .ok (.invokevirtual 194, 3) := by decide +kernel
theorem dX11_takeWord_13 : decode cX11_takeWord 13 = .ok (.return_, 1) := by decide +kernel
theorem dX11_takeNumber_0 : decode cX11_takeNumber 0 = .ok (.aload_n 0, 1) := by decide +kernel
theorem dX11_takeNumber_1 : decode cX11_takeNumber 1 = .ok (.getfield 188, 3) := by decide +kernel
theorem dX11_takeNumber_4 : decode cX11_takeNumber 4 = .ok (.ifCond .ne 24, 3) := by decide +kernel
theorem dX11_takeNumber_7 : decode cX11_takeNumber 7 = .ok (.aload_n 0, 1) := by decide +kernel
theorem dX11_takeNumber_8 : decode cX11_takeNumber 8 = .ok (.getfield 24, 3) := by decide +kernel
theorem dX11_takeNumber_11 : decode cX11_takeNumber 11 = .ok (.aload_n 0, 1) := by decide +kernel
theorem dX11_takeNumber_12 : decode cX11_takeNumber 12 = .ok (.getfield 185, 3) := by decide +kernel
theorem dX11_takeNumber_15 : decode cX11_takeNumber 15 = .ok (.iaload, 1) := by decide +kernel
theorem dX11_takeNumber_16 : decode cX11_takeNumber 16 = .ok (.iconst 2, 1) := by decide +kernel
theorem dX11_takeNumber_17 : decode cX11_takeNumber 17 = .ok (.if_icmp .eq 11, 3) := by decide +kernel
theorem dX11_takeNumber_20 : decode cX11_takeNumber 20 = .ok (.aload_n 0, 1) := by decide +kernel
theorem dX11_takeNumber_21 : decode cX11_takeNumber 21 = .ok (.iconst 1, 1) := by decide +kernel
theorem dX11_takeNumber_22 : decode cX11_takeNumber 22 = .ok (.invokevirtual 194, 3) := by decide +kernel
theorem dX11_takeNumber_25 : decode cX11_takeNumber 25 = .ok (.goto 45, 3) := by decide +kernel
theorem dX11_takeNumber_28 : decode cX11_takeNumber 28 = .ok (.aload_n 0, 1) := by decide +kernel
theorem dX11_takeNumber_29 : decode cX11_takeNumber 29 = .ok (.getfield 188, 3) := by decide +kernel
theorem dX11_takeNumber_32 : decode cX11_takeNumber 32 = .ok (.ifCond .ne 38, 3) := by decide +kernel
theorem dX11_takeNumber_35 : decode cX11_takeNumber 35 = .ok (.aload_n 0, 1) := by decide +kernel
theorem dX11_takeNumber_36 : decode cX11_takeNumber 36 = .ok (.getfield 30, 3) := by decide +kernel
theorem dX11_takeNumber_39 : decode cX11_takeNumber 39 = .ok (.aload_n 0, 1) := by decide +kernel
theorem dX11_takeNumber_40 : decode cX11_takeNumber 40 = .ok (.getfield 185, 3) := by decide +kernel
theorem dX11_takeNumber_43 : decode cX11_takeNumber 43 = .ok (.laload, 1) := by decide +kernel
theorem dX11_takeNumber_44 : decode cX11_takeNumber 44 = .ok (.iload_n 1, 1) := by decide +kernel
theorem dX11_takeNumber_45 : decode cX11_takeNumber 45 = .ok (.i2l, 1) := by decide +kernel
theorem dX11_takeNumber_46 : decode cX11_takeNumber 46 = .ok (.lcmp, 1) := by decide +kernel
theorem dX11_takeNumber_47 : decode cX11_takeNumber 47 = .ok (.ifCond .lt 18, 3) := by decide +kernel
theorem dX11_takeNumber_50 : decode cX11_takeNumber 50 = .ok (.aload_n 0, 1) := by decide +kernel
theorem dX11_takeNumber_51 : decode cX11_takeNumber 51 = .ok (.getfield 30, 3) := by decide +kernel
theorem dX11_takeNumber_54 : decode cX11_takeNumber 54 = .ok (.aload_n 0, 1) := by decide +kernel
theorem dX11_takeNumber_55 : decode cX11_takeNumber 55 = .ok (.getfield 185, 3) := by decide +kernel
theorem dX11_takeNumber_58 : decode cX11_takeNumber 58 = .ok (.laload, 1) := by decide +kernel
theorem dX11_takeNumber_59 : decode cX11_takeNumber 59 = .ok (.iload_n 2, 1) := by decide +kernel
theorem dX11_takeNumber_60 : decode cX11_takeNumber 60 = .ok (.i2l, 1) := by decide +kernel
theorem dX11_takeNumber_61 : decode cX11_takeNumber 61 = .ok (.lcmp, 1) := by decide +kernel
theorem dX11_takeNumber_62 : decode cX11_takeNumber 62 = .ok (.ifCond .le 8, 3) := by decide +kernel
theorem dX11_takeNumber_65 : decode cX11_takeNumber 65 = .ok (.aload_n 0, 1) := by decide +kernel
theorem dX11_takeNumber_66 : decode cX11_takeNumber 66 = .ok (.iconst 4, 1) := by decide +kernel
theorem dX11_takeNumber_67 : decode cX11_takeNumber 67 = .ok (.invokevirtual 194, 3) := by decide +kernel
theorem dX11_takeNumber_70 : decode cX11_takeNumber 70 = .ok (.aload_n 0, 1) := by decide +kernel
theorem dX11_takeNumber_71 : decode cX11_takeNumber 71 = .ok (.dup, 1) := by decide +kernel
theorem dX11_takeNumber_72 : decode cX11_takeNumber 72 = .ok (.getfield 185, 3) := by decide +kernel
theorem dX11_takeNumber_75 : decode cX11_takeNumber 75 = .ok (.iconst 1, 1) := by decide +kernel
theorem dX11_takeNumber_76 : decode cX11_takeNumber 76 = .ok (.iadd, 1) := by decide +kernel
theorem dX11_takeNumber_77 : decode cX11_takeNumber 77 = .ok (.putfield 185, 3) := by decide +kernel
theorem dX11_takeNumber_80 : decode cX11_takeNumber 80 = .ok (.aload_n 0, 1) := by decide +kernel
theorem dX11_takeNumber_81 : decode cX11_takeNumber 81 = .ok (.getfield 188, 3) := by decide +kernel
theorem dX11_takeNumber_84 : decode cX11_takeNumber 84 = .ok (.ifCond .le 7, 3) := by decide +kernel
theorem dX11_takeNumber_87 : decode cX11_takeNumber 87 = .ok (.iconst 0, 1) := by decide +kernel
theorem dX11_takeNumber_88 : decode cX11_takeNumber 88 = .ok (.goto 15, 3) := by decide +kernel
theorem dX11_takeNumber_91 : decode cX11_takeNumber 91 = .ok (.aload_n 0, 1) := by decide +kernel
theorem dX11_takeNumber_92 : decode cX11_takeNumber 92 = .ok (.getfield 30, 3) := by decide +kernel
theorem dX11_takeNumber_95 : decode cX11_takeNumber 95 = .ok (.aload_n 0, 1) := by decide +kernel
theorem dX11_takeNumber_96 : decode cX11_takeNumber 96 = .ok (.getfield 185, 3) := by decide +kernel
theorem dX11_takeNumber_99 : decode cX11_takeNumber 99 = .ok (.iconst 1, 1) := by decide +kernel
theorem dX11_takeNumber_100 : decode cX11_takeNumber 100 = .ok (.isub, 1) := by decide +kernel
theorem dX11_takeNumber_101 : decode cX11_takeNumber 101 = .ok (.laload, 1) := by decide +kernel
theorem dX11_takeNumber_102 : decode cX11_takeNumber 102 = .ok (.l2i, 1) := by decide +kernel
theorem dX11_takeNumber_103 : decode cX11_takeNumber 103 = .ok (.ireturn, 1) := by decide +kernel
theorem dX11_isName_0 : decode cX11_isName 0 = .ok (.aload_n 0, 1) := by decide +kernel
theorem dX11_isName_1 : decode cX11_isName 1 = .ok (.getfield 188, 3) := by decide +kernel
theorem dX11_isName_4 : decode cX11_isName 4 = .ok (.ifCond .ne 20, 3) := by decide +kernel
theorem dX11_isName_7 : decode cX11_isName 7 = .ok (.aload_n 0, 1) := by decide +kernel
theorem dX11_isName_8 : decode cX11_isName 8 = .ok (.getfield 24, 3) := by decide +kernel
theorem dX11_isName_11 : decode cX11_isName 11 = .ok (.aload_n 0, 1) := by decide +kernel
theorem dX11_isName_12 : decode cX11_isName 12 = .ok (.getfield 185, 3) := by decide +kernel
theorem dX11_isName_15 : decode cX11_isName 15 = .ok (.iaload, 1) := by decide +kernel
theorem dX11_isName_16 : decode cX11_isName 16 = .ok (.iconst 1, 1) := by decide +kernel
theorem dX11_isName_17 : decode cX11_isName 17 = .ok (.if_icmp .ne 7, 3) := by decide +kernel
theorem dX11_isName_20 : decode cX11_isName 20 = .ok (.iconst 1, 1) := by decide +kernel
theorem dX11_isName_21 : decode cX11_isName 21 = .ok (.goto 4, 3) := by decide +kernel
theorem dX11_isName_24 : decode cX11_isName 24 = .ok (.iconst 0, 1) := by decide +kernel
theorem dX11_isName_25 : decode cX11_isName 25 = .ok (.istore_n 1, 1) := by decide +kernel
theorem dX11_isName_26 : decode cX11_isName 26 = .ok (.iconst 0, 1) := by decide +kernel
theorem dX11_isName_27 : decode cX11_isName 27 = .ok (.istore_n 2, 1) := by decide +kernel
theorem dX11_isName_28 : decode cX11_isName 28 = .ok (.iload_n 2, 1) := by decide +kernel
theorem dX11_isName_29 : decode cX11_isName 29 = .ok (.bipush 11, 2) := by decide +kernel
theorem dX11_isName_31 : decode cX11_isName 31 = .ok (.if_icmp .ge 38, 3) := by decide +kernel
theorem dX11_isName_34 : decode cX11_isName 34 = .ok (.iload_n 1, 1) := by decide +kernel
theorem dX11_isName_35 : decode cX11_isName 35 = .ok (.ifCond .eq 26, 3) := by decide +kernel
theorem dX11_isName_38 : decode cX11_isName 38 = .ok (.aload_n 0, 1) := by decide +kernel
theorem dX11_isName_39 : decode cX11_isName 39 = .ok (.getfield 30, 3) := by decide +kernel
theorem dX11_isName_42 : decode cX11_isName 42 = .ok (.aload_n 0, 1) := by decide +kernel
theorem dX11_isName_43 : decode cX11_isName 43 = .ok (.getfield 185, 3) := by decide +kernel
theorem dX11_isName_46 : decode cX11_isName 46 = .ok (.laload, 1) := by decide +kernel
theorem dX11_isName_47 : decode cX11_isName 47 = .ok (.aload_n 0, 1) := by decide +kernel
theorem dX11_isName_48 : decode cX11_isName 48 = .ok (.getfield 56, 3) := by decide +kernel
theorem dX11_isName_51 : decode cX11_isName 51 = .ok (.iload_n 2, 1) := by decide +kernel
theorem dX11_isName_52 : decode cX11_isName 52 = .ok (.laload, 1) := by decide +kernel
theorem dX11_isName_53 : decode cX11_isName 53 = .ok (.lcmp, 1) := by decide +kernel
theorem dX11_isName_54 : decode cX11_isName 54 = .ok (.ifCond .eq 7, 3) := by decide +kernel
theorem dX11_isName_57 : decode cX11_isName 57 = .ok (.iconst 1, 1) := by decide +kernel
theorem dX11_isName_58 : decode cX11_isName 58 = .ok (.goto 4, 3) := by decide +kernel
theorem dX11_isName_61 : decode cX11_isName 61 = .ok (.iconst 0, 1) := by decide +kernel
theorem dX11_isName_62 : decode cX11_isName 62 = .ok (.istore_n 1, 1) := by decide +kernel
theorem dX11_isName_63 : decode cX11_isName 63 = .ok (.iinc 2 1, 3) := by decide +kernel
theorem dX11_isName_66 : decode cX11_isName 66 = .ok (.goto (-38), 3) := by decide +kernel
theorem dX11_isName_69 : decode cX11_isName 69 = .ok (.iload_n 1, 1) := by decide +kernel
theorem dX11_isName_70 : decode cX11_isName 70 = .ok (.ireturn, 1) := by decide +kernel
theorem dX11_emit_0 : decode cX11_emit 0 = .ok (.aload_n 0, 1) := by decide +kernel
theorem dX11_emit_1 : decode cX11_emit 1 = .ok (.getfield 111, 3) := by decide +kernel
theorem dX11_emit_4 : decode cX11_emit 4 = .ok (.sipush 15600, 3) := by decide +kernel
theorem dX11_emit_7 : decode cX11_emit 7 = .ok (.aload_n 0, 1) := by decide +kernel
theorem dX11_emit_8 : decode cX11_emit 8 = .ok (.getfield 204, 3) := by decide +kernel
theorem dX11_emit_11 : decode cX11_emit 11 = .ok (.iadd, 1) := by decide +kernel
theorem dX11_emit_12 : decode cX11_emit 12 = .ok (.iload_n 1, 1) := by decide +kernel
theorem dX11_emit_13 : decode cX11_emit 13 = .ok (.iastore, 1) := by decide +kernel
theorem dX11_emit_14 : decode cX11_emit 14 = .ok (.aload_n 0, 1) := by decide +kernel
theorem dX11_emit_15 : decode cX11_emit 15 = .ok (.getfield 114, 3) := by decide +kernel
theorem dX11_emit_18 : decode cX11_emit 18 = .ok (.sipush 15600, 3) := by decide +kernel
theorem dX11_emit_21 : decode cX11_emit 21 = .ok (.aload_n 0, 1) := by decide +kernel
theorem dX11_emit_22 : decode cX11_emit 22 = .ok (.getfield 204, 3) := by decide +kernel
theorem dX11_emit_25 : decode cX11_emit 25 = .ok (.iadd, 1) := by decide +kernel
theorem dX11_emit_26 : decode cX11_emit 26 = .ok (.iload_n 2, 1) := by decide +kernel
theorem dX11_emit_27 : decode cX11_emit 27 = .ok (.iastore, 1) := by decide +kernel
theorem dX11_emit_28 : decode cX11_emit 28 = .ok (.aload_n 0, 1) := by decide +kernel
theorem dX11_emit_29 : decode cX11_emit 29 = .ok (.dup, 1) := by decide +kernel
theorem dX11_emit_30 : decode cX11_emit 30 = .ok (.getfield 204, 3) := by decide +kernel
theorem dX11_emit_33 : decode cX11_emit 33 = .ok (.iconst 1, 1) := by decide +kernel
theorem dX11_emit_34 : decode cX11_emit 34 = .ok (.iadd, 1) := by decide +kernel
theorem dX11_emit_35 : decode cX11_emit 35 = .ok (.putfield 204, 3) := by decide +kernel
theorem dX11_emit_38 : decode cX11_emit 38 = .ok (.return_, 1) := by decide +kernel
theorem dX11_edition_0 : decode cX11_edition 0 = .ok (.aload_n 0, 1) := by decide +kernel
theorem dX11_edition_1 : decode cX11_edition 1 = .ok (.iconst 0, 1) := by decide +kernel
theorem dX11_edition_2 : decode cX11_edition 2 = .ok (.putfield 1, 3) := by decide +kernel
theorem dX11_edition_5 : decode cX11_edition 5 = .ok (.iload_n 1, 1) := by decide +kernel
theorem dX11_edition_6 : decode cX11_edition 6 = .ok (.ifCond .lt 41, 3) := by decide +kernel
theorem dX11_edition_9 : decode cX11_edition 9 = .ok (.iload_n 1, 1) := by decide +kernel
theorem dX11_edition_10 : decode cX11_edition 10 = .ok (.sipush 9999, 3) := by decide +kernel
theorem dX11_edition_13 : decode cX11_edition 13 = .ok (.if_icmp .gt 34, 3) := by decide +kernel
theorem dX11_edition_16 : decode cX11_edition 16 = .ok (.aload_n 0, 1) := by decide +kernel
theorem dX11_edition_17 : decode cX11_edition 17 = .ok (.getfield 207, 3) := by decide +kernel
theorem dX11_edition_20 : decode cX11_edition 20 = .ok (.bipush 6, 2) := by decide +kernel
theorem dX11_edition_22 : decode cX11_edition 22 = .ok (.if_icmp .eq 25, 3) := by decide +kernel
theorem dX11_edition_25 : decode cX11_edition 25 = .ok (.aload_n 0, 1) := by decide +kernel
theorem dX11_edition_26 : decode cX11_edition 26 = .ok (.getfield 207, 3) := by decide +kernel
theorem dX11_edition_29 : decode cX11_edition 29 = .ok (.ifCond .le 25, 3) := by decide +kernel
theorem dX11_edition_32 : decode cX11_edition 32 = .ok (.iload_n 1, 1) := by decide +kernel
theorem dX11_edition_33 : decode cX11_edition 33 = .ok (.aload_n 0, 1) := by decide +kernel
theorem dX11_edition_34 : decode cX11_edition 34 = .ok (.getfield 59, 3) := by decide +kernel
theorem dX11_edition_37 : decode cX11_edition 37 = .ok (.aload_n 0, 1) := by decide +kernel
theorem dX11_edition_38 : decode cX11_edition 38 = .ok (.getfield 207, 3) := by decide +kernel
theorem dX11_edition_41 : decode cX11_edition 41 = .ok (.iconst 1, 1) := by decide +kernel
theorem dX11_edition_42 : decode cX11_edition 42 = .ok (.isub, 1) := by decide +kernel
theorem dX11_edition_43 : decode cX11_edition 43 = .ok (.iaload, 1) := by decide +kernel
theorem dX11_edition_44 : decode cX11_edition 44 = .ok (.if_icmp .gt 10, 3) := by decide +kernel
theorem dX11_edition_47 : decode cX11_edition 47 = .ok (.aload_n 0, 1) := by decide +kernel
theorem dX11_edition_48 : decode cX11_edition 48 = .ok (.iconst 0, 1) := by decide +kernel
theorem dX11_edition_49 : decode cX11_edition 49 = .ok (.putfield 11, 3) := by decide +kernel
theorem dX11_edition_52 : decode cX11_edition 52 = .ok (.iconst (-1), 1) := by decide +kernel
theorem dX11_edition_53 : decode cX11_edition 53 = .ok (.ireturn, 1) := by decide +kernel
theorem dX11_edition_54 : decode cX11_edition 54 = .ok (.aload_n 0, 1) := by decide +kernel
theorem dX11_edition_55 : decode cX11_edition 55 = .ok (.invokevirtual 210, 3) := by decide +kernel
theorem dX11_edition_58 : decode cX11_edition 58 = .ok (.aload_n 0, 1) := by decide +kernel
theorem dX11_edition_59 : decode cX11_edition 59 = .ok (.getfield 62, 3) := by decide +kernel
theorem dX11_edition_62 : decode cX11_edition 62 = .ok (.bipush 6, 2) := by decide +kernel
theorem dX11_edition_64 : decode cX11_edition 64 = .ok (.iconst 0, 1) := by decide +kernel
theorem dX11_edition_65 : decode cX11_edition 65 = .ok (.iastore, 1) := by decide +kernel
theorem dX11_edition_66 : decode cX11_edition 66 = .ok (.aload_n 0, 1) := by decide +kernel
theorem dX11_edition_67 : decode cX11_edition 67 = .ok (.getfield 74, 3) := by decide +kernel
theorem dX11_edition_70 : decode cX11_edition 70 = .ok (.bipush 6, 2) := by decide +kernel
theorem dX11_edition_72 : decode cX11_edition 72 = .ok (.iconst 0, 1) := by decide +kernel
theorem dX11_edition_73 : decode cX11_edition 73 = .ok (.iastore, 1) := by decide +kernel
theorem dX11_edition_74 : decode cX11_edition 74 = .ok (.aload_n 0, 1) := by decide +kernel
theorem dX11_edition_75 : decode cX11_edition 75 = .ok (.iconst 0, 1) := by decide +kernel
theorem dX11_edition_76 : decode cX11_edition 76 = .ok (.putfield 204, 3) := by decide +kernel
theorem dX11_edition_79 : decode cX11_edition 79 = .ok (.aload_n 0, 1) := by decide +kernel
theorem dX11_edition_80 : decode cX11_edition 80 = .ok (.iconst 0, 1) := by decide +kernel
theorem dX11_edition_81 : decode cX11_edition 81 = .ok (.invokevirtual 198, 3) := by decide +kernel
theorem dX11_edition_84 : decode cX11_edition 84 = .ok (.ifCond .eq 10, 3) := by decide +kernel
theorem dX11_edition_87 : decode cX11_edition 87 = .ok (.aload_n 0, 1) := by decide +kernel
theorem dX11_edition_88 : decode cX11_edition 88 = .ok (.invokevirtual 213, 3) := by decide +kernel
theorem dX11_edition_91 : decode cX11_edition 91 = .ok (.goto (-12), 3) := by decide +kernel
theorem dX11_edition_94 : decode cX11_edition 94 = .ok (.aload_n 0, 1) := by decide +kernel
theorem dX11_edition_95 : decode cX11_edition 95 = .ok (.iconst 2, 1) := by decide +kernel
theorem dX11_edition_96 : decode cX11_edition 96 = .ok (.invokevirtual 198, 3) := by decide +kernel
theorem dX11_edition_99 : decode cX11_edition 99 = .ok (.ifCond .eq 10, 3) := by decide +kernel
theorem dX11_edition_102 : decode cX11_edition 102 = .ok (.aload_n 0, 1) := by decide +kernel
theorem dX11_edition_103 : decode cX11_edition 103 = .ok (.invokevirtual 216, 3) := by decide +kernel
theorem dX11_edition_106 : decode cX11_edition 106 = .ok (.goto (-12), 3) := by decide +kernel
theorem dX11_edition_109 : decode cX11_edition 109 = .ok (.aload_n 0, 1) := by decide +kernel
theorem dX11_edition_110 : decode cX11_edition 110 = .ok (.getfield 188, 3) := by decide +kernel
theorem dX11_edition_113 : decode cX11_edition 113 = .ok (.ifCond .ne 20, 3) := by decide +kernel
theorem dX11_edition_116 : decode cX11_edition 116 = .ok (.aload_n 0, 1) := by decide +kernel
theorem dX11_edition_117 : decode cX11_edition 117 = .ok (.getfield 24, 3) := by decide +kernel
theorem dX11_edition_120 : decode cX11_edition 120 = .ok (.aload_n 0, 1) := by decide +kernel
theorem dX11_edition_121 : decode cX11_edition 121 = .ok (.getfield 185, 3) := by decide +kernel
theorem dX11_edition_124 : decode cX11_edition 124 = .ok (.iaload, 1) := by decide +kernel
theorem dX11_edition_125 : decode cX11_edition 125 = .ok (.ifCond .eq 8, 3) := by decide +kernel
theorem dX11_edition_128 : decode cX11_edition 128 = .ok (.aload_n 0, 1) := by decide +kernel
theorem dX11_edition_129 : decode cX11_edition 129 = .ok (.iconst 1, 1) := by decide +kernel
theorem dX11_edition_130 : decode cX11_edition 130 = .ok (.invokevirtual 194, 3) := by decide +kernel
theorem dX11_edition_133 : decode cX11_edition 133 = .ok (.aload_n 0, 1) := by decide +kernel
theorem dX11_edition_134 : decode cX11_edition 134 = .ok (.getfield 188, 3) := by decide +kernel
theorem dX11_edition_137 : decode cX11_edition 137 = .ok (.ifCond .ne 41, 3) := by decide +kernel
theorem dX11_edition_140 : decode cX11_edition 140 = .ok (.aload_n 0, 1) := by decide +kernel
theorem dX11_edition_141 : decode cX11_edition 141 = .ok (.getfield 59, 3) := by decide +kernel
theorem dX11_edition_144 : decode cX11_edition 144 = .ok (.aload_n 0, 1) := by decide +kernel
theorem dX11_edition_145 : decode cX11_edition 145 = .ok (.getfield 207, 3) := by decide +kernel
theorem dX11_edition_148 : decode cX11_edition 148 = .ok (.iload_n 1, 1) := by decide +kernel
theorem dX11_edition_149 : decode cX11_edition 149 = .ok (.iastore, 1) := by decide +kernel
theorem dX11_edition_150 : decode cX11_edition 150 = .ok (.aload_n 0, 1) := by decide +kernel
theorem dX11_edition_151 : decode cX11_edition 151 = .ok (.aload_n 0, 1) := by decide +kernel
theorem dX11_edition_152 : decode cX11_edition 152 = .ok (.getfield 207, 3) := by decide +kernel
theorem dX11_edition_155 : decode cX11_edition 155 = .ok (.invokevirtual 219, 3) := by decide +kernel
theorem dX11_edition_158 : decode cX11_edition 158 = .ok (.aload_n 0, 1) := by decide +kernel
theorem dX11_edition_159 : decode cX11_edition 159 = .ok (.dup, 1) := by decide +kernel
theorem dX11_edition_160 : decode cX11_edition 160 = .ok (.getfield 207, 3) := by decide +kernel
theorem dX11_edition_163 : decode cX11_edition 163 = .ok (.iconst 1, 1) := by decide +kernel
theorem dX11_edition_164 : decode cX11_edition 164 = .ok (.iadd, 1) := by decide +kernel
theorem dX11_edition_165 : decode cX11_edition 165 = .ok (.putfield 207, 3) := by decide +kernel
theorem dX11_edition_168 : decode cX11_edition 168 = .ok (.aload_n 0, 1) := by decide +kernel
theorem dX11_edition_169 : decode cX11_edition 169 = .ok (.aload_n 0, 1) := by decide +kernel
theorem dX11_edition_170 : decode cX11_edition 170 = .ok (.getfield 207, 3) := by decide +kernel
theorem dX11_edition_173 : decode cX11_edition 173 = .ok (.iconst 1, 1) := by decide +kernel
theorem dX11_edition_174 : decode cX11_edition 174 = .ok (.isub, 1) := by decide +kernel
theorem dX11_edition_175 : decode cX11_edition 175 = .ok (.invokevirtual 222, 3) := by decide +kernel
theorem dX11_edition_178 : decode cX11_edition 178 = .ok (.aload_n 0, 1) := by decide +kernel
theorem dX11_edition_179 : decode cX11_edition 179 = .ok (.getfield 188, 3) := by decide +kernel
theorem dX11_edition_182 : decode cX11_edition 182 = .ok (.ireturn, 1) := by decide +kernel
theorem dX11_factIs_0 : decode cX11_factIs 0 = .ok (.aload_n 0, 1) := by decide +kernel
theorem dX11_factIs_1 : decode cX11_factIs 1 = .ok (.getfield 62, 3) := by decide +kernel
theorem dX11_factIs_4 : decode cX11_factIs 4 = .ok (.bipush 6, 2) := by decide +kernel
theorem dX11_factIs_6 : decode cX11_factIs 6 = .ok (.iaload, 1) := by decide +kernel
theorem dX11_factIs_7 : decode cX11_factIs 7 = .ok (.istore_n 1, 1) := by decide +kernel
theorem dX11_factIs_8 : decode cX11_factIs 8 = .ok (.iload_n 1, 1) := by decide +kernel
theorem dX11_factIs_9 : decode cX11_factIs 9 = .ok (.bipush 8, 2) := by decide +kernel
theorem dX11_factIs_11 : decode cX11_factIs 11 = .ok (.if_icmp .ne 9, 3) := by decide +kernel
theorem dX11_factIs_14 : decode cX11_factIs 14 = .ok (.aload_n 0, 1) := by decide +kernel
theorem dX11_factIs_15 : decode cX11_factIs 15 = .ok (.iconst 5, 1) := by decide +kernel
theorem dX11_factIs_16 : decode cX11_factIs 16 = .ok (.invokevirtual 194, 3) := by decide +kernel
theorem dX11_factIs_19 : decode cX11_factIs 19 = .ok (.return_, 1) := by decide +kernel
theorem dX11_factIs_20 : decode cX11_factIs 20 = .ok (.aload_n 0, 1) := by decide +kernel
theorem dX11_factIs_21 : decode cX11_factIs 21 = .ok (.dup, 1) := by decide +kernel
theorem dX11_factIs_22 : decode cX11_factIs 22 = .ok (.getfield 185, 3) := by decide +kernel
theorem dX11_factIs_25 : decode cX11_factIs 25 = .ok (.iconst 1, 1) := by decide +kernel
theorem dX11_factIs_26 : decode cX11_factIs 26 = .ok (.iadd, 1) := by decide +kernel
theorem dX11_factIs_27 : decode cX11_factIs 27 = .ok (.putfield 185, 3) := by decide +kernel
theorem dX11_factIs_30 : decode cX11_factIs 30 = .ok (.bipush 48, 2) := by decide +kernel
theorem dX11_factIs_32 : decode cX11_factIs 32 = .ok (.iload_n 1, 1) := by decide +kernel
theorem dX11_factIs_33 : decode cX11_factIs 33 = .ok (.iadd, 1) := by decide +kernel
theorem dX11_factIs_34 : decode cX11_factIs 34 = .ok (.istore_n 2, 1) := by decide +kernel
theorem dX11_factIs_35 : decode cX11_factIs 35 = .ok (.aload_n 0, 1) := by decide +kernel
theorem dX11_factIs_36 : decode cX11_factIs 36 = .ok (.invokevirtual 225, 3) := by decide +kernel
theorem dX11_factIs_39 : decode cX11_factIs 39 = .ok (.ifCond .ne 11, 3) := by decide +kernel
theorem dX11_factIs_42 : decode cX11_factIs 42 = .ok (.aload_n 0, 1) := by decide +kernel
theorem dX11_factIs_43 : decode cX11_factIs 43 = .ok (.iconst 1, 1) := by decide +kernel
theorem dX11_factIs_44 : decode cX11_factIs 44 = .ok (.invokevirtual 194, 3) := by decide +kernel
theorem dX11_factIs_47 : decode cX11_factIs 47 = .ok (.goto 24, 3) := by decide +kernel
theorem dX11_factIs_50 : decode cX11_factIs 50 = .ok (.aload_n 0, 1) := by decide +kernel
theorem dX11_factIs_51 : decode cX11_factIs 51 = .ok (.aload_n 0, 1) := by decide +kernel
theorem dX11_factIs_52 : decode cX11_factIs 52 = .ok (.getfield 30, 3) := by decide +kernel
theorem dX11_factIs_55 : decode cX11_factIs 55 = .ok (.aload_n 0, 1) := by decide +kernel
theorem dX11_factIs_56 : decode cX11_factIs 56 = .ok (.getfield 185, 3) := by decide +kernel
theorem dX11_factIs_59 : decode cX11_factIs 59 = .ok (.laload, 1) := by decide +kernel
theorem dX11_factIs_60 : decode cX11_factIs 60 = .ok (.invokevirtual 229, 3) := by decide +kernel
theorem dX11_factIs_63 : decode cX11_factIs 63 = .ok (.ifCond .lt 8, 3) := by decide +kernel
theorem dX11_factIs_66 : decode cX11_factIs 66 = .ok (.aload_n 0, 1) := by decide +kernel
theorem dX11_factIs_67 : decode cX11_factIs 67 = .ok (.iconst 3, 1) := by decide +kernel
theorem dX11_factIs_68 : decode cX11_factIs 68 = .ok (.invokevirtual 194, 3) := by decide +kernel
theorem dX11_factIs_71 : decode cX11_factIs 71 = .ok (.aload_n 0, 1) := by decide +kernel
theorem dX11_factIs_72 : decode cX11_factIs 72 = .ok (.getfield 65, 3) := by decide +kernel
theorem dX11_factIs_75 : decode cX11_factIs 75 = .ok (.iload_n 2, 1) := by decide +kernel
theorem dX11_factIs_76 : decode cX11_factIs 76 = .ok (.aload_n 0, 1) := by decide +kernel
theorem dX11_factIs_77 : decode cX11_factIs 77 = .ok (.getfield 30, 3) := by decide +kernel
theorem dX11_factIs_80 : decode cX11_factIs 80 = .ok (.aload_n 0, 1) := by decide +kernel
theorem dX11_factIs_81 : decode cX11_factIs 81 = .ok (.getfield 185, 3) := by decide +kernel
theorem dX11_factIs_84 : decode cX11_factIs 84 = .ok (.laload, 1) := by decide +kernel
theorem dX11_factIs_85 : decode cX11_factIs 85 = .ok (.lastore, 1) := by decide +kernel
theorem dX11_factIs_86 : decode cX11_factIs 86 = .ok (.aload_n 0, 1) := by decide +kernel
theorem dX11_factIs_87 : decode cX11_factIs 87 = .ok (.dup, 1) := by decide +kernel
theorem dX11_factIs_88 : decode cX11_factIs 88 = .ok (.getfield 185, 3) := by decide +kernel
theorem dX11_factIs_91 : decode cX11_factIs 91 = .ok (.aload_n 0, 1) := by decide +kernel
theorem dX11_factIs_92 : decode cX11_factIs 92 = .ok (.getfield 188, 3) := by decide +kernel
theorem dX11_factIs_95 : decode cX11_factIs 95 = .ok (.ifCond .ne 7, 3) := by decide +kernel
theorem dX11_factIs_98 : decode cX11_factIs 98 = .ok (.iconst 1, 1) := by decide +kernel
theorem dX11_factIs_99 : decode cX11_factIs 99 = .ok (.goto 4, 3) := by decide +kernel
theorem dX11_factIs_102 : decode cX11_factIs 102 = .ok (.iconst 0, 1) := by decide +kernel
theorem dX11_factIs_103 : decode cX11_factIs 103 = .ok (.iadd, 1) := by decide +kernel
theorem dX11_factIs_104 : decode cX11_factIs 104 = .ok (.putfield 185, 3) := by decide +kernel
theorem dX11_factIs_107 : decode cX11_factIs 107 = .ok (.aload_n 0, 1) := by decide +kernel
theorem dX11_factIs_108 : decode cX11_factIs 108 = .ok (.getfield 68, 3) := by decide +kernel
theorem dX11_factIs_111 : decode cX11_factIs 111 = .ok (.iload_n 2, 1) := by decide +kernel
theorem dX11_factIs_112 : decode cX11_factIs 112 = .ok (.aload_n 0, 1) := by decide +kernel
theorem dX11_factIs_113 : decode cX11_factIs 113 = .ok (.iconst 0, 1) := by decide +kernel
theorem dX11_factIs_114 : decode cX11_factIs 114 = .ok (.bipush 99, 2) := by decide +kernel
theorem dX11_factIs_116 : decode cX11_factIs 116 = .ok (.invokevirtual 233, 3) := by decide +kernel
theorem dX11_factIs_119 : decode cX11_factIs 119 = .ok (.iastore, 1) := by decide +kernel
theorem dX11_factIs_120 : decode cX11_factIs 120 = .ok (.aload_n 0, 1) := by decide +kernel
theorem dX11_factIs_121 : decode cX11_factIs 121 = .ok (.iconst 1, 1) := by decide +kernel
theorem dX11_factIs_122 : decode cX11_factIs 122 = .ok (.invokevirtual 237, 3) := by decide +kernel
theorem dX11_factIs_125 : decode cX11_factIs 125 = .ok (.aload_n 0, 1) := by decide +kernel
theorem dX11_factIs_126 : decode cX11_factIs 126 = .ok (.getfield 188, 3) := by decide +kernel
theorem dX11_factIs_129 : decode cX11_factIs 129 = .ok (.ifCond .ne 20, 3) := by decide +kernel
theorem dX11_factIs_132 : decode cX11_factIs 132 = .ok (.aload_n 0, 1) := by decide +kernel
theorem dX11_factIs_133 : decode cX11_factIs 133 = .ok (.getfield 24, 3) := by decide +kernel
theorem dX11_factIs_136 : decode cX11_factIs 136 = .ok (.aload_n 0, 1) := by decide +kernel
theorem dX11_factIs_137 : decode cX11_factIs 137 = .ok (.getfield 185, 3) := by decide +kernel
theorem dX11_factIs_140 : decode cX11_factIs 140 = .ok (.iaload, 1) := by decide +kernel
theorem dX11_factIs_141 : decode cX11_factIs 141 = .ok (.iconst 2, 1) := by decide +kernel
theorem dX11_factIs_142 : decode cX11_factIs 142 = .ok (.if_icmp .ne 7, 3) := by decide +kernel
theorem dX11_factIs_145 : decode cX11_factIs 145 = .ok (.iconst 1, 1) := by decide +kernel
theorem dX11_factIs_146 : decode cX11_factIs 146 = .ok (.goto 4, 3) := by decide +kernel
theorem dX11_factIs_149 : decode cX11_factIs 149 = .ok (.iconst 0, 1) := by decide +kernel
theorem dX11_factIs_150 : decode cX11_factIs 150 = .ok (.istore_n 3, 1) := by decide +kernel
theorem dX11_factIs_151 : decode cX11_factIs 151 = .ok (.iload_n 3, 1) := by decide +kernel
theorem dX11_factIs_152 : decode cX11_factIs 152 = .ok (.ifCond .eq 77, 3) := by decide +kernel
theorem dX11_factIs_155 : decode cX11_factIs 155 = .ok (.aload_n 0, 1) := by decide +kernel
theorem dX11_factIs_156 : decode cX11_factIs 156 = .ok (.getfield 30, 3) := by decide +kernel
theorem dX11_factIs_159 : decode cX11_factIs 159 = .ok (.aload_n 0, 1) := by decide +kernel
theorem dX11_factIs_160 : decode cX11_factIs 160 = .ok (.getfield 185, 3) := by decide +kernel
theorem dX11_factIs_163 : decode cX11_factIs 163 = .ok (.laload, 1) := by decide +kernel
theorem dX11_factIs_164 : decode cX11_factIs 164 = .ok (.aload_n 0, 1) := by decide +kernel
theorem dX11_factIs_165 : decode cX11_factIs 165 = .ok (.getfield 68, 3) := by decide +kernel
theorem dX11_factIs_168 : decode cX11_factIs 168 = .ok (.iload_n 2, 1) := by decide +kernel
theorem dX11_factIs_169 : decode cX11_factIs 169 = .ok (.iaload, 1) := by decide +kernel
theorem dX11_factIs_170 : decode cX11_factIs 170 = .ok (.i2l, 1) := by decide +kernel
theorem dX11_factIs_171 : decode cX11_factIs 171 = .ok (.lcmp, 1) := by decide +kernel
theorem dX11_factIs_172 : decode cX11_factIs 172 = .ok (.ifCond .lt 57, 3) := by decide +kernel
theorem dX11_factIs_175 : decode cX11_factIs 175 = .ok (.aload_n 0, 1) := by decide +kernel
theorem dX11_factIs_176 : decode cX11_factIs 176 = .ok (.getfield 30, 3) := by decide +kernel
theorem dX11_factIs_179 : decode cX11_factIs 179 = .ok (.aload_n 0, 1) := by decide +kernel
theorem dX11_factIs_180 : decode cX11_factIs 180 = .ok (.getfield 185, 3) := by decide +kernel
theorem dX11_factIs_183 : decode cX11_factIs 183 = .ok (.laload, 1) := by decide +kernel
theorem dX11_factIs_184 : decode cX11_factIs 184 = .ok (.ldc2_w 240, 3) := by decide +kernel
theorem dX11_factIs_187 : decode cX11_factIs 187 = .ok (.lcmp, 1) := by decide +kernel
theorem dX11_factIs_188 : decode cX11_factIs 188 = .ok (.ifCond .gt 41, 3) := by decide +kernel
theorem dX11_factIs_191 : decode cX11_factIs 191 = .ok (.aload_n 0, 1) := by decide +kernel
theorem dX11_factIs_192 : decode cX11_factIs 192 = .ok (.bipush 6, 2) := by decide +kernel
theorem dX11_factIs_194 : decode cX11_factIs 194 = .ok (.invokevirtual 242, 3) := by decide +kernel
theorem dX11_factIs_197 : decode cX11_factIs 197 = .ok (.aload_n 0, 1) := by decide +kernel
theorem dX11_factIs_198 : decode cX11_factIs 198 = .ok (.getfield 30, 3) := by decide +kernel
theorem dX11_factIs_201 : decode cX11_factIs 201 = .ok (.aload_n 0, 1) := by decide +kernel
theorem dX11_factIs_202 : decode cX11_factIs 202 = .ok (.getfield 185, 3) := by decide +kernel
theorem dX11_factIs_205 : decode cX11_factIs 205 = .ok (.laload, 1) := by decide +kernel
theorem dX11_factIs_206 : decode cX11_factIs 206 = .ok (.aload_n 0, 1) := by decide +kernel
theorem dX11_factIs_207 : decode cX11_factIs 207 = .ok (.getfield 68, 3) := by decide +kernel
theorem dX11_factIs_210 : decode cX11_factIs 210 = .ok (.iload_n 2, 1) := by decide +kernel
theorem dX11_factIs_211 : decode cX11_factIs 211 = .ok (.iaload, 1) := by decide +kernel
theorem dX11_factIs_212 : decode cX11_factIs 212 = .ok (.i2l, 1) := by decide +kernel
theorem dX11_factIs_213 : decode cX11_factIs 213 = .ok (.lsub, 1) := by decide +kernel
theorem dX11_factIs_214 : decode cX11_factIs 214 = .ok (.lconst 1, 1) := by decide +kernel
theorem dX11_factIs_215 : decode cX11_factIs 215 = .ok (.ladd, 1) := by decide +kernel
theorem dX11_factIs_216 : decode cX11_factIs 216 = .ok (.lmul, 1) := by decide +kernel
theorem dX11_factIs_217 : decode cX11_factIs 217 = .ok (.ldc2_w 246, 3) := by decide +kernel
theorem dX11_factIs_220 : decode cX11_factIs 220 = .ok (.lcmp, 1) := by decide +kernel
theorem dX11_factIs_221 : decode cX11_factIs 221 = .ok (.ifCond .le 8, 3) := by decide +kernel
theorem dX11_factIs_224 : decode cX11_factIs 224 = .ok (.aload_n 0, 1) := by decide +kernel
theorem dX11_factIs_225 : decode cX11_factIs 225 = .ok (.iconst 5, 1) := by decide +kernel
theorem dX11_factIs_226 : decode cX11_factIs 226 = .ok (.invokevirtual 194, 3) := by decide +kernel
theorem dX11_factIs_229 : decode cX11_factIs 229 = .ok (.aload_n 0, 1) := by decide +kernel
theorem dX11_factIs_230 : decode cX11_factIs 230 = .ok (.getfield 71, 3) := by decide +kernel
theorem dX11_factIs_233 : decode cX11_factIs 233 = .ok (.iload_n 2, 1) := by decide +kernel
theorem dX11_factIs_234 : decode cX11_factIs 234 = .ok (.aload_n 0, 1) := by decide +kernel
theorem dX11_factIs_235 : decode cX11_factIs 235 = .ok (.aload_n 0, 1) := by decide +kernel
theorem dX11_factIs_236 : decode cX11_factIs 236 = .ok (.getfield 68, 3) := by decide +kernel
theorem dX11_factIs_239 : decode cX11_factIs 239 = .ok (.iload_n 2, 1) := by decide +kernel
theorem dX11_factIs_240 : decode cX11_factIs 240 = .ok (.iaload, 1) := by decide +kernel
theorem dX11_factIs_241 : decode cX11_factIs 241 = .ok (.bipush 99, 2) := by decide +kernel
theorem dX11_factIs_243 : decode cX11_factIs 243 = .ok (.invokevirtual 233, 3) := by decide +kernel
theorem dX11_factIs_246 : decode cX11_factIs 246 = .ok (.iastore, 1) := by decide +kernel
theorem dX11_factIs_247 : decode cX11_factIs 247 = .ok (.aload_n 0, 1) := by decide +kernel
theorem dX11_factIs_248 : decode cX11_factIs 248 = .ok (.bipush 59, 2) := by decide +kernel
theorem dX11_factIs_250 : decode cX11_factIs 250 = .ok (.invokevirtual 248, 3) := by decide +kernel
theorem dX11_factIs_253 : decode cX11_factIs 253 = .ok (.aload_n 0, 1) := by decide +kernel
theorem dX11_factIs_254 : decode cX11_factIs 254 = .ok (.getfield 62, 3) := by decide +kernel
theorem dX11_factIs_257 : decode cX11_factIs 257 = .ok (.bipush 6, 2) := by decide +kernel
theorem dX11_factIs_259 : decode cX11_factIs 259 = .ok (.dup2, 1) := by decide +kernel
theorem dX11_factIs_260 : decode cX11_factIs 260 = .ok (.iaload, 1) := by decide +kernel
theorem dX11_factIs_261 : decode cX11_factIs 261 = .ok (.iconst 1, 1) := by decide +kernel
theorem dX11_factIs_262 : decode cX11_factIs 262 = .ok (.iadd, 1) := by decide +kernel
theorem dX11_factIs_263 : decode cX11_factIs 263 = .ok (.iastore, 1) := by decide +kernel
theorem dX11_factIs_264 : decode cX11_factIs 264 = .ok (.return_, 1) := by decide +kernel
theorem dX11_findFact_0 : decode cX11_findFact 0 = .ok (.iconst (-1), 1) := by decide +kernel
theorem dX11_findFact_1 : decode cX11_findFact 1 = .ok (.istore_n 3, 1) := by decide +kernel
theorem dX11_findFact_2 : decode cX11_findFact 2 = .ok (.iconst 0, 1) := by decide +kernel
theorem dX11_findFact_3 : decode cX11_findFact 3 = .ok (.istore 4, 2) := by decide +kernel
theorem dX11_findFact_5 : decode cX11_findFact 5 = .ok (.iload 4, 2) := by decide +kernel
theorem dX11_findFact_7 : decode cX11_findFact 7 = .ok (.aload_n 0, 1) := by decide +kernel
theorem dX11_findFact_8 : decode cX11_findFact 8 = .ok (.getfield 62, 3) := by decide +kernel
theorem dX11_findFact_11 : decode cX11_findFact 11 = .ok (.bipush 6, 2) := by decide +kernel
theorem dX11_findFact_13 : decode cX11_findFact 13 = .ok (.iaload, 1) := by decide +kernel
theorem dX11_findFact_14 : decode cX11_findFact 14 = .ok (.if_icmp .ge 31, 3) := by decide +kernel
theorem dX11_findFact_17 : decode cX11_findFact 17 = .ok (.aload_n 0, 1) := by decide +kernel
theorem dX11_findFact_18 : decode cX11_findFact 18 = .ok (.getfield 65, 3) := by decide +kernel
theorem dX11_findFact_21 : decode cX11_findFact 21 = .ok (.bipush 48, 2) := by decide +kernel
theorem dX11_findFact_23 : decode cX11_findFact 23 = .ok (.iload 4, 2) := by decide +kernel
theorem dX11_findFact_25 : decode cX11_findFact 25 = .ok (.iadd, 1) := by decide +kernel
theorem dX11_findFact_26 : decode cX11_findFact 26 = .ok (.laload, 1) := by decide +kernel
theorem dX11_findFact_27 : decode cX11_findFact 27 = .ok (.lload_n 1, 1) := by decide +kernel
theorem dX11_findFact_28 : decode cX11_findFact 28 = .ok (.lcmp, 1) := by decide +kernel
theorem dX11_findFact_29 : decode cX11_findFact 29 = .ok (.ifCond .ne 8, 3) := by decide +kernel
theorem dX11_findFact_32 : decode cX11_findFact 32 = .ok (.iload 4, 2) := by decide +kernel
theorem dX11_findFact_34 : decode cX11_findFact 34 = .ok (.goto 4, 3) := by decide +kernel
theorem dX11_findFact_37 : decode cX11_findFact 37 = .ok (.iload_n 3, 1) := by decide +kernel
theorem dX11_findFact_38 : decode cX11_findFact 38 = .ok (.istore_n 3, 1) := by decide +kernel
theorem dX11_findFact_39 : decode cX11_findFact 39 = .ok (.iinc 4 1, 3) := by decide +kernel
theorem dX11_findFact_42 : decode cX11_findFact 42 = .ok (.goto (-37), 3) := by decide +kernel
theorem dX11_findFact_45 : decode cX11_findFact 45 = .ok (.iload_n 3, 1) := by decide +kernel
theorem dX11_findFact_46 : decode cX11_findFact 46 = .ok (.ireturn, 1) := by decide +kernel
theorem dX11_worlds_0 : decode cX11_worlds 0 = .ok (.lconst 1, 1) := by decide +kernel
theorem dX11_worlds_1 : decode cX11_worlds 1 = .ok (.lstore_n 2, 1) := by decide +kernel
theorem dX11_worlds_2 : decode cX11_worlds 2 = .ok (.bipush 8, 2) := by decide +kernel
theorem dX11_worlds_4 : decode cX11_worlds 4 = .ok (.iload_n 1, 1) := by decide +kernel
theorem dX11_worlds_5 : decode cX11_worlds 5 = .ok (.imul, 1) := by decide +kernel
theorem dX11_worlds_6 : decode cX11_worlds 6 = .ok (.istore 4, 2) := by decide +kernel
theorem dX11_worlds_8 : decode cX11_worlds 8 = .ok (.iload 4, 2) := by decide +kernel
theorem dX11_worlds_10 : decode cX11_worlds 10 = .ok (.bipush 8, 2) := by decide +kernel
theorem dX11_worlds_12 : decode cX11_worlds 12 = .ok (.iload_n 1, 1) := by decide +kernel
theorem dX11_worlds_13 : decode cX11_worlds 13 = .ok (.imul, 1) := by decide +kernel
theorem dX11_worlds_14 : decode cX11_worlds 14 = .ok (.aload_n 0, 1) := by decide +kernel
theorem dX11_worlds_15 : decode cX11_worlds 15 = .ok (.getfield 62, 3) := by decide +kernel
theorem dX11_worlds_18 : decode cX11_worlds 18 = .ok (.iload_n 1, 1) := by decide +kernel
theorem dX11_worlds_19 : decode cX11_worlds 19 = .ok (.iaload, 1) := by decide +kernel
theorem dX11_worlds_20 : decode cX11_worlds 20 = .ok (.iadd, 1) := by decide +kernel
theorem dX11_worlds_21 : decode cX11_worlds 21 = .ok (.if_icmp .ge 30, 3) := by decide +kernel
theorem dX11_worlds_24 : decode cX11_worlds 24 = .ok (.lload_n 2, 1) := by decide +kernel
theorem dX11_worlds_25 : decode cX11_worlds 25 = .ok (.aload_n 0, 1) := by decide +kernel
theorem dX11_worlds_26 : decode cX11_worlds 26 = .ok (.getfield 71, 3) := by decide +kernel
theorem dX11_worlds_29 : decode cX11_worlds 29 = .ok (.iload 4, 2) := by decide +kernel
theorem dX11_worlds_31 : decode cX11_worlds 31 = .ok (.iaload, 1) := by decide +kernel
theorem dX11_worlds_32 : decode cX11_worlds 32 = .ok (.aload_n 0, 1) := by decide +kernel
theorem dX11_worlds_33 : decode cX11_worlds 33 = .ok (.getfield 68, 3) := by decide +kernel
theorem dX11_worlds_36 : decode cX11_worlds 36 = .ok (.iload 4, 2) := by decide +kernel
theorem dX11_worlds_38 : decode cX11_worlds 38 = .ok (.iaload, 1) := by decide +kernel
theorem dX11_worlds_39 : decode cX11_worlds 39 = .ok (.isub, 1) := by decide +kernel
theorem dX11_worlds_40 : decode cX11_worlds 40 = .ok (.iconst 1, 1) := by decide +kernel
theorem dX11_worlds_41 : decode cX11_worlds 41 = .ok (.iadd, 1) := by decide +kernel
theorem dX11_worlds_42 : decode cX11_worlds 42 = .ok (.i2l, 1) := by decide +kernel
theorem dX11_worlds_43 : decode cX11_worlds 43 = .ok (.lmul, 1) := by decide +kernel
theorem dX11_worlds_44 : decode cX11_worlds 44 = .ok (.lstore_n 2, 1) := by decide +kernel
theorem dX11_worlds_45 : decode cX11_worlds 45 = .ok (.iinc 4 1, 3) := by decide +kernel
theorem dX11_worlds_48 : decode cX11_worlds 48 = .ok (.goto (-40), 3) := by decide +kernel
theorem dX11_worlds_51 : decode cX11_worlds 51 = .ok (.lload_n 2, 1) := by decide +kernel
theorem dX11_worlds_52 : decode cX11_worlds 52 = .ok (.lreturn, 1) := by decide +kernel
theorem dX11_findClause_0 : decode cX11_findClause 0 = .ok (.iconst 0, 1) := by decide +kernel
theorem dX11_findClause_1 : decode cX11_findClause 1 = .ok (.istore_n 3, 1) := by decide +kernel
theorem dX11_findClause_2 : decode cX11_findClause 2 = .ok (.iconst 0, 1) := by decide +kernel
theorem dX11_findClause_3 : decode cX11_findClause 3 = .ok (.istore 4, 2) := by decide +kernel
theorem dX11_findClause_5 : decode cX11_findClause 5 = .ok (.aload_n 0, 1) := by decide +kernel
theorem dX11_findClause_6 : decode cX11_findClause 6 = .ok (.getfield 24, 3) := by decide +kernel
theorem dX11_findClause_9 : decode cX11_findClause 9 = .ok (.iload 4, 2) := by decide +kernel
theorem dX11_findClause_11 : decode cX11_findClause 11 = .ok (.iaload, 1) := by decide +kernel
theorem dX11_findClause_12 : decode cX11_findClause 12 = .ok (.ifCond .eq 69, 3) := by decide +kernel
theorem dX11_findClause_15 : decode cX11_findClause 15 = .ok (.aload_n 0, 1) := by decide +kernel
theorem dX11_findClause_16 : decode cX11_findClause 16 = .ok (.getfield 24, 3) := by decide +kernel
theorem dX11_findClause_19 : decode cX11_findClause 19 = .ok (.iload 4, 2) := by decide +kernel
theorem dX11_findClause_21 : decode cX11_findClause 21 = .ok (.iaload, 1) := by decide +kernel
theorem dX11_findClause_22 : decode cX11_findClause 22 = .ok (.iconst 1, 1) := by decide +kernel
theorem dX11_findClause_23 : decode cX11_findClause 23 = .ok (.if_icmp .ne 52, 3) := by decide +kernel
theorem dX11_findClause_26 : decode cX11_findClause 26 = .ok (.aload_n 0, 1) := by decide +kernel
theorem dX11_findClause_27 : decode cX11_findClause 27 = .ok (.getfield 30, 3) := by decide +kernel
theorem dX11_findClause_30 : decode cX11_findClause 30 = .ok (.iload 4, 2) := by decide +kernel
theorem dX11_findClause_32 : decode cX11_findClause 32 = .ok (.laload, 1) := by decide +kernel
theorem dX11_findClause_33 : decode cX11_findClause 33 = .ok (.aload_n 0, 1) := by decide +kernel
theorem dX11_findClause_34 : decode cX11_findClause 34 = .ok (.getfield 56, 3) := by decide +kernel
theorem dX11_findClause_37 : decode cX11_findClause 37 = .ok (.iconst 2, 1) := by decide +kernel
theorem dX11_findClause_38 : decode cX11_findClause 38 = .ok (.laload, 1) := by decide +kernel
theorem dX11_findClause_39 : decode cX11_findClause 39 = .ok (.lcmp, 1) := by decide +kernel
theorem dX11_findClause_40 : decode cX11_findClause 40 = .ok (.ifCond .ne 35, 3) := by decide +kernel
theorem dX11_findClause_43 : decode cX11_findClause 43 = .ok (.aload_n 0, 1) := by decide +kernel
theorem dX11_findClause_44 : decode cX11_findClause 44 = .ok (.getfield 24, 3) := by decide +kernel
theorem dX11_findClause_47 : decode cX11_findClause 47 = .ok (.iload 4, 2) := by decide +kernel
theorem dX11_findClause_49 : decode cX11_findClause 49 = .ok (.iconst 1, 1) := by decide +kernel
theorem dX11_findClause_50 : decode cX11_findClause 50 = .ok (.iadd, 1) := by decide +kernel
theorem dX11_findClause_51 : decode cX11_findClause 51 = .ok (.iaload, 1) := by decide +kernel
theorem dX11_findClause_52 : decode cX11_findClause 52 = .ok (.iconst 1, 1) := by decide +kernel
theorem dX11_findClause_53 : decode cX11_findClause 53 = .ok (.if_icmp .ne 19, 3) := by decide +kernel
theorem dX11_findClause_56 : decode cX11_findClause 56 = .ok (.aload_n 0, 1) := by decide +kernel
theorem dX11_findClause_57 : decode cX11_findClause 57 = .ok (.getfield 30, 3) := by decide +kernel
theorem dX11_findClause_60 : decode cX11_findClause 60 = .ok (.iload 4, 2) := by decide +kernel
theorem dX11_findClause_62 : decode cX11_findClause 62 = .ok (.iconst 1, 1) := by decide +kernel
theorem dX11_findClause_63 : decode cX11_findClause 63 = .ok (.iadd, 1) := by decide +kernel
theorem dX11_findClause_64 : decode cX11_findClause 64 = .ok (.laload, 1) := by decide +kernel
theorem dX11_findClause_65 : decode cX11_findClause 65 = .ok (.lload_n 1, 1) := by decide +kernel
theorem dX11_findClause_66 : decode cX11_findClause 66 = .ok (.lcmp, 1) := by decide +kernel
theorem dX11_findClause_67 : decode cX11_findClause 67 = .ok (.ifCond .ne 5, 3) := by decide +kernel
theorem dX11_findClause_70 : decode cX11_findClause 70 = .ok (.iload_n 3, 1) := by decide +kernel
theorem dX11_findClause_71 : decode cX11_findClause 71 = .ok (.ireturn, 1) := by decide +kernel
theorem dX11_findClause_72 : decode cX11_findClause 72 = .ok (.iinc 3 1, 3) := by decide +kernel
theorem dX11_findClause_75 : decode cX11_findClause 75 = .ok (.iinc 4 1, 3) := by decide +kernel
theorem dX11_findClause_78 : decode cX11_findClause 78 = .ok (.goto (-73), 3) := by decide +kernel
theorem dX11_findClause_81 : decode cX11_findClause 81 = .ok (.iconst (-1), 1) := by decide +kernel
theorem dX11_findClause_82 : decode cX11_findClause 82 = .ok (.ireturn, 1) := by decide +kernel
theorem dX11_takeClause_0 : decode cX11_takeClause 0 = .ok (.aload_n 0, 1) := by decide +kernel
theorem dX11_takeClause_1 : decode cX11_takeClause 1 = .ok (.invokevirtual 225, 3) := by decide +kernel
theorem dX11_takeClause_4 : decode cX11_takeClause 4 = .ok (.ifCond .eq 19, 3) := by decide +kernel
theorem dX11_takeClause_7 : decode cX11_takeClause 7 = .ok (.aload_n 0, 1) := by decide +kernel
theorem dX11_takeClause_8 : decode cX11_takeClause 8 = .ok (.aload_n 0, 1) := by decide +kernel
theorem dX11_takeClause_9 : decode cX11_takeClause 9 = .ok (.getfield 30, 3) := by decide +kernel
theorem dX11_takeClause_12 : decode cX11_takeClause 12 = .ok (.aload_n 0, 1) := by decide +kernel
theorem dX11_takeClause_13 : decode cX11_takeClause 13 = .ok (.getfield 185, 3) := by decide +kernel
theorem dX11_takeClause_16 : decode cX11_takeClause 16 = .ok (.laload, 1) := by decide +kernel
theorem dX11_takeClause_17 : decode cX11_takeClause 17 = .ok (.invokevirtual 251, 3) := by decide +kernel
theorem dX11_takeClause_20 : decode cX11_takeClause 20 = .ok (.goto 4, 3) := by decide +kernel
theorem dX11_takeClause_23 : decode cX11_takeClause 23 = .ok (.iconst (-1), 1) := by decide +kernel
theorem dX11_takeClause_24 : decode cX11_takeClause 24 = .ok (.istore_n 1, 1) := by decide +kernel
theorem dX11_takeClause_25 : decode cX11_takeClause 25 = .ok (.aload_n 0, 1) := by decide +kernel
theorem dX11_takeClause_26 : decode cX11_takeClause 26 = .ok (.invokevirtual 225, 3) := by decide +kernel
theorem dX11_takeClause_29 : decode cX11_takeClause 29 = .ok (.ifCond .ne 11, 3) := by decide +kernel
theorem dX11_takeClause_32 : decode cX11_takeClause 32 = .ok (.aload_n 0, 1) := by decide +kernel
theorem dX11_takeClause_33 : decode cX11_takeClause 33 = .ok (.iconst 1, 1) := by decide +kernel
theorem dX11_takeClause_34 : decode cX11_takeClause 34 = .ok (.invokevirtual 194, 3) := by decide +kernel
theorem dX11_takeClause_37 : decode cX11_takeClause 37 = .ok (.goto 12, 3) := by decide +kernel
theorem dX11_takeClause_40 : decode cX11_takeClause 40 = .ok (.iload_n 1, 1) := by decide +kernel
theorem dX11_takeClause_41 : decode cX11_takeClause 41 = .ok (.ifCond .ge 8, 3) := by decide +kernel
theorem dX11_takeClause_44 : decode cX11_takeClause 44 = .ok (.aload_n 0, 1) := by decide +kernel
theorem dX11_takeClause_45 : decode cX11_takeClause 45 = .ok (.iconst 2, 1) := by decide +kernel
theorem dX11_takeClause_46 : decode cX11_takeClause 46 = .ok (.invokevirtual 194, 3) := by decide +kernel
theorem dX11_takeClause_49 : decode cX11_takeClause 49 = .ok (.aload_n 0, 1) := by decide +kernel
theorem dX11_takeClause_50 : decode cX11_takeClause 50 = .ok (.dup, 1) := by decide +kernel
theorem dX11_takeClause_51 : decode cX11_takeClause 51 = .ok (.getfield 185, 3) := by decide +kernel
theorem dX11_takeClause_54 : decode cX11_takeClause 54 = .ok (.aload_n 0, 1) := by decide +kernel
theorem dX11_takeClause_55 : decode cX11_takeClause 55 = .ok (.getfield 188, 3) := by decide +kernel
theorem dX11_takeClause_58 : decode cX11_takeClause 58 = .ok (.ifCond .ne 7, 3) := by decide +kernel
theorem dX11_takeClause_61 : decode cX11_takeClause 61 = .ok (.iconst 1, 1) := by decide +kernel
theorem dX11_takeClause_62 : decode cX11_takeClause 62 = .ok (.goto 4, 3) := by decide +kernel
theorem dX11_takeClause_65 : decode cX11_takeClause 65 = .ok (.iconst 0, 1) := by decide +kernel
theorem dX11_takeClause_66 : decode cX11_takeClause 66 = .ok (.iadd, 1) := by decide +kernel
theorem dX11_takeClause_67 : decode cX11_takeClause 67 = .ok (.putfield 185, 3) := by decide +kernel
theorem dX11_takeClause_70 : decode cX11_takeClause 70 = .ok (.iload_n 1, 1) := by decide +kernel
theorem dX11_takeClause_71 : decode cX11_takeClause 71 = .ok (.ireturn, 1) := by decide +kernel
theorem dX11_clauseIs_0 : decode cX11_clauseIs 0 = .ok (.aload_n 0, 1) := by decide +kernel
theorem dX11_clauseIs_1 : decode cX11_clauseIs 1 = .ok (.getfield 74, 3) := by decide +kernel
theorem dX11_clauseIs_4 : decode cX11_clauseIs 4 = .ok (.bipush 6, 2) := by decide +kernel
theorem dX11_clauseIs_6 : decode cX11_clauseIs 6 = .ok (.iaload, 1) := by decide +kernel
theorem dX11_clauseIs_7 : decode cX11_clauseIs 7 = .ok (.istore_n 1, 1) := by decide +kernel
theorem dX11_clauseIs_8 : decode cX11_clauseIs 8 = .ok (.iload_n 1, 1) := by decide +kernel
theorem dX11_clauseIs_9 : decode cX11_clauseIs 9 = .ok (.bipush 12, 2) := by decide +kernel
theorem dX11_clauseIs_11 : decode cX11_clauseIs 11 = .ok (.if_icmp .ne 9, 3) := by decide +kernel
theorem dX11_clauseIs_14 : decode cX11_clauseIs 14 = .ok (.aload_n 0, 1) := by decide +kernel
theorem dX11_clauseIs_15 : decode cX11_clauseIs 15 = .ok (.iconst 5, 1) := by decide +kernel
theorem dX11_clauseIs_16 : decode cX11_clauseIs 16 = .ok (.invokevirtual 194, 3) := by decide +kernel
theorem dX11_clauseIs_19 : decode cX11_clauseIs 19 = .ok (.return_, 1) := by decide +kernel
theorem dX11_clauseIs_20 : decode cX11_clauseIs 20 = .ok (.aload_n 0, 1) := by decide +kernel
theorem dX11_clauseIs_21 : decode cX11_clauseIs 21 = .ok (.dup, 1) := by decide +kernel
theorem dX11_clauseIs_22 : decode cX11_clauseIs 22 = .ok (.getfield 185, 3) := by decide +kernel
theorem dX11_clauseIs_25 : decode cX11_clauseIs 25 = .ok (.iconst 1, 1) := by decide +kernel
theorem dX11_clauseIs_26 : decode cX11_clauseIs 26 = .ok (.iadd, 1) := by decide +kernel
theorem dX11_clauseIs_27 : decode cX11_clauseIs 27 = .ok (.putfield 185, 3) := by decide +kernel
theorem dX11_clauseIs_30 : decode cX11_clauseIs 30 = .ok (.bipush 72, 2) := by decide +kernel
theorem dX11_clauseIs_32 : decode cX11_clauseIs 32 = .ok (.iload_n 1, 1) := by decide +kernel
theorem dX11_clauseIs_33 : decode cX11_clauseIs 33 = .ok (.iadd, 1) := by decide +kernel
theorem dX11_clauseIs_34 : decode cX11_clauseIs 34 = .ok (.istore_n 2, 1) := by decide +kernel
theorem dX11_clauseIs_35 : decode cX11_clauseIs 35 = .ok (.aload_n 0, 1) := by decide +kernel
theorem dX11_clauseIs_36 : decode cX11_clauseIs 36 = .ok (.invokevirtual 225, 3) := by decide +kernel
theorem dX11_clauseIs_39 : decode cX11_clauseIs 39 = .ok (.ifCond .ne 11, 3) := by decide +kernel
theorem dX11_clauseIs_42 : decode cX11_clauseIs 42 = .ok (.aload_n 0, 1) := by decide +kernel
theorem dX11_clauseIs_43 : decode cX11_clauseIs 43 = .ok (.iconst 1, 1) := by decide +kernel
theorem dX11_clauseIs_44 : decode cX11_clauseIs 44 = .ok (.invokevirtual 194, 3) := by decide +kernel
theorem dX11_clauseIs_47 : decode cX11_clauseIs 47 = .ok (.goto 25, 3) := by decide +kernel
theorem dX11_clauseIs_50 : decode cX11_clauseIs 50 = .ok (.aload_n 0, 1) := by decide +kernel
theorem dX11_clauseIs_51 : decode cX11_clauseIs 51 = .ok (.aload_n 0, 1) := by decide +kernel
theorem dX11_clauseIs_52 : decode cX11_clauseIs 52 = .ok (.getfield 30, 3) := by decide +kernel
theorem dX11_clauseIs_55 : decode cX11_clauseIs 55 = .ok (.aload_n 0, 1) := by decide +kernel
theorem dX11_clauseIs_56 : decode cX11_clauseIs 56 = .ok (.getfield 185, 3) := by decide +kernel
theorem dX11_clauseIs_59 : decode cX11_clauseIs 59 = .ok (.laload, 1) := by decide +kernel
theorem dX11_clauseIs_60 : decode cX11_clauseIs 60 = .ok (.invokevirtual 251, 3) := by decide +kernel
theorem dX11_clauseIs_63 : decode cX11_clauseIs 63 = .ok (.iload_n 1, 1) := by decide +kernel
theorem dX11_clauseIs_64 : decode cX11_clauseIs 64 = .ok (.if_icmp .ge 8, 3) := by decide +kernel
theorem dX11_clauseIs_67 : decode cX11_clauseIs 67 = .ok (.aload_n 0, 1) := by decide +kernel
theorem dX11_clauseIs_68 : decode cX11_clauseIs 68 = .ok (.iconst 3, 1) := by decide +kernel
theorem dX11_clauseIs_69 : decode cX11_clauseIs 69 = .ok (.invokevirtual 194, 3) := by decide +kernel
theorem dX11_clauseIs_72 : decode cX11_clauseIs 72 = .ok (.aload_n 0, 1) := by decide +kernel
theorem dX11_clauseIs_73 : decode cX11_clauseIs 73 = .ok (.getfield 77, 3) := by decide +kernel
theorem dX11_clauseIs_76 : decode cX11_clauseIs 76 = .ok (.iload_n 2, 1) := by decide +kernel
theorem dX11_clauseIs_77 : decode cX11_clauseIs 77 = .ok (.aload_n 0, 1) := by decide +kernel
theorem dX11_clauseIs_78 : decode cX11_clauseIs 78 = .ok (.getfield 30, 3) := by decide +kernel
theorem dX11_clauseIs_81 : decode cX11_clauseIs 81 = .ok (.aload_n 0, 1) := by decide +kernel
theorem dX11_clauseIs_82 : decode cX11_clauseIs 82 = .ok (.getfield 185, 3) := by decide +kernel
theorem dX11_clauseIs_85 : decode cX11_clauseIs 85 = .ok (.laload, 1) := by decide +kernel
theorem dX11_clauseIs_86 : decode cX11_clauseIs 86 = .ok (.lastore, 1) := by decide +kernel
theorem dX11_clauseIs_87 : decode cX11_clauseIs 87 = .ok (.aload_n 0, 1) := by decide +kernel
theorem dX11_clauseIs_88 : decode cX11_clauseIs 88 = .ok (.dup, 1) := by decide +kernel
theorem dX11_clauseIs_89 : decode cX11_clauseIs 89 = .ok (.getfield 185, 3) := by decide +kernel
theorem dX11_clauseIs_92 : decode cX11_clauseIs 92 = .ok (.aload_n 0, 1) := by decide +kernel
theorem dX11_clauseIs_93 : decode cX11_clauseIs 93 = .ok (.getfield 188, 3) := by decide +kernel
theorem dX11_clauseIs_96 : decode cX11_clauseIs 96 = .ok (.ifCond .ne 7, 3) := by decide +kernel
theorem dX11_clauseIs_99 : decode cX11_clauseIs 99 = .ok (.iconst 1, 1) := by decide +kernel
theorem dX11_clauseIs_100 : decode cX11_clauseIs 100 = .ok (.goto 4, 3) := by decide +kernel
theorem dX11_clauseIs_103 : decode cX11_clauseIs 103 = .ok (.iconst 0, 1) := by decide +kernel
theorem dX11_clauseIs_104 : decode cX11_clauseIs 104 = .ok (.iadd, 1) := by decide +kernel
theorem dX11_clauseIs_105 : decode cX11_clauseIs 105 = .ok (.putfield 185, 3) := by decide +kernel
theorem dX11_clauseIs_108 : decode cX11_clauseIs 108 = .ok (.aload_n 0, 1) := by decide +kernel
theorem dX11_clauseIs_109 : decode cX11_clauseIs 109 = .ok (.iconst 3, 1) := by decide +kernel
theorem dX11_clauseIs_110 : decode cX11_clauseIs 110 = .ok (.invokevirtual 237, 3) := by decide +kernel
theorem dX11_clauseIs_113 : decode cX11_clauseIs 113 = .ok (.aload_n 0, 1) := by decide +kernel
theorem dX11_clauseIs_114 : decode cX11_clauseIs 114 = .ok (.getfield 80, 3) := by decide +kernel
theorem dX11_clauseIs_117 : decode cX11_clauseIs 117 = .ok (.iload_n 2, 1) := by decide +kernel
theorem dX11_clauseIs_118 : decode cX11_clauseIs 118 = .ok (.aload_n 0, 1) := by decide +kernel
theorem dX11_clauseIs_119 : decode cX11_clauseIs 119 = .ok (.iconst 0, 1) := by decide +kernel
theorem dX11_clauseIs_120 : decode cX11_clauseIs 120 = .ok (.bipush 99, 2) := by decide +kernel
theorem dX11_clauseIs_122 : decode cX11_clauseIs 122 = .ok (.invokevirtual 233, 3) := by decide +kernel
theorem dX11_clauseIs_125 : decode cX11_clauseIs 125 = .ok (.iastore, 1) := by decide +kernel
theorem dX11_clauseIs_126 : decode cX11_clauseIs 126 = .ok (.aload_n 0, 1) := by decide +kernel
theorem dX11_clauseIs_127 : decode cX11_clauseIs 127 = .ok (.getfield 83, 3) := by decide +kernel
theorem dX11_clauseIs_130 : decode cX11_clauseIs 130 = .ok (.iload_n 2, 1) := by decide +kernel
theorem dX11_clauseIs_131 : decode cX11_clauseIs 131 = .ok (.aload_n 0, 1) := by decide +kernel
theorem dX11_clauseIs_132 : decode cX11_clauseIs 132 = .ok (.iconst 4, 1) := by decide +kernel
theorem dX11_clauseIs_133 : decode cX11_clauseIs 133 = .ok (.invokevirtual 201, 3) := by decide +kernel
theorem dX11_clauseIs_136 : decode cX11_clauseIs 136 = .ok (.bastore, 1) := by decide +kernel
theorem dX11_clauseIs_137 : decode cX11_clauseIs 137 = .ok (.aload_n 0, 1) := by decide +kernel
theorem dX11_clauseIs_138 : decode cX11_clauseIs 138 = .ok (.iconst 5, 1) := by decide +kernel
theorem dX11_clauseIs_139 : decode cX11_clauseIs 139 = .ok (.invokevirtual 237, 3) := by decide +kernel
theorem dX11_clauseIs_142 : decode cX11_clauseIs 142 = .ok (.aload_n 0, 1) := by decide +kernel
theorem dX11_clauseIs_143 : decode cX11_clauseIs 143 = .ok (.getfield 87, 3) := by decide +kernel
theorem dX11_clauseIs_146 : decode cX11_clauseIs 146 = .ok (.iload_n 2, 1) := by decide +kernel
theorem dX11_clauseIs_147 : decode cX11_clauseIs 147 = .ok (.aload_n 0, 1) := by decide +kernel
theorem dX11_clauseIs_148 : decode cX11_clauseIs 148 = .ok (.getfield 204, 3) := by decide +kernel
theorem dX11_clauseIs_151 : decode cX11_clauseIs 151 = .ok (.iastore, 1) := by decide +kernel
theorem dX11_clauseIs_152 : decode cX11_clauseIs 152 = .ok (.aload_n 0, 1) := by decide +kernel
theorem dX11_clauseIs_153 : decode cX11_clauseIs 153 = .ok (.invokevirtual 254, 3) := by decide +kernel
theorem dX11_clauseIs_156 : decode cX11_clauseIs 156 = .ok (.aload_n 0, 1) := by decide +kernel
theorem dX11_clauseIs_157 : decode cX11_clauseIs 157 = .ok (.bipush 59, 2) := by decide +kernel
theorem dX11_clauseIs_159 : decode cX11_clauseIs 159 = .ok (.invokevirtual 248, 3) := by decide +kernel
theorem dX11_clauseIs_162 : decode cX11_clauseIs 162 = .ok (.aload_n 0, 1) := by decide +kernel
theorem dX11_clauseIs_163 : decode cX11_clauseIs 163 = .ok (.getfield 90, 3) := by decide +kernel
theorem dX11_clauseIs_166 : decode cX11_clauseIs 166 = .ok (.iload_n 2, 1) := by decide +kernel
theorem dX11_clauseIs_167 : decode cX11_clauseIs 167 = .ok (.iconst 0, 1) := by decide +kernel
theorem dX11_clauseIs_168 : decode cX11_clauseIs 168 = .ok (.iastore, 1) := by decide +kernel
theorem dX11_clauseIs_169 : decode cX11_clauseIs 169 = .ok (.aload_n 0, 1) := by decide +kernel
theorem dX11_clauseIs_170 : decode cX11_clauseIs 170 = .ok (.bipush 6, 2) := by decide +kernel
theorem dX11_clauseIs_172 : decode cX11_clauseIs 172 = .ok (.invokevirtual 198, 3) := by decide +kernel
theorem dX11_clauseIs_175 : decode cX11_clauseIs 175 = .ok (.ifCond .eq 12, 3) := by decide +kernel
theorem dX11_clauseIs_178 : decode cX11_clauseIs 178 = .ok (.aload_n 0, 1) := by decide +kernel
theorem dX11_clauseIs_179 : decode cX11_clauseIs 179 = .ok (.iload_n 2, 1) := by decide +kernel
theorem dX11_clauseIs_180 : decode cX11_clauseIs 180 = .ok (.iconst 0, 1) := by decide +kernel
theorem dX11_clauseIs_181 : decode cX11_clauseIs 181 = .ok (.invokevirtual 257, 3) := by decide +kernel
theorem dX11_clauseIs_184 : decode cX11_clauseIs 184 = .ok (.goto (-15), 3) := by decide +kernel
theorem dX11_clauseIs_187 : decode cX11_clauseIs 187 = .ok (.aload_n 0, 1) := by decide +kernel
theorem dX11_clauseIs_188 : decode cX11_clauseIs 188 = .ok (.bipush 7, 2) := by decide +kernel
theorem dX11_clauseIs_190 : decode cX11_clauseIs 190 = .ok (.invokevirtual 198, 3) := by decide +kernel
theorem dX11_clauseIs_193 : decode cX11_clauseIs 193 = .ok (.ifCond .eq 12, 3) := by decide +kernel
theorem dX11_clauseIs_196 : decode cX11_clauseIs 196 = .ok (.aload_n 0, 1) := by decide +kernel
theorem dX11_clauseIs_197 : decode cX11_clauseIs 197 = .ok (.iload_n 2, 1) := by decide +kernel
theorem dX11_clauseIs_198 : decode cX11_clauseIs 198 = .ok (.iconst 1, 1) := by decide +kernel
theorem dX11_clauseIs_199 : decode cX11_clauseIs 199 = .ok (.invokevirtual 257, 3) := by decide +kernel
theorem dX11_clauseIs_202 : decode cX11_clauseIs 202 = .ok (.goto (-15), 3) := by decide +kernel
theorem dX11_clauseIs_205 : decode cX11_clauseIs 205 = .ok (.aload_n 0, 1) := by decide +kernel
theorem dX11_clauseIs_206 : decode cX11_clauseIs 206 = .ok (.bipush 8, 2) := by decide +kernel
theorem dX11_clauseIs_208 : decode cX11_clauseIs 208 = .ok (.invokevirtual 237, 3) := by decide +kernel
theorem dX11_clauseIs_211 : decode cX11_clauseIs 211 = .ok (.aload_n 0, 1) := by decide +kernel
theorem dX11_clauseIs_212 : decode cX11_clauseIs 212 = .ok (.getfield 99, 3) := by decide +kernel
theorem dX11_clauseIs_215 : decode cX11_clauseIs 215 = .ok (.iload_n 2, 1) := by decide +kernel
theorem dX11_clauseIs_216 : decode cX11_clauseIs 216 = .ok (.iconst 0, 1) := by decide +kernel
theorem dX11_clauseIs_217 : decode cX11_clauseIs 217 = .ok (.iastore, 1) := by decide +kernel
theorem dX11_clauseIs_218 : decode cX11_clauseIs 218 = .ok (.aload_n 0, 1) := by decide +kernel
theorem dX11_clauseIs_219 : decode cX11_clauseIs 219 = .ok (.invokevirtual 261, 3) := by decide +kernel
theorem dX11_clauseIs_222 : decode cX11_clauseIs 222 = .ok (.ifCond .eq 11, 3) := by decide +kernel
theorem dX11_clauseIs_225 : decode cX11_clauseIs 225 = .ok (.aload_n 0, 1) := by decide +kernel
theorem dX11_clauseIs_226 : decode cX11_clauseIs 226 = .ok (.iload_n 2, 1) := by decide +kernel
theorem dX11_clauseIs_227 : decode cX11_clauseIs 227 = .ok (.invokevirtual 264, 3) := by decide +kernel
theorem dX11_clauseIs_230 : decode cX11_clauseIs 230 = .ok (.goto (-12), 3) := by decide +kernel
theorem dX11_clauseIs_233 : decode cX11_clauseIs 233 = .ok (.aload_n 0, 1) := by decide +kernel
theorem dX11_clauseIs_234 : decode cX11_clauseIs 234 = .ok (.bipush 59, 2) := by decide +kernel
theorem dX11_clauseIs_236 : decode cX11_clauseIs 236 = .ok (.invokevirtual 248, 3) := by decide +kernel
theorem dX11_clauseIs_239 : decode cX11_clauseIs 239 = .ok (.aload_n 0, 1) := by decide +kernel
theorem dX11_clauseIs_240 : decode cX11_clauseIs 240 = .ok (.getfield 74, 3) := by decide +kernel
theorem dX11_clauseIs_243 : decode cX11_clauseIs 243 = .ok (.bipush 6, 2) := by decide +kernel
theorem dX11_clauseIs_245 : decode cX11_clauseIs 245 = .ok (.dup2, 1) := by decide +kernel
theorem dX11_clauseIs_246 : decode cX11_clauseIs 246 = .ok (.iaload, 1) := by decide +kernel
theorem dX11_clauseIs_247 : decode cX11_clauseIs 247 = .ok (.iconst 1, 1) := by decide +kernel
theorem dX11_clauseIs_248 : decode cX11_clauseIs 248 = .ok (.iadd, 1) := by decide +kernel
theorem dX11_clauseIs_249 : decode cX11_clauseIs 249 = .ok (.iastore, 1) := by decide +kernel
theorem dX11_clauseIs_250 : decode cX11_clauseIs 250 = .ok (.return_, 1) := by decide +kernel
theorem dX11_link_0 : decode cX11_link 0 = .ok (.aload_n 0, 1) := by decide +kernel
theorem dX11_link_1 : decode cX11_link 1 = .ok (.getfield 90, 3) := by decide +kernel
theorem dX11_link_4 : decode cX11_link 4 = .ok (.iload_n 1, 1) := by decide +kernel
theorem dX11_link_5 : decode cX11_link 5 = .ok (.iaload, 1) := by decide +kernel
theorem dX11_link_6 : decode cX11_link 6 = .ok (.bipush 8, 2) := by decide +kernel
theorem dX11_link_8 : decode cX11_link 8 = .ok (.if_icmp .ne 9, 3) := by decide +kernel
theorem dX11_link_11 : decode cX11_link 11 = .ok (.aload_n 0, 1) := by decide +kernel
theorem dX11_link_12 : decode cX11_link 12 = .ok (.iconst 5, 1) := by decide +kernel
theorem dX11_link_13 : decode cX11_link 13 = .ok (.invokevirtual 194, 3) := by decide +kernel
theorem dX11_link_16 : decode cX11_link 16 = .ok (.return_, 1) := by decide +kernel
theorem dX11_link_17 : decode cX11_link 17 = .ok (.aload_n 0, 1) := by decide +kernel
theorem dX11_link_18 : decode cX11_link 18 = .ok (.dup, 1) := by decide +kernel
theorem dX11_link_19 : decode cX11_link 19 = .ok (.getfield 185, 3) := by decide +kernel
theorem dX11_link_22 : decode cX11_link 22 = .ok (.iconst 1, 1) := by decide +kernel
theorem dX11_link_23 : decode cX11_link 23 = .ok (.iadd, 1) := by decide +kernel
theorem dX11_link_24 : decode cX11_link 24 = .ok (.putfield 185, 3) := by decide +kernel
theorem dX11_link_27 : decode cX11_link 27 = .ok (.aload_n 0, 1) := by decide +kernel
theorem dX11_link_28 : decode cX11_link 28 = .ok (.getfield 96, 3) := by decide +kernel
theorem dX11_link_31 : decode cX11_link 31 = .ok (.bipush 8, 2) := by decide +kernel
theorem dX11_link_33 : decode cX11_link 33 = .ok (.iload_n 1, 1) := by decide +kernel
theorem dX11_link_34 : decode cX11_link 34 = .ok (.imul, 1) := by decide +kernel
theorem dX11_link_35 : decode cX11_link 35 = .ok (.aload_n 0, 1) := by decide +kernel
theorem dX11_link_36 : decode cX11_link 36 = .ok (.getfield 90, 3) := by decide +kernel
theorem dX11_link_39 : decode cX11_link 39 = .ok (.iload_n 1, 1) := by decide +kernel
end
section
theorem dX11_link_40 : decode cX11_link 40 = .ok (.iaload, 1) := by decide +kernel
theorem dX11_link_41 : decode cX11_link 41 = .ok (.iadd, 1) := by decide +kernel
theorem dX11_link_42 : decode cX11_link 42 = .ok (.iload_n 2, 1) := by decide +kernel
theorem dX11_link_43 : decode cX11_link 43 = .ok (.bastore, 1) := by decide +kernel
theorem dX11_link_44 : decode cX11_link 44 = .ok (.aload_n 0, 1) := by decide +kernel
theorem dX11_link_45 : decode cX11_link 45 = .ok (.getfield 93, 3) := by decide +kernel
theorem dX11_link_48 : decode cX11_link 48 = .ok (.bipush 8, 2) := by decide +kernel
theorem dX11_link_50 : decode cX11_link 50 = .ok (.iload_n 1, 1) := by decide +kernel
theorem dX11_link_51 : decode cX11_link 51 = .ok (.imul, 1) := by decide +kernel
theorem dX11_link_52 : decode cX11_link 52 = .ok (.aload_n 0, 1) := by decide +kernel
theorem dX11_link_53 : decode cX11_link 53 = .ok (.getfield 90, 3) := by decide +kernel
theorem dX11_link_56 : decode cX11_link 56 = .ok (.iload_n 1, 1) := by decide +kernel
theorem dX11_link_57 : decode cX11_link 57 = .ok (.iaload, 1) := by decide +kernel
theorem dX11_link_58 : decode cX11_link 58 = .ok (.iadd, 1) := by decide +kernel
theorem dX11_link_59 : decode cX11_link 59 = .ok (.aload_n 0, 1) := by decide +kernel
theorem dX11_link_60 : decode cX11_link 60 = .ok (.invokevirtual 267, 3) := by decide +kernel
theorem dX11_link_63 : decode cX11_link 63 = .ok (.iastore, 1) := by decide +kernel
theorem dX11_link_64 : decode cX11_link 64 = .ok (.aload_n 0, 1) := by decide +kernel
theorem dX11_link_65 : decode cX11_link 65 = .ok (.bipush 59, 2) := by decide +kernel
theorem dX11_link_67 : decode cX11_link 67 = .ok (.invokevirtual 248, 3) := by decide +kernel
theorem dX11_link_70 : decode cX11_link 70 = .ok (.aload_n 0, 1) := by decide +kernel
theorem dX11_link_71 : decode cX11_link 71 = .ok (.getfield 90, 3) := by decide +kernel
theorem dX11_link_74 : decode cX11_link 74 = .ok (.iload_n 1, 1) := by decide +kernel
theorem dX11_link_75 : decode cX11_link 75 = .ok (.dup2, 1) := by decide +kernel
theorem dX11_link_76 : decode cX11_link 76 = .ok (.iaload, 1) := by decide +kernel
theorem dX11_link_77 : decode cX11_link 77 = .ok (.iconst 1, 1) := by decide +kernel
theorem dX11_link_78 : decode cX11_link 78 = .ok (.iadd, 1) := by decide +kernel
theorem dX11_link_79 : decode cX11_link 79 = .ok (.iastore, 1) := by decide +kernel
theorem dX11_link_80 : decode cX11_link 80 = .ok (.return_, 1) := by decide +kernel
theorem dX11_isItem_0 : decode cX11_isItem 0 = .ok (.aload_n 0, 1) := by decide +kernel
theorem dX11_isItem_1 : decode cX11_isItem 1 = .ok (.invokevirtual 225, 3) := by decide +kernel
theorem dX11_isItem_4 : decode cX11_isItem 4 = .ok (.ifCond .ne 30, 3) := by decide +kernel
theorem dX11_isItem_7 : decode cX11_isItem 7 = .ok (.aload_n 0, 1) := by decide +kernel
theorem dX11_isItem_8 : decode cX11_isItem 8 = .ok (.bipush 61, 2) := by decide +kernel
theorem dX11_isItem_10 : decode cX11_isItem 10 = .ok (.invokevirtual 191, 3) := by decide +kernel
theorem dX11_isItem_13 : decode cX11_isItem 13 = .ok (.ifCond .ne 21, 3) := by decide +kernel
theorem dX11_isItem_16 : decode cX11_isItem 16 = .ok (.aload_n 0, 1) := by decide +kernel
theorem dX11_isItem_17 : decode cX11_isItem 17 = .ok (.bipush 9, 2) := by decide +kernel
theorem dX11_isItem_19 : decode cX11_isItem 19 = .ok (.invokevirtual 198, 3) := by decide +kernel
theorem dX11_isItem_22 : decode cX11_isItem 22 = .ok (.ifCond .ne 12, 3) := by decide +kernel
theorem dX11_isItem_25 : decode cX11_isItem 25 = .ok (.aload_n 0, 1) := by decide +kernel
theorem dX11_isItem_26 : decode cX11_isItem 26 = .ok (.bipush 10, 2) := by decide +kernel
theorem dX11_isItem_28 : decode cX11_isItem 28 = .ok (.invokevirtual 198, 3) := by decide +kernel
theorem dX11_isItem_31 : decode cX11_isItem 31 = .ok (.ifCond .eq 7, 3) := by decide +kernel
theorem dX11_isItem_34 : decode cX11_isItem 34 = .ok (.iconst 1, 1) := by decide +kernel
theorem dX11_isItem_35 : decode cX11_isItem 35 = .ok (.goto 4, 3) := by decide +kernel
theorem dX11_isItem_38 : decode cX11_isItem 38 = .ok (.iconst 0, 1) := by decide +kernel
theorem dX11_isItem_39 : decode cX11_isItem 39 = .ok (.ireturn, 1) := by decide +kernel
theorem dX11_item_0 : decode cX11_item 0 = .ok (.aload_n 0, 1) := by decide +kernel
theorem dX11_item_1 : decode cX11_item 1 = .ok (.getfield 99, 3) := by decide +kernel
theorem dX11_item_4 : decode cX11_item 4 = .ok (.iload_n 1, 1) := by decide +kernel
theorem dX11_item_5 : decode cX11_item 5 = .ok (.iaload, 1) := by decide +kernel
theorem dX11_item_6 : decode cX11_item 6 = .ok (.bipush 20, 2) := by decide +kernel
theorem dX11_item_8 : decode cX11_item 8 = .ok (.if_icmp .ne 9, 3) := by decide +kernel
theorem dX11_item_11 : decode cX11_item 11 = .ok (.aload_n 0, 1) := by decide +kernel
theorem dX11_item_12 : decode cX11_item 12 = .ok (.iconst 5, 1) := by decide +kernel
theorem dX11_item_13 : decode cX11_item 13 = .ok (.invokevirtual 194, 3) := by decide +kernel
theorem dX11_item_16 : decode cX11_item 16 = .ok (.return_, 1) := by decide +kernel
theorem dX11_item_17 : decode cX11_item 17 = .ok (.bipush 20, 2) := by decide +kernel
theorem dX11_item_19 : decode cX11_item 19 = .ok (.iload_n 1, 1) := by decide +kernel
theorem dX11_item_20 : decode cX11_item 20 = .ok (.imul, 1) := by decide +kernel
theorem dX11_item_21 : decode cX11_item 21 = .ok (.aload_n 0, 1) := by decide +kernel
theorem dX11_item_22 : decode cX11_item 22 = .ok (.getfield 99, 3) := by decide +kernel
theorem dX11_item_25 : decode cX11_item 25 = .ok (.iload_n 1, 1) := by decide +kernel
theorem dX11_item_26 : decode cX11_item 26 = .ok (.iaload, 1) := by decide +kernel
theorem dX11_item_27 : decode cX11_item 27 = .ok (.iadd, 1) := by decide +kernel
theorem dX11_item_28 : decode cX11_item 28 = .ok (.istore_n 2, 1) := by decide +kernel
theorem dX11_item_29 : decode cX11_item 29 = .ok (.aload_n 0, 1) := by decide +kernel
theorem dX11_item_30 : decode cX11_item 30 = .ok (.getfield 108, 3) := by decide +kernel
theorem dX11_item_33 : decode cX11_item 33 = .ok (.iload_n 2, 1) := by decide +kernel
theorem dX11_item_34 : decode cX11_item 34 = .ok (.aload_n 0, 1) := by decide +kernel
theorem dX11_item_35 : decode cX11_item 35 = .ok (.getfield 30, 3) := by decide +kernel
theorem dX11_item_38 : decode cX11_item 38 = .ok (.aload_n 0, 1) := by decide +kernel
theorem dX11_item_39 : decode cX11_item 39 = .ok (.getfield 185, 3) := by decide +kernel
theorem dX11_item_42 : decode cX11_item 42 = .ok (.laload, 1) := by decide +kernel
theorem dX11_item_43 : decode cX11_item 43 = .ok (.lastore, 1) := by decide +kernel
theorem dX11_item_44 : decode cX11_item 44 = .ok (.aload_n 0, 1) := by decide +kernel
theorem dX11_item_45 : decode cX11_item 45 = .ok (.getfield 102, 3) := by decide +kernel
theorem dX11_item_48 : decode cX11_item 48 = .ok (.iload_n 2, 1) := by decide +kernel
theorem dX11_item_49 : decode cX11_item 49 = .ok (.aload_n 0, 1) := by decide +kernel
theorem dX11_item_50 : decode cX11_item 50 = .ok (.invokevirtual 225, 3) := by decide +kernel
theorem dX11_item_53 : decode cX11_item 53 = .ok (.ifCond .eq 7, 3) := by decide +kernel
theorem dX11_item_56 : decode cX11_item 56 = .ok (.iconst 0, 1) := by decide +kernel
theorem dX11_item_57 : decode cX11_item 57 = .ok (.goto 30, 3) := by decide +kernel
theorem dX11_item_60 : decode cX11_item 60 = .ok (.aload_n 0, 1) := by decide +kernel
theorem dX11_item_61 : decode cX11_item 61 = .ok (.bipush 61, 2) := by decide +kernel
theorem dX11_item_63 : decode cX11_item 63 = .ok (.invokevirtual 191, 3) := by decide +kernel
theorem dX11_item_66 : decode cX11_item 66 = .ok (.ifCond .eq 7, 3) := by decide +kernel
theorem dX11_item_69 : decode cX11_item 69 = .ok (.iconst 1, 1) := by decide +kernel
theorem dX11_item_70 : decode cX11_item 70 = .ok (.goto 17, 3) := by decide +kernel
theorem dX11_item_73 : decode cX11_item 73 = .ok (.aload_n 0, 1) := by decide +kernel
theorem dX11_item_74 : decode cX11_item 74 = .ok (.bipush 9, 2) := by decide +kernel
theorem dX11_item_76 : decode cX11_item 76 = .ok (.invokevirtual 198, 3) := by decide +kernel
theorem dX11_item_79 : decode cX11_item 79 = .ok (.ifCond .eq 7, 3) := by decide +kernel
theorem dX11_item_82 : decode cX11_item 82 = .ok (.iconst 2, 1) := by decide +kernel
theorem dX11_item_83 : decode cX11_item 83 = .ok (.goto 4, 3) := by decide +kernel
theorem dX11_item_86 : decode cX11_item 86 = .ok (.iconst 3, 1) := by decide +kernel
theorem dX11_item_87 : decode cX11_item 87 = .ok (.iastore, 1) := by decide +kernel
theorem dX11_item_88 : decode cX11_item 88 = .ok (.aload_n 0, 1) := by decide +kernel
theorem dX11_item_89 : decode cX11_item 89 = .ok (.dup, 1) := by decide +kernel
theorem dX11_item_90 : decode cX11_item 90 = .ok (.getfield 185, 3) := by decide +kernel
theorem dX11_item_93 : decode cX11_item 93 = .ok (.iconst 1, 1) := by decide +kernel
theorem dX11_item_94 : decode cX11_item 94 = .ok (.iadd, 1) := by decide +kernel
theorem dX11_item_95 : decode cX11_item 95 = .ok (.putfield 185, 3) := by decide +kernel
theorem dX11_item_98 : decode cX11_item 98 = .ok (.aload_n 0, 1) := by decide +kernel
theorem dX11_item_99 : decode cX11_item 99 = .ok (.getfield 105, 3) := by decide +kernel
theorem dX11_item_102 : decode cX11_item 102 = .ok (.iload_n 2, 1) := by decide +kernel
theorem dX11_item_103 : decode cX11_item 103 = .ok (.aload_n 0, 1) := by decide +kernel
theorem dX11_item_104 : decode cX11_item 104 = .ok (.getfield 204, 3) := by decide +kernel
theorem dX11_item_107 : decode cX11_item 107 = .ok (.iastore, 1) := by decide +kernel
theorem dX11_item_108 : decode cX11_item 108 = .ok (.aload_n 0, 1) := by decide +kernel
theorem dX11_item_109 : decode cX11_item 109 = .ok (.getfield 102, 3) := by decide +kernel
theorem dX11_item_112 : decode cX11_item 112 = .ok (.iload_n 2, 1) := by decide +kernel
theorem dX11_item_113 : decode cX11_item 113 = .ok (.iaload, 1) := by decide +kernel
theorem dX11_item_114 : decode cX11_item 114 = .ok (.iconst 2, 1) := by decide +kernel
theorem dX11_item_115 : decode cX11_item 115 = .ok (.if_icmp .ne 16, 3) := by decide +kernel
theorem dX11_item_118 : decode cX11_item 118 = .ok (.aload_n 0, 1) := by decide +kernel
theorem dX11_item_119 : decode cX11_item 119 = .ok (.getfield 105, 3) := by decide +kernel
theorem dX11_item_122 : decode cX11_item 122 = .ok (.iload_n 2, 1) := by decide +kernel
theorem dX11_item_123 : decode cX11_item 123 = .ok (.aload_n 0, 1) := by decide +kernel
theorem dX11_item_124 : decode cX11_item 124 = .ok (.invokevirtual 267, 3) := by decide +kernel
theorem dX11_item_127 : decode cX11_item 127 = .ok (.iastore, 1) := by decide +kernel
theorem dX11_item_128 : decode cX11_item 128 = .ok (.goto 16, 3) := by decide +kernel
theorem dX11_item_131 : decode cX11_item 131 = .ok (.aload_n 0, 1) := by decide +kernel
theorem dX11_item_132 : decode cX11_item 132 = .ok (.getfield 102, 3) := by decide +kernel
theorem dX11_item_135 : decode cX11_item 135 = .ok (.iload_n 2, 1) := by decide +kernel
theorem dX11_item_136 : decode cX11_item 136 = .ok (.iaload, 1) := by decide +kernel
theorem dX11_item_137 : decode cX11_item 137 = .ok (.ifCond .le 7, 3) := by decide +kernel
theorem dX11_item_140 : decode cX11_item 140 = .ok (.aload_n 0, 1) := by decide +kernel
theorem dX11_item_141 : decode cX11_item 141 = .ok (.invokevirtual 254, 3) := by decide +kernel
theorem dX11_item_144 : decode cX11_item 144 = .ok (.aload_n 0, 1) := by decide +kernel
theorem dX11_item_145 : decode cX11_item 145 = .ok (.getfield 99, 3) := by decide +kernel
theorem dX11_item_148 : decode cX11_item 148 = .ok (.iload_n 1, 1) := by decide +kernel
theorem dX11_item_149 : decode cX11_item 149 = .ok (.dup2, 1) := by decide +kernel
theorem dX11_item_150 : decode cX11_item 150 = .ok (.iaload, 1) := by decide +kernel
theorem dX11_item_151 : decode cX11_item 151 = .ok (.iconst 1, 1) := by decide +kernel
theorem dX11_item_152 : decode cX11_item 152 = .ok (.iadd, 1) := by decide +kernel
theorem dX11_item_153 : decode cX11_item 153 = .ok (.iastore, 1) := by decide +kernel
theorem dX11_item_154 : decode cX11_item 154 = .ok (.return_, 1) := by decide +kernel
theorem dX11_expression_0 : decode cX11_expression 0 = .ok (.aload_n 0, 1) := by decide +kernel
theorem dX11_expression_1 : decode cX11_expression 1 = .ok (.iconst 0, 1) := by decide +kernel
theorem dX11_expression_2 : decode cX11_expression 2 = .ok (.putfield 271, 3) := by decide +kernel
theorem dX11_expression_5 : decode cX11_expression 5 = .ok (.aload_n 0, 1) := by decide +kernel
theorem dX11_expression_6 : decode cX11_expression 6 = .ok (.invokevirtual 274, 3) := by decide +kernel
theorem dX11_expression_9 : decode cX11_expression 9 = .ok (.iconst 1, 1) := by decide +kernel
theorem dX11_expression_10 : decode cX11_expression 10 = .ok (.istore_n 1, 1) := by decide +kernel
theorem dX11_expression_11 : decode cX11_expression 11 = .ok (.iload_n 1, 1) := by decide +kernel
theorem dX11_expression_12 : decode cX11_expression 12 = .ok (.ifCond .eq 33, 3) := by decide +kernel
theorem dX11_expression_15 : decode cX11_expression 15 = .ok (.aload_n 0, 1) := by decide +kernel
theorem dX11_expression_16 : decode cX11_expression 16 = .ok (.getfield 188, 3) := by decide +kernel
theorem dX11_expression_19 : decode cX11_expression 19 = .ok (.ifCond .ne 26, 3) := by decide +kernel
theorem dX11_expression_22 : decode cX11_expression 22 = .ok (.aload_n 0, 1) := by decide +kernel
theorem dX11_expression_23 : decode cX11_expression 23 = .ok (.invokevirtual 277, 3) := by decide +kernel
theorem dX11_expression_26 : decode cX11_expression 26 = .ok (.ifCond .ne 10, 3) := by decide +kernel
theorem dX11_expression_29 : decode cX11_expression 29 = .ok (.aload_n 0, 1) := by decide +kernel
theorem dX11_expression_30 : decode cX11_expression 30 = .ok (.invokevirtual 279, 3) := by decide +kernel
theorem dX11_expression_33 : decode cX11_expression 33 = .ok (.ifCond .eq 7, 3) := by decide +kernel
theorem dX11_expression_36 : decode cX11_expression 36 = .ok (.iconst 1, 1) := by decide +kernel
theorem dX11_expression_37 : decode cX11_expression 37 = .ok (.goto 4, 3) := by decide +kernel
theorem dX11_expression_40 : decode cX11_expression 40 = .ok (.iconst 0, 1) := by decide +kernel
theorem dX11_expression_41 : decode cX11_expression 41 = .ok (.istore_n 1, 1) := by decide +kernel
theorem dX11_expression_42 : decode cX11_expression 42 = .ok (.goto (-31), 3) := by decide +kernel
theorem dX11_expression_45 : decode cX11_expression 45 = .ok (.aload_n 0, 1) := by decide +kernel
theorem dX11_expression_46 : decode cX11_expression 46 = .ok (.iconst 0, 1) := by decide +kernel
theorem dX11_expression_47 : decode cX11_expression 47 = .ok (.iconst 0, 1) := by decide +kernel
theorem dX11_expression_48 : decode cX11_expression 48 = .ok (.invokevirtual 282, 3) := by decide +kernel
theorem dX11_expression_51 : decode cX11_expression 51 = .ok (.return_, 1) := by decide +kernel
theorem dX11_opens_0 : decode cX11_opens 0 = .ok (.aload_n 0, 1) := by decide +kernel
theorem dX11_opens_1 : decode cX11_opens 1 = .ok (.getfield 117, 3) := by decide +kernel
theorem dX11_opens_4 : decode cX11_opens 4 = .ok (.aload_n 0, 1) := by decide +kernel
theorem dX11_opens_5 : decode cX11_opens 5 = .ok (.getfield 271, 3) := by decide +kernel
theorem dX11_opens_8 : decode cX11_opens 8 = .ok (.iconst 0, 1) := by decide +kernel
theorem dX11_opens_9 : decode cX11_opens 9 = .ok (.iastore, 1) := by decide +kernel
theorem dX11_opens_10 : decode cX11_opens 10 = .ok (.aload_n 0, 1) := by decide +kernel
theorem dX11_opens_11 : decode cX11_opens 11 = .ok (.getfield 120, 3) := by decide +kernel
theorem dX11_opens_14 : decode cX11_opens 14 = .ok (.aload_n 0, 1) := by decide +kernel
theorem dX11_opens_15 : decode cX11_opens 15 = .ok (.getfield 271, 3) := by decide +kernel
theorem dX11_opens_18 : decode cX11_opens 18 = .ok (.iconst 0, 1) := by decide +kernel
theorem dX11_opens_19 : decode cX11_opens 19 = .ok (.iastore, 1) := by decide +kernel
theorem dX11_opens_20 : decode cX11_opens 20 = .ok (.return_, 1) := by decide +kernel
theorem dX11_part_0 : decode cX11_part 0 = .ok (.aload_n 0, 1) := by decide +kernel
theorem dX11_part_1 : decode cX11_part 1 = .ok (.getfield 188, 3) := by decide +kernel
theorem dX11_part_4 : decode cX11_part 4 = .ok (.ifCond .ne 40, 3) := by decide +kernel
theorem dX11_part_7 : decode cX11_part 7 = .ok (.aload_n 0, 1) := by decide +kernel
theorem dX11_part_8 : decode cX11_part 8 = .ok (.getfield 24, 3) := by decide +kernel
theorem dX11_part_11 : decode cX11_part 11 = .ok (.aload_n 0, 1) := by decide +kernel
theorem dX11_part_12 : decode cX11_part 12 = .ok (.getfield 185, 3) := by decide +kernel
theorem dX11_part_15 : decode cX11_part 15 = .ok (.iaload, 1) := by decide +kernel
theorem dX11_part_16 : decode cX11_part 16 = .ok (.iconst 2, 1) := by decide +kernel
theorem dX11_part_17 : decode cX11_part 17 = .ok (.if_icmp .eq 27, 3) := by decide +kernel
theorem dX11_part_20 : decode cX11_part 20 = .ok (.aload_n 0, 1) := by decide +kernel
theorem dX11_part_21 : decode cX11_part 21 = .ok (.bipush 40, 2) := by decide +kernel
theorem dX11_part_23 : decode cX11_part 23 = .ok (.invokevirtual 191, 3) := by decide +kernel
theorem dX11_part_26 : decode cX11_part 26 = .ok (.ifCond .ne 18, 3) := by decide +kernel
theorem dX11_part_29 : decode cX11_part 29 = .ok (.aload_n 0, 1) := by decide +kernel
theorem dX11_part_30 : decode cX11_part 30 = .ok (.invokevirtual 225, 3) := by decide +kernel
theorem dX11_part_33 : decode cX11_part 33 = .ok (.ifCond .ne 11, 3) := by decide +kernel
theorem dX11_part_36 : decode cX11_part 36 = .ok (.aload_n 0, 1) := by decide +kernel
theorem dX11_part_37 : decode cX11_part 37 = .ok (.iconst 1, 1) := by decide +kernel
theorem dX11_part_38 : decode cX11_part 38 = .ok (.invokevirtual 194, 3) := by decide +kernel
theorem dX11_part_41 : decode cX11_part 41 = .ok (.goto 47, 3) := by decide +kernel
theorem dX11_part_44 : decode cX11_part 44 = .ok (.aload_n 0, 1) := by decide +kernel
theorem dX11_part_45 : decode cX11_part 45 = .ok (.invokevirtual 225, 3) := by decide +kernel
theorem dX11_part_48 : decode cX11_part 48 = .ok (.ifCond .eq 27, 3) := by decide +kernel
theorem dX11_part_51 : decode cX11_part 51 = .ok (.aload_n 0, 1) := by decide +kernel
theorem dX11_part_52 : decode cX11_part 52 = .ok (.aload_n 0, 1) := by decide +kernel
theorem dX11_part_53 : decode cX11_part 53 = .ok (.getfield 30, 3) := by decide +kernel
theorem dX11_part_56 : decode cX11_part 56 = .ok (.aload_n 0, 1) := by decide +kernel
theorem dX11_part_57 : decode cX11_part 57 = .ok (.getfield 185, 3) := by decide +kernel
theorem dX11_part_60 : decode cX11_part 60 = .ok (.laload, 1) := by decide +kernel
theorem dX11_part_61 : decode cX11_part 61 = .ok (.invokevirtual 229, 3) := by decide +kernel
theorem dX11_part_64 : decode cX11_part 64 = .ok (.ifCond .ge 11, 3) := by decide +kernel
theorem dX11_part_67 : decode cX11_part 67 = .ok (.aload_n 0, 1) := by decide +kernel
theorem dX11_part_68 : decode cX11_part 68 = .ok (.iconst 2, 1) := by decide +kernel
theorem dX11_part_69 : decode cX11_part 69 = .ok (.invokevirtual 194, 3) := by decide +kernel
theorem dX11_part_72 : decode cX11_part 72 = .ok (.goto 16, 3) := by decide +kernel
theorem dX11_part_75 : decode cX11_part 75 = .ok (.aload_n 0, 1) := by decide +kernel
theorem dX11_part_76 : decode cX11_part 76 = .ok (.getfield 271, 3) := by decide +kernel
theorem dX11_part_79 : decode cX11_part 79 = .ok (.iconst 5, 1) := by decide +kernel
theorem dX11_part_80 : decode cX11_part 80 = .ok (.if_icmp .ne 8, 3) := by decide +kernel
theorem dX11_part_83 : decode cX11_part 83 = .ok (.aload_n 0, 1) := by decide +kernel
theorem dX11_part_84 : decode cX11_part 84 = .ok (.iconst 5, 1) := by decide +kernel
theorem dX11_part_85 : decode cX11_part 85 = .ok (.invokevirtual 194, 3) := by decide +kernel
theorem dX11_part_88 : decode cX11_part 88 = .ok (.aload_n 0, 1) := by decide +kernel
theorem dX11_part_89 : decode cX11_part 89 = .ok (.getfield 188, 3) := by decide +kernel
theorem dX11_part_92 : decode cX11_part 92 = .ok (.ifCond .le 5, 3) := by decide +kernel
theorem dX11_part_95 : decode cX11_part 95 = .ok (.iconst 0, 1) := by decide +kernel
theorem dX11_part_96 : decode cX11_part 96 = .ok (.ireturn, 1) := by decide +kernel
theorem dX11_part_97 : decode cX11_part 97 = .ok (.aload_n 0, 1) := by decide +kernel
theorem dX11_part_98 : decode cX11_part 98 = .ok (.bipush 40, 2) := by decide +kernel
theorem dX11_part_100 : decode cX11_part 100 = .ok (.invokevirtual 286, 3) := by decide +kernel
theorem dX11_part_103 : decode cX11_part 103 = .ok (.ifCond .eq 19, 3) := by decide +kernel
theorem dX11_part_106 : decode cX11_part 106 = .ok (.aload_n 0, 1) := by decide +kernel
theorem dX11_part_107 : decode cX11_part 107 = .ok (.dup, 1) := by decide +kernel
theorem dX11_part_108 : decode cX11_part 108 = .ok (.getfield 271, 3) := by decide +kernel
theorem dX11_part_111 : decode cX11_part 111 = .ok (.iconst 1, 1) := by decide +kernel
theorem dX11_part_112 : decode cX11_part 112 = .ok (.iadd, 1) := by decide +kernel
theorem dX11_part_113 : decode cX11_part 113 = .ok (.putfield 271, 3) := by decide +kernel
theorem dX11_part_116 : decode cX11_part 116 = .ok (.aload_n 0, 1) := by decide +kernel
theorem dX11_part_117 : decode cX11_part 117 = .ok (.invokevirtual 274, 3) := by decide +kernel
theorem dX11_part_120 : decode cX11_part 120 = .ok (.iconst 1, 1) := by decide +kernel
theorem dX11_part_121 : decode cX11_part 121 = .ok (.ireturn, 1) := by decide +kernel
theorem dX11_part_122 : decode cX11_part 122 = .ok (.aload_n 0, 1) := by decide +kernel
theorem dX11_part_123 : decode cX11_part 123 = .ok (.aload_n 0, 1) := by decide +kernel
theorem dX11_part_124 : decode cX11_part 124 = .ok (.getfield 24, 3) := by decide +kernel
theorem dX11_part_127 : decode cX11_part 127 = .ok (.aload_n 0, 1) := by decide +kernel
theorem dX11_part_128 : decode cX11_part 128 = .ok (.getfield 185, 3) := by decide +kernel
theorem dX11_part_131 : decode cX11_part 131 = .ok (.iaload, 1) := by decide +kernel
theorem dX11_part_132 : decode cX11_part 132 = .ok (.iconst 2, 1) := by decide +kernel
theorem dX11_part_133 : decode cX11_part 133 = .ok (.if_icmp .ne 7, 3) := by decide +kernel
theorem dX11_part_136 : decode cX11_part 136 = .ok (.iconst 1, 1) := by decide +kernel
theorem dX11_part_137 : decode cX11_part 137 = .ok (.goto 4, 3) := by decide +kernel
theorem dX11_part_140 : decode cX11_part 140 = .ok (.iconst 2, 1) := by decide +kernel
theorem dX11_part_141 : decode cX11_part 141 = .ok (.aload_n 0, 1) := by decide +kernel
theorem dX11_part_142 : decode cX11_part 142 = .ok (.getfield 24, 3) := by decide +kernel
theorem dX11_part_145 : decode cX11_part 145 = .ok (.aload_n 0, 1) := by decide +kernel
theorem dX11_part_146 : decode cX11_part 146 = .ok (.getfield 185, 3) := by decide +kernel
theorem dX11_part_149 : decode cX11_part 149 = .ok (.iaload, 1) := by decide +kernel
theorem dX11_part_150 : decode cX11_part 150 = .ok (.iconst 2, 1) := by decide +kernel
theorem dX11_part_151 : decode cX11_part 151 = .ok (.if_icmp .ne 16, 3) := by decide +kernel
theorem dX11_part_154 : decode cX11_part 154 = .ok (.aload_n 0, 1) := by decide +kernel
theorem dX11_part_155 : decode cX11_part 155 = .ok (.getfield 30, 3) := by decide +kernel
theorem dX11_part_158 : decode cX11_part 158 = .ok (.aload_n 0, 1) := by decide +kernel
theorem dX11_part_159 : decode cX11_part 159 = .ok (.getfield 185, 3) := by decide +kernel
theorem dX11_part_162 : decode cX11_part 162 = .ok (.laload, 1) := by decide +kernel
theorem dX11_part_163 : decode cX11_part 163 = .ok (.l2i, 1) := by decide +kernel
theorem dX11_part_164 : decode cX11_part 164 = .ok (.goto 16, 3) := by decide +kernel
theorem dX11_part_167 : decode cX11_part 167 = .ok (.aload_n 0, 1) := by decide +kernel
theorem dX11_part_168 : decode cX11_part 168 = .ok (.aload_n 0, 1) := by decide +kernel
theorem dX11_part_169 : decode cX11_part 169 = .ok (.getfield 30, 3) := by decide +kernel
theorem dX11_part_172 : decode cX11_part 172 = .ok (.aload_n 0, 1) := by decide +kernel
theorem dX11_part_173 : decode cX11_part 173 = .ok (.getfield 185, 3) := by decide +kernel
theorem dX11_part_176 : decode cX11_part 176 = .ok (.laload, 1) := by decide +kernel
theorem dX11_part_177 : decode cX11_part 177 = .ok (.invokevirtual 229, 3) := by decide +kernel
theorem dX11_part_180 : decode cX11_part 180 = .ok (.invokevirtual 282, 3) := by decide +kernel
theorem dX11_part_183 : decode cX11_part 183 = .ok (.aload_n 0, 1) := by decide +kernel
theorem dX11_part_184 : decode cX11_part 184 = .ok (.dup, 1) := by decide +kernel
theorem dX11_part_185 : decode cX11_part 185 = .ok (.getfield 185, 3) := by decide +kernel
theorem dX11_part_188 : decode cX11_part 188 = .ok (.iconst 1, 1) := by decide +kernel
theorem dX11_part_189 : decode cX11_part 189 = .ok (.iadd, 1) := by decide +kernel
theorem dX11_part_190 : decode cX11_part 190 = .ok (.putfield 185, 3) := by decide +kernel
theorem dX11_part_193 : decode cX11_part 193 = .ok (.iconst 0, 1) := by decide +kernel
theorem dX11_part_194 : decode cX11_part 194 = .ok (.ireturn, 1) := by decide +kernel
theorem dX11_goesOnBehind_0 : decode cX11_goesOnBehind 0 = .ok (.aload_n 0, 1) := by decide +kernel
theorem dX11_goesOnBehind_1 : decode cX11_goesOnBehind 1 = .ok (.getfield 188, 3) := by decide +kernel
theorem dX11_goesOnBehind_4 : decode cX11_goesOnBehind 4 = .ok (.ifCond .ne 203, 3) := by decide +kernel
theorem dX11_goesOnBehind_7 : decode cX11_goesOnBehind 7 = .ok (.aload_n 0, 1) := by decide +kernel
theorem dX11_goesOnBehind_8 : decode cX11_goesOnBehind 8 = .ok (.getfield 117, 3) := by decide +kernel
theorem dX11_goesOnBehind_11 : decode cX11_goesOnBehind 11 = .ok (.aload_n 0, 1) := by decide +kernel
theorem dX11_goesOnBehind_12 : decode cX11_goesOnBehind 12 = .ok (.getfield 271, 3) := by decide +kernel
theorem dX11_goesOnBehind_15 : decode cX11_goesOnBehind 15 = .ok (.iaload, 1) := by decide +kernel
theorem dX11_goesOnBehind_16 : decode cX11_goesOnBehind 16 = .ok (.ifCond .eq 27, 3) := by decide +kernel
theorem dX11_goesOnBehind_19 : decode cX11_goesOnBehind 19 = .ok (.aload_n 0, 1) := by decide +kernel
theorem dX11_goesOnBehind_20 : decode cX11_goesOnBehind 20 = .ok (.aload_n 0, 1) := by decide +kernel
theorem dX11_goesOnBehind_21 : decode cX11_goesOnBehind 21 = .ok (.getfield 117, 3) := by decide +kernel
theorem dX11_goesOnBehind_24 : decode cX11_goesOnBehind 24 = .ok (.aload_n 0, 1) := by decide +kernel
theorem dX11_goesOnBehind_25 : decode cX11_goesOnBehind 25 = .ok (.getfield 271, 3) := by decide +kernel
theorem dX11_goesOnBehind_28 : decode cX11_goesOnBehind 28 = .ok (.iaload, 1) := by decide +kernel
theorem dX11_goesOnBehind_29 : decode cX11_goesOnBehind 29 = .ok (.iconst 0, 1) := by decide +kernel
theorem dX11_goesOnBehind_30 : decode cX11_goesOnBehind 30 = .ok (.invokevirtual 282, 3) := by decide +kernel
theorem dX11_goesOnBehind_33 : decode cX11_goesOnBehind 33 = .ok (.aload_n 0, 1) := by decide +kernel
theorem dX11_goesOnBehind_34 : decode cX11_goesOnBehind 34 = .ok (.getfield 117, 3) := by decide +kernel
theorem dX11_goesOnBehind_37 : decode cX11_goesOnBehind 37 = .ok (.aload_n 0, 1) := by decide +kernel
theorem dX11_goesOnBehind_38 : decode cX11_goesOnBehind 38 = .ok (.getfield 271, 3) := by decide +kernel
theorem dX11_goesOnBehind_41 : decode cX11_goesOnBehind 41 = .ok (.iconst 0, 1) := by decide +kernel
theorem dX11_goesOnBehind_42 : decode cX11_goesOnBehind 42 = .ok (.iastore, 1) := by decide +kernel
theorem dX11_goesOnBehind_43 : decode cX11_goesOnBehind 43 = .ok (.aload_n 0, 1) := by decide +kernel
theorem dX11_goesOnBehind_44 : decode cX11_goesOnBehind 44 = .ok (.bipush 43, 2) := by decide +kernel
theorem dX11_goesOnBehind_46 : decode cX11_goesOnBehind 46 = .ok (.invokevirtual 191, 3) := by decide +kernel
theorem dX11_goesOnBehind_49 : decode cX11_goesOnBehind 49 = .ok (.ifCond .ne 12, 3) := by decide +kernel
theorem dX11_goesOnBehind_52 : decode cX11_goesOnBehind 52 = .ok (.aload_n 0, 1) := by decide +kernel
theorem dX11_goesOnBehind_53 : decode cX11_goesOnBehind 53 = .ok (.bipush 45, 2) := by decide +kernel
theorem dX11_goesOnBehind_55 : decode cX11_goesOnBehind 55 = .ok (.invokevirtual 191, 3) := by decide +kernel
theorem dX11_goesOnBehind_58 : decode cX11_goesOnBehind 58 = .ok (.ifCond .eq 38, 3) := by decide +kernel
theorem dX11_goesOnBehind_61 : decode cX11_goesOnBehind 61 = .ok (.aload_n 0, 1) := by decide +kernel
theorem dX11_goesOnBehind_62 : decode cX11_goesOnBehind 62 = .ok (.getfield 117, 3) := by decide +kernel
theorem dX11_goesOnBehind_65 : decode cX11_goesOnBehind 65 = .ok (.aload_n 0, 1) := by decide +kernel
theorem dX11_goesOnBehind_66 : decode cX11_goesOnBehind 66 = .ok (.getfield 271, 3) := by decide +kernel
theorem dX11_goesOnBehind_69 : decode cX11_goesOnBehind 69 = .ok (.aload_n 0, 1) := by decide +kernel
theorem dX11_goesOnBehind_70 : decode cX11_goesOnBehind 70 = .ok (.bipush 43, 2) := by decide +kernel
theorem dX11_goesOnBehind_72 : decode cX11_goesOnBehind 72 = .ok (.invokevirtual 191, 3) := by decide +kernel
theorem dX11_goesOnBehind_75 : decode cX11_goesOnBehind 75 = .ok (.ifCond .eq 7, 3) := by decide +kernel
theorem dX11_goesOnBehind_78 : decode cX11_goesOnBehind 78 = .ok (.iconst 3, 1) := by decide +kernel
theorem dX11_goesOnBehind_79 : decode cX11_goesOnBehind 79 = .ok (.goto 4, 3) := by decide +kernel
theorem dX11_goesOnBehind_82 : decode cX11_goesOnBehind 82 = .ok (.iconst 4, 1) := by decide +kernel
theorem dX11_goesOnBehind_83 : decode cX11_goesOnBehind 83 = .ok (.iastore, 1) := by decide +kernel
theorem dX11_goesOnBehind_84 : decode cX11_goesOnBehind 84 = .ok (.aload_n 0, 1) := by decide +kernel
theorem dX11_goesOnBehind_85 : decode cX11_goesOnBehind 85 = .ok (.dup, 1) := by decide +kernel
theorem dX11_goesOnBehind_86 : decode cX11_goesOnBehind 86 = .ok (.getfield 185, 3) := by decide +kernel
theorem dX11_goesOnBehind_89 : decode cX11_goesOnBehind 89 = .ok (.iconst 1, 1) := by decide +kernel
theorem dX11_goesOnBehind_90 : decode cX11_goesOnBehind 90 = .ok (.iadd, 1) := by decide +kernel
theorem dX11_goesOnBehind_91 : decode cX11_goesOnBehind 91 = .ok (.putfield 185, 3) := by decide +kernel
theorem dX11_goesOnBehind_94 : decode cX11_goesOnBehind 94 = .ok (.iconst 1, 1) := by decide +kernel
theorem dX11_goesOnBehind_95 : decode cX11_goesOnBehind 95 = .ok (.ireturn, 1) := by decide +kernel
theorem dX11_goesOnBehind_96 : decode cX11_goesOnBehind 96 = .ok (.aload_n 0, 1) := by decide +kernel
theorem dX11_goesOnBehind_97 : decode cX11_goesOnBehind 97 = .ok (.getfield 120, 3) := by decide +kernel
theorem dX11_goesOnBehind_100 : decode cX11_goesOnBehind 100 = .ok (.aload_n 0, 1) := by decide +kernel
theorem dX11_goesOnBehind_101 : decode cX11_goesOnBehind 101 = .ok (.getfield 271, 3) := by decide +kernel
theorem dX11_goesOnBehind_104 : decode cX11_goesOnBehind 104 = .ok (.iaload, 1) := by decide +kernel
theorem dX11_goesOnBehind_105 : decode cX11_goesOnBehind 105 = .ok (.ifCond .eq 20, 3) := by decide +kernel
theorem dX11_goesOnBehind_108 : decode cX11_goesOnBehind 108 = .ok (.aload_n 0, 1) := by decide +kernel
theorem dX11_goesOnBehind_109 : decode cX11_goesOnBehind 109 = .ok (.aload_n 0, 1) := by decide +kernel
theorem dX11_goesOnBehind_110 : decode cX11_goesOnBehind 110 = .ok (.getfield 120, 3) := by decide +kernel
theorem dX11_goesOnBehind_113 : decode cX11_goesOnBehind 113 = .ok (.aload_n 0, 1) := by decide +kernel
theorem dX11_goesOnBehind_114 : decode cX11_goesOnBehind 114 = .ok (.getfield 271, 3) := by decide +kernel
theorem dX11_goesOnBehind_117 : decode cX11_goesOnBehind 117 = .ok (.iaload, 1) := by decide +kernel
theorem dX11_goesOnBehind_118 : decode cX11_goesOnBehind 118 = .ok (.iconst 0, 1) := by decide +kernel
theorem dX11_goesOnBehind_119 : decode cX11_goesOnBehind 119 = .ok (.invokevirtual 282, 3) := by decide +kernel
theorem dX11_goesOnBehind_122 : decode cX11_goesOnBehind 122 = .ok (.goto 57, 3) := by decide +kernel
theorem dX11_goesOnBehind_125 : decode cX11_goesOnBehind 125 = .ok (.aload_n 0, 1) := by decide +kernel
theorem dX11_goesOnBehind_126 : decode cX11_goesOnBehind 126 = .ok (.bipush 60, 2) := by decide +kernel
theorem dX11_goesOnBehind_128 : decode cX11_goesOnBehind 128 = .ok (.invokevirtual 191, 3) := by decide +kernel
theorem dX11_goesOnBehind_131 : decode cX11_goesOnBehind 131 = .ok (.ifCond .ne 12, 3) := by decide +kernel
theorem dX11_goesOnBehind_134 : decode cX11_goesOnBehind 134 = .ok (.aload_n 0, 1) := by decide +kernel
theorem dX11_goesOnBehind_135 : decode cX11_goesOnBehind 135 = .ok (.bipush 61, 2) := by decide +kernel
theorem dX11_goesOnBehind_137 : decode cX11_goesOnBehind 137 = .ok (.invokevirtual 191, 3) := by decide +kernel
theorem dX11_goesOnBehind_140 : decode cX11_goesOnBehind 140 = .ok (.ifCond .eq 39, 3) := by decide +kernel
theorem dX11_goesOnBehind_143 : decode cX11_goesOnBehind 143 = .ok (.aload_n 0, 1) := by decide +kernel
theorem dX11_goesOnBehind_144 : decode cX11_goesOnBehind 144 = .ok (.getfield 120, 3) := by decide +kernel
theorem dX11_goesOnBehind_147 : decode cX11_goesOnBehind 147 = .ok (.aload_n 0, 1) := by decide +kernel
theorem dX11_goesOnBehind_148 : decode cX11_goesOnBehind 148 = .ok (.getfield 271, 3) := by decide +kernel
theorem dX11_goesOnBehind_151 : decode cX11_goesOnBehind 151 = .ok (.aload_n 0, 1) := by decide +kernel
theorem dX11_goesOnBehind_152 : decode cX11_goesOnBehind 152 = .ok (.bipush 60, 2) := by decide +kernel
theorem dX11_goesOnBehind_154 : decode cX11_goesOnBehind 154 = .ok (.invokevirtual 191, 3) := by decide +kernel
theorem dX11_goesOnBehind_157 : decode cX11_goesOnBehind 157 = .ok (.ifCond .eq 7, 3) := by decide +kernel
theorem dX11_goesOnBehind_160 : decode cX11_goesOnBehind 160 = .ok (.iconst 5, 1) := by decide +kernel
theorem dX11_goesOnBehind_161 : decode cX11_goesOnBehind 161 = .ok (.goto 5, 3) := by decide +kernel
theorem dX11_goesOnBehind_164 : decode cX11_goesOnBehind 164 = .ok (.bipush 6, 2) := by decide +kernel
theorem dX11_goesOnBehind_166 : decode cX11_goesOnBehind 166 = .ok (.iastore, 1) := by decide +kernel
theorem dX11_goesOnBehind_167 : decode cX11_goesOnBehind 167 = .ok (.aload_n 0, 1) := by decide +kernel
theorem dX11_goesOnBehind_168 : decode cX11_goesOnBehind 168 = .ok (.dup, 1) := by decide +kernel
theorem dX11_goesOnBehind_169 : decode cX11_goesOnBehind 169 = .ok (.getfield 185, 3) := by decide +kernel
theorem dX11_goesOnBehind_172 : decode cX11_goesOnBehind 172 = .ok (.iconst 1, 1) := by decide +kernel
theorem dX11_goesOnBehind_173 : decode cX11_goesOnBehind 173 = .ok (.iadd, 1) := by decide +kernel
theorem dX11_goesOnBehind_174 : decode cX11_goesOnBehind 174 = .ok (.putfield 185, 3) := by decide +kernel
theorem dX11_goesOnBehind_177 : decode cX11_goesOnBehind 177 = .ok (.iconst 1, 1) := by decide +kernel
theorem dX11_goesOnBehind_178 : decode cX11_goesOnBehind 178 = .ok (.ireturn, 1) := by decide +kernel
theorem dX11_goesOnBehind_179 : decode cX11_goesOnBehind 179 = .ok (.aload_n 0, 1) := by decide +kernel
theorem dX11_goesOnBehind_180 : decode cX11_goesOnBehind 180 = .ok (.getfield 271, 3) := by decide +kernel
theorem dX11_goesOnBehind_183 : decode cX11_goesOnBehind 183 = .ok (.ifCond .ne 5, 3) := by decide +kernel
theorem dX11_goesOnBehind_186 : decode cX11_goesOnBehind 186 = .ok (.iconst 0, 1) := by decide +kernel
theorem dX11_goesOnBehind_187 : decode cX11_goesOnBehind 187 = .ok (.ireturn, 1) := by decide +kernel
theorem dX11_goesOnBehind_188 : decode cX11_goesOnBehind 188 = .ok (.aload_n 0, 1) := by decide +kernel
theorem dX11_goesOnBehind_189 : decode cX11_goesOnBehind 189 = .ok (.bipush 41, 2) := by decide +kernel
theorem dX11_goesOnBehind_191 : decode cX11_goesOnBehind 191 = .ok (.invokevirtual 248, 3) := by decide +kernel
theorem dX11_goesOnBehind_194 : decode cX11_goesOnBehind 194 = .ok (.aload_n 0, 1) := by decide +kernel
theorem dX11_goesOnBehind_195 : decode cX11_goesOnBehind 195 = .ok (.dup, 1) := by decide +kernel
theorem dX11_goesOnBehind_196 : decode cX11_goesOnBehind 196 = .ok (.getfield 271, 3) := by decide +kernel
theorem dX11_goesOnBehind_199 : decode cX11_goesOnBehind 199 = .ok (.iconst 1, 1) := by decide +kernel
theorem dX11_goesOnBehind_200 : decode cX11_goesOnBehind 200 = .ok (.isub, 1) := by decide +kernel
theorem dX11_goesOnBehind_201 : decode cX11_goesOnBehind 201 = .ok (.putfield 271, 3) := by decide +kernel
theorem dX11_goesOnBehind_204 : decode cX11_goesOnBehind 204 = .ok (.goto (-204), 3) := by decide +kernel
theorem dX11_goesOnBehind_207 : decode cX11_goesOnBehind 207 = .ok (.iconst 0, 1) := by decide +kernel
theorem dX11_goesOnBehind_208 : decode cX11_goesOnBehind 208 = .ok (.ireturn, 1) := by decide +kernel
theorem dX11_keeps_0 : decode cX11_keeps 0 = .ok (.aload_n 0, 1) := by decide +kernel
theorem dX11_keeps_1 : decode cX11_keeps 1 = .ok (.getfield 62, 3) := by decide +kernel
theorem dX11_keeps_4 : decode cX11_keeps 4 = .ok (.iload_n 1, 1) := by decide +kernel
theorem dX11_keeps_5 : decode cX11_keeps 5 = .ok (.aload_n 0, 1) := by decide +kernel
theorem dX11_keeps_6 : decode cX11_keeps 6 = .ok (.getfield 62, 3) := by decide +kernel
theorem dX11_keeps_9 : decode cX11_keeps 9 = .ok (.bipush 6, 2) := by decide +kernel
theorem dX11_keeps_11 : decode cX11_keeps 11 = .ok (.iaload, 1) := by decide +kernel
theorem dX11_keeps_12 : decode cX11_keeps 12 = .ok (.iastore, 1) := by decide +kernel
theorem dX11_keeps_13 : decode cX11_keeps 13 = .ok (.aload_n 0, 1) := by decide +kernel
theorem dX11_keeps_14 : decode cX11_keeps 14 = .ok (.getfield 74, 3) := by decide +kernel
theorem dX11_keeps_17 : decode cX11_keeps 17 = .ok (.iload_n 1, 1) := by decide +kernel
theorem dX11_keeps_18 : decode cX11_keeps 18 = .ok (.aload_n 0, 1) := by decide +kernel
theorem dX11_keeps_19 : decode cX11_keeps 19 = .ok (.getfield 74, 3) := by decide +kernel
theorem dX11_keeps_22 : decode cX11_keeps 22 = .ok (.bipush 6, 2) := by decide +kernel
theorem dX11_keeps_24 : decode cX11_keeps 24 = .ok (.iaload, 1) := by decide +kernel
theorem dX11_keeps_25 : decode cX11_keeps 25 = .ok (.iastore, 1) := by decide +kernel
theorem dX11_keeps_26 : decode cX11_keeps 26 = .ok (.iconst 0, 1) := by decide +kernel
theorem dX11_keeps_27 : decode cX11_keeps 27 = .ok (.istore_n 2, 1) := by decide +kernel
theorem dX11_keeps_28 : decode cX11_keeps 28 = .ok (.iload_n 2, 1) := by decide +kernel
theorem dX11_keeps_29 : decode cX11_keeps 29 = .ok (.bipush 8, 2) := by decide +kernel
theorem dX11_keeps_31 : decode cX11_keeps 31 = .ok (.if_icmp .ge 69, 3) := by decide +kernel
theorem dX11_keeps_34 : decode cX11_keeps 34 = .ok (.aload_n 0, 1) := by decide +kernel
theorem dX11_keeps_35 : decode cX11_keeps 35 = .ok (.getfield 65, 3) := by decide +kernel
theorem dX11_keeps_38 : decode cX11_keeps 38 = .ok (.bipush 8, 2) := by decide +kernel
theorem dX11_keeps_40 : decode cX11_keeps 40 = .ok (.iload_n 1, 1) := by decide +kernel
theorem dX11_keeps_41 : decode cX11_keeps 41 = .ok (.imul, 1) := by decide +kernel
theorem dX11_keeps_42 : decode cX11_keeps 42 = .ok (.iload_n 2, 1) := by decide +kernel
theorem dX11_keeps_43 : decode cX11_keeps 43 = .ok (.iadd, 1) := by decide +kernel
theorem dX11_keeps_44 : decode cX11_keeps 44 = .ok (.aload_n 0, 1) := by decide +kernel
theorem dX11_keeps_45 : decode cX11_keeps 45 = .ok (.getfield 65, 3) := by decide +kernel
theorem dX11_keeps_48 : decode cX11_keeps 48 = .ok (.bipush 48, 2) := by decide +kernel
theorem dX11_keeps_50 : decode cX11_keeps 50 = .ok (.iload_n 2, 1) := by decide +kernel
theorem dX11_keeps_51 : decode cX11_keeps 51 = .ok (.iadd, 1) := by decide +kernel
theorem dX11_keeps_52 : decode cX11_keeps 52 = .ok (.laload, 1) := by decide +kernel
theorem dX11_keeps_53 : decode cX11_keeps 53 = .ok (.lastore, 1) := by decide +kernel
theorem dX11_keeps_54 : decode cX11_keeps 54 = .ok (.aload_n 0, 1) := by decide +kernel
theorem dX11_keeps_55 : decode cX11_keeps 55 = .ok (.getfield 68, 3) := by decide +kernel
theorem dX11_keeps_58 : decode cX11_keeps 58 = .ok (.bipush 8, 2) := by decide +kernel
theorem dX11_keeps_60 : decode cX11_keeps 60 = .ok (.iload_n 1, 1) := by decide +kernel
theorem dX11_keeps_61 : decode cX11_keeps 61 = .ok (.imul, 1) := by decide +kernel
theorem dX11_keeps_62 : decode cX11_keeps 62 = .ok (.iload_n 2, 1) := by decide +kernel
theorem dX11_keeps_63 : decode cX11_keeps 63 = .ok (.iadd, 1) := by decide +kernel
theorem dX11_keeps_64 : decode cX11_keeps 64 = .ok (.aload_n 0, 1) := by decide +kernel
theorem dX11_keeps_65 : decode cX11_keeps 65 = .ok (.getfield 68, 3) := by decide +kernel
theorem dX11_keeps_68 : decode cX11_keeps 68 = .ok (.bipush 48, 2) := by decide +kernel
theorem dX11_keeps_70 : decode cX11_keeps 70 = .ok (.iload_n 2, 1) := by decide +kernel
theorem dX11_keeps_71 : decode cX11_keeps 71 = .ok (.iadd, 1) := by decide +kernel
theorem dX11_keeps_72 : decode cX11_keeps 72 = .ok (.iaload, 1) := by decide +kernel
theorem dX11_keeps_73 : decode cX11_keeps 73 = .ok (.iastore, 1) := by decide +kernel
theorem dX11_keeps_74 : decode cX11_keeps 74 = .ok (.aload_n 0, 1) := by decide +kernel
theorem dX11_keeps_75 : decode cX11_keeps 75 = .ok (.getfield 71, 3) := by decide +kernel
theorem dX11_keeps_78 : decode cX11_keeps 78 = .ok (.bipush 8, 2) := by decide +kernel
theorem dX11_keeps_80 : decode cX11_keeps 80 = .ok (.iload_n 1, 1) := by decide +kernel
theorem dX11_keeps_81 : decode cX11_keeps 81 = .ok (.imul, 1) := by decide +kernel
theorem dX11_keeps_82 : decode cX11_keeps 82 = .ok (.iload_n 2, 1) := by decide +kernel
theorem dX11_keeps_83 : decode cX11_keeps 83 = .ok (.iadd, 1) := by decide +kernel
theorem dX11_keeps_84 : decode cX11_keeps 84 = .ok (.aload_n 0, 1) := by decide +kernel
theorem dX11_keeps_85 : decode cX11_keeps 85 = .ok (.getfield 71, 3) := by decide +kernel
theorem dX11_keeps_88 : decode cX11_keeps 88 = .ok (.bipush 48, 2) := by decide +kernel
theorem dX11_keeps_90 : decode cX11_keeps 90 = .ok (.iload_n 2, 1) := by decide +kernel
theorem dX11_keeps_91 : decode cX11_keeps 91 = .ok (.iadd, 1) := by decide +kernel
theorem dX11_keeps_92 : decode cX11_keeps 92 = .ok (.iaload, 1) := by decide +kernel
theorem dX11_keeps_93 : decode cX11_keeps 93 = .ok (.iastore, 1) := by decide +kernel
theorem dX11_keeps_94 : decode cX11_keeps 94 = .ok (.iinc 2 1, 3) := by decide +kernel
theorem dX11_keeps_97 : decode cX11_keeps 97 = .ok (.goto (-69), 3) := by decide +kernel
theorem dX11_keeps_100 : decode cX11_keeps 100 = .ok (.iconst 0, 1) := by decide +kernel
theorem dX11_keeps_101 : decode cX11_keeps 101 = .ok (.istore_n 2, 1) := by decide +kernel
theorem dX11_keeps_102 : decode cX11_keeps 102 = .ok (.iload_n 2, 1) := by decide +kernel
theorem dX11_keeps_103 : decode cX11_keeps 103 = .ok (.bipush 12, 2) := by decide +kernel
theorem dX11_keeps_105 : decode cX11_keeps 105 = .ok (.if_icmp .ge 87, 3) := by decide +kernel
theorem dX11_keeps_108 : decode cX11_keeps 108 = .ok (.bipush 12, 2) := by decide +kernel
theorem dX11_keeps_110 : decode cX11_keeps 110 = .ok (.iload_n 1, 1) := by decide +kernel
theorem dX11_keeps_111 : decode cX11_keeps 111 = .ok (.imul, 1) := by decide +kernel
theorem dX11_keeps_112 : decode cX11_keeps 112 = .ok (.iload_n 2, 1) := by decide +kernel
theorem dX11_keeps_113 : decode cX11_keeps 113 = .ok (.iadd, 1) := by decide +kernel
theorem dX11_keeps_114 : decode cX11_keeps 114 = .ok (.istore_n 3, 1) := by decide +kernel
theorem dX11_keeps_115 : decode cX11_keeps 115 = .ok (.bipush 72, 2) := by decide +kernel
theorem dX11_keeps_117 : decode cX11_keeps 117 = .ok (.iload_n 2, 1) := by decide +kernel
theorem dX11_keeps_118 : decode cX11_keeps 118 = .ok (.iadd, 1) := by decide +kernel
theorem dX11_keeps_119 : decode cX11_keeps 119 = .ok (.istore 4, 2) := by decide +kernel
theorem dX11_keeps_121 : decode cX11_keeps 121 = .ok (.aload_n 0, 1) := by decide +kernel
theorem dX11_keeps_122 : decode cX11_keeps 122 = .ok (.getfield 80, 3) := by decide +kernel
theorem dX11_keeps_125 : decode cX11_keeps 125 = .ok (.iload_n 3, 1) := by decide +kernel
theorem dX11_keeps_126 : decode cX11_keeps 126 = .ok (.aload_n 0, 1) := by decide +kernel
theorem dX11_keeps_127 : decode cX11_keeps 127 = .ok (.getfield 80, 3) := by decide +kernel
theorem dX11_keeps_130 : decode cX11_keeps 130 = .ok (.iload 4, 2) := by decide +kernel
theorem dX11_keeps_132 : decode cX11_keeps 132 = .ok (.iaload, 1) := by decide +kernel
theorem dX11_keeps_133 : decode cX11_keeps 133 = .ok (.iastore, 1) := by decide +kernel
theorem dX11_keeps_134 : decode cX11_keeps 134 = .ok (.aload_n 0, 1) := by decide +kernel
theorem dX11_keeps_135 : decode cX11_keeps 135 = .ok (.getfield 83, 3) := by decide +kernel
theorem dX11_keeps_138 : decode cX11_keeps 138 = .ok (.iload_n 3, 1) := by decide +kernel
theorem dX11_keeps_139 : decode cX11_keeps 139 = .ok (.aload_n 0, 1) := by decide +kernel
theorem dX11_keeps_140 : decode cX11_keeps 140 = .ok (.getfield 83, 3) := by decide +kernel
theorem dX11_keeps_143 : decode cX11_keeps 143 = .ok (.iload 4, 2) := by decide +kernel
theorem dX11_keeps_145 : decode cX11_keeps 145 = .ok (.baload, 1) := by decide +kernel
theorem dX11_keeps_146 : decode cX11_keeps 146 = .ok (.bastore, 1) := by decide +kernel
theorem dX11_keeps_147 : decode cX11_keeps 147 = .ok (.aload_n 0, 1) := by decide +kernel
theorem dX11_keeps_148 : decode cX11_keeps 148 = .ok (.getfield 87, 3) := by decide +kernel
theorem dX11_keeps_151 : decode cX11_keeps 151 = .ok (.iload_n 3, 1) := by decide +kernel
theorem dX11_keeps_152 : decode cX11_keeps 152 = .ok (.aload_n 0, 1) := by decide +kernel
theorem dX11_keeps_153 : decode cX11_keeps 153 = .ok (.getfield 87, 3) := by decide +kernel
theorem dX11_keeps_156 : decode cX11_keeps 156 = .ok (.iload 4, 2) := by decide +kernel
theorem dX11_keeps_158 : decode cX11_keeps 158 = .ok (.iaload, 1) := by decide +kernel
theorem dX11_keeps_159 : decode cX11_keeps 159 = .ok (.iastore, 1) := by decide +kernel
theorem dX11_keeps_160 : decode cX11_keeps 160 = .ok (.aload_n 0, 1) := by decide +kernel
theorem dX11_keeps_161 : decode cX11_keeps 161 = .ok (.getfield 90, 3) := by decide +kernel
theorem dX11_keeps_164 : decode cX11_keeps 164 = .ok (.iload_n 3, 1) := by decide +kernel
theorem dX11_keeps_165 : decode cX11_keeps 165 = .ok (.aload_n 0, 1) := by decide +kernel
theorem dX11_keeps_166 : decode cX11_keeps 166 = .ok (.getfield 90, 3) := by decide +kernel
theorem dX11_keeps_169 : decode cX11_keeps 169 = .ok (.iload 4, 2) := by decide +kernel
theorem dX11_keeps_171 : decode cX11_keeps 171 = .ok (.iaload, 1) := by decide +kernel
theorem dX11_keeps_172 : decode cX11_keeps 172 = .ok (.iastore, 1) := by decide +kernel
theorem dX11_keeps_173 : decode cX11_keeps 173 = .ok (.aload_n 0, 1) := by decide +kernel
theorem dX11_keeps_174 : decode cX11_keeps 174 = .ok (.getfield 99, 3) := by decide +kernel
theorem dX11_keeps_177 : decode cX11_keeps 177 = .ok (.iload_n 3, 1) := by decide +kernel
theorem dX11_keeps_178 : decode cX11_keeps 178 = .ok (.aload_n 0, 1) := by decide +kernel
theorem dX11_keeps_179 : decode cX11_keeps 179 = .ok (.getfield 99, 3) := by decide +kernel
theorem dX11_keeps_182 : decode cX11_keeps 182 = .ok (.iload 4, 2) := by decide +kernel
theorem dX11_keeps_184 : decode cX11_keeps 184 = .ok (.iaload, 1) := by decide +kernel
theorem dX11_keeps_185 : decode cX11_keeps 185 = .ok (.iastore, 1) := by decide +kernel
theorem dX11_keeps_186 : decode cX11_keeps 186 = .ok (.iinc 2 1, 3) := by decide +kernel
theorem dX11_keeps_189 : decode cX11_keeps 189 = .ok (.goto (-87), 3) := by decide +kernel
theorem dX11_keeps_192 : decode cX11_keeps 192 = .ok (.iconst 0, 1) := by decide +kernel
theorem dX11_keeps_193 : decode cX11_keeps 193 = .ok (.istore_n 2, 1) := by decide +kernel
theorem dX11_keeps_194 : decode cX11_keeps 194 = .ok (.iload_n 2, 1) := by decide +kernel
theorem dX11_keeps_195 : decode cX11_keeps 195 = .ok (.bipush 96, 2) := by decide +kernel
theorem dX11_keeps_197 : decode cX11_keeps 197 = .ok (.if_icmp .ge 51, 3) := by decide +kernel
theorem dX11_keeps_200 : decode cX11_keeps 200 = .ok (.aload_n 0, 1) := by decide +kernel
theorem dX11_keeps_201 : decode cX11_keeps 201 = .ok (.getfield 93, 3) := by decide +kernel
theorem dX11_keeps_204 : decode cX11_keeps 204 = .ok (.bipush 96, 2) := by decide +kernel
theorem dX11_keeps_206 : decode cX11_keeps 206 = .ok (.iload_n 1, 1) := by decide +kernel
theorem dX11_keeps_207 : decode cX11_keeps 207 = .ok (.imul, 1) := by decide +kernel
theorem dX11_keeps_208 : decode cX11_keeps 208 = .ok (.iload_n 2, 1) := by decide +kernel
theorem dX11_keeps_209 : decode cX11_keeps 209 = .ok (.iadd, 1) := by decide +kernel
theorem dX11_keeps_210 : decode cX11_keeps 210 = .ok (.aload_n 0, 1) := by decide +kernel
theorem dX11_keeps_211 : decode cX11_keeps 211 = .ok (.getfield 93, 3) := by decide +kernel
theorem dX11_keeps_214 : decode cX11_keeps 214 = .ok (.sipush 576, 3) := by decide +kernel
theorem dX11_keeps_217 : decode cX11_keeps 217 = .ok (.iload_n 2, 1) := by decide +kernel
theorem dX11_keeps_218 : decode cX11_keeps 218 = .ok (.iadd, 1) := by decide +kernel
theorem dX11_keeps_219 : decode cX11_keeps 219 = .ok (.iaload, 1) := by decide +kernel
theorem dX11_keeps_220 : decode cX11_keeps 220 = .ok (.iastore, 1) := by decide +kernel
theorem dX11_keeps_221 : decode cX11_keeps 221 = .ok (.aload_n 0, 1) := by decide +kernel
theorem dX11_keeps_222 : decode cX11_keeps 222 = .ok (.getfield 96, 3) := by decide +kernel
theorem dX11_keeps_225 : decode cX11_keeps 225 = .ok (.bipush 96, 2) := by decide +kernel
theorem dX11_keeps_227 : decode cX11_keeps 227 = .ok (.iload_n 1, 1) := by decide +kernel
theorem dX11_keeps_228 : decode cX11_keeps 228 = .ok (.imul, 1) := by decide +kernel
theorem dX11_keeps_229 : decode cX11_keeps 229 = .ok (.iload_n 2, 1) := by decide +kernel
theorem dX11_keeps_230 : decode cX11_keeps 230 = .ok (.iadd, 1) := by decide +kernel
theorem dX11_keeps_231 : decode cX11_keeps 231 = .ok (.aload_n 0, 1) := by decide +kernel
theorem dX11_keeps_232 : decode cX11_keeps 232 = .ok (.getfield 96, 3) := by decide +kernel
theorem dX11_keeps_235 : decode cX11_keeps 235 = .ok (.sipush 576, 3) := by decide +kernel
theorem dX11_keeps_238 : decode cX11_keeps 238 = .ok (.iload_n 2, 1) := by decide +kernel
theorem dX11_keeps_239 : decode cX11_keeps 239 = .ok (.iadd, 1) := by decide +kernel
theorem dX11_keeps_240 : decode cX11_keeps 240 = .ok (.baload, 1) := by decide +kernel
theorem dX11_keeps_241 : decode cX11_keeps 241 = .ok (.bastore, 1) := by decide +kernel
theorem dX11_keeps_242 : decode cX11_keeps 242 = .ok (.iinc 2 1, 3) := by decide +kernel
theorem dX11_keeps_245 : decode cX11_keeps 245 = .ok (.goto (-51), 3) := by decide +kernel
theorem dX11_keeps_248 : decode cX11_keeps 248 = .ok (.iconst 0, 1) := by decide +kernel
theorem dX11_keeps_249 : decode cX11_keeps 249 = .ok (.istore_n 2, 1) := by decide +kernel
theorem dX11_keeps_250 : decode cX11_keeps 250 = .ok (.iload_n 2, 1) := by decide +kernel
theorem dX11_keeps_251 : decode cX11_keeps 251 = .ok (.sipush 240, 3) := by decide +kernel
theorem dX11_keeps_254 : decode cX11_keeps 254 = .ok (.if_icmp .ge 75, 3) := by decide +kernel
theorem dX11_keeps_257 : decode cX11_keeps 257 = .ok (.aload_n 0, 1) := by decide +kernel
theorem dX11_keeps_258 : decode cX11_keeps 258 = .ok (.getfield 102, 3) := by decide +kernel
theorem dX11_keeps_261 : decode cX11_keeps 261 = .ok (.sipush 240, 3) := by decide +kernel
theorem dX11_keeps_264 : decode cX11_keeps 264 = .ok (.iload_n 1, 1) := by decide +kernel
theorem dX11_keeps_265 : decode cX11_keeps 265 = .ok (.imul, 1) := by decide +kernel
theorem dX11_keeps_266 : decode cX11_keeps 266 = .ok (.iload_n 2, 1) := by decide +kernel
theorem dX11_keeps_267 : decode cX11_keeps 267 = .ok (.iadd, 1) := by decide +kernel
theorem dX11_keeps_268 : decode cX11_keeps 268 = .ok (.aload_n 0, 1) := by decide +kernel
theorem dX11_keeps_269 : decode cX11_keeps 269 = .ok (.getfield 102, 3) := by decide +kernel
theorem dX11_keeps_272 : decode cX11_keeps 272 = .ok (.sipush 1440, 3) := by decide +kernel
theorem dX11_keeps_275 : decode cX11_keeps 275 = .ok (.iload_n 2, 1) := by decide +kernel
theorem dX11_keeps_276 : decode cX11_keeps 276 = .ok (.iadd, 1) := by decide +kernel
theorem dX11_keeps_277 : decode cX11_keeps 277 = .ok (.iaload, 1) := by decide +kernel
theorem dX11_keeps_278 : decode cX11_keeps 278 = .ok (.iastore, 1) := by decide +kernel
theorem dX11_keeps_279 : decode cX11_keeps 279 = .ok (.aload_n 0, 1) := by decide +kernel
theorem dX11_keeps_280 : decode cX11_keeps 280 = .ok (.getfield 105, 3) := by decide +kernel
theorem dX11_keeps_283 : decode cX11_keeps 283 = .ok (.sipush 240, 3) := by decide +kernel
theorem dX11_keeps_286 : decode cX11_keeps 286 = .ok (.iload_n 1, 1) := by decide +kernel
theorem dX11_keeps_287 : decode cX11_keeps 287 = .ok (.imul, 1) := by decide +kernel
theorem dX11_keeps_288 : decode cX11_keeps 288 = .ok (.iload_n 2, 1) := by decide +kernel
theorem dX11_keeps_289 : decode cX11_keeps 289 = .ok (.iadd, 1) := by decide +kernel
theorem dX11_keeps_290 : decode cX11_keeps 290 = .ok (.aload_n 0, 1) := by decide +kernel
theorem dX11_keeps_291 : decode cX11_keeps 291 = .ok (.getfield 105, 3) := by decide +kernel
theorem dX11_keeps_294 : decode cX11_keeps 294 = .ok (.sipush 1440, 3) := by decide +kernel
theorem dX11_keeps_297 : decode cX11_keeps 297 = .ok (.iload_n 2, 1) := by decide +kernel
theorem dX11_keeps_298 : decode cX11_keeps 298 = .ok (.iadd, 1) := by decide +kernel
theorem dX11_keeps_299 : decode cX11_keeps 299 = .ok (.iaload, 1) := by decide +kernel
theorem dX11_keeps_300 : decode cX11_keeps 300 = .ok (.iastore, 1) := by decide +kernel
theorem dX11_keeps_301 : decode cX11_keeps 301 = .ok (.aload_n 0, 1) := by decide +kernel
theorem dX11_keeps_302 : decode cX11_keeps 302 = .ok (.getfield 108, 3) := by decide +kernel
theorem dX11_keeps_305 : decode cX11_keeps 305 = .ok (.sipush 240, 3) := by decide +kernel
theorem dX11_keeps_308 : decode cX11_keeps 308 = .ok (.iload_n 1, 1) := by decide +kernel
theorem dX11_keeps_309 : decode cX11_keeps 309 = .ok (.imul, 1) := by decide +kernel
theorem dX11_keeps_310 : decode cX11_keeps 310 = .ok (.iload_n 2, 1) := by decide +kernel
theorem dX11_keeps_311 : decode cX11_keeps 311 = .ok (.iadd, 1) := by decide +kernel
theorem dX11_keeps_312 : decode cX11_keeps 312 = .ok (.aload_n 0, 1) := by decide +kernel
theorem dX11_keeps_313 : decode cX11_keeps 313 = .ok (.getfield 108, 3) := by decide +kernel
theorem dX11_keeps_316 : decode cX11_keeps 316 = .ok (.sipush 1440, 3) := by decide +kernel
theorem dX11_keeps_319 : decode cX11_keeps 319 = .ok (.iload_n 2, 1) := by decide +kernel
theorem dX11_keeps_320 : decode cX11_keeps 320 = .ok (.iadd, 1) := by decide +kernel
theorem dX11_keeps_321 : decode cX11_keeps 321 = .ok (.laload, 1) := by decide +kernel
theorem dX11_keeps_322 : decode cX11_keeps 322 = .ok (.lastore, 1) := by decide +kernel
theorem dX11_keeps_323 : decode cX11_keeps 323 = .ok (.iinc 2 1, 3) := by decide +kernel
theorem dX11_keeps_326 : decode cX11_keeps 326 = .ok (.goto (-76), 3) := by decide +kernel
theorem dX11_keeps_329 : decode cX11_keeps 329 = .ok (.iconst 0, 1) := by decide +kernel
theorem dX11_keeps_330 : decode cX11_keeps 330 = .ok (.istore_n 2, 1) := by decide +kernel
theorem dX11_keeps_331 : decode cX11_keeps 331 = .ok (.iload_n 2, 1) := by decide +kernel
theorem dX11_keeps_332 : decode cX11_keeps 332 = .ok (.aload_n 0, 1) := by decide +kernel
theorem dX11_keeps_333 : decode cX11_keeps 333 = .ok (.getfield 204, 3) := by decide +kernel
theorem dX11_keeps_336 : decode cX11_keeps 336 = .ok (.if_icmp .ge 53, 3) := by decide +kernel
theorem dX11_keeps_339 : decode cX11_keeps 339 = .ok (.aload_n 0, 1) := by decide +kernel
theorem dX11_keeps_340 : decode cX11_keeps 340 = .ok (.getfield 111, 3) := by decide +kernel
theorem dX11_keeps_343 : decode cX11_keeps 343 = .ok (.sipush 2600, 3) := by decide +kernel
theorem dX11_keeps_346 : decode cX11_keeps 346 = .ok (.iload_n 1, 1) := by decide +kernel
theorem dX11_keeps_347 : decode cX11_keeps 347 = .ok (.imul, 1) := by decide +kernel
theorem dX11_keeps_348 : decode cX11_keeps 348 = .ok (.iload_n 2, 1) := by decide +kernel
theorem dX11_keeps_349 : decode cX11_keeps 349 = .ok (.iadd, 1) := by decide +kernel
theorem dX11_keeps_350 : decode cX11_keeps 350 = .ok (.aload_n 0, 1) := by decide +kernel
theorem dX11_keeps_351 : decode cX11_keeps 351 = .ok (.getfield 111, 3) := by decide +kernel
theorem dX11_keeps_354 : decode cX11_keeps 354 = .ok (.sipush 15600, 3) := by decide +kernel
theorem dX11_keeps_357 : decode cX11_keeps 357 = .ok (.iload_n 2, 1) := by decide +kernel
theorem dX11_keeps_358 : decode cX11_keeps 358 = .ok (.iadd, 1) := by decide +kernel
theorem dX11_keeps_359 : decode cX11_keeps 359 = .ok (.iaload, 1) := by decide +kernel
theorem dX11_keeps_360 : decode cX11_keeps 360 = .ok (.iastore, 1) := by decide +kernel
theorem dX11_keeps_361 : decode cX11_keeps 361 = .ok (.aload_n 0, 1) := by decide +kernel
theorem dX11_keeps_362 : decode cX11_keeps 362 = .ok (.getfield 114, 3) := by decide +kernel
theorem dX11_keeps_365 : decode cX11_keeps 365 = .ok (.sipush 2600, 3) := by decide +kernel
theorem dX11_keeps_368 : decode cX11_keeps 368 = .ok (.iload_n 1, 1) := by decide +kernel
theorem dX11_keeps_369 : decode cX11_keeps 369 = .ok (.imul, 1) := by decide +kernel
theorem dX11_keeps_370 : decode cX11_keeps 370 = .ok (.iload_n 2, 1) := by decide +kernel
theorem dX11_keeps_371 : decode cX11_keeps 371 = .ok (.iadd, 1) := by decide +kernel
theorem dX11_keeps_372 : decode cX11_keeps 372 = .ok (.aload_n 0, 1) := by decide +kernel
theorem dX11_keeps_373 : decode cX11_keeps 373 = .ok (.getfield 114, 3) := by decide +kernel
theorem dX11_keeps_376 : decode cX11_keeps 376 = .ok (.sipush 15600, 3) := by decide +kernel
theorem dX11_keeps_379 : decode cX11_keeps 379 = .ok (.iload_n 2, 1) := by decide +kernel
theorem dX11_keeps_380 : decode cX11_keeps 380 = .ok (.iadd, 1) := by decide +kernel
theorem dX11_keeps_381 : decode cX11_keeps 381 = .ok (.iaload, 1) := by decide +kernel
theorem dX11_keeps_382 : decode cX11_keeps 382 = .ok (.iastore, 1) := by decide +kernel
theorem dX11_keeps_383 : decode cX11_keeps 383 = .ok (.iinc 2 1, 3) := by decide +kernel
theorem dX11_keeps_386 : decode cX11_keeps 386 = .ok (.goto (-55), 3) := by decide +kernel
theorem dX11_keeps_389 : decode cX11_keeps 389 = .ok (.return_, 1) := by decide +kernel
theorem dX11_takes_0 : decode cX11_takes 0 = .ok (.aload_n 0, 1) := by decide +kernel
theorem dX11_takes_1 : decode cX11_takes 1 = .ok (.iload_n 1, 1) := by decide +kernel
theorem dX11_takes_2 : decode cX11_takes 2 = .ok (.putfield 159, 3) := by decide +kernel
theorem dX11_takes_5 : decode cX11_takes 5 = .ok (.iconst 0, 1) := by decide +kernel
theorem dX11_takes_6 : decode cX11_takes 6 = .ok (.istore_n 2, 1) := by decide +kernel
theorem dX11_takes_7 : decode cX11_takes 7 = .ok (.iload_n 2, 1) := by decide +kernel
theorem dX11_takes_8 : decode cX11_takes 8 = .ok (.aload_n 0, 1) := by decide +kernel
theorem dX11_takes_9 : decode cX11_takes 9 = .ok (.getfield 62, 3) := by decide +kernel
theorem dX11_takes_12 : decode cX11_takes 12 = .ok (.iload_n 1, 1) := by decide +kernel
theorem dX11_takes_13 : decode cX11_takes 13 = .ok (.iaload, 1) := by decide +kernel
theorem dX11_takes_14 : decode cX11_takes 14 = .ok (.if_icmp .ge 26, 3) := by decide +kernel
theorem dX11_takes_17 : decode cX11_takes 17 = .ok (.aload_n 0, 1) := by decide +kernel
theorem dX11_takes_18 : decode cX11_takes 18 = .ok (.getfield 123, 3) := by decide +kernel
theorem dX11_takes_21 : decode cX11_takes 21 = .ok (.iload_n 2, 1) := by decide +kernel
theorem dX11_takes_22 : decode cX11_takes 22 = .ok (.aload_n 0, 1) := by decide +kernel
theorem dX11_takes_23 : decode cX11_takes 23 = .ok (.getfield 68, 3) := by decide +kernel
theorem dX11_takes_26 : decode cX11_takes 26 = .ok (.bipush 8, 2) := by decide +kernel
theorem dX11_takes_28 : decode cX11_takes 28 = .ok (.iload_n 1, 1) := by decide +kernel
theorem dX11_takes_29 : decode cX11_takes 29 = .ok (.imul, 1) := by decide +kernel
theorem dX11_takes_30 : decode cX11_takes 30 = .ok (.iload_n 2, 1) := by decide +kernel
theorem dX11_takes_31 : decode cX11_takes 31 = .ok (.iadd, 1) := by decide +kernel
theorem dX11_takes_32 : decode cX11_takes 32 = .ok (.iaload, 1) := by decide +kernel
theorem dX11_takes_33 : decode cX11_takes 33 = .ok (.iastore, 1) := by decide +kernel
theorem dX11_takes_34 : decode cX11_takes 34 = .ok (.iinc 2 1, 3) := by decide +kernel
theorem dX11_takes_37 : decode cX11_takes 37 = .ok (.goto (-30), 3) := by decide +kernel
theorem dX11_takes_40 : decode cX11_takes 40 = .ok (.return_, 1) := by decide +kernel
theorem dX11_take_0 : decode cX11_take 0 = .ok (.aload_n 0, 1) := by decide +kernel
theorem dX11_take_1 : decode cX11_take 1 = .ok (.iconst 0, 1) := by decide +kernel
theorem dX11_take_2 : decode cX11_take 2 = .ok (.putfield 1, 3) := by decide +kernel
theorem dX11_take_5 : decode cX11_take 5 = .ok (.iload_n 1, 1) := by decide +kernel
theorem dX11_take_6 : decode cX11_take 6 = .ok (.ifCond .lt 11, 3) := by decide +kernel
theorem dX11_take_9 : decode cX11_take 9 = .ok (.iload_n 1, 1) := by decide +kernel
theorem dX11_take_10 : decode cX11_take 10 = .ok (.aload_n 0, 1) := by decide +kernel
theorem dX11_take_11 : decode cX11_take 11 = .ok (.getfield 207, 3) := by decide +kernel
theorem dX11_take_14 : decode cX11_take 14 = .ok (.if_icmp .lt 5, 3) := by decide +kernel
theorem dX11_take_17 : decode cX11_take 17 = .ok (.iconst 0, 1) := by decide +kernel
theorem dX11_take_18 : decode cX11_take 18 = .ok (.ireturn, 1) := by decide +kernel
theorem dX11_take_19 : decode cX11_take 19 = .ok (.aload_n 0, 1) := by decide +kernel
theorem dX11_take_20 : decode cX11_take 20 = .ok (.iload_n 1, 1) := by decide +kernel
theorem dX11_take_21 : decode cX11_take 21 = .ok (.invokevirtual 222, 3) := by decide +kernel
theorem dX11_take_24 : decode cX11_take 24 = .ok (.iconst 1, 1) := by decide +kernel
theorem dX11_take_25 : decode cX11_take 25 = .ok (.ireturn, 1) := by decide +kernel
theorem dX11_inForce_0 : decode cX11_inForce 0 = .ok (.aload_n 0, 1) := by decide +kernel
theorem dX11_inForce_1 : decode cX11_inForce 1 = .ok (.iconst 0, 1) := by decide +kernel
theorem dX11_inForce_2 : decode cX11_inForce 2 = .ok (.putfield 1, 3) := by decide +kernel
theorem dX11_inForce_5 : decode cX11_inForce 5 = .ok (.iconst (-1), 1) := by decide +kernel
theorem dX11_inForce_6 : decode cX11_inForce 6 = .ok (.istore_n 2, 1) := by decide +kernel
theorem dX11_inForce_7 : decode cX11_inForce 7 = .ok (.iconst 0, 1) := by decide +kernel
theorem dX11_inForce_8 : decode cX11_inForce 8 = .ok (.istore_n 3, 1) := by decide +kernel
theorem dX11_inForce_9 : decode cX11_inForce 9 = .ok (.iload_n 3, 1) := by decide +kernel
theorem dX11_inForce_10 : decode cX11_inForce 10 = .ok (.aload_n 0, 1) := by decide +kernel
theorem dX11_inForce_11 : decode cX11_inForce 11 = .ok (.getfield 207, 3) := by decide +kernel
theorem dX11_inForce_14 : decode cX11_inForce 14 = .ok (.if_icmp .ge 36, 3) := by decide +kernel
theorem dX11_inForce_17 : decode cX11_inForce 17 = .ok (.iload_n 1, 1) := by decide +kernel
theorem dX11_inForce_18 : decode cX11_inForce 18 = .ok (.ifCond .lt 32, 3) := by decide +kernel
theorem dX11_inForce_21 : decode cX11_inForce 21 = .ok (.iload_n 1, 1) := by decide +kernel
theorem dX11_inForce_22 : decode cX11_inForce 22 = .ok (.sipush 9999, 3) := by decide +kernel
theorem dX11_inForce_25 : decode cX11_inForce 25 = .ok (.if_icmp .gt 25, 3) := by decide +kernel
theorem dX11_inForce_28 : decode cX11_inForce 28 = .ok (.aload_n 0, 1) := by decide +kernel
theorem dX11_inForce_29 : decode cX11_inForce 29 = .ok (.getfield 59, 3) := by decide +kernel
theorem dX11_inForce_32 : decode cX11_inForce 32 = .ok (.iload_n 3, 1) := by decide +kernel
theorem dX11_inForce_33 : decode cX11_inForce 33 = .ok (.iaload, 1) := by decide +kernel
theorem dX11_inForce_34 : decode cX11_inForce 34 = .ok (.iload_n 1, 1) := by decide +kernel
theorem dX11_inForce_35 : decode cX11_inForce 35 = .ok (.if_icmp .gt 7, 3) := by decide +kernel
theorem dX11_inForce_38 : decode cX11_inForce 38 = .ok (.iload_n 3, 1) := by decide +kernel
theorem dX11_inForce_39 : decode cX11_inForce 39 = .ok (.goto 4, 3) := by decide +kernel
theorem dX11_inForce_42 : decode cX11_inForce 42 = .ok (.iload_n 2, 1) := by decide +kernel
theorem dX11_inForce_43 : decode cX11_inForce 43 = .ok (.istore_n 2, 1) := by decide +kernel
theorem dX11_inForce_44 : decode cX11_inForce 44 = .ok (.iinc 3 1, 3) := by decide +kernel
theorem dX11_inForce_47 : decode cX11_inForce 47 = .ok (.goto (-38), 3) := by decide +kernel
theorem dX11_inForce_50 : decode cX11_inForce 50 = .ok (.iload_n 2, 1) := by decide +kernel
theorem dX11_inForce_51 : decode cX11_inForce 51 = .ok (.ifCond .lt 8, 3) := by decide +kernel
theorem dX11_inForce_54 : decode cX11_inForce 54 = .ok (.aload_n 0, 1) := by decide +kernel
theorem dX11_inForce_55 : decode cX11_inForce 55 = .ok (.iload_n 2, 1) := by decide +kernel
theorem dX11_inForce_56 : decode cX11_inForce 56 = .ok (.invokevirtual 222, 3) := by decide +kernel
theorem dX11_inForce_59 : decode cX11_inForce 59 = .ok (.iload_n 2, 1) := by decide +kernel
theorem dX11_inForce_60 : decode cX11_inForce 60 = .ok (.ireturn, 1) := by decide +kernel
theorem dX11_fact_0 : decode cX11_fact 0 = .ok (.aload_n 0, 1) := by decide +kernel
theorem dX11_fact_1 : decode cX11_fact 1 = .ok (.iconst 0, 1) := by decide +kernel
theorem dX11_fact_2 : decode cX11_fact 2 = .ok (.putfield 1, 3) := by decide +kernel
theorem dX11_fact_5 : decode cX11_fact 5 = .ok (.aload_n 0, 1) := by decide +kernel
theorem dX11_fact_6 : decode cX11_fact 6 = .ok (.getfield 159, 3) := by decide +kernel
theorem dX11_fact_9 : decode cX11_fact 9 = .ok (.ifCond .lt 56, 3) := by decide +kernel
theorem dX11_fact_12 : decode cX11_fact 12 = .ok (.iload_n 1, 1) := by decide +kernel
theorem dX11_fact_13 : decode cX11_fact 13 = .ok (.ifCond .lt 52, 3) := by decide +kernel
theorem dX11_fact_16 : decode cX11_fact 16 = .ok (.iload_n 1, 1) := by decide +kernel
theorem dX11_fact_17 : decode cX11_fact 17 = .ok (.aload_n 0, 1) := by decide +kernel
theorem dX11_fact_18 : decode cX11_fact 18 = .ok (.getfield 62, 3) := by decide +kernel
theorem dX11_fact_21 : decode cX11_fact 21 = .ok (.aload_n 0, 1) := by decide +kernel
theorem dX11_fact_22 : decode cX11_fact 22 = .ok (.getfield 159, 3) := by decide +kernel
theorem dX11_fact_25 : decode cX11_fact 25 = .ok (.iaload, 1) := by decide +kernel
theorem dX11_fact_26 : decode cX11_fact 26 = .ok (.if_icmp .ge 39, 3) := by decide +kernel
theorem dX11_fact_29 : decode cX11_fact 29 = .ok (.iload_n 2, 1) := by decide +kernel
theorem dX11_fact_30 : decode cX11_fact 30 = .ok (.aload_n 0, 1) := by decide +kernel
theorem dX11_fact_31 : decode cX11_fact 31 = .ok (.getfield 68, 3) := by decide +kernel
theorem dX11_fact_34 : decode cX11_fact 34 = .ok (.bipush 8, 2) := by decide +kernel
theorem dX11_fact_36 : decode cX11_fact 36 = .ok (.aload_n 0, 1) := by decide +kernel
theorem dX11_fact_37 : decode cX11_fact 37 = .ok (.getfield 159, 3) := by decide +kernel
theorem dX11_fact_40 : decode cX11_fact 40 = .ok (.imul, 1) := by decide +kernel
theorem dX11_fact_41 : decode cX11_fact 41 = .ok (.iload_n 1, 1) := by decide +kernel
theorem dX11_fact_42 : decode cX11_fact 42 = .ok (.iadd, 1) := by decide +kernel
theorem dX11_fact_43 : decode cX11_fact 43 = .ok (.iaload, 1) := by decide +kernel
theorem dX11_fact_44 : decode cX11_fact 44 = .ok (.if_icmp .lt 21, 3) := by decide +kernel
theorem dX11_fact_47 : decode cX11_fact 47 = .ok (.iload_n 2, 1) := by decide +kernel
theorem dX11_fact_48 : decode cX11_fact 48 = .ok (.aload_n 0, 1) := by decide +kernel
theorem dX11_fact_49 : decode cX11_fact 49 = .ok (.getfield 71, 3) := by decide +kernel
theorem dX11_fact_52 : decode cX11_fact 52 = .ok (.bipush 8, 2) := by decide +kernel
theorem dX11_fact_54 : decode cX11_fact 54 = .ok (.aload_n 0, 1) := by decide +kernel
theorem dX11_fact_55 : decode cX11_fact 55 = .ok (.getfield 159, 3) := by decide +kernel
theorem dX11_fact_58 : decode cX11_fact 58 = .ok (.imul, 1) := by decide +kernel
theorem dX11_fact_59 : decode cX11_fact 59 = .ok (.iload_n 1, 1) := by decide +kernel
theorem dX11_fact_60 : decode cX11_fact 60 = .ok (.iadd, 1) := by decide +kernel
theorem dX11_fact_61 : decode cX11_fact 61 = .ok (.iaload, 1) := by decide +kernel
theorem dX11_fact_62 : decode cX11_fact 62 = .ok (.if_icmp .le 5, 3) := by decide +kernel
theorem dX11_fact_65 : decode cX11_fact 65 = .ok (.iconst 0, 1) := by decide +kernel
theorem dX11_fact_66 : decode cX11_fact 66 = .ok (.ireturn, 1) := by decide +kernel
theorem dX11_fact_67 : decode cX11_fact 67 = .ok (.aload_n 0, 1) := by decide +kernel
theorem dX11_fact_68 : decode cX11_fact 68 = .ok (.getfield 123, 3) := by decide +kernel
theorem dX11_fact_71 : decode cX11_fact 71 = .ok (.iload_n 1, 1) := by decide +kernel
theorem dX11_fact_72 : decode cX11_fact 72 = .ok (.iload_n 2, 1) := by decide +kernel
theorem dX11_fact_73 : decode cX11_fact 73 = .ok (.iastore, 1) := by decide +kernel
theorem dX11_fact_74 : decode cX11_fact 74 = .ok (.iconst 1, 1) := by decide +kernel
theorem dX11_fact_75 : decode cX11_fact 75 = .ok (.ireturn, 1) := by decide +kernel
theorem dX11_comes_0 : decode cX11_comes 0 = .ok (.iload_n 2, 1) := by decide +kernel
theorem dX11_comes_1 : decode cX11_comes 1 = .ok (.istore_n 3, 1) := by decide +kernel
theorem dX11_comes_2 : decode cX11_comes 2 = .ok (.aload_n 0, 1) := by decide +kernel
theorem dX11_comes_3 : decode cX11_comes 3 = .ok (.getfield 62, 3) := by decide +kernel
theorem dX11_comes_6 : decode cX11_comes 6 = .ok (.iload_n 1, 1) := by decide +kernel
theorem dX11_comes_7 : decode cX11_comes 7 = .ok (.iaload, 1) := by decide +kernel
theorem dX11_comes_8 : decode cX11_comes 8 = .ok (.iconst 1, 1) := by decide +kernel
theorem dX11_comes_9 : decode cX11_comes 9 = .ok (.isub, 1) := by decide +kernel
theorem dX11_comes_10 : decode cX11_comes 10 = .ok (.istore 4, 2) := by decide +kernel
theorem dX11_comes_12 : decode cX11_comes 12 = .ok (.iload 4, 2) := by decide +kernel
theorem dX11_comes_14 : decode cX11_comes 14 = .ok (.ifCond .lt 67, 3) := by decide +kernel
theorem dX11_comes_17 : decode cX11_comes 17 = .ok (.aload_n 0, 1) := by decide +kernel
theorem dX11_comes_18 : decode cX11_comes 18 = .ok (.getfield 71, 3) := by decide +kernel
theorem dX11_comes_21 : decode cX11_comes 21 = .ok (.bipush 8, 2) := by decide +kernel
theorem dX11_comes_23 : decode cX11_comes 23 = .ok (.iload_n 1, 1) := by decide +kernel
theorem dX11_comes_24 : decode cX11_comes 24 = .ok (.imul, 1) := by decide +kernel
theorem dX11_comes_25 : decode cX11_comes 25 = .ok (.iload 4, 2) := by decide +kernel
theorem dX11_comes_27 : decode cX11_comes 27 = .ok (.iadd, 1) := by decide +kernel
theorem dX11_comes_28 : decode cX11_comes 28 = .ok (.iaload, 1) := by decide +kernel
theorem dX11_comes_29 : decode cX11_comes 29 = .ok (.aload_n 0, 1) := by decide +kernel
theorem dX11_comes_30 : decode cX11_comes 30 = .ok (.getfield 68, 3) := by decide +kernel
theorem dX11_comes_33 : decode cX11_comes 33 = .ok (.bipush 8, 2) := by decide +kernel
theorem dX11_comes_35 : decode cX11_comes 35 = .ok (.iload_n 1, 1) := by decide +kernel
theorem dX11_comes_36 : decode cX11_comes 36 = .ok (.imul, 1) := by decide +kernel
theorem dX11_comes_37 : decode cX11_comes 37 = .ok (.iload 4, 2) := by decide +kernel
theorem dX11_comes_39 : decode cX11_comes 39 = .ok (.iadd, 1) := by decide +kernel
theorem dX11_comes_40 : decode cX11_comes 40 = .ok (.iaload, 1) := by decide +kernel
theorem dX11_comes_41 : decode cX11_comes 41 = .ok (.isub, 1) := by decide +kernel
theorem dX11_comes_42 : decode cX11_comes 42 = .ok (.iconst 1, 1) := by decide +kernel
theorem dX11_comes_43 : decode cX11_comes 43 = .ok (.iadd, 1) := by decide +kernel
theorem dX11_comes_44 : decode cX11_comes 44 = .ok (.istore 5, 2) := by decide +kernel
theorem dX11_comes_46 : decode cX11_comes 46 = .ok (.aload_n 0, 1) := by decide +kernel
theorem dX11_comes_47 : decode cX11_comes 47 = .ok (.getfield 123, 3) := by decide +kernel
theorem dX11_comes_50 : decode cX11_comes 50 = .ok (.iload 4, 2) := by decide +kernel
theorem dX11_comes_52 : decode cX11_comes 52 = .ok (.aload_n 0, 1) := by decide +kernel
theorem dX11_comes_53 : decode cX11_comes 53 = .ok (.getfield 68, 3) := by decide +kernel
theorem dX11_comes_56 : decode cX11_comes 56 = .ok (.bipush 8, 2) := by decide +kernel
theorem dX11_comes_58 : decode cX11_comes 58 = .ok (.iload_n 1, 1) := by decide +kernel
theorem dX11_comes_59 : decode cX11_comes 59 = .ok (.imul, 1) := by decide +kernel
theorem dX11_comes_60 : decode cX11_comes 60 = .ok (.iload 4, 2) := by decide +kernel
theorem dX11_comes_62 : decode cX11_comes 62 = .ok (.iadd, 1) := by decide +kernel
theorem dX11_comes_63 : decode cX11_comes 63 = .ok (.iaload, 1) := by decide +kernel
theorem dX11_comes_64 : decode cX11_comes 64 = .ok (.iload_n 3, 1) := by decide +kernel
theorem dX11_comes_65 : decode cX11_comes 65 = .ok (.iload 5, 2) := by decide +kernel
theorem dX11_comes_67 : decode cX11_comes 67 = .ok (.irem, 1) := by decide +kernel
theorem dX11_comes_68 : decode cX11_comes 68 = .ok (.iadd, 1) := by decide +kernel
theorem dX11_comes_69 : decode cX11_comes 69 = .ok (.iastore, 1) := by decide +kernel
theorem dX11_comes_70 : decode cX11_comes 70 = .ok (.iload_n 3, 1) := by decide +kernel
theorem dX11_comes_71 : decode cX11_comes 71 = .ok (.iload 5, 2) := by decide +kernel
theorem dX11_comes_73 : decode cX11_comes 73 = .ok (.idiv, 1) := by decide +kernel
theorem dX11_comes_74 : decode cX11_comes 74 = .ok (.istore_n 3, 1) := by decide +kernel
theorem dX11_comes_75 : decode cX11_comes 75 = .ok (.iinc 4 (-1), 3) := by decide +kernel
theorem dX11_comes_78 : decode cX11_comes 78 = .ok (.goto (-66), 3) := by decide +kernel
theorem dX11_comes_81 : decode cX11_comes 81 = .ok (.return_, 1) := by decide +kernel
theorem dX11_worldNow_0 : decode cX11_worldNow 0 = .ok (.iconst 0, 1) := by decide +kernel
theorem dX11_worldNow_1 : decode cX11_worldNow 1 = .ok (.istore_n 1, 1) := by decide +kernel
theorem dX11_worldNow_2 : decode cX11_worldNow 2 = .ok (.bipush 8, 2) := by decide +kernel
theorem dX11_worldNow_4 : decode cX11_worldNow 4 = .ok (.aload_n 0, 1) := by decide +kernel
theorem dX11_worldNow_5 : decode cX11_worldNow 5 = .ok (.getfield 159, 3) := by decide +kernel
theorem dX11_worldNow_8 : decode cX11_worldNow 8 = .ok (.imul, 1) := by decide +kernel
theorem dX11_worldNow_9 : decode cX11_worldNow 9 = .ok (.istore_n 2, 1) := by decide +kernel
theorem dX11_worldNow_10 : decode cX11_worldNow 10 = .ok (.iload_n 2, 1) := by decide +kernel
theorem dX11_worldNow_11 : decode cX11_worldNow 11 = .ok (.bipush 8, 2) := by decide +kernel
theorem dX11_worldNow_13 : decode cX11_worldNow 13 = .ok (.aload_n 0, 1) := by decide +kernel
theorem dX11_worldNow_14 : decode cX11_worldNow 14 = .ok (.getfield 159, 3) := by decide +kernel
theorem dX11_worldNow_17 : decode cX11_worldNow 17 = .ok (.imul, 1) := by decide +kernel
theorem dX11_worldNow_18 : decode cX11_worldNow 18 = .ok (.aload_n 0, 1) := by decide +kernel
theorem dX11_worldNow_19 : decode cX11_worldNow 19 = .ok (.getfield 62, 3) := by decide +kernel
theorem dX11_worldNow_22 : decode cX11_worldNow 22 = .ok (.aload_n 0, 1) := by decide +kernel
theorem dX11_worldNow_23 : decode cX11_worldNow 23 = .ok (.getfield 159, 3) := by decide +kernel
theorem dX11_worldNow_26 : decode cX11_worldNow 26 = .ok (.iaload, 1) := by decide +kernel
theorem dX11_worldNow_27 : decode cX11_worldNow 27 = .ok (.iadd, 1) := by decide +kernel
theorem dX11_worldNow_28 : decode cX11_worldNow 28 = .ok (.if_icmp .ge 49, 3) := by decide +kernel
theorem dX11_worldNow_31 : decode cX11_worldNow 31 = .ok (.iload_n 1, 1) := by decide +kernel
theorem dX11_worldNow_32 : decode cX11_worldNow 32 = .ok (.aload_n 0, 1) := by decide +kernel
theorem dX11_worldNow_33 : decode cX11_worldNow 33 = .ok (.getfield 71, 3) := by decide +kernel
theorem dX11_worldNow_36 : decode cX11_worldNow 36 = .ok (.iload_n 2, 1) := by decide +kernel
theorem dX11_worldNow_37 : decode cX11_worldNow 37 = .ok (.iaload, 1) := by decide +kernel
theorem dX11_worldNow_38 : decode cX11_worldNow 38 = .ok (.aload_n 0, 1) := by decide +kernel
theorem dX11_worldNow_39 : decode cX11_worldNow 39 = .ok (.getfield 68, 3) := by decide +kernel
theorem dX11_worldNow_42 : decode cX11_worldNow 42 = .ok (.iload_n 2, 1) := by decide +kernel
theorem dX11_worldNow_43 : decode cX11_worldNow 43 = .ok (.iaload, 1) := by decide +kernel
theorem dX11_worldNow_44 : decode cX11_worldNow 44 = .ok (.isub, 1) := by decide +kernel
theorem dX11_worldNow_45 : decode cX11_worldNow 45 = .ok (.iconst 1, 1) := by decide +kernel
theorem dX11_worldNow_46 : decode cX11_worldNow 46 = .ok (.iadd, 1) := by decide +kernel
theorem dX11_worldNow_47 : decode cX11_worldNow 47 = .ok (.imul, 1) := by decide +kernel
theorem dX11_worldNow_48 : decode cX11_worldNow 48 = .ok (.aload_n 0, 1) := by decide +kernel
theorem dX11_worldNow_49 : decode cX11_worldNow 49 = .ok (.getfield 123, 3) := by decide +kernel
theorem dX11_worldNow_52 : decode cX11_worldNow 52 = .ok (.iload_n 2, 1) := by decide +kernel
theorem dX11_worldNow_53 : decode cX11_worldNow 53 = .ok (.bipush 8, 2) := by decide +kernel
theorem dX11_worldNow_55 : decode cX11_worldNow 55 = .ok (.aload_n 0, 1) := by decide +kernel
theorem dX11_worldNow_56 : decode cX11_worldNow 56 = .ok (.getfield 159, 3) := by decide +kernel
theorem dX11_worldNow_59 : decode cX11_worldNow 59 = .ok (.imul, 1) := by decide +kernel
theorem dX11_worldNow_60 : decode cX11_worldNow 60 = .ok (.isub, 1) := by decide +kernel
theorem dX11_worldNow_61 : decode cX11_worldNow 61 = .ok (.iaload, 1) := by decide +kernel
theorem dX11_worldNow_62 : decode cX11_worldNow 62 = .ok (.iadd, 1) := by decide +kernel
theorem dX11_worldNow_63 : decode cX11_worldNow 63 = .ok (.aload_n 0, 1) := by decide +kernel
theorem dX11_worldNow_64 : decode cX11_worldNow 64 = .ok (.getfield 68, 3) := by decide +kernel
theorem dX11_worldNow_67 : decode cX11_worldNow 67 = .ok (.iload_n 2, 1) := by decide +kernel
theorem dX11_worldNow_68 : decode cX11_worldNow 68 = .ok (.iaload, 1) := by decide +kernel
theorem dX11_worldNow_69 : decode cX11_worldNow 69 = .ok (.isub, 1) := by decide +kernel
theorem dX11_worldNow_70 : decode cX11_worldNow 70 = .ok (.istore_n 1, 1) := by decide +kernel
theorem dX11_worldNow_71 : decode cX11_worldNow 71 = .ok (.iinc 2 1, 3) := by decide +kernel
theorem dX11_worldNow_74 : decode cX11_worldNow 74 = .ok (.goto (-64), 3) := by decide +kernel
theorem dX11_worldNow_77 : decode cX11_worldNow 77 = .ok (.iload_n 1, 1) := by decide +kernel
theorem dX11_worldNow_78 : decode cX11_worldNow 78 = .ok (.ireturn, 1) := by decide +kernel
theorem dX11_world_0 : decode cX11_world 0 = .ok (.aload_n 0, 1) := by decide +kernel
theorem dX11_world_1 : decode cX11_world 1 = .ok (.iconst 0, 1) := by decide +kernel
theorem dX11_world_2 : decode cX11_world 2 = .ok (.putfield 1, 3) := by decide +kernel
theorem dX11_world_5 : decode cX11_world 5 = .ok (.aload_n 0, 1) := by decide +kernel
theorem dX11_world_6 : decode cX11_world 6 = .ok (.getfield 159, 3) := by decide +kernel
theorem dX11_world_9 : decode cX11_world 9 = .ok (.ifCond .lt 21, 3) := by decide +kernel
theorem dX11_world_12 : decode cX11_world 12 = .ok (.iload_n 1, 1) := by decide +kernel
theorem dX11_world_13 : decode cX11_world 13 = .ok (.ifCond .lt 17, 3) := by decide +kernel
theorem dX11_world_16 : decode cX11_world 16 = .ok (.iload_n 1, 1) := by decide +kernel
theorem dX11_world_17 : decode cX11_world 17 = .ok (.i2l, 1) := by decide +kernel
theorem dX11_world_18 : decode cX11_world 18 = .ok (.aload_n 0, 1) := by decide +kernel
theorem dX11_world_19 : decode cX11_world 19 = .ok (.aload_n 0, 1) := by decide +kernel
theorem dX11_world_20 : decode cX11_world 20 = .ok (.getfield 159, 3) := by decide +kernel
theorem dX11_world_23 : decode cX11_world 23 = .ok (.invokevirtual 242, 3) := by decide +kernel
theorem dX11_world_26 : decode cX11_world 26 = .ok (.lcmp, 1) := by decide +kernel
theorem dX11_world_27 : decode cX11_world 27 = .ok (.ifCond .lt 5, 3) := by decide +kernel
theorem dX11_world_30 : decode cX11_world 30 = .ok (.iconst 0, 1) := by decide +kernel
theorem dX11_world_31 : decode cX11_world 31 = .ok (.ireturn, 1) := by decide +kernel
theorem dX11_world_32 : decode cX11_world 32 = .ok (.aload_n 0, 1) := by decide +kernel
theorem dX11_world_33 : decode cX11_world 33 = .ok (.aload_n 0, 1) := by decide +kernel
theorem dX11_world_34 : decode cX11_world 34 = .ok (.getfield 159, 3) := by decide +kernel
theorem dX11_world_37 : decode cX11_world 37 = .ok (.iload_n 1, 1) := by decide +kernel
theorem dX11_world_38 : decode cX11_world 38 = .ok (.invokevirtual 289, 3) := by decide +kernel
theorem dX11_world_41 : decode cX11_world 41 = .ok (.iconst 1, 1) := by decide +kernel
theorem dX11_world_42 : decode cX11_world 42 = .ok (.ireturn, 1) := by decide +kernel
theorem dX11_free_0 : decode cX11_free 0 = .ok (.aload_n 0, 1) := by decide +kernel
theorem dX11_free_1 : decode cX11_free 1 = .ok (.iconst 0, 1) := by decide +kernel
theorem dX11_free_2 : decode cX11_free 2 = .ok (.putfield 1, 3) := by decide +kernel
theorem dX11_free_5 : decode cX11_free 5 = .ok (.iload_n 1, 1) := by decide +kernel
theorem dX11_free_6 : decode cX11_free 6 = .ok (.ifCond .lt 33, 3) := by decide +kernel
theorem dX11_free_9 : decode cX11_free 9 = .ok (.iload_n 1, 1) := by decide +kernel
theorem dX11_free_10 : decode cX11_free 10 = .ok (.sipush 9999, 3) := by decide +kernel
theorem dX11_free_13 : decode cX11_free 13 = .ok (.if_icmp .gt 26, 3) := by decide +kernel
theorem dX11_free_16 : decode cX11_free 16 = .ok (.aload_n 0, 1) := by decide +kernel
theorem dX11_free_17 : decode cX11_free 17 = .ok (.getfield 126, 3) := by decide +kernel
theorem dX11_free_20 : decode cX11_free 20 = .ok (.iload_n 1, 1) := by decide +kernel
theorem dX11_free_21 : decode cX11_free 21 = .ok (.baload, 1) := by decide +kernel
theorem dX11_free_22 : decode cX11_free 22 = .ok (.iload_n 2, 1) := by decide +kernel
theorem dX11_free_23 : decode cX11_free 23 = .ok (.if_icmp .eq 16, 3) := by decide +kernel
theorem dX11_free_26 : decode cX11_free 26 = .ok (.iload_n 2, 1) := by decide +kernel
theorem dX11_free_27 : decode cX11_free 27 = .ok (.ifCond .eq 14, 3) := by decide +kernel
theorem dX11_free_30 : decode cX11_free 30 = .ok (.aload_n 0, 1) := by decide +kernel
theorem dX11_free_31 : decode cX11_free 31 = .ok (.getfield 292, 3) := by decide +kernel
theorem dX11_free_34 : decode cX11_free 34 = .ok (.bipush 40, 2) := by decide +kernel
theorem dX11_free_36 : decode cX11_free 36 = .ok (.if_icmp .ne 5, 3) := by decide +kernel
theorem dX11_free_39 : decode cX11_free 39 = .ok (.iconst 0, 1) := by decide +kernel
theorem dX11_free_40 : decode cX11_free 40 = .ok (.ireturn, 1) := by decide +kernel
theorem dX11_free_41 : decode cX11_free 41 = .ok (.aload_n 0, 1) := by decide +kernel
theorem dX11_free_42 : decode cX11_free 42 = .ok (.getfield 126, 3) := by decide +kernel
theorem dX11_free_45 : decode cX11_free 45 = .ok (.iload_n 1, 1) := by decide +kernel
theorem dX11_free_46 : decode cX11_free 46 = .ok (.iload_n 2, 1) := by decide +kernel
theorem dX11_free_47 : decode cX11_free 47 = .ok (.bastore, 1) := by decide +kernel
theorem dX11_free_48 : decode cX11_free 48 = .ok (.aload_n 0, 1) := by decide +kernel
theorem dX11_free_49 : decode cX11_free 49 = .ok (.dup, 1) := by decide +kernel
theorem dX11_free_50 : decode cX11_free 50 = .ok (.getfield 292, 3) := by decide +kernel
theorem dX11_free_53 : decode cX11_free 53 = .ok (.iload_n 2, 1) := by decide +kernel
theorem dX11_free_54 : decode cX11_free 54 = .ok (.ifCond .eq 7, 3) := by decide +kernel
theorem dX11_free_57 : decode cX11_free 57 = .ok (.iconst 1, 1) := by decide +kernel
theorem dX11_free_58 : decode cX11_free 58 = .ok (.goto 4, 3) := by decide +kernel
theorem dX11_free_61 : decode cX11_free 61 = .ok (.iconst (-1), 1) := by decide +kernel
theorem dX11_free_62 : decode cX11_free 62 = .ok (.iadd, 1) := by decide +kernel
theorem dX11_free_63 : decode cX11_free 63 = .ok (.putfield 292, 3) := by decide +kernel
theorem dX11_free_66 : decode cX11_free 66 = .ok (.iconst 1, 1) := by decide +kernel
theorem dX11_free_67 : decode cX11_free 67 = .ok (.ireturn, 1) := by decide +kernel
theorem dX11_isWorking_0 : decode cX11_isWorking 0 = .ok (.iload_n 1, 1) := by decide +kernel
theorem dX11_isWorking_1 : decode cX11_isWorking 1 = .ok (.bipush 7, 2) := by decide +kernel
theorem dX11_isWorking_3 : decode cX11_isWorking 3 = .ok (.irem, 1) := by decide +kernel
theorem dX11_isWorking_4 : decode cX11_isWorking 4 = .ok (.iconst 5, 1) := by decide +kernel
theorem dX11_isWorking_5 : decode cX11_isWorking 5 = .ok (.if_icmp .ge 16, 3) := by decide +kernel
theorem dX11_isWorking_8 : decode cX11_isWorking 8 = .ok (.aload_n 0, 1) := by decide +kernel
theorem dX11_isWorking_9 : decode cX11_isWorking 9 = .ok (.getfield 126, 3) := by decide +kernel
theorem dX11_isWorking_12 : decode cX11_isWorking 12 = .ok (.iload_n 1, 1) := by decide +kernel
theorem dX11_isWorking_13 : decode cX11_isWorking 13 = .ok (.baload, 1) := by decide +kernel
theorem dX11_isWorking_14 : decode cX11_isWorking 14 = .ok (.ifCond .ne 7, 3) := by decide +kernel
theorem dX11_isWorking_17 : decode cX11_isWorking 17 = .ok (.iconst 1, 1) := by decide +kernel
theorem dX11_isWorking_18 : decode cX11_isWorking 18 = .ok (.goto 4, 3) := by decide +kernel
theorem dX11_isWorking_21 : decode cX11_isWorking 21 = .ok (.iconst 0, 1) := by decide +kernel
theorem dX11_isWorking_22 : decode cX11_isWorking 22 = .ok (.ireturn, 1) := by decide +kernel
theorem dX11_workingIn_0 : decode cX11_workingIn 0 = .ok (.iconst 0, 1) := by decide +kernel
theorem dX11_workingIn_1 : decode cX11_workingIn 1 = .ok (.istore_n 3, 1) := by decide +kernel
theorem dX11_workingIn_2 : decode cX11_workingIn 2 = .ok (.iload_n 1, 1) := by decide +kernel
theorem dX11_workingIn_3 : decode cX11_workingIn 3 = .ok (.iconst 1, 1) := by decide +kernel
theorem dX11_workingIn_4 : decode cX11_workingIn 4 = .ok (.iadd, 1) := by decide +kernel
theorem dX11_workingIn_5 : decode cX11_workingIn 5 = .ok (.istore 4, 2) := by decide +kernel
theorem dX11_workingIn_7 : decode cX11_workingIn 7 = .ok (.iload 4, 2) := by decide +kernel
theorem dX11_workingIn_9 : decode cX11_workingIn 9 = .ok (.iload_n 2, 1) := by decide +kernel
theorem dX11_workingIn_10 : decode cX11_workingIn 10 = .ok (.if_icmp .gt 26, 3) := by decide +kernel
theorem dX11_workingIn_13 : decode cX11_workingIn 13 = .ok (.iload_n 3, 1) := by decide +kernel
theorem dX11_workingIn_14 : decode cX11_workingIn 14 = .ok (.aload_n 0, 1) := by decide +kernel
theorem dX11_workingIn_15 : decode cX11_workingIn 15 = .ok (.iload 4, 2) := by decide +kernel
theorem dX11_workingIn_17 : decode cX11_workingIn 17 = .ok (.invokevirtual 295, 3) := by decide +kernel
theorem dX11_workingIn_20 : decode cX11_workingIn 20 = .ok (.ifCond .eq 7, 3) := by decide +kernel
theorem dX11_workingIn_23 : decode cX11_workingIn 23 = .ok (.iconst 1, 1) := by decide +kernel
theorem dX11_workingIn_24 : decode cX11_workingIn 24 = .ok (.goto 4, 3) := by decide +kernel
theorem dX11_workingIn_27 : decode cX11_workingIn 27 = .ok (.iconst 0, 1) := by decide +kernel
theorem dX11_workingIn_28 : decode cX11_workingIn 28 = .ok (.iadd, 1) := by decide +kernel
theorem dX11_workingIn_29 : decode cX11_workingIn 29 = .ok (.istore_n 3, 1) := by decide +kernel
theorem dX11_workingIn_30 : decode cX11_workingIn 30 = .ok (.iinc 4 1, 3) := by decide +kernel
theorem dX11_workingIn_33 : decode cX11_workingIn 33 = .ok (.goto (-26), 3) := by decide +kernel
theorem dX11_workingIn_36 : decode cX11_workingIn 36 = .ok (.iload_n 3, 1) := by decide +kernel
theorem dX11_workingIn_37 : decode cX11_workingIn 37 = .ok (.ireturn, 1) := by decide +kernel
theorem dX11_working_0 : decode cX11_working 0 = .ok (.aload_n 0, 1) := by decide +kernel
theorem dX11_working_1 : decode cX11_working 1 = .ok (.iconst 0, 1) := by decide +kernel
theorem dX11_working_2 : decode cX11_working 2 = .ok (.putfield 1, 3) := by decide +kernel
theorem dX11_working_5 : decode cX11_working 5 = .ok (.iload_n 1, 1) := by decide +kernel
theorem dX11_working_6 : decode cX11_working 6 = .ok (.ifCond .lt 15, 3) := by decide +kernel
theorem dX11_working_9 : decode cX11_working 9 = .ok (.iload_n 2, 1) := by decide +kernel
theorem dX11_working_10 : decode cX11_working 10 = .ok (.sipush 9999, 3) := by decide +kernel
theorem dX11_working_13 : decode cX11_working 13 = .ok (.if_icmp .gt 8, 3) := by decide +kernel
theorem dX11_working_16 : decode cX11_working 16 = .ok (.iload_n 1, 1) := by decide +kernel
theorem dX11_working_17 : decode cX11_working 17 = .ok (.iload_n 2, 1) := by decide +kernel
theorem dX11_working_18 : decode cX11_working 18 = .ok (.if_icmp .le 7, 3) := by decide +kernel
theorem dX11_working_21 : decode cX11_working 21 = .ok (.iconst (-1), 1) := by decide +kernel
theorem dX11_working_22 : decode cX11_working 22 = .ok (.goto 9, 3) := by decide +kernel
theorem dX11_working_25 : decode cX11_working 25 = .ok (.aload_n 0, 1) := by decide +kernel
theorem dX11_working_26 : decode cX11_working 26 = .ok (.iload_n 1, 1) := by decide +kernel
theorem dX11_working_27 : decode cX11_working 27 = .ok (.iload_n 2, 1) := by decide +kernel
theorem dX11_working_28 : decode cX11_working 28 = .ok (.invokevirtual 298, 3) := by decide +kernel
theorem dX11_working_31 : decode cX11_working 31 = .ok (.ireturn, 1) := by decide +kernel
theorem dX11_findBehind_0 : decode cX11_findBehind 0 = .ok (.aload_n 0, 1) := by decide +kernel
theorem dX11_findBehind_1 : decode cX11_findBehind 1 = .ok (.iconst 0, 1) := by decide +kernel
theorem dX11_findBehind_2 : decode cX11_findBehind 2 = .ok (.putfield 301, 3) := by decide +kernel
theorem dX11_findBehind_5 : decode cX11_findBehind 5 = .ok (.iload_n 1, 1) := by decide +kernel
theorem dX11_findBehind_6 : decode cX11_findBehind 6 = .ok (.iconst 1, 1) := by decide +kernel
theorem dX11_findBehind_7 : decode cX11_findBehind 7 = .ok (.iadd, 1) := by decide +kernel
theorem dX11_findBehind_8 : decode cX11_findBehind 8 = .ok (.istore_n 2, 1) := by decide +kernel
theorem dX11_findBehind_9 : decode cX11_findBehind 9 = .ok (.iload_n 2, 1) := by decide +kernel
theorem dX11_findBehind_10 : decode cX11_findBehind 10 = .ok (.sipush 9999, 3) := by decide +kernel
theorem dX11_findBehind_13 : decode cX11_findBehind 13 = .ok (.if_icmp .gt 37, 3) := by decide +kernel
theorem dX11_findBehind_16 : decode cX11_findBehind 16 = .ok (.aload_n 0, 1) := by decide +kernel
theorem dX11_findBehind_17 : decode cX11_findBehind 17 = .ok (.iload_n 2, 1) := by decide +kernel
theorem dX11_findBehind_18 : decode cX11_findBehind 18 = .ok (.invokevirtual 295, 3) := by decide +kernel
theorem dX11_findBehind_21 : decode cX11_findBehind 21 = .ok (.ifCond .eq 23, 3) := by decide +kernel
theorem dX11_findBehind_24 : decode cX11_findBehind 24 = .ok (.aload_n 0, 1) := by decide +kernel
theorem dX11_findBehind_25 : decode cX11_findBehind 25 = .ok (.getfield 129, 3) := by decide +kernel
theorem dX11_findBehind_28 : decode cX11_findBehind 28 = .ok (.aload_n 0, 1) := by decide +kernel
theorem dX11_findBehind_29 : decode cX11_findBehind 29 = .ok (.getfield 301, 3) := by decide +kernel
theorem dX11_findBehind_32 : decode cX11_findBehind 32 = .ok (.iload_n 2, 1) := by decide +kernel
theorem dX11_findBehind_33 : decode cX11_findBehind 33 = .ok (.iastore, 1) := by decide +kernel
theorem dX11_findBehind_34 : decode cX11_findBehind 34 = .ok (.aload_n 0, 1) := by decide +kernel
theorem dX11_findBehind_35 : decode cX11_findBehind 35 = .ok (.dup, 1) := by decide +kernel
theorem dX11_findBehind_36 : decode cX11_findBehind 36 = .ok (.getfield 301, 3) := by decide +kernel
theorem dX11_findBehind_39 : decode cX11_findBehind 39 = .ok (.iconst 1, 1) := by decide +kernel
theorem dX11_findBehind_40 : decode cX11_findBehind 40 = .ok (.iadd, 1) := by decide +kernel
theorem dX11_findBehind_41 : decode cX11_findBehind 41 = .ok (.putfield 301, 3) := by decide +kernel
theorem dX11_findBehind_44 : decode cX11_findBehind 44 = .ok (.iinc 2 1, 3) := by decide +kernel
theorem dX11_findBehind_47 : decode cX11_findBehind 47 = .ok (.goto (-38), 3) := by decide +kernel
theorem dX11_findBehind_50 : decode cX11_findBehind 50 = .ok (.return_, 1) := by decide +kernel
theorem dX11_dayOf_0 : decode cX11_dayOf 0 = .ok (.iload_n 2, 1) := by decide +kernel
theorem dX11_dayOf_1 : decode cX11_dayOf 1 = .ok (.iconst 1, 1) := by decide +kernel
theorem dX11_dayOf_2 : decode cX11_dayOf 2 = .ok (.if_icmp .ge 7, 3) := by decide +kernel
theorem dX11_dayOf_5 : decode cX11_dayOf 5 = .ok (.iload_n 1, 1) := by decide +kernel
theorem dX11_dayOf_6 : decode cX11_dayOf 6 = .ok (.goto 25, 3) := by decide +kernel
theorem dX11_dayOf_9 : decode cX11_dayOf 9 = .ok (.iload_n 2, 1) := by decide +kernel
theorem dX11_dayOf_10 : decode cX11_dayOf 10 = .ok (.aload_n 0, 1) := by decide +kernel
theorem dX11_dayOf_11 : decode cX11_dayOf 11 = .ok (.getfield 301, 3) := by decide +kernel
theorem dX11_dayOf_14 : decode cX11_dayOf 14 = .ok (.if_icmp .le 9, 3) := by decide +kernel
theorem dX11_dayOf_17 : decode cX11_dayOf 17 = .ok (.sipush 9999, 3) := by decide +kernel
theorem dX11_dayOf_20 : decode cX11_dayOf 20 = .ok (.goto 11, 3) := by decide +kernel
theorem dX11_dayOf_23 : decode cX11_dayOf 23 = .ok (.aload_n 0, 1) := by decide +kernel
theorem dX11_dayOf_24 : decode cX11_dayOf 24 = .ok (.getfield 129, 3) := by decide +kernel
theorem dX11_dayOf_27 : decode cX11_dayOf 27 = .ok (.iload_n 2, 1) := by decide +kernel
theorem dX11_dayOf_28 : decode cX11_dayOf 28 = .ok (.iconst 1, 1) := by decide +kernel
theorem dX11_dayOf_29 : decode cX11_dayOf 29 = .ok (.isub, 1) := by decide +kernel
theorem dX11_dayOf_30 : decode cX11_dayOf 30 = .ok (.iaload, 1) := by decide +kernel
theorem dX11_dayOf_31 : decode cX11_dayOf 31 = .ok (.ireturn, 1) := by decide +kernel
theorem dX11_worth_0 : decode cX11_worth 0 = .ok (.sipush 2600, 3) := by decide +kernel
theorem dX11_worth_3 : decode cX11_worth 3 = .ok (.iload_n 1, 1) := by decide +kernel
theorem dX11_worth_4 : decode cX11_worth 4 = .ok (.imul, 1) := by decide +kernel
theorem dX11_worth_5 : decode cX11_worth 5 = .ok (.iload_n 2, 1) := by decide +kernel
theorem dX11_worth_6 : decode cX11_worth 6 = .ok (.iadd, 1) := by decide +kernel
theorem dX11_worth_7 : decode cX11_worth 7 = .ok (.istore_n 3, 1) := by decide +kernel
theorem dX11_worth_8 : decode cX11_worth 8 = .ok (.iconst 0, 1) := by decide +kernel
theorem dX11_worth_9 : decode cX11_worth 9 = .ok (.istore 4, 2) := by decide +kernel
theorem dX11_worth_11 : decode cX11_worth 11 = .ok (.aload_n 0, 1) := by decide +kernel
theorem dX11_worth_12 : decode cX11_worth 12 = .ok (.getfield 111, 3) := by decide +kernel
theorem dX11_worth_15 : decode cX11_worth 15 = .ok (.iload_n 3, 1) := by decide +kernel
theorem dX11_worth_16 : decode cX11_worth 16 = .ok (.iaload, 1) := by decide +kernel
theorem dX11_worth_17 : decode cX11_worth 17 = .ok (.ifCond .eq 161, 3) := by decide +kernel
theorem dX11_worth_20 : decode cX11_worth 20 = .ok (.aload_n 0, 1) := by decide +kernel
theorem dX11_worth_21 : decode cX11_worth 21 = .ok (.getfield 111, 3) := by decide +kernel
theorem dX11_worth_24 : decode cX11_worth 24 = .ok (.iload_n 3, 1) := by decide +kernel
theorem dX11_worth_25 : decode cX11_worth 25 = .ok (.iaload, 1) := by decide +kernel
theorem dX11_worth_26 : decode cX11_worth 26 = .ok (.istore 5, 2) := by decide +kernel
theorem dX11_worth_28 : decode cX11_worth 28 = .ok (.iload 5, 2) := by decide +kernel
theorem dX11_worth_30 : decode cX11_worth 30 = .ok (.iconst 1, 1) := by decide +kernel
theorem dX11_worth_31 : decode cX11_worth 31 = .ok (.if_icmp .eq 9, 3) := by decide +kernel
theorem dX11_worth_34 : decode cX11_worth 34 = .ok (.iload 5, 2) := by decide +kernel
theorem dX11_worth_36 : decode cX11_worth 36 = .ok (.iconst 2, 1) := by decide +kernel
theorem dX11_worth_37 : decode cX11_worth 37 = .ok (.if_icmp .ne 42, 3) := by decide +kernel
theorem dX11_worth_40 : decode cX11_worth 40 = .ok (.aload_n 0, 1) := by decide +kernel
theorem dX11_worth_41 : decode cX11_worth 41 = .ok (.getfield 132, 3) := by decide +kernel
theorem dX11_worth_44 : decode cX11_worth 44 = .ok (.iload 4, 2) := by decide +kernel
theorem dX11_worth_46 : decode cX11_worth 46 = .ok (.iload 5, 2) := by decide +kernel
theorem dX11_worth_48 : decode cX11_worth 48 = .ok (.iconst 1, 1) := by decide +kernel
theorem dX11_worth_49 : decode cX11_worth 49 = .ok (.if_icmp .ne 12, 3) := by decide +kernel
theorem dX11_worth_52 : decode cX11_worth 52 = .ok (.aload_n 0, 1) := by decide +kernel
theorem dX11_worth_53 : decode cX11_worth 53 = .ok (.getfield 114, 3) := by decide +kernel
theorem dX11_worth_56 : decode cX11_worth 56 = .ok (.iload_n 3, 1) := by decide +kernel
theorem dX11_worth_57 : decode cX11_worth 57 = .ok (.iaload, 1) := by decide +kernel
theorem dX11_worth_58 : decode cX11_worth 58 = .ok (.goto 14, 3) := by decide +kernel
theorem dX11_worth_61 : decode cX11_worth 61 = .ok (.aload_n 0, 1) := by decide +kernel
theorem dX11_worth_62 : decode cX11_worth 62 = .ok (.getfield 123, 3) := by decide +kernel
theorem dX11_worth_65 : decode cX11_worth 65 = .ok (.aload_n 0, 1) := by decide +kernel
theorem dX11_worth_66 : decode cX11_worth 66 = .ok (.getfield 114, 3) := by decide +kernel
theorem dX11_worth_69 : decode cX11_worth 69 = .ok (.iload_n 3, 1) := by decide +kernel
theorem dX11_worth_70 : decode cX11_worth 70 = .ok (.iaload, 1) := by decide +kernel
theorem dX11_worth_71 : decode cX11_worth 71 = .ok (.iaload, 1) := by decide +kernel
theorem dX11_worth_72 : decode cX11_worth 72 = .ok (.iastore, 1) := by decide +kernel
theorem dX11_worth_73 : decode cX11_worth 73 = .ok (.iinc 4 1, 3) := by decide +kernel
theorem dX11_worth_76 : decode cX11_worth 76 = .ok (.goto 96, 3) := by decide +kernel
theorem dX11_worth_79 : decode cX11_worth 79 = .ok (.iinc 4 (-1), 3) := by decide +kernel
theorem dX11_worth_82 : decode cX11_worth 82 = .ok (.aload_n 0, 1) := by decide +kernel
theorem dX11_worth_83 : decode cX11_worth 83 = .ok (.getfield 132, 3) := by decide +kernel
theorem dX11_worth_86 : decode cX11_worth 86 = .ok (.iload 4, 2) := by decide +kernel
theorem dX11_worth_88 : decode cX11_worth 88 = .ok (.iaload, 1) := by decide +kernel
theorem dX11_worth_89 : decode cX11_worth 89 = .ok (.istore 6, 2) := by decide +kernel
theorem dX11_worth_91 : decode cX11_worth 91 = .ok (.aload_n 0, 1) := by decide +kernel
theorem dX11_worth_92 : decode cX11_worth 92 = .ok (.getfield 132, 3) := by decide +kernel
theorem dX11_worth_95 : decode cX11_worth 95 = .ok (.iload 4, 2) := by decide +kernel
theorem dX11_worth_97 : decode cX11_worth 97 = .ok (.iconst 1, 1) := by decide +kernel
theorem dX11_worth_98 : decode cX11_worth 98 = .ok (.isub, 1) := by decide +kernel
theorem dX11_worth_99 : decode cX11_worth 99 = .ok (.iaload, 1) := by decide +kernel
theorem dX11_worth_100 : decode cX11_worth 100 = .ok (.istore 7, 2) := by decide +kernel
theorem dX11_worth_102 : decode cX11_worth 102 = .ok (.aload_n 0, 1) := by decide +kernel
theorem dX11_worth_103 : decode cX11_worth 103 = .ok (.getfield 132, 3) := by decide +kernel
theorem dX11_worth_106 : decode cX11_worth 106 = .ok (.iload 4, 2) := by decide +kernel
theorem dX11_worth_108 : decode cX11_worth 108 = .ok (.iconst 1, 1) := by decide +kernel
theorem dX11_worth_109 : decode cX11_worth 109 = .ok (.isub, 1) := by decide +kernel
theorem dX11_worth_110 : decode cX11_worth 110 = .ok (.iload 5, 2) := by decide +kernel
theorem dX11_worth_112 : decode cX11_worth 112 = .ok (.iconst 3, 1) := by decide +kernel
theorem dX11_worth_113 : decode cX11_worth 113 = .ok (.if_icmp .ne 11, 3) := by decide +kernel
theorem dX11_worth_116 : decode cX11_worth 116 = .ok (.iload 7, 2) := by decide +kernel
theorem dX11_worth_118 : decode cX11_worth 118 = .ok (.iload 6, 2) := by decide +kernel
theorem dX11_worth_120 : decode cX11_worth 120 = .ok (.iadd, 1) := by decide +kernel
theorem dX11_worth_121 : decode cX11_worth 121 = .ok (.goto 50, 3) := by decide +kernel
theorem dX11_worth_124 : decode cX11_worth 124 = .ok (.iload 5, 2) := by decide +kernel
theorem dX11_worth_126 : decode cX11_worth 126 = .ok (.iconst 4, 1) := by decide +kernel
theorem dX11_worth_127 : decode cX11_worth 127 = .ok (.if_icmp .ne 11, 3) := by decide +kernel
theorem dX11_worth_130 : decode cX11_worth 130 = .ok (.iload 7, 2) := by decide +kernel
theorem dX11_worth_132 : decode cX11_worth 132 = .ok (.iload 6, 2) := by decide +kernel
theorem dX11_worth_134 : decode cX11_worth 134 = .ok (.isub, 1) := by decide +kernel
theorem dX11_worth_135 : decode cX11_worth 135 = .ok (.goto 36, 3) := by decide +kernel
theorem dX11_worth_138 : decode cX11_worth 138 = .ok (.iload 5, 2) := by decide +kernel
theorem dX11_worth_140 : decode cX11_worth 140 = .ok (.iconst 5, 1) := by decide +kernel
theorem dX11_worth_141 : decode cX11_worth 141 = .ok (.if_icmp .ne 18, 3) := by decide +kernel
theorem dX11_worth_144 : decode cX11_worth 144 = .ok (.iload 7, 2) := by decide +kernel
theorem dX11_worth_146 : decode cX11_worth 146 = .ok (.iload 6, 2) := by decide +kernel
theorem dX11_worth_148 : decode cX11_worth 148 = .ok (.if_icmp .ge 7, 3) := by decide +kernel
theorem dX11_worth_151 : decode cX11_worth 151 = .ok (.iconst 1, 1) := by decide +kernel
theorem dX11_worth_152 : decode cX11_worth 152 = .ok (.goto 19, 3) := by decide +kernel
theorem dX11_worth_155 : decode cX11_worth 155 = .ok (.iconst 0, 1) := by decide +kernel
theorem dX11_worth_156 : decode cX11_worth 156 = .ok (.goto 15, 3) := by decide +kernel
theorem dX11_worth_159 : decode cX11_worth 159 = .ok (.iload 7, 2) := by decide +kernel
theorem dX11_worth_161 : decode cX11_worth 161 = .ok (.iload 6, 2) := by decide +kernel
theorem dX11_worth_163 : decode cX11_worth 163 = .ok (.if_icmp .ne 7, 3) := by decide +kernel
theorem dX11_worth_166 : decode cX11_worth 166 = .ok (.iconst 1, 1) := by decide +kernel
theorem dX11_worth_167 : decode cX11_worth 167 = .ok (.goto 4, 3) := by decide +kernel
theorem dX11_worth_170 : decode cX11_worth 170 = .ok (.iconst 0, 1) := by decide +kernel
theorem dX11_worth_171 : decode cX11_worth 171 = .ok (.iastore, 1) := by decide +kernel
theorem dX11_worth_172 : decode cX11_worth 172 = .ok (.iinc 3 1, 3) := by decide +kernel
theorem dX11_worth_175 : decode cX11_worth 175 = .ok (.goto (-164), 3) := by decide +kernel
theorem dX11_worth_178 : decode cX11_worth 178 = .ok (.aload_n 0, 1) := by decide +kernel
theorem dX11_worth_179 : decode cX11_worth 179 = .ok (.getfield 132, 3) := by decide +kernel
theorem dX11_worth_182 : decode cX11_worth 182 = .ok (.iconst 0, 1) := by decide +kernel
theorem dX11_worth_183 : decode cX11_worth 183 = .ok (.iaload, 1) := by decide +kernel
theorem dX11_worth_184 : decode cX11_worth 184 = .ok (.ireturn, 1) := by decide +kernel
theorem dX11_gathers_0 : decode cX11_gathers 0 = .ok (.iconst 0, 1) := by decide +kernel
theorem dX11_gathers_1 : decode cX11_gathers 1 = .ok (.istore_n 2, 1) := by decide +kernel
theorem dX11_gathers_2 : decode cX11_gathers 2 = .ok (.iload_n 2, 1) := by decide +kernel
theorem dX11_gathers_3 : decode cX11_gathers 3 = .ok (.bipush 12, 2) := by decide +kernel
theorem dX11_gathers_5 : decode cX11_gathers 5 = .ok (.if_icmp .ge 49, 3) := by decide +kernel
theorem dX11_gathers_8 : decode cX11_gathers 8 = .ok (.aload_n 0, 1) := by decide +kernel
theorem dX11_gathers_9 : decode cX11_gathers 9 = .ok (.getfield 135, 3) := by decide +kernel
theorem dX11_gathers_12 : decode cX11_gathers 12 = .ok (.iload_n 2, 1) := by decide +kernel
theorem dX11_gathers_13 : decode cX11_gathers 13 = .ok (.iload_n 2, 1) := by decide +kernel
theorem dX11_gathers_14 : decode cX11_gathers 14 = .ok (.aload_n 0, 1) := by decide +kernel
theorem dX11_gathers_15 : decode cX11_gathers 15 = .ok (.getfield 74, 3) := by decide +kernel
theorem dX11_gathers_18 : decode cX11_gathers 18 = .ok (.iload_n 1, 1) := by decide +kernel
theorem dX11_gathers_19 : decode cX11_gathers 19 = .ok (.iaload, 1) := by decide +kernel
theorem dX11_gathers_20 : decode cX11_gathers 20 = .ok (.if_icmp .ge 26, 3) := by decide +kernel
theorem dX11_gathers_23 : decode cX11_gathers 23 = .ok (.aload_n 0, 1) := by decide +kernel
theorem dX11_gathers_24 : decode cX11_gathers 24 = .ok (.iload_n 1, 1) := by decide +kernel
theorem dX11_gathers_25 : decode cX11_gathers 25 = .ok (.aload_n 0, 1) := by decide +kernel
theorem dX11_gathers_26 : decode cX11_gathers 26 = .ok (.getfield 87, 3) := by decide +kernel
theorem dX11_gathers_29 : decode cX11_gathers 29 = .ok (.bipush 12, 2) := by decide +kernel
theorem dX11_gathers_31 : decode cX11_gathers 31 = .ok (.iload_n 1, 1) := by decide +kernel
theorem dX11_gathers_32 : decode cX11_gathers 32 = .ok (.imul, 1) := by decide +kernel
theorem dX11_gathers_33 : decode cX11_gathers 33 = .ok (.iload_n 2, 1) := by decide +kernel
theorem dX11_gathers_34 : decode cX11_gathers 34 = .ok (.iadd, 1) := by decide +kernel
theorem dX11_gathers_35 : decode cX11_gathers 35 = .ok (.iaload, 1) := by decide +kernel
theorem dX11_gathers_36 : decode cX11_gathers 36 = .ok (.invokevirtual 304, 3) := by decide +kernel
theorem dX11_gathers_39 : decode cX11_gathers 39 = .ok (.ifCond .eq 7, 3) := by decide +kernel
theorem dX11_gathers_42 : decode cX11_gathers 42 = .ok (.iconst 1, 1) := by decide +kernel
theorem dX11_gathers_43 : decode cX11_gathers 43 = .ok (.goto 4, 3) := by decide +kernel
theorem dX11_gathers_46 : decode cX11_gathers 46 = .ok (.iconst 0, 1) := by decide +kernel
theorem dX11_gathers_47 : decode cX11_gathers 47 = .ok (.bastore, 1) := by decide +kernel
theorem dX11_gathers_48 : decode cX11_gathers 48 = .ok (.iinc 2 1, 3) := by decide +kernel
theorem dX11_gathers_51 : decode cX11_gathers 51 = .ok (.goto (-49), 3) := by decide +kernel
theorem dX11_gathers_54 : decode cX11_gathers 54 = .ok (.iconst 1, 1) := by decide +kernel
theorem dX11_gathers_55 : decode cX11_gathers 55 = .ok (.istore_n 2, 1) := by decide +kernel
theorem dX11_gathers_56 : decode cX11_gathers 56 = .ok (.iload_n 2, 1) := by decide +kernel
theorem dX11_gathers_57 : decode cX11_gathers 57 = .ok (.ifCond .eq 118, 3) := by decide +kernel
theorem dX11_gathers_60 : decode cX11_gathers 60 = .ok (.iconst 0, 1) := by decide +kernel
theorem dX11_gathers_61 : decode cX11_gathers 61 = .ok (.istore_n 2, 1) := by decide +kernel
theorem dX11_gathers_62 : decode cX11_gathers 62 = .ok (.iconst 0, 1) := by decide +kernel
theorem dX11_gathers_63 : decode cX11_gathers 63 = .ok (.istore_n 3, 1) := by decide +kernel
theorem dX11_gathers_64 : decode cX11_gathers 64 = .ok (.iload_n 3, 1) := by decide +kernel
theorem dX11_gathers_65 : decode cX11_gathers 65 = .ok (.aload_n 0, 1) := by decide +kernel
theorem dX11_gathers_66 : decode cX11_gathers 66 = .ok (.getfield 74, 3) := by decide +kernel
theorem dX11_gathers_69 : decode cX11_gathers 69 = .ok (.iload_n 1, 1) := by decide +kernel
theorem dX11_gathers_70 : decode cX11_gathers 70 = .ok (.iaload, 1) := by decide +kernel
theorem dX11_gathers_71 : decode cX11_gathers 71 = .ok (.if_icmp .ge 101, 3) := by decide +kernel
theorem dX11_gathers_74 : decode cX11_gathers 74 = .ok (.bipush 8, 2) := by decide +kernel
theorem dX11_gathers_76 : decode cX11_gathers 76 = .ok (.bipush 12, 2) := by decide +kernel
theorem dX11_gathers_78 : decode cX11_gathers 78 = .ok (.iload_n 1, 1) := by decide +kernel
theorem dX11_gathers_79 : decode cX11_gathers 79 = .ok (.imul, 1) := by decide +kernel
theorem dX11_gathers_80 : decode cX11_gathers 80 = .ok (.iload_n 3, 1) := by decide +kernel
theorem dX11_gathers_81 : decode cX11_gathers 81 = .ok (.iadd, 1) := by decide +kernel
theorem dX11_gathers_82 : decode cX11_gathers 82 = .ok (.imul, 1) := by decide +kernel
theorem dX11_gathers_83 : decode cX11_gathers 83 = .ok (.istore 4, 2) := by decide +kernel
theorem dX11_gathers_85 : decode cX11_gathers 85 = .ok (.iload 4, 2) := by decide +kernel
theorem dX11_gathers_87 : decode cX11_gathers 87 = .ok (.bipush 8, 2) := by decide +kernel
theorem dX11_gathers_89 : decode cX11_gathers 89 = .ok (.bipush 12, 2) := by decide +kernel
theorem dX11_gathers_91 : decode cX11_gathers 91 = .ok (.iload_n 1, 1) := by decide +kernel
theorem dX11_gathers_92 : decode cX11_gathers 92 = .ok (.imul, 1) := by decide +kernel
theorem dX11_gathers_93 : decode cX11_gathers 93 = .ok (.iload_n 3, 1) := by decide +kernel
theorem dX11_gathers_94 : decode cX11_gathers 94 = .ok (.iadd, 1) := by decide +kernel
theorem dX11_gathers_95 : decode cX11_gathers 95 = .ok (.imul, 1) := by decide +kernel
theorem dX11_gathers_96 : decode cX11_gathers 96 = .ok (.aload_n 0, 1) := by decide +kernel
theorem dX11_gathers_97 : decode cX11_gathers 97 = .ok (.getfield 90, 3) := by decide +kernel
theorem dX11_gathers_100 : decode cX11_gathers 100 = .ok (.bipush 12, 2) := by decide +kernel
theorem dX11_gathers_102 : decode cX11_gathers 102 = .ok (.iload_n 1, 1) := by decide +kernel
theorem dX11_gathers_103 : decode cX11_gathers 103 = .ok (.imul, 1) := by decide +kernel
theorem dX11_gathers_104 : decode cX11_gathers 104 = .ok (.iload_n 3, 1) := by decide +kernel
theorem dX11_gathers_105 : decode cX11_gathers 105 = .ok (.iadd, 1) := by decide +kernel
theorem dX11_gathers_106 : decode cX11_gathers 106 = .ok (.iaload, 1) := by decide +kernel
theorem dX11_gathers_107 : decode cX11_gathers 107 = .ok (.iadd, 1) := by decide +kernel
theorem dX11_gathers_108 : decode cX11_gathers 108 = .ok (.if_icmp .ge 58, 3) := by decide +kernel
theorem dX11_gathers_111 : decode cX11_gathers 111 = .ok (.aload_n 0, 1) := by decide +kernel
theorem dX11_gathers_112 : decode cX11_gathers 112 = .ok (.getfield 135, 3) := by decide +kernel
theorem dX11_gathers_115 : decode cX11_gathers 115 = .ok (.iload_n 3, 1) := by decide +kernel
theorem dX11_gathers_116 : decode cX11_gathers 116 = .ok (.baload, 1) := by decide +kernel
theorem dX11_gathers_117 : decode cX11_gathers 117 = .ok (.ifCond .eq 49, 3) := by decide +kernel
theorem dX11_gathers_120 : decode cX11_gathers 120 = .ok (.aload_n 0, 1) := by decide +kernel
theorem dX11_gathers_121 : decode cX11_gathers 121 = .ok (.getfield 96, 3) := by decide +kernel
theorem dX11_gathers_124 : decode cX11_gathers 124 = .ok (.iload 4, 2) := by decide +kernel
theorem dX11_gathers_126 : decode cX11_gathers 126 = .ok (.baload, 1) := by decide +kernel
theorem dX11_gathers_127 : decode cX11_gathers 127 = .ok (.ifCond .ne 33, 3) := by decide +kernel
theorem dX11_gathers_130 : decode cX11_gathers 130 = .ok (.aload_n 0, 1) := by decide +kernel
theorem dX11_gathers_131 : decode cX11_gathers 131 = .ok (.getfield 135, 3) := by decide +kernel
theorem dX11_gathers_134 : decode cX11_gathers 134 = .ok (.aload_n 0, 1) := by decide +kernel
theorem dX11_gathers_135 : decode cX11_gathers 135 = .ok (.getfield 93, 3) := by decide +kernel
theorem dX11_gathers_138 : decode cX11_gathers 138 = .ok (.iload 4, 2) := by decide +kernel
theorem dX11_gathers_140 : decode cX11_gathers 140 = .ok (.iaload, 1) := by decide +kernel
theorem dX11_gathers_141 : decode cX11_gathers 141 = .ok (.baload, 1) := by decide +kernel
theorem dX11_gathers_142 : decode cX11_gathers 142 = .ok (.ifCond .ne 18, 3) := by decide +kernel
theorem dX11_gathers_145 : decode cX11_gathers 145 = .ok (.aload_n 0, 1) := by decide +kernel
theorem dX11_gathers_146 : decode cX11_gathers 146 = .ok (.getfield 135, 3) := by decide +kernel
theorem dX11_gathers_149 : decode cX11_gathers 149 = .ok (.aload_n 0, 1) := by decide +kernel
theorem dX11_gathers_150 : decode cX11_gathers 150 = .ok (.getfield 93, 3) := by decide +kernel
theorem dX11_gathers_153 : decode cX11_gathers 153 = .ok (.iload 4, 2) := by decide +kernel
theorem dX11_gathers_155 : decode cX11_gathers 155 = .ok (.iaload, 1) := by decide +kernel
theorem dX11_gathers_156 : decode cX11_gathers 156 = .ok (.iconst 1, 1) := by decide +kernel
theorem dX11_gathers_157 : decode cX11_gathers 157 = .ok (.bastore, 1) := by decide +kernel
theorem dX11_gathers_158 : decode cX11_gathers 158 = .ok (.iconst 1, 1) := by decide +kernel
theorem dX11_gathers_159 : decode cX11_gathers 159 = .ok (.istore_n 2, 1) := by decide +kernel
theorem dX11_gathers_160 : decode cX11_gathers 160 = .ok (.iinc 4 1, 3) := by decide +kernel
theorem dX11_gathers_163 : decode cX11_gathers 163 = .ok (.goto (-78), 3) := by decide +kernel
theorem dX11_gathers_166 : decode cX11_gathers 166 = .ok (.iinc 3 1, 3) := by decide +kernel
theorem dX11_gathers_169 : decode cX11_gathers 169 = .ok (.goto (-105), 3) := by decide +kernel
theorem dX11_gathers_172 : decode cX11_gathers 172 = .ok (.goto (-116), 3) := by decide +kernel
theorem dX11_gathers_175 : decode cX11_gathers 175 = .ok (.return_, 1) := by decide +kernel
theorem dX11_quarrels_0 : decode cX11_quarrels 0 = .ok (.aload_n 0, 1) := by decide +kernel
theorem dX11_quarrels_1 : decode cX11_quarrels 1 = .ok (.iconst 0, 1) := by decide +kernel
theorem dX11_quarrels_2 : decode cX11_quarrels 2 = .ok (.putfield 307, 3) := by decide +kernel
theorem dX11_quarrels_5 : decode cX11_quarrels 5 = .ok (.aload_n 0, 1) := by decide +kernel
theorem dX11_quarrels_6 : decode cX11_quarrels 6 = .ok (.iconst (-1), 1) := by decide +kernel
theorem dX11_quarrels_7 : decode cX11_quarrels 7 = .ok (.putfield 310, 3) := by decide +kernel
theorem dX11_quarrels_10 : decode cX11_quarrels 10 = .ok (.aload_n 0, 1) := by decide +kernel
theorem dX11_quarrels_11 : decode cX11_quarrels 11 = .ok (.iconst (-1), 1) := by decide +kernel
theorem dX11_quarrels_12 : decode cX11_quarrels 12 = .ok (.putfield 313, 3) := by decide +kernel
theorem dX11_quarrels_15 : decode cX11_quarrels 15 = .ok (.iconst 0, 1) := by decide +kernel
theorem dX11_quarrels_16 : decode cX11_quarrels 16 = .ok (.istore_n 2, 1) := by decide +kernel
theorem dX11_quarrels_17 : decode cX11_quarrels 17 = .ok (.iconst 0, 1) := by decide +kernel
theorem dX11_quarrels_18 : decode cX11_quarrels 18 = .ok (.istore_n 3, 1) := by decide +kernel
theorem dX11_quarrels_19 : decode cX11_quarrels 19 = .ok (.iload_n 3, 1) := by decide +kernel
theorem dX11_quarrels_20 : decode cX11_quarrels 20 = .ok (.aload_n 0, 1) := by decide +kernel
theorem dX11_quarrels_21 : decode cX11_quarrels 21 = .ok (.getfield 74, 3) := by decide +kernel
theorem dX11_quarrels_24 : decode cX11_quarrels 24 = .ok (.iload_n 1, 1) := by decide +kernel
theorem dX11_quarrels_25 : decode cX11_quarrels 25 = .ok (.iaload, 1) := by decide +kernel
theorem dX11_quarrels_26 : decode cX11_quarrels 26 = .ok (.if_icmp .ge 68, 3) := by decide +kernel
theorem dX11_quarrels_29 : decode cX11_quarrels 29 = .ok (.iload_n 2, 1) := by decide +kernel
theorem dX11_quarrels_30 : decode cX11_quarrels 30 = .ok (.ifCond .ne 12, 3) := by decide +kernel
theorem dX11_quarrels_33 : decode cX11_quarrels 33 = .ok (.aload_n 0, 1) := by decide +kernel
theorem dX11_quarrels_34 : decode cX11_quarrels 34 = .ok (.getfield 135, 3) := by decide +kernel
theorem dX11_quarrels_37 : decode cX11_quarrels 37 = .ok (.iload_n 3, 1) := by decide +kernel
theorem dX11_quarrels_38 : decode cX11_quarrels 38 = .ok (.baload, 1) := by decide +kernel
theorem dX11_quarrels_39 : decode cX11_quarrels 39 = .ok (.ifCond .eq 7, 3) := by decide +kernel
theorem dX11_quarrels_42 : decode cX11_quarrels 42 = .ok (.iconst 1, 1) := by decide +kernel
theorem dX11_quarrels_43 : decode cX11_quarrels 43 = .ok (.goto 4, 3) := by decide +kernel
theorem dX11_quarrels_46 : decode cX11_quarrels 46 = .ok (.iconst 0, 1) := by decide +kernel
theorem dX11_quarrels_47 : decode cX11_quarrels 47 = .ok (.istore_n 2, 1) := by decide +kernel
theorem dX11_quarrels_48 : decode cX11_quarrels 48 = .ok (.aload_n 0, 1) := by decide +kernel
theorem dX11_quarrels_49 : decode cX11_quarrels 49 = .ok (.getfield 307, 3) := by decide +kernel
theorem dX11_quarrels_52 : decode cX11_quarrels 52 = .ok (.ifCond .ne 36, 3) := by decide +kernel
theorem dX11_quarrels_55 : decode cX11_quarrels 55 = .ok (.aload_n 0, 1) := by decide +kernel
theorem dX11_quarrels_56 : decode cX11_quarrels 56 = .ok (.getfield 83, 3) := by decide +kernel
theorem dX11_quarrels_59 : decode cX11_quarrels 59 = .ok (.bipush 12, 2) := by decide +kernel
theorem dX11_quarrels_61 : decode cX11_quarrels 61 = .ok (.iload_n 1, 1) := by decide +kernel
theorem dX11_quarrels_62 : decode cX11_quarrels 62 = .ok (.imul, 1) := by decide +kernel
theorem dX11_quarrels_63 : decode cX11_quarrels 63 = .ok (.iload_n 3, 1) := by decide +kernel
theorem dX11_quarrels_64 : decode cX11_quarrels 64 = .ok (.iadd, 1) := by decide +kernel
theorem dX11_quarrels_65 : decode cX11_quarrels 65 = .ok (.baload, 1) := by decide +kernel
theorem dX11_quarrels_66 : decode cX11_quarrels 66 = .ok (.ifCond .eq 22, 3) := by decide +kernel
theorem dX11_quarrels_69 : decode cX11_quarrels 69 = .ok (.aload_n 0, 1) := by decide +kernel
theorem dX11_quarrels_70 : decode cX11_quarrels 70 = .ok (.getfield 135, 3) := by decide +kernel
theorem dX11_quarrels_73 : decode cX11_quarrels 73 = .ok (.iload_n 3, 1) := by decide +kernel
theorem dX11_quarrels_74 : decode cX11_quarrels 74 = .ok (.baload, 1) := by decide +kernel
theorem dX11_quarrels_75 : decode cX11_quarrels 75 = .ok (.ifCond .ne 13, 3) := by decide +kernel
theorem dX11_quarrels_78 : decode cX11_quarrels 78 = .ok (.aload_n 0, 1) := by decide +kernel
theorem dX11_quarrels_79 : decode cX11_quarrels 79 = .ok (.iconst 1, 1) := by decide +kernel
theorem dX11_quarrels_80 : decode cX11_quarrels 80 = .ok (.putfield 307, 3) := by decide +kernel
theorem dX11_quarrels_83 : decode cX11_quarrels 83 = .ok (.aload_n 0, 1) := by decide +kernel
theorem dX11_quarrels_84 : decode cX11_quarrels 84 = .ok (.iload_n 3, 1) := by decide +kernel
theorem dX11_quarrels_85 : decode cX11_quarrels 85 = .ok (.putfield 310, 3) := by decide +kernel
theorem dX11_quarrels_88 : decode cX11_quarrels 88 = .ok (.iinc 3 1, 3) := by decide +kernel
theorem dX11_quarrels_91 : decode cX11_quarrels 91 = .ok (.goto (-72), 3) := by decide +kernel
theorem dX11_quarrels_94 : decode cX11_quarrels 94 = .ok (.iconst 0, 1) := by decide +kernel
theorem dX11_quarrels_95 : decode cX11_quarrels 95 = .ok (.istore_n 3, 1) := by decide +kernel
theorem dX11_quarrels_96 : decode cX11_quarrels 96 = .ok (.iload_n 3, 1) := by decide +kernel
theorem dX11_quarrels_97 : decode cX11_quarrels 97 = .ok (.aload_n 0, 1) := by decide +kernel
theorem dX11_quarrels_98 : decode cX11_quarrels 98 = .ok (.getfield 74, 3) := by decide +kernel
theorem dX11_quarrels_101 : decode cX11_quarrels 101 = .ok (.iload_n 1, 1) := by decide +kernel
theorem dX11_quarrels_102 : decode cX11_quarrels 102 = .ok (.iaload, 1) := by decide +kernel
theorem dX11_quarrels_103 : decode cX11_quarrels 103 = .ok (.if_icmp .ge 22, 3) := by decide +kernel
theorem dX11_quarrels_106 : decode cX11_quarrels 106 = .ok (.aload_n 0, 1) := by decide +kernel
theorem dX11_quarrels_107 : decode cX11_quarrels 107 = .ok (.getfield 307, 3) := by decide +kernel
theorem dX11_quarrels_110 : decode cX11_quarrels 110 = .ok (.ifCond .ne 15, 3) := by decide +kernel
theorem dX11_quarrels_113 : decode cX11_quarrels 113 = .ok (.aload_n 0, 1) := by decide +kernel
theorem dX11_quarrels_114 : decode cX11_quarrels 114 = .ok (.iload_n 1, 1) := by decide +kernel
theorem dX11_quarrels_115 : decode cX11_quarrels 115 = .ok (.iload_n 3, 1) := by decide +kernel
theorem dX11_quarrels_116 : decode cX11_quarrels 116 = .ok (.invokevirtual 316, 3) := by decide +kernel
theorem dX11_quarrels_119 : decode cX11_quarrels 119 = .ok (.iinc 3 1, 3) := by decide +kernel
theorem dX11_quarrels_122 : decode cX11_quarrels 122 = .ok (.goto (-26), 3) := by decide +kernel
theorem dX11_quarrels_125 : decode cX11_quarrels 125 = .ok (.iconst 0, 1) := by decide +kernel
theorem dX11_quarrels_126 : decode cX11_quarrels 126 = .ok (.istore_n 3, 1) := by decide +kernel
theorem dX11_quarrels_127 : decode cX11_quarrels 127 = .ok (.iload_n 3, 1) := by decide +kernel
theorem dX11_quarrels_128 : decode cX11_quarrels 128 = .ok (.aload_n 0, 1) := by decide +kernel
theorem dX11_quarrels_129 : decode cX11_quarrels 129 = .ok (.getfield 74, 3) := by decide +kernel
theorem dX11_quarrels_132 : decode cX11_quarrels 132 = .ok (.iload_n 1, 1) := by decide +kernel
theorem dX11_quarrels_133 : decode cX11_quarrels 133 = .ok (.iaload, 1) := by decide +kernel
theorem dX11_quarrels_134 : decode cX11_quarrels 134 = .ok (.if_icmp .ge 22, 3) := by decide +kernel
theorem dX11_quarrels_137 : decode cX11_quarrels 137 = .ok (.aload_n 0, 1) := by decide +kernel
theorem dX11_quarrels_138 : decode cX11_quarrels 138 = .ok (.getfield 307, 3) := by decide +kernel
theorem dX11_quarrels_141 : decode cX11_quarrels 141 = .ok (.ifCond .ne 15, 3) := by decide +kernel
theorem dX11_quarrels_144 : decode cX11_quarrels 144 = .ok (.aload_n 0, 1) := by decide +kernel
theorem dX11_quarrels_145 : decode cX11_quarrels 145 = .ok (.iload_n 1, 1) := by decide +kernel
theorem dX11_quarrels_146 : decode cX11_quarrels 146 = .ok (.iload_n 3, 1) := by decide +kernel
theorem dX11_quarrels_147 : decode cX11_quarrels 147 = .ok (.invokevirtual 319, 3) := by decide +kernel
theorem dX11_quarrels_150 : decode cX11_quarrels 150 = .ok (.iinc 3 1, 3) := by decide +kernel
theorem dX11_quarrels_153 : decode cX11_quarrels 153 = .ok (.goto (-26), 3) := by decide +kernel
theorem dX11_quarrels_156 : decode cX11_quarrels 156 = .ok (.aload_n 0, 1) := by decide +kernel
theorem dX11_quarrels_157 : decode cX11_quarrels 157 = .ok (.aload_n 0, 1) := by decide +kernel
theorem dX11_quarrels_158 : decode cX11_quarrels 158 = .ok (.getfield 307, 3) := by decide +kernel
theorem dX11_quarrels_161 : decode cX11_quarrels 161 = .ok (.ifCond .ne 11, 3) := by decide +kernel
theorem dX11_quarrels_164 : decode cX11_quarrels 164 = .ok (.iload_n 2, 1) := by decide +kernel
theorem dX11_quarrels_165 : decode cX11_quarrels 165 = .ok (.ifCond .ne 7, 3) := by decide +kernel
theorem dX11_quarrels_168 : decode cX11_quarrels 168 = .ok (.iconst 4, 1) := by decide +kernel
theorem dX11_quarrels_169 : decode cX11_quarrels 169 = .ok (.goto 7, 3) := by decide +kernel
theorem dX11_quarrels_172 : decode cX11_quarrels 172 = .ok (.aload_n 0, 1) := by decide +kernel
theorem dX11_quarrels_173 : decode cX11_quarrels 173 = .ok (.getfield 307, 3) := by decide +kernel
theorem dX11_quarrels_176 : decode cX11_quarrels 176 = .ok (.putfield 307, 3) := by decide +kernel
theorem dX11_quarrels_179 : decode cX11_quarrels 179 = .ok (.return_, 1) := by decide +kernel
theorem dX11_barsOf_0 : decode cX11_barsOf 0 = .ok (.bipush 12, 2) := by decide +kernel
theorem dX11_barsOf_2 : decode cX11_barsOf 2 = .ok (.iload_n 1, 1) := by decide +kernel
theorem dX11_barsOf_3 : decode cX11_barsOf 3 = .ok (.imul, 1) := by decide +kernel
theorem dX11_barsOf_4 : decode cX11_barsOf 4 = .ok (.iload_n 2, 1) := by decide +kernel
theorem dX11_barsOf_5 : decode cX11_barsOf 5 = .ok (.iadd, 1) := by decide +kernel
theorem dX11_barsOf_6 : decode cX11_barsOf 6 = .ok (.istore_n 3, 1) := by decide +kernel
theorem dX11_barsOf_7 : decode cX11_barsOf 7 = .ok (.bipush 8, 2) := by decide +kernel
theorem dX11_barsOf_9 : decode cX11_barsOf 9 = .ok (.iload_n 3, 1) := by decide +kernel
theorem dX11_barsOf_10 : decode cX11_barsOf 10 = .ok (.imul, 1) := by decide +kernel
theorem dX11_barsOf_11 : decode cX11_barsOf 11 = .ok (.istore 4, 2) := by decide +kernel
theorem dX11_barsOf_13 : decode cX11_barsOf 13 = .ok (.iload 4, 2) := by decide +kernel
theorem dX11_barsOf_15 : decode cX11_barsOf 15 = .ok (.bipush 8, 2) := by decide +kernel
theorem dX11_barsOf_17 : decode cX11_barsOf 17 = .ok (.iload_n 3, 1) := by decide +kernel
theorem dX11_barsOf_18 : decode cX11_barsOf 18 = .ok (.imul, 1) := by decide +kernel
theorem dX11_barsOf_19 : decode cX11_barsOf 19 = .ok (.aload_n 0, 1) := by decide +kernel
theorem dX11_barsOf_20 : decode cX11_barsOf 20 = .ok (.getfield 90, 3) := by decide +kernel
theorem dX11_barsOf_23 : decode cX11_barsOf 23 = .ok (.iload_n 3, 1) := by decide +kernel
theorem dX11_barsOf_24 : decode cX11_barsOf 24 = .ok (.iaload, 1) := by decide +kernel
theorem dX11_barsOf_25 : decode cX11_barsOf 25 = .ok (.iadd, 1) := by decide +kernel
theorem dX11_barsOf_26 : decode cX11_barsOf 26 = .ok (.if_icmp .ge 82, 3) := by decide +kernel
theorem dX11_barsOf_29 : decode cX11_barsOf 29 = .ok (.aload_n 0, 1) := by decide +kernel
theorem dX11_barsOf_30 : decode cX11_barsOf 30 = .ok (.getfield 135, 3) := by decide +kernel
theorem dX11_barsOf_33 : decode cX11_barsOf 33 = .ok (.iload_n 2, 1) := by decide +kernel
theorem dX11_barsOf_34 : decode cX11_barsOf 34 = .ok (.baload, 1) := by decide +kernel
theorem dX11_barsOf_35 : decode cX11_barsOf 35 = .ok (.ifCond .eq 73, 3) := by decide +kernel
theorem dX11_barsOf_38 : decode cX11_barsOf 38 = .ok (.aload_n 0, 1) := by decide +kernel
theorem dX11_barsOf_39 : decode cX11_barsOf 39 = .ok (.getfield 307, 3) := by decide +kernel
theorem dX11_barsOf_42 : decode cX11_barsOf 42 = .ok (.ifCond .ne 66, 3) := by decide +kernel
theorem dX11_barsOf_45 : decode cX11_barsOf 45 = .ok (.aload_n 0, 1) := by decide +kernel
theorem dX11_barsOf_46 : decode cX11_barsOf 46 = .ok (.getfield 96, 3) := by decide +kernel
theorem dX11_barsOf_49 : decode cX11_barsOf 49 = .ok (.iload 4, 2) := by decide +kernel
theorem dX11_barsOf_51 : decode cX11_barsOf 51 = .ok (.baload, 1) := by decide +kernel
theorem dX11_barsOf_52 : decode cX11_barsOf 52 = .ok (.ifCond .eq 50, 3) := by decide +kernel
theorem dX11_barsOf_55 : decode cX11_barsOf 55 = .ok (.aload_n 0, 1) := by decide +kernel
theorem dX11_barsOf_56 : decode cX11_barsOf 56 = .ok (.getfield 93, 3) := by decide +kernel
theorem dX11_barsOf_59 : decode cX11_barsOf 59 = .ok (.iload 4, 2) := by decide +kernel
theorem dX11_barsOf_61 : decode cX11_barsOf 61 = .ok (.iaload, 1) := by decide +kernel
theorem dX11_barsOf_62 : decode cX11_barsOf 62 = .ok (.iload_n 2, 1) := by decide +kernel
theorem dX11_barsOf_63 : decode cX11_barsOf 63 = .ok (.if_icmp .eq 39, 3) := by decide +kernel
theorem dX11_barsOf_66 : decode cX11_barsOf 66 = .ok (.aload_n 0, 1) := by decide +kernel
theorem dX11_barsOf_67 : decode cX11_barsOf 67 = .ok (.getfield 135, 3) := by decide +kernel
theorem dX11_barsOf_70 : decode cX11_barsOf 70 = .ok (.aload_n 0, 1) := by decide +kernel
theorem dX11_barsOf_71 : decode cX11_barsOf 71 = .ok (.getfield 93, 3) := by decide +kernel
theorem dX11_barsOf_74 : decode cX11_barsOf 74 = .ok (.iload 4, 2) := by decide +kernel
theorem dX11_barsOf_76 : decode cX11_barsOf 76 = .ok (.iaload, 1) := by decide +kernel
theorem dX11_barsOf_77 : decode cX11_barsOf 77 = .ok (.baload, 1) := by decide +kernel
theorem dX11_barsOf_78 : decode cX11_barsOf 78 = .ok (.ifCond .eq 24, 3) := by decide +kernel
theorem dX11_barsOf_81 : decode cX11_barsOf 81 = .ok (.aload_n 0, 1) := by decide +kernel
theorem dX11_barsOf_82 : decode cX11_barsOf 82 = .ok (.iconst 2, 1) := by decide +kernel
theorem dX11_barsOf_83 : decode cX11_barsOf 83 = .ok (.putfield 307, 3) := by decide +kernel
theorem dX11_barsOf_86 : decode cX11_barsOf 86 = .ok (.aload_n 0, 1) := by decide +kernel
theorem dX11_barsOf_87 : decode cX11_barsOf 87 = .ok (.iload_n 2, 1) := by decide +kernel
theorem dX11_barsOf_88 : decode cX11_barsOf 88 = .ok (.putfield 310, 3) := by decide +kernel
theorem dX11_barsOf_91 : decode cX11_barsOf 91 = .ok (.aload_n 0, 1) := by decide +kernel
theorem dX11_barsOf_92 : decode cX11_barsOf 92 = .ok (.aload_n 0, 1) := by decide +kernel
theorem dX11_barsOf_93 : decode cX11_barsOf 93 = .ok (.getfield 93, 3) := by decide +kernel
theorem dX11_barsOf_96 : decode cX11_barsOf 96 = .ok (.iload 4, 2) := by decide +kernel
theorem dX11_barsOf_98 : decode cX11_barsOf 98 = .ok (.iaload, 1) := by decide +kernel
theorem dX11_barsOf_99 : decode cX11_barsOf 99 = .ok (.putfield 313, 3) := by decide +kernel
theorem dX11_barsOf_102 : decode cX11_barsOf 102 = .ok (.iinc 4 1, 3) := by decide +kernel
theorem dX11_barsOf_105 : decode cX11_barsOf 105 = .ok (.goto (-92), 3) := by decide +kernel
theorem dX11_barsOf_108 : decode cX11_barsOf 108 = .ok (.return_, 1) := by decide +kernel
theorem dX11_refsOf_0 : decode cX11_refsOf 0 = .ok (.bipush 12, 2) := by decide +kernel
theorem dX11_refsOf_2 : decode cX11_refsOf 2 = .ok (.iload_n 1, 1) := by decide +kernel
theorem dX11_refsOf_3 : decode cX11_refsOf 3 = .ok (.imul, 1) := by decide +kernel
theorem dX11_refsOf_4 : decode cX11_refsOf 4 = .ok (.iload_n 2, 1) := by decide +kernel
theorem dX11_refsOf_5 : decode cX11_refsOf 5 = .ok (.iadd, 1) := by decide +kernel
theorem dX11_refsOf_6 : decode cX11_refsOf 6 = .ok (.istore_n 3, 1) := by decide +kernel
theorem dX11_refsOf_7 : decode cX11_refsOf 7 = .ok (.bipush 20, 2) := by decide +kernel
theorem dX11_refsOf_9 : decode cX11_refsOf 9 = .ok (.iload_n 3, 1) := by decide +kernel
theorem dX11_refsOf_10 : decode cX11_refsOf 10 = .ok (.imul, 1) := by decide +kernel
theorem dX11_refsOf_11 : decode cX11_refsOf 11 = .ok (.istore 4, 2) := by decide +kernel
theorem dX11_refsOf_13 : decode cX11_refsOf 13 = .ok (.iload 4, 2) := by decide +kernel
theorem dX11_refsOf_15 : decode cX11_refsOf 15 = .ok (.bipush 20, 2) := by decide +kernel
theorem dX11_refsOf_17 : decode cX11_refsOf 17 = .ok (.iload_n 3, 1) := by decide +kernel
theorem dX11_refsOf_18 : decode cX11_refsOf 18 = .ok (.imul, 1) := by decide +kernel
theorem dX11_refsOf_19 : decode cX11_refsOf 19 = .ok (.aload_n 0, 1) := by decide +kernel
theorem dX11_refsOf_20 : decode cX11_refsOf 20 = .ok (.getfield 99, 3) := by decide +kernel
theorem dX11_refsOf_23 : decode cX11_refsOf 23 = .ok (.iload_n 3, 1) := by decide +kernel
theorem dX11_refsOf_24 : decode cX11_refsOf 24 = .ok (.iaload, 1) := by decide +kernel
theorem dX11_refsOf_25 : decode cX11_refsOf 25 = .ok (.iadd, 1) := by decide +kernel
theorem dX11_refsOf_26 : decode cX11_refsOf 26 = .ok (.if_icmp .ge 72, 3) := by decide +kernel
theorem dX11_refsOf_29 : decode cX11_refsOf 29 = .ok (.aload_n 0, 1) := by decide +kernel
theorem dX11_refsOf_30 : decode cX11_refsOf 30 = .ok (.getfield 135, 3) := by decide +kernel
theorem dX11_refsOf_33 : decode cX11_refsOf 33 = .ok (.iload_n 2, 1) := by decide +kernel
theorem dX11_refsOf_34 : decode cX11_refsOf 34 = .ok (.baload, 1) := by decide +kernel
theorem dX11_refsOf_35 : decode cX11_refsOf 35 = .ok (.ifCond .eq 63, 3) := by decide +kernel
theorem dX11_refsOf_38 : decode cX11_refsOf 38 = .ok (.aload_n 0, 1) := by decide +kernel
theorem dX11_refsOf_39 : decode cX11_refsOf 39 = .ok (.getfield 307, 3) := by decide +kernel
theorem dX11_refsOf_42 : decode cX11_refsOf 42 = .ok (.ifCond .ne 56, 3) := by decide +kernel
theorem dX11_refsOf_45 : decode cX11_refsOf 45 = .ok (.aload_n 0, 1) := by decide +kernel
theorem dX11_refsOf_46 : decode cX11_refsOf 46 = .ok (.getfield 102, 3) := by decide +kernel
theorem dX11_refsOf_49 : decode cX11_refsOf 49 = .ok (.iload 4, 2) := by decide +kernel
theorem dX11_refsOf_51 : decode cX11_refsOf 51 = .ok (.iaload, 1) := by decide +kernel
theorem dX11_refsOf_52 : decode cX11_refsOf 52 = .ok (.iconst 2, 1) := by decide +kernel
theorem dX11_refsOf_53 : decode cX11_refsOf 53 = .ok (.if_icmp .ne 39, 3) := by decide +kernel
theorem dX11_refsOf_56 : decode cX11_refsOf 56 = .ok (.aload_n 0, 1) := by decide +kernel
theorem dX11_refsOf_57 : decode cX11_refsOf 57 = .ok (.getfield 135, 3) := by decide +kernel
theorem dX11_refsOf_60 : decode cX11_refsOf 60 = .ok (.aload_n 0, 1) := by decide +kernel
theorem dX11_refsOf_61 : decode cX11_refsOf 61 = .ok (.getfield 105, 3) := by decide +kernel
theorem dX11_refsOf_64 : decode cX11_refsOf 64 = .ok (.iload 4, 2) := by decide +kernel
theorem dX11_refsOf_66 : decode cX11_refsOf 66 = .ok (.iaload, 1) := by decide +kernel
theorem dX11_refsOf_67 : decode cX11_refsOf 67 = .ok (.baload, 1) := by decide +kernel
theorem dX11_refsOf_68 : decode cX11_refsOf 68 = .ok (.ifCond .ne 24, 3) := by decide +kernel
theorem dX11_refsOf_71 : decode cX11_refsOf 71 = .ok (.aload_n 0, 1) := by decide +kernel
theorem dX11_refsOf_72 : decode cX11_refsOf 72 = .ok (.iconst 3, 1) := by decide +kernel
theorem dX11_refsOf_73 : decode cX11_refsOf 73 = .ok (.putfield 307, 3) := by decide +kernel
theorem dX11_refsOf_76 : decode cX11_refsOf 76 = .ok (.aload_n 0, 1) := by decide +kernel
theorem dX11_refsOf_77 : decode cX11_refsOf 77 = .ok (.iload_n 2, 1) := by decide +kernel
theorem dX11_refsOf_78 : decode cX11_refsOf 78 = .ok (.putfield 310, 3) := by decide +kernel
theorem dX11_refsOf_81 : decode cX11_refsOf 81 = .ok (.aload_n 0, 1) := by decide +kernel
theorem dX11_refsOf_82 : decode cX11_refsOf 82 = .ok (.aload_n 0, 1) := by decide +kernel
theorem dX11_refsOf_83 : decode cX11_refsOf 83 = .ok (.getfield 105, 3) := by decide +kernel
theorem dX11_refsOf_86 : decode cX11_refsOf 86 = .ok (.iload 4, 2) := by decide +kernel
theorem dX11_refsOf_88 : decode cX11_refsOf 88 = .ok (.iaload, 1) := by decide +kernel
theorem dX11_refsOf_89 : decode cX11_refsOf 89 = .ok (.putfield 313, 3) := by decide +kernel
theorem dX11_refsOf_92 : decode cX11_refsOf 92 = .ok (.iinc 4 1, 3) := by decide +kernel
theorem dX11_refsOf_95 : decode cX11_refsOf 95 = .ok (.goto (-82), 3) := by decide +kernel
theorem dX11_refsOf_98 : decode cX11_refsOf 98 = .ok (.return_, 1) := by decide +kernel
theorem dX11_orders_0 : decode cX11_orders 0 = .ok (.aload_n 0, 1) := by decide +kernel
theorem dX11_orders_1 : decode cX11_orders 1 = .ok (.iconst 0, 1) := by decide +kernel
theorem dX11_orders_2 : decode cX11_orders 2 = .ok (.putfield 322, 3) := by decide +kernel
theorem dX11_orders_5 : decode cX11_orders 5 = .ok (.iconst 0, 1) := by decide +kernel
theorem dX11_orders_6 : decode cX11_orders 6 = .ok (.istore_n 2, 1) := by decide +kernel
theorem dX11_orders_7 : decode cX11_orders 7 = .ok (.iload_n 2, 1) := by decide +kernel
theorem dX11_orders_8 : decode cX11_orders 8 = .ok (.bipush 100, 2) := by decide +kernel
theorem dX11_orders_10 : decode cX11_orders 10 = .ok (.if_icmp .ge 71, 3) := by decide +kernel
theorem dX11_orders_13 : decode cX11_orders 13 = .ok (.iconst 0, 1) := by decide +kernel
theorem dX11_orders_14 : decode cX11_orders 14 = .ok (.istore_n 3, 1) := by decide +kernel
theorem dX11_orders_15 : decode cX11_orders 15 = .ok (.iload_n 3, 1) := by decide +kernel
theorem dX11_orders_16 : decode cX11_orders 16 = .ok (.aload_n 0, 1) := by decide +kernel
theorem dX11_orders_17 : decode cX11_orders 17 = .ok (.getfield 74, 3) := by decide +kernel
theorem dX11_orders_20 : decode cX11_orders 20 = .ok (.iload_n 1, 1) := by decide +kernel
theorem dX11_orders_21 : decode cX11_orders 21 = .ok (.iaload, 1) := by decide +kernel
theorem dX11_orders_22 : decode cX11_orders 22 = .ok (.if_icmp .ge 53, 3) := by decide +kernel
theorem dX11_orders_25 : decode cX11_orders 25 = .ok (.aload_n 0, 1) := by decide +kernel
theorem dX11_orders_26 : decode cX11_orders 26 = .ok (.getfield 135, 3) := by decide +kernel
theorem dX11_orders_29 : decode cX11_orders 29 = .ok (.iload_n 3, 1) := by decide +kernel
theorem dX11_orders_30 : decode cX11_orders 30 = .ok (.baload, 1) := by decide +kernel
theorem dX11_orders_31 : decode cX11_orders 31 = .ok (.ifCond .eq 38, 3) := by decide +kernel
theorem dX11_orders_34 : decode cX11_orders 34 = .ok (.aload_n 0, 1) := by decide +kernel
theorem dX11_orders_35 : decode cX11_orders 35 = .ok (.getfield 80, 3) := by decide +kernel
theorem dX11_orders_38 : decode cX11_orders 38 = .ok (.bipush 12, 2) := by decide +kernel
theorem dX11_orders_40 : decode cX11_orders 40 = .ok (.iload_n 1, 1) := by decide +kernel
theorem dX11_orders_41 : decode cX11_orders 41 = .ok (.imul, 1) := by decide +kernel
theorem dX11_orders_42 : decode cX11_orders 42 = .ok (.iload_n 3, 1) := by decide +kernel
theorem dX11_orders_43 : decode cX11_orders 43 = .ok (.iadd, 1) := by decide +kernel
theorem dX11_orders_44 : decode cX11_orders 44 = .ok (.iaload, 1) := by decide +kernel
theorem dX11_orders_45 : decode cX11_orders 45 = .ok (.iload_n 2, 1) := by decide +kernel
theorem dX11_orders_46 : decode cX11_orders 46 = .ok (.if_icmp .ne 23, 3) := by decide +kernel
theorem dX11_orders_49 : decode cX11_orders 49 = .ok (.aload_n 0, 1) := by decide +kernel
theorem dX11_orders_50 : decode cX11_orders 50 = .ok (.getfield 138, 3) := by decide +kernel
theorem dX11_orders_53 : decode cX11_orders 53 = .ok (.aload_n 0, 1) := by decide +kernel
theorem dX11_orders_54 : decode cX11_orders 54 = .ok (.getfield 322, 3) := by decide +kernel
theorem dX11_orders_57 : decode cX11_orders 57 = .ok (.iload_n 3, 1) := by decide +kernel
theorem dX11_orders_58 : decode cX11_orders 58 = .ok (.iastore, 1) := by decide +kernel
theorem dX11_orders_59 : decode cX11_orders 59 = .ok (.aload_n 0, 1) := by decide +kernel
theorem dX11_orders_60 : decode cX11_orders 60 = .ok (.dup, 1) := by decide +kernel
theorem dX11_orders_61 : decode cX11_orders 61 = .ok (.getfield 322, 3) := by decide +kernel
theorem dX11_orders_64 : decode cX11_orders 64 = .ok (.iconst 1, 1) := by decide +kernel
end
section
theorem dX11_orders_65 : decode cX11_orders 65 = .ok (.iadd, 1) := by decide +kernel
theorem dX11_orders_66 : decode cX11_orders 66 = .ok (.putfield 322, 3) := by decide +kernel
theorem dX11_orders_69 : decode cX11_orders 69 = .ok (.iinc 3 1, 3) := by decide +kernel
theorem dX11_orders_72 : decode cX11_orders 72 = .ok (.goto (-57), 3) := by decide +kernel
theorem dX11_orders_75 : decode cX11_orders 75 = .ok (.iinc 2 1, 3) := by decide +kernel
theorem dX11_orders_78 : decode cX11_orders 78 = .ok (.goto (-71), 3) := by decide +kernel
theorem dX11_orders_81 : decode cX11_orders 81 = .ok (.return_, 1) := by decide +kernel
theorem dX11_partOf_0 : decode cX11_partOf 0 = .ok (.iconst 0, 1) := by decide +kernel
theorem dX11_partOf_1 : decode cX11_partOf 1 = .ok (.istore_n 2, 1) := by decide +kernel
theorem dX11_partOf_2 : decode cX11_partOf 2 = .ok (.aload_n 0, 1) := by decide +kernel
theorem dX11_partOf_3 : decode cX11_partOf 3 = .ok (.getfield 138, 3) := by decide +kernel
theorem dX11_partOf_6 : decode cX11_partOf 6 = .ok (.iload_n 2, 1) := by decide +kernel
theorem dX11_partOf_7 : decode cX11_partOf 7 = .ok (.iaload, 1) := by decide +kernel
theorem dX11_partOf_8 : decode cX11_partOf 8 = .ok (.iload_n 1, 1) := by decide +kernel
theorem dX11_partOf_9 : decode cX11_partOf 9 = .ok (.if_icmp .eq 9, 3) := by decide +kernel
theorem dX11_partOf_12 : decode cX11_partOf 12 = .ok (.iinc 2 1, 3) := by decide +kernel
theorem dX11_partOf_15 : decode cX11_partOf 15 = .ok (.goto (-13), 3) := by decide +kernel
theorem dX11_partOf_18 : decode cX11_partOf 18 = .ok (.iload_n 2, 1) := by decide +kernel
theorem dX11_partOf_19 : decode cX11_partOf 19 = .ok (.iconst 1, 1) := by decide +kernel
theorem dX11_partOf_20 : decode cX11_partOf 20 = .ok (.iadd, 1) := by decide +kernel
theorem dX11_partOf_21 : decode cX11_partOf 21 = .ok (.ireturn, 1) := by decide +kernel
theorem dX11_put_0 : decode cX11_put 0 = .ok (.aload_n 0, 1) := by decide +kernel
theorem dX11_put_1 : decode cX11_put 1 = .ok (.getfield 141, 3) := by decide +kernel
theorem dX11_put_4 : decode cX11_put 4 = .ok (.aload_n 0, 1) := by decide +kernel
theorem dX11_put_5 : decode cX11_put 5 = .ok (.getfield 325, 3) := by decide +kernel
theorem dX11_put_8 : decode cX11_put 8 = .ok (.iload_n 1, 1) := by decide +kernel
theorem dX11_put_9 : decode cX11_put 9 = .ok (.iastore, 1) := by decide +kernel
theorem dX11_put_10 : decode cX11_put 10 = .ok (.aload_n 0, 1) := by decide +kernel
theorem dX11_put_11 : decode cX11_put 11 = .ok (.dup, 1) := by decide +kernel
theorem dX11_put_12 : decode cX11_put 12 = .ok (.getfield 325, 3) := by decide +kernel
theorem dX11_put_15 : decode cX11_put 15 = .ok (.iconst 1, 1) := by decide +kernel
theorem dX11_put_16 : decode cX11_put 16 = .ok (.iadd, 1) := by decide +kernel
theorem dX11_put_17 : decode cX11_put 17 = .ok (.putfield 325, 3) := by decide +kernel
theorem dX11_put_20 : decode cX11_put 20 = .ok (.return_, 1) := by decide +kernel
theorem dX11_blank_0 : decode cX11_blank 0 = .ok (.aload_n 0, 1) := by decide +kernel
theorem dX11_blank_1 : decode cX11_blank 1 = .ok (.getfield 325, 3) := by decide +kernel
theorem dX11_blank_4 : decode cX11_blank 4 = .ok (.ifCond .le 9, 3) := by decide +kernel
theorem dX11_blank_7 : decode cX11_blank 7 = .ok (.aload_n 0, 1) := by decide +kernel
theorem dX11_blank_8 : decode cX11_blank 8 = .ok (.bipush 32, 2) := by decide +kernel
theorem dX11_blank_10 : decode cX11_blank 10 = .ok (.invokevirtual 328, 3) := by decide +kernel
theorem dX11_blank_13 : decode cX11_blank 13 = .ok (.return_, 1) := by decide +kernel
theorem dX11_prints_0 : decode cX11_prints 0 = .ok (.aload_n 0, 1) := by decide +kernel
theorem dX11_prints_1 : decode cX11_prints 1 = .ok (.invokevirtual 331, 3) := by decide +kernel
theorem dX11_prints_4 : decode cX11_prints 4 = .ok (.iload_n 1, 1) := by decide +kernel
theorem dX11_prints_5 : decode cX11_prints 5 = .ok (.ifCond .ge 9, 3) := by decide +kernel
theorem dX11_prints_8 : decode cX11_prints 8 = .ok (.iload_n 1, 1) := by decide +kernel
theorem dX11_prints_9 : decode cX11_prints 9 = .ok (.i2l, 1) := by decide +kernel
theorem dX11_prints_10 : decode cX11_prints 10 = .ok (.lneg, 1) := by decide +kernel
theorem dX11_prints_11 : decode cX11_prints 11 = .ok (.goto 5, 3) := by decide +kernel
theorem dX11_prints_14 : decode cX11_prints 14 = .ok (.iload_n 1, 1) := by decide +kernel
theorem dX11_prints_15 : decode cX11_prints 15 = .ok (.i2l, 1) := by decide +kernel
theorem dX11_prints_16 : decode cX11_prints 16 = .ok (.lstore_n 2, 1) := by decide +kernel
theorem dX11_prints_17 : decode cX11_prints 17 = .ok (.iload_n 1, 1) := by decide +kernel
theorem dX11_prints_18 : decode cX11_prints 18 = .ok (.ifCond .ge 9, 3) := by decide +kernel
theorem dX11_prints_21 : decode cX11_prints 21 = .ok (.aload_n 0, 1) := by decide +kernel
theorem dX11_prints_22 : decode cX11_prints 22 = .ok (.bipush 45, 2) := by decide +kernel
theorem dX11_prints_24 : decode cX11_prints 24 = .ok (.invokevirtual 328, 3) := by decide +kernel
theorem dX11_prints_27 : decode cX11_prints 27 = .ok (.lconst 1, 1) := by decide +kernel
theorem dX11_prints_28 : decode cX11_prints 28 = .ok (.lstore 4, 2) := by decide +kernel
theorem dX11_prints_30 : decode cX11_prints 30 = .ok (.lload_n 2, 1) := by decide +kernel
theorem dX11_prints_31 : decode cX11_prints 31 = .ok (.lload 4, 2) := by decide +kernel
theorem dX11_prints_33 : decode cX11_prints 33 = .ok (.ldiv, 1) := by decide +kernel
theorem dX11_prints_34 : decode cX11_prints 34 = .ok (.ldc2_w 334, 3) := by decide +kernel
theorem dX11_prints_37 : decode cX11_prints 37 = .ok (.lcmp, 1) := by decide +kernel
theorem dX11_prints_38 : decode cX11_prints 38 = .ok (.ifCond .le 14, 3) := by decide +kernel
theorem dX11_prints_41 : decode cX11_prints 41 = .ok (.lload 4, 2) := by decide +kernel
theorem dX11_prints_43 : decode cX11_prints 43 = .ok (.ldc2_w 178, 3) := by decide +kernel
theorem dX11_prints_46 : decode cX11_prints 46 = .ok (.lmul, 1) := by decide +kernel
theorem dX11_prints_47 : decode cX11_prints 47 = .ok (.lstore 4, 2) := by decide +kernel
theorem dX11_prints_49 : decode cX11_prints 49 = .ok (.goto (-19), 3) := by decide +kernel
theorem dX11_prints_52 : decode cX11_prints 52 = .ok (.lload 4, 2) := by decide +kernel
theorem dX11_prints_54 : decode cX11_prints 54 = .ok (.lconst 0, 1) := by decide +kernel
theorem dX11_prints_55 : decode cX11_prints 55 = .ok (.lcmp, 1) := by decide +kernel
theorem dX11_prints_56 : decode cX11_prints 56 = .ok (.ifCond .le 31, 3) := by decide +kernel
theorem dX11_prints_59 : decode cX11_prints 59 = .ok (.aload_n 0, 1) := by decide +kernel
theorem dX11_prints_60 : decode cX11_prints 60 = .ok (.ldc2_w 180, 3) := by decide +kernel
theorem dX11_prints_63 : decode cX11_prints 63 = .ok (.lload_n 2, 1) := by decide +kernel
theorem dX11_prints_64 : decode cX11_prints 64 = .ok (.lload 4, 2) := by decide +kernel
theorem dX11_prints_66 : decode cX11_prints 66 = .ok (.ldiv, 1) := by decide +kernel
theorem dX11_prints_67 : decode cX11_prints 67 = .ok (.ldc2_w 178, 3) := by decide +kernel
theorem dX11_prints_70 : decode cX11_prints 70 = .ok (.lrem, 1) := by decide +kernel
theorem dX11_prints_71 : decode cX11_prints 71 = .ok (.ladd, 1) := by decide +kernel
theorem dX11_prints_72 : decode cX11_prints 72 = .ok (.l2i, 1) := by decide +kernel
theorem dX11_prints_73 : decode cX11_prints 73 = .ok (.invokevirtual 328, 3) := by decide +kernel
theorem dX11_prints_76 : decode cX11_prints 76 = .ok (.lload 4, 2) := by decide +kernel
theorem dX11_prints_78 : decode cX11_prints 78 = .ok (.ldc2_w 178, 3) := by decide +kernel
theorem dX11_prints_81 : decode cX11_prints 81 = .ok (.ldiv, 1) := by decide +kernel
theorem dX11_prints_82 : decode cX11_prints 82 = .ok (.lstore 4, 2) := by decide +kernel
theorem dX11_prints_84 : decode cX11_prints 84 = .ok (.goto (-32), 3) := by decide +kernel
theorem dX11_prints_87 : decode cX11_prints 87 = .ok (.return_, 1) := by decide +kernel
theorem dX11_printsWord_0 : decode cX11_printsWord 0 = .ok (.aload_n 0, 1) := by decide +kernel
theorem dX11_printsWord_1 : decode cX11_printsWord 1 = .ok (.invokevirtual 331, 3) := by decide +kernel
theorem dX11_printsWord_4 : decode cX11_printsWord 4 = .ok (.lconst 1, 1) := by decide +kernel
theorem dX11_printsWord_5 : decode cX11_printsWord 5 = .ok (.lstore_n 3, 1) := by decide +kernel
theorem dX11_printsWord_6 : decode cX11_printsWord 6 = .ok (.lload_n 1, 1) := by decide +kernel
theorem dX11_printsWord_7 : decode cX11_printsWord 7 = .ok (.lload_n 3, 1) := by decide +kernel
theorem dX11_printsWord_8 : decode cX11_printsWord 8 = .ok (.ldiv, 1) := by decide +kernel
theorem dX11_printsWord_9 : decode cX11_printsWord 9 = .ok (.ldc2_w 169, 3) := by decide +kernel
theorem dX11_printsWord_12 : decode cX11_printsWord 12 = .ok (.lcmp, 1) := by decide +kernel
theorem dX11_printsWord_13 : decode cX11_printsWord 13 = .ok (.ifCond .lt 12, 3) := by decide +kernel
theorem dX11_printsWord_16 : decode cX11_printsWord 16 = .ok (.lload_n 3, 1) := by decide +kernel
theorem dX11_printsWord_17 : decode cX11_printsWord 17 = .ok (.ldc2_w 169, 3) := by decide +kernel
theorem dX11_printsWord_20 : decode cX11_printsWord 20 = .ok (.lmul, 1) := by decide +kernel
theorem dX11_printsWord_21 : decode cX11_printsWord 21 = .ok (.lstore_n 3, 1) := by decide +kernel
theorem dX11_printsWord_22 : decode cX11_printsWord 22 = .ok (.goto (-16), 3) := by decide +kernel
theorem dX11_printsWord_25 : decode cX11_printsWord 25 = .ok (.lload_n 3, 1) := by decide +kernel
theorem dX11_printsWord_26 : decode cX11_printsWord 26 = .ok (.lconst 0, 1) := by decide +kernel
theorem dX11_printsWord_27 : decode cX11_printsWord 27 = .ok (.lcmp, 1) := by decide +kernel
theorem dX11_printsWord_28 : decode cX11_printsWord 28 = .ok (.ifCond .le 28, 3) := by decide +kernel
theorem dX11_printsWord_31 : decode cX11_printsWord 31 = .ok (.aload_n 0, 1) := by decide +kernel
theorem dX11_printsWord_32 : decode cX11_printsWord 32 = .ok (.ldc2_w 336, 3) := by decide +kernel
theorem dX11_printsWord_35 : decode cX11_printsWord 35 = .ok (.lload_n 1, 1) := by decide +kernel
theorem dX11_printsWord_36 : decode cX11_printsWord 36 = .ok (.lload_n 3, 1) := by decide +kernel
theorem dX11_printsWord_37 : decode cX11_printsWord 37 = .ok (.ldiv, 1) := by decide +kernel
theorem dX11_printsWord_38 : decode cX11_printsWord 38 = .ok (.ldc2_w 169, 3) := by decide +kernel
theorem dX11_printsWord_41 : decode cX11_printsWord 41 = .ok (.lrem, 1) := by decide +kernel
theorem dX11_printsWord_42 : decode cX11_printsWord 42 = .ok (.ladd, 1) := by decide +kernel
theorem dX11_printsWord_43 : decode cX11_printsWord 43 = .ok (.l2i, 1) := by decide +kernel
theorem dX11_printsWord_44 : decode cX11_printsWord 44 = .ok (.invokevirtual 328, 3) := by decide +kernel
theorem dX11_printsWord_47 : decode cX11_printsWord 47 = .ok (.lload_n 3, 1) := by decide +kernel
theorem dX11_printsWord_48 : decode cX11_printsWord 48 = .ok (.ldc2_w 169, 3) := by decide +kernel
theorem dX11_printsWord_51 : decode cX11_printsWord 51 = .ok (.ldiv, 1) := by decide +kernel
theorem dX11_printsWord_52 : decode cX11_printsWord 52 = .ok (.lstore_n 3, 1) := by decide +kernel
theorem dX11_printsWord_53 : decode cX11_printsWord 53 = .ok (.goto (-28), 3) := by decide +kernel
theorem dX11_printsWord_56 : decode cX11_printsWord 56 = .ok (.return_, 1) := by decide +kernel
theorem dX11_printsPart_0 : decode cX11_printsPart 0 = .ok (.aload_n 0, 1) := by decide +kernel
theorem dX11_printsPart_1 : decode cX11_printsPart 1 = .ok (.getfield 138, 3) := by decide +kernel
theorem dX11_printsPart_4 : decode cX11_printsPart 4 = .ok (.iload_n 2, 1) := by decide +kernel
theorem dX11_printsPart_5 : decode cX11_printsPart 5 = .ok (.iaload, 1) := by decide +kernel
theorem dX11_printsPart_6 : decode cX11_printsPart 6 = .ok (.istore 4, 2) := by decide +kernel
theorem dX11_printsPart_8 : decode cX11_printsPart 8 = .ok (.aload_n 0, 1) := by decide +kernel
theorem dX11_printsPart_9 : decode cX11_printsPart 9 = .ok (.iload_n 2, 1) := by decide +kernel
theorem dX11_printsPart_10 : decode cX11_printsPart 10 = .ok (.iconst 1, 1) := by decide +kernel
theorem dX11_printsPart_11 : decode cX11_printsPart 11 = .ok (.iadd, 1) := by decide +kernel
theorem dX11_printsPart_12 : decode cX11_printsPart 12 = .ok (.invokevirtual 338, 3) := by decide +kernel
theorem dX11_printsPart_15 : decode cX11_printsPart 15 = .ok (.bipush 20, 2) := by decide +kernel
theorem dX11_printsPart_17 : decode cX11_printsPart 17 = .ok (.bipush 12, 2) := by decide +kernel
theorem dX11_printsPart_19 : decode cX11_printsPart 19 = .ok (.iload_n 1, 1) := by decide +kernel
theorem dX11_printsPart_20 : decode cX11_printsPart 20 = .ok (.imul, 1) := by decide +kernel
theorem dX11_printsPart_21 : decode cX11_printsPart 21 = .ok (.iload 4, 2) := by decide +kernel
theorem dX11_printsPart_23 : decode cX11_printsPart 23 = .ok (.iadd, 1) := by decide +kernel
theorem dX11_printsPart_24 : decode cX11_printsPart 24 = .ok (.imul, 1) := by decide +kernel
theorem dX11_printsPart_25 : decode cX11_printsPart 25 = .ok (.istore 5, 2) := by decide +kernel
theorem dX11_printsPart_27 : decode cX11_printsPart 27 = .ok (.iload 5, 2) := by decide +kernel
theorem dX11_printsPart_29 : decode cX11_printsPart 29 = .ok (.bipush 20, 2) := by decide +kernel
theorem dX11_printsPart_31 : decode cX11_printsPart 31 = .ok (.bipush 12, 2) := by decide +kernel
theorem dX11_printsPart_33 : decode cX11_printsPart 33 = .ok (.iload_n 1, 1) := by decide +kernel
theorem dX11_printsPart_34 : decode cX11_printsPart 34 = .ok (.imul, 1) := by decide +kernel
theorem dX11_printsPart_35 : decode cX11_printsPart 35 = .ok (.iload 4, 2) := by decide +kernel
theorem dX11_printsPart_37 : decode cX11_printsPart 37 = .ok (.iadd, 1) := by decide +kernel
theorem dX11_printsPart_38 : decode cX11_printsPart 38 = .ok (.imul, 1) := by decide +kernel
theorem dX11_printsPart_39 : decode cX11_printsPart 39 = .ok (.aload_n 0, 1) := by decide +kernel
theorem dX11_printsPart_40 : decode cX11_printsPart 40 = .ok (.getfield 99, 3) := by decide +kernel
theorem dX11_printsPart_43 : decode cX11_printsPart 43 = .ok (.bipush 12, 2) := by decide +kernel
theorem dX11_printsPart_45 : decode cX11_printsPart 45 = .ok (.iload_n 1, 1) := by decide +kernel
theorem dX11_printsPart_46 : decode cX11_printsPart 46 = .ok (.imul, 1) := by decide +kernel
theorem dX11_printsPart_47 : decode cX11_printsPart 47 = .ok (.iload 4, 2) := by decide +kernel
theorem dX11_printsPart_49 : decode cX11_printsPart 49 = .ok (.iadd, 1) := by decide +kernel
theorem dX11_printsPart_50 : decode cX11_printsPart 50 = .ok (.iaload, 1) := by decide +kernel
theorem dX11_printsPart_51 : decode cX11_printsPart 51 = .ok (.iadd, 1) := by decide +kernel
theorem dX11_printsPart_52 : decode cX11_printsPart 52 = .ok (.if_icmp .ge 103, 3) := by decide +kernel
theorem dX11_printsPart_55 : decode cX11_printsPart 55 = .ok (.aload_n 0, 1) := by decide +kernel
theorem dX11_printsPart_56 : decode cX11_printsPart 56 = .ok (.getfield 102, 3) := by decide +kernel
theorem dX11_printsPart_59 : decode cX11_printsPart 59 = .ok (.iload 5, 2) := by decide +kernel
theorem dX11_printsPart_61 : decode cX11_printsPart 61 = .ok (.iaload, 1) := by decide +kernel
theorem dX11_printsPart_62 : decode cX11_printsPart 62 = .ok (.ifCond .ne 17, 3) := by decide +kernel
theorem dX11_printsPart_65 : decode cX11_printsPart 65 = .ok (.aload_n 0, 1) := by decide +kernel
theorem dX11_printsPart_66 : decode cX11_printsPart 66 = .ok (.aload_n 0, 1) := by decide +kernel
theorem dX11_printsPart_67 : decode cX11_printsPart 67 = .ok (.getfield 108, 3) := by decide +kernel
theorem dX11_printsPart_70 : decode cX11_printsPart 70 = .ok (.iload 5, 2) := by decide +kernel
theorem dX11_printsPart_72 : decode cX11_printsPart 72 = .ok (.laload, 1) := by decide +kernel
theorem dX11_printsPart_73 : decode cX11_printsPart 73 = .ok (.invokevirtual 341, 3) := by decide +kernel
theorem dX11_printsPart_76 : decode cX11_printsPart 76 = .ok (.goto 73, 3) := by decide +kernel
theorem dX11_printsPart_79 : decode cX11_printsPart 79 = .ok (.aload_n 0, 1) := by decide +kernel
theorem dX11_printsPart_80 : decode cX11_printsPart 80 = .ok (.getfield 102, 3) := by decide +kernel
theorem dX11_printsPart_83 : decode cX11_printsPart 83 = .ok (.iload 5, 2) := by decide +kernel
theorem dX11_printsPart_85 : decode cX11_printsPart 85 = .ok (.iaload, 1) := by decide +kernel
theorem dX11_printsPart_86 : decode cX11_printsPart 86 = .ok (.iconst 2, 1) := by decide +kernel
theorem dX11_printsPart_87 : decode cX11_printsPart 87 = .ok (.if_icmp .ne 21, 3) := by decide +kernel
theorem dX11_printsPart_90 : decode cX11_printsPart 90 = .ok (.aload_n 0, 1) := by decide +kernel
theorem dX11_printsPart_91 : decode cX11_printsPart 91 = .ok (.aload_n 0, 1) := by decide +kernel
theorem dX11_printsPart_92 : decode cX11_printsPart 92 = .ok (.aload_n 0, 1) := by decide +kernel
theorem dX11_printsPart_93 : decode cX11_printsPart 93 = .ok (.getfield 105, 3) := by decide +kernel
theorem dX11_printsPart_96 : decode cX11_printsPart 96 = .ok (.iload 5, 2) := by decide +kernel
theorem dX11_printsPart_98 : decode cX11_printsPart 98 = .ok (.iaload, 1) := by decide +kernel
theorem dX11_printsPart_99 : decode cX11_printsPart 99 = .ok (.invokevirtual 344, 3) := by decide +kernel
theorem dX11_printsPart_102 : decode cX11_printsPart 102 = .ok (.invokevirtual 338, 3) := by decide +kernel
theorem dX11_printsPart_105 : decode cX11_printsPart 105 = .ok (.goto 44, 3) := by decide +kernel
theorem dX11_printsPart_108 : decode cX11_printsPart 108 = .ok (.aload_n 0, 1) := by decide +kernel
theorem dX11_printsPart_109 : decode cX11_printsPart 109 = .ok (.iload_n 1, 1) := by decide +kernel
theorem dX11_printsPart_110 : decode cX11_printsPart 110 = .ok (.aload_n 0, 1) := by decide +kernel
theorem dX11_printsPart_111 : decode cX11_printsPart 111 = .ok (.getfield 105, 3) := by decide +kernel
theorem dX11_printsPart_114 : decode cX11_printsPart 114 = .ok (.iload 5, 2) := by decide +kernel
theorem dX11_printsPart_116 : decode cX11_printsPart 116 = .ok (.iaload, 1) := by decide +kernel
theorem dX11_printsPart_117 : decode cX11_printsPart 117 = .ok (.invokevirtual 304, 3) := by decide +kernel
theorem dX11_printsPart_120 : decode cX11_printsPart 120 = .ok (.istore 6, 2) := by decide +kernel
theorem dX11_printsPart_122 : decode cX11_printsPart 122 = .ok (.aload_n 0, 1) := by decide +kernel
theorem dX11_printsPart_123 : decode cX11_printsPart 123 = .ok (.aload_n 0, 1) := by decide +kernel
theorem dX11_printsPart_124 : decode cX11_printsPart 124 = .ok (.getfield 102, 3) := by decide +kernel
theorem dX11_printsPart_127 : decode cX11_printsPart 127 = .ok (.iload 5, 2) := by decide +kernel
theorem dX11_printsPart_129 : decode cX11_printsPart 129 = .ok (.iaload, 1) := by decide +kernel
theorem dX11_printsPart_130 : decode cX11_printsPart 130 = .ok (.iconst 1, 1) := by decide +kernel
theorem dX11_printsPart_131 : decode cX11_printsPart 131 = .ok (.if_icmp .ne 8, 3) := by decide +kernel
theorem dX11_printsPart_134 : decode cX11_printsPart 134 = .ok (.iload 6, 2) := by decide +kernel
theorem dX11_printsPart_136 : decode cX11_printsPart 136 = .ok (.goto 10, 3) := by decide +kernel
theorem dX11_printsPart_139 : decode cX11_printsPart 139 = .ok (.aload_n 0, 1) := by decide +kernel
theorem dX11_printsPart_140 : decode cX11_printsPart 140 = .ok (.iload_n 3, 1) := by decide +kernel
theorem dX11_printsPart_141 : decode cX11_printsPart 141 = .ok (.iload 6, 2) := by decide +kernel
theorem dX11_printsPart_143 : decode cX11_printsPart 143 = .ok (.invokevirtual 347, 3) := by decide +kernel
theorem dX11_printsPart_146 : decode cX11_printsPart 146 = .ok (.invokevirtual 338, 3) := by decide +kernel
theorem dX11_printsPart_149 : decode cX11_printsPart 149 = .ok (.iinc 5 1, 3) := by decide +kernel
theorem dX11_printsPart_152 : decode cX11_printsPart 152 = .ok (.goto (-125), 3) := by decide +kernel
theorem dX11_printsPart_155 : decode cX11_printsPart 155 = .ok (.return_, 1) := by decide +kernel
theorem dX11_makes_0 : decode cX11_makes 0 = .ok (.aload_n 0, 1) := by decide +kernel
theorem dX11_makes_1 : decode cX11_makes 1 = .ok (.iload_n 1, 1) := by decide +kernel
theorem dX11_makes_2 : decode cX11_makes 2 = .ok (.invokevirtual 350, 3) := by decide +kernel
theorem dX11_makes_5 : decode cX11_makes 5 = .ok (.aload_n 0, 1) := by decide +kernel
theorem dX11_makes_6 : decode cX11_makes 6 = .ok (.iload_n 1, 1) := by decide +kernel
theorem dX11_makes_7 : decode cX11_makes 7 = .ok (.invokevirtual 353, 3) := by decide +kernel
theorem dX11_makes_10 : decode cX11_makes 10 = .ok (.aload_n 0, 1) := by decide +kernel
theorem dX11_makes_11 : decode cX11_makes 11 = .ok (.iconst 0, 1) := by decide +kernel
theorem dX11_makes_12 : decode cX11_makes 12 = .ok (.putfield 325, 3) := by decide +kernel
theorem dX11_makes_15 : decode cX11_makes 15 = .ok (.aload_n 0, 1) := by decide +kernel
theorem dX11_makes_16 : decode cX11_makes 16 = .ok (.iconst 0, 1) := by decide +kernel
theorem dX11_makes_17 : decode cX11_makes 17 = .ok (.putfield 322, 3) := by decide +kernel
theorem dX11_makes_20 : decode cX11_makes 20 = .ok (.aload_n 0, 1) := by decide +kernel
theorem dX11_makes_21 : decode cX11_makes 21 = .ok (.getfield 307, 3) := by decide +kernel
theorem dX11_makes_24 : decode cX11_makes 24 = .ok (.ifCond .ne 31, 3) := by decide +kernel
theorem dX11_makes_27 : decode cX11_makes 27 = .ok (.aload_n 0, 1) := by decide +kernel
theorem dX11_makes_28 : decode cX11_makes 28 = .ok (.iload_n 1, 1) := by decide +kernel
theorem dX11_makes_29 : decode cX11_makes 29 = .ok (.invokevirtual 356, 3) := by decide +kernel
theorem dX11_makes_32 : decode cX11_makes 32 = .ok (.iconst 0, 1) := by decide +kernel
theorem dX11_makes_33 : decode cX11_makes 33 = .ok (.istore_n 3, 1) := by decide +kernel
theorem dX11_makes_34 : decode cX11_makes 34 = .ok (.iload_n 3, 1) := by decide +kernel
theorem dX11_makes_35 : decode cX11_makes 35 = .ok (.aload_n 0, 1) := by decide +kernel
theorem dX11_makes_36 : decode cX11_makes 36 = .ok (.getfield 322, 3) := by decide +kernel
theorem dX11_makes_39 : decode cX11_makes 39 = .ok (.if_icmp .ge 16, 3) := by decide +kernel
theorem dX11_makes_42 : decode cX11_makes 42 = .ok (.aload_n 0, 1) := by decide +kernel
theorem dX11_makes_43 : decode cX11_makes 43 = .ok (.iload_n 1, 1) := by decide +kernel
theorem dX11_makes_44 : decode cX11_makes 44 = .ok (.iload_n 3, 1) := by decide +kernel
theorem dX11_makes_45 : decode cX11_makes 45 = .ok (.iload_n 2, 1) := by decide +kernel
theorem dX11_makes_46 : decode cX11_makes 46 = .ok (.invokevirtual 359, 3) := by decide +kernel
theorem dX11_makes_49 : decode cX11_makes 49 = .ok (.iinc 3 1, 3) := by decide +kernel
theorem dX11_makes_52 : decode cX11_makes 52 = .ok (.goto (-18), 3) := by decide +kernel
theorem dX11_makes_55 : decode cX11_makes 55 = .ok (.return_, 1) := by decide +kernel
theorem dX11_make_0 : decode cX11_make 0 = .ok (.aload_n 0, 1) := by decide +kernel
theorem dX11_make_1 : decode cX11_make 1 = .ok (.iconst 0, 1) := by decide +kernel
theorem dX11_make_2 : decode cX11_make 2 = .ok (.putfield 1, 3) := by decide +kernel
theorem dX11_make_5 : decode cX11_make 5 = .ok (.aload_n 0, 1) := by decide +kernel
theorem dX11_make_6 : decode cX11_make 6 = .ok (.getfield 159, 3) := by decide +kernel
theorem dX11_make_9 : decode cX11_make 9 = .ok (.ifCond .lt 14, 3) := by decide +kernel
theorem dX11_make_12 : decode cX11_make 12 = .ok (.iload_n 1, 1) := by decide +kernel
theorem dX11_make_13 : decode cX11_make 13 = .ok (.ifCond .lt 10, 3) := by decide +kernel
theorem dX11_make_16 : decode cX11_make 16 = .ok (.iload_n 1, 1) := by decide +kernel
theorem dX11_make_17 : decode cX11_make 17 = .ok (.sipush 9999, 3) := by decide +kernel
theorem dX11_make_20 : decode cX11_make 20 = .ok (.if_icmp .le 5, 3) := by decide +kernel
theorem dX11_make_23 : decode cX11_make 23 = .ok (.iconst (-1), 1) := by decide +kernel
theorem dX11_make_24 : decode cX11_make 24 = .ok (.ireturn, 1) := by decide +kernel
theorem dX11_make_25 : decode cX11_make 25 = .ok (.aload_n 0, 1) := by decide +kernel
theorem dX11_make_26 : decode cX11_make 26 = .ok (.iload_n 1, 1) := by decide +kernel
theorem dX11_make_27 : decode cX11_make 27 = .ok (.invokevirtual 363, 3) := by decide +kernel
theorem dX11_make_30 : decode cX11_make 30 = .ok (.aload_n 0, 1) := by decide +kernel
theorem dX11_make_31 : decode cX11_make 31 = .ok (.aload_n 0, 1) := by decide +kernel
theorem dX11_make_32 : decode cX11_make 32 = .ok (.getfield 159, 3) := by decide +kernel
theorem dX11_make_35 : decode cX11_make 35 = .ok (.iload_n 1, 1) := by decide +kernel
theorem dX11_make_36 : decode cX11_make 36 = .ok (.invokevirtual 366, 3) := by decide +kernel
theorem dX11_make_39 : decode cX11_make 39 = .ok (.aload_n 0, 1) := by decide +kernel
theorem dX11_make_40 : decode cX11_make 40 = .ok (.aload_n 0, 1) := by decide +kernel
theorem dX11_make_41 : decode cX11_make 41 = .ok (.getfield 307, 3) := by decide +kernel
theorem dX11_make_44 : decode cX11_make 44 = .ok (.putfield 156, 3) := by decide +kernel
theorem dX11_make_47 : decode cX11_make 47 = .ok (.aload_n 0, 1) := by decide +kernel
theorem dX11_make_48 : decode cX11_make 48 = .ok (.aload_n 0, 1) := by decide +kernel
theorem dX11_make_49 : decode cX11_make 49 = .ok (.getfield 310, 3) := by decide +kernel
theorem dX11_make_52 : decode cX11_make 52 = .ok (.putfield 369, 3) := by decide +kernel
theorem dX11_make_55 : decode cX11_make 55 = .ok (.aload_n 0, 1) := by decide +kernel
theorem dX11_make_56 : decode cX11_make 56 = .ok (.aload_n 0, 1) := by decide +kernel
theorem dX11_make_57 : decode cX11_make 57 = .ok (.getfield 313, 3) := by decide +kernel
theorem dX11_make_60 : decode cX11_make 60 = .ok (.putfield 372, 3) := by decide +kernel
theorem dX11_make_63 : decode cX11_make 63 = .ok (.aload_n 0, 1) := by decide +kernel
theorem dX11_make_64 : decode cX11_make 64 = .ok (.aload_n 0, 1) := by decide +kernel
theorem dX11_make_65 : decode cX11_make 65 = .ok (.getfield 325, 3) := by decide +kernel
theorem dX11_make_68 : decode cX11_make 68 = .ok (.putfield 375, 3) := by decide +kernel
theorem dX11_make_71 : decode cX11_make 71 = .ok (.aload_n 0, 1) := by decide +kernel
theorem dX11_make_72 : decode cX11_make 72 = .ok (.aload_n 0, 1) := by decide +kernel
theorem dX11_make_73 : decode cX11_make 73 = .ok (.getfield 322, 3) := by decide +kernel
theorem dX11_make_76 : decode cX11_make 76 = .ok (.putfield 378, 3) := by decide +kernel
theorem dX11_make_79 : decode cX11_make 79 = .ok (.iconst 0, 1) := by decide +kernel
theorem dX11_make_80 : decode cX11_make 80 = .ok (.istore_n 2, 1) := by decide +kernel
theorem dX11_make_81 : decode cX11_make 81 = .ok (.iload_n 2, 1) := by decide +kernel
theorem dX11_make_82 : decode cX11_make 82 = .ok (.aload_n 0, 1) := by decide +kernel
theorem dX11_make_83 : decode cX11_make 83 = .ok (.getfield 325, 3) := by decide +kernel
theorem dX11_make_86 : decode cX11_make 86 = .ok (.if_icmp .ge 21, 3) := by decide +kernel
theorem dX11_make_89 : decode cX11_make 89 = .ok (.aload_n 0, 1) := by decide +kernel
theorem dX11_make_90 : decode cX11_make 90 = .ok (.getfield 144, 3) := by decide +kernel
theorem dX11_make_93 : decode cX11_make 93 = .ok (.iload_n 2, 1) := by decide +kernel
theorem dX11_make_94 : decode cX11_make 94 = .ok (.aload_n 0, 1) := by decide +kernel
theorem dX11_make_95 : decode cX11_make 95 = .ok (.getfield 141, 3) := by decide +kernel
theorem dX11_make_98 : decode cX11_make 98 = .ok (.iload_n 2, 1) := by decide +kernel
theorem dX11_make_99 : decode cX11_make 99 = .ok (.iaload, 1) := by decide +kernel
theorem dX11_make_100 : decode cX11_make 100 = .ok (.iastore, 1) := by decide +kernel
theorem dX11_make_101 : decode cX11_make 101 = .ok (.iinc 2 1, 3) := by decide +kernel
theorem dX11_make_104 : decode cX11_make 104 = .ok (.goto (-23), 3) := by decide +kernel
theorem dX11_make_107 : decode cX11_make 107 = .ok (.iconst 0, 1) := by decide +kernel
theorem dX11_make_108 : decode cX11_make 108 = .ok (.istore_n 2, 1) := by decide +kernel
theorem dX11_make_109 : decode cX11_make 109 = .ok (.iload_n 2, 1) := by decide +kernel
theorem dX11_make_110 : decode cX11_make 110 = .ok (.aload_n 0, 1) := by decide +kernel
theorem dX11_make_111 : decode cX11_make 111 = .ok (.getfield 322, 3) := by decide +kernel
theorem dX11_make_114 : decode cX11_make 114 = .ok (.if_icmp .ge 21, 3) := by decide +kernel
theorem dX11_make_117 : decode cX11_make 117 = .ok (.aload_n 0, 1) := by decide +kernel
theorem dX11_make_118 : decode cX11_make 118 = .ok (.getfield 147, 3) := by decide +kernel
theorem dX11_make_121 : decode cX11_make 121 = .ok (.iload_n 2, 1) := by decide +kernel
theorem dX11_make_122 : decode cX11_make 122 = .ok (.aload_n 0, 1) := by decide +kernel
theorem dX11_make_123 : decode cX11_make 123 = .ok (.getfield 138, 3) := by decide +kernel
theorem dX11_make_126 : decode cX11_make 126 = .ok (.iload_n 2, 1) := by decide +kernel
theorem dX11_make_127 : decode cX11_make 127 = .ok (.iaload, 1) := by decide +kernel
theorem dX11_make_128 : decode cX11_make 128 = .ok (.iastore, 1) := by decide +kernel
theorem dX11_make_129 : decode cX11_make 129 = .ok (.iinc 2 1, 3) := by decide +kernel
theorem dX11_make_132 : decode cX11_make 132 = .ok (.goto (-23), 3) := by decide +kernel
theorem dX11_make_135 : decode cX11_make 135 = .ok (.aload_n 0, 1) := by decide +kernel
theorem dX11_make_136 : decode cX11_make 136 = .ok (.getfield 156, 3) := by decide +kernel
theorem dX11_make_139 : decode cX11_make 139 = .ok (.ireturn, 1) := by decide +kernel
theorem dX11_letter_0 : decode cX11_letter 0 = .ok (.aload_n 0, 1) := by decide +kernel
theorem dX11_letter_1 : decode cX11_letter 1 = .ok (.iconst 0, 1) := by decide +kernel
theorem dX11_letter_2 : decode cX11_letter 2 = .ok (.putfield 1, 3) := by decide +kernel
theorem dX11_letter_5 : decode cX11_letter 5 = .ok (.aload_n 0, 1) := by decide +kernel
theorem dX11_letter_6 : decode cX11_letter 6 = .ok (.getfield 156, 3) := by decide +kernel
theorem dX11_letter_9 : decode cX11_letter 9 = .ok (.ifCond .ge 5, 3) := by decide +kernel
theorem dX11_letter_12 : decode cX11_letter 12 = .ok (.iconst (-1), 1) := by decide +kernel
theorem dX11_letter_13 : decode cX11_letter 13 = .ok (.ireturn, 1) := by decide +kernel
theorem dX11_letter_14 : decode cX11_letter 14 = .ok (.iload_n 1, 1) := by decide +kernel
theorem dX11_letter_15 : decode cX11_letter 15 = .ok (.ifCond .ne 10, 3) := by decide +kernel
theorem dX11_letter_18 : decode cX11_letter 18 = .ok (.aload_n 0, 1) := by decide +kernel
theorem dX11_letter_19 : decode cX11_letter 19 = .ok (.getfield 375, 3) := by decide +kernel
theorem dX11_letter_22 : decode cX11_letter 22 = .ok (.goto 40, 3) := by decide +kernel
theorem dX11_letter_25 : decode cX11_letter 25 = .ok (.iload_n 1, 1) := by decide +kernel
theorem dX11_letter_26 : decode cX11_letter 26 = .ok (.iconst 1, 1) := by decide +kernel
theorem dX11_letter_27 : decode cX11_letter 27 = .ok (.if_icmp .ne 10, 3) := by decide +kernel
theorem dX11_letter_30 : decode cX11_letter 30 = .ok (.aload_n 0, 1) := by decide +kernel
theorem dX11_letter_31 : decode cX11_letter 31 = .ok (.getfield 378, 3) := by decide +kernel
theorem dX11_letter_34 : decode cX11_letter 34 = .ok (.goto 28, 3) := by decide +kernel
theorem dX11_letter_37 : decode cX11_letter 37 = .ok (.iload_n 1, 1) := by decide +kernel
theorem dX11_letter_38 : decode cX11_letter 38 = .ok (.iconst 2, 1) := by decide +kernel
theorem dX11_letter_39 : decode cX11_letter 39 = .ok (.if_icmp .ne 10, 3) := by decide +kernel
theorem dX11_letter_42 : decode cX11_letter 42 = .ok (.aload_n 0, 1) := by decide +kernel
theorem dX11_letter_43 : decode cX11_letter 43 = .ok (.getfield 369, 3) := by decide +kernel
theorem dX11_letter_46 : decode cX11_letter 46 = .ok (.goto 16, 3) := by decide +kernel
theorem dX11_letter_49 : decode cX11_letter 49 = .ok (.iload_n 1, 1) := by decide +kernel
theorem dX11_letter_50 : decode cX11_letter 50 = .ok (.iconst 3, 1) := by decide +kernel
theorem dX11_letter_51 : decode cX11_letter 51 = .ok (.if_icmp .ne 10, 3) := by decide +kernel
theorem dX11_letter_54 : decode cX11_letter 54 = .ok (.aload_n 0, 1) := by decide +kernel
theorem dX11_letter_55 : decode cX11_letter 55 = .ok (.getfield 372, 3) := by decide +kernel
theorem dX11_letter_58 : decode cX11_letter 58 = .ok (.goto 4, 3) := by decide +kernel
theorem dX11_letter_61 : decode cX11_letter 61 = .ok (.iconst (-1), 1) := by decide +kernel
theorem dX11_letter_62 : decode cX11_letter 62 = .ok (.ireturn, 1) := by decide +kernel
theorem dX11_out_0 : decode cX11_out 0 = .ok (.aload_n 0, 1) := by decide +kernel
theorem dX11_out_1 : decode cX11_out 1 = .ok (.iconst 0, 1) := by decide +kernel
theorem dX11_out_2 : decode cX11_out 2 = .ok (.putfield 1, 3) := by decide +kernel
theorem dX11_out_5 : decode cX11_out 5 = .ok (.aload_n 0, 1) := by decide +kernel
theorem dX11_out_6 : decode cX11_out 6 = .ok (.getfield 156, 3) := by decide +kernel
theorem dX11_out_9 : decode cX11_out 9 = .ok (.ifCond .lt 15, 3) := by decide +kernel
theorem dX11_out_12 : decode cX11_out 12 = .ok (.iload_n 1, 1) := by decide +kernel
theorem dX11_out_13 : decode cX11_out 13 = .ok (.ifCond .lt 11, 3) := by decide +kernel
theorem dX11_out_16 : decode cX11_out 16 = .ok (.iload_n 1, 1) := by decide +kernel
theorem dX11_out_17 : decode cX11_out 17 = .ok (.aload_n 0, 1) := by decide +kernel
theorem dX11_out_18 : decode cX11_out 18 = .ok (.getfield 375, 3) := by decide +kernel
theorem dX11_out_21 : decode cX11_out 21 = .ok (.if_icmp .lt 7, 3) := by decide +kernel
theorem dX11_out_24 : decode cX11_out 24 = .ok (.iconst (-1), 1) := by decide +kernel
theorem dX11_out_25 : decode cX11_out 25 = .ok (.goto 9, 3) := by decide +kernel
theorem dX11_out_28 : decode cX11_out 28 = .ok (.aload_n 0, 1) := by decide +kernel
theorem dX11_out_29 : decode cX11_out 29 = .ok (.getfield 144, 3) := by decide +kernel
theorem dX11_out_32 : decode cX11_out 32 = .ok (.iload_n 1, 1) := by decide +kernel
theorem dX11_out_33 : decode cX11_out 33 = .ok (.iaload, 1) := by decide +kernel
theorem dX11_out_34 : decode cX11_out 34 = .ok (.ireturn, 1) := by decide +kernel
theorem dX11_part__0 : decode cX11_part_ 0 = .ok (.aload_n 0, 1) := by decide +kernel
theorem dX11_part__1 : decode cX11_part_ 1 = .ok (.iconst 0, 1) := by decide +kernel
theorem dX11_part__2 : decode cX11_part_ 2 = .ok (.putfield 1, 3) := by decide +kernel
theorem dX11_part__5 : decode cX11_part_ 5 = .ok (.aload_n 0, 1) := by decide +kernel
theorem dX11_part__6 : decode cX11_part_ 6 = .ok (.getfield 156, 3) := by decide +kernel
theorem dX11_part__9 : decode cX11_part_ 9 = .ok (.ifCond .lt 16, 3) := by decide +kernel
theorem dX11_part__12 : decode cX11_part_ 12 = .ok (.iload_n 1, 1) := by decide +kernel
theorem dX11_part__13 : decode cX11_part_ 13 = .ok (.iconst 1, 1) := by decide +kernel
theorem dX11_part__14 : decode cX11_part_ 14 = .ok (.if_icmp .lt 11, 3) := by decide +kernel
theorem dX11_part__17 : decode cX11_part_ 17 = .ok (.iload_n 1, 1) := by decide +kernel
theorem dX11_part__18 : decode cX11_part_ 18 = .ok (.aload_n 0, 1) := by decide +kernel
theorem dX11_part__19 : decode cX11_part_ 19 = .ok (.getfield 378, 3) := by decide +kernel
theorem dX11_part__22 : decode cX11_part_ 22 = .ok (.if_icmp .le 7, 3) := by decide +kernel
theorem dX11_part__25 : decode cX11_part_ 25 = .ok (.iconst (-1), 1) := by decide +kernel
theorem dX11_part__26 : decode cX11_part_ 26 = .ok (.goto 11, 3) := by decide +kernel
theorem dX11_part__29 : decode cX11_part_ 29 = .ok (.aload_n 0, 1) := by decide +kernel
theorem dX11_part__30 : decode cX11_part_ 30 = .ok (.getfield 147, 3) := by decide +kernel
theorem dX11_part__33 : decode cX11_part_ 33 = .ok (.iload_n 1, 1) := by decide +kernel
theorem dX11_part__34 : decode cX11_part_ 34 = .ok (.iconst 1, 1) := by decide +kernel
theorem dX11_part__35 : decode cX11_part_ 35 = .ok (.isub, 1) := by decide +kernel
theorem dX11_part__36 : decode cX11_part_ 36 = .ok (.iaload, 1) := by decide +kernel
theorem dX11_part__37 : decode cX11_part_ 37 = .ok (.ireturn, 1) := by decide +kernel
theorem dX11_keepsFacts_0 : decode cX11_keepsFacts 0 = .ok (.iconst 0, 1) := by decide +kernel
theorem dX11_keepsFacts_1 : decode cX11_keepsFacts 1 = .ok (.istore_n 2, 1) := by decide +kernel
theorem dX11_keepsFacts_2 : decode cX11_keepsFacts 2 = .ok (.iload_n 2, 1) := by decide +kernel
theorem dX11_keepsFacts_3 : decode cX11_keepsFacts 3 = .ok (.bipush 8, 2) := by decide +kernel
theorem dX11_keepsFacts_5 : decode cX11_keepsFacts 5 = .ok (.if_icmp .ge 40, 3) := by decide +kernel
theorem dX11_keepsFacts_8 : decode cX11_keepsFacts 8 = .ok (.iload_n 1, 1) := by decide +kernel
theorem dX11_keepsFacts_9 : decode cX11_keepsFacts 9 = .ok (.ifCond .eq 18, 3) := by decide +kernel
theorem dX11_keepsFacts_12 : decode cX11_keepsFacts 12 = .ok (.aload_n 0, 1) := by decide +kernel
theorem dX11_keepsFacts_13 : decode cX11_keepsFacts 13 = .ok (.getfield 123, 3) := by decide +kernel
theorem dX11_keepsFacts_16 : decode cX11_keepsFacts 16 = .ok (.iload_n 2, 1) := by decide +kernel
theorem dX11_keepsFacts_17 : decode cX11_keepsFacts 17 = .ok (.aload_n 0, 1) := by decide +kernel
theorem dX11_keepsFacts_18 : decode cX11_keepsFacts 18 = .ok (.getfield 150, 3) := by decide +kernel
theorem dX11_keepsFacts_21 : decode cX11_keepsFacts 21 = .ok (.iload_n 2, 1) := by decide +kernel
theorem dX11_keepsFacts_22 : decode cX11_keepsFacts 22 = .ok (.iaload, 1) := by decide +kernel
theorem dX11_keepsFacts_23 : decode cX11_keepsFacts 23 = .ok (.iastore, 1) := by decide +kernel
theorem dX11_keepsFacts_24 : decode cX11_keepsFacts 24 = .ok (.goto 15, 3) := by decide +kernel
theorem dX11_keepsFacts_27 : decode cX11_keepsFacts 27 = .ok (.aload_n 0, 1) := by decide +kernel
theorem dX11_keepsFacts_28 : decode cX11_keepsFacts 28 = .ok (.getfield 150, 3) := by decide +kernel
theorem dX11_keepsFacts_31 : decode cX11_keepsFacts 31 = .ok (.iload_n 2, 1) := by decide +kernel
theorem dX11_keepsFacts_32 : decode cX11_keepsFacts 32 = .ok (.aload_n 0, 1) := by decide +kernel
theorem dX11_keepsFacts_33 : decode cX11_keepsFacts 33 = .ok (.getfield 123, 3) := by decide +kernel
theorem dX11_keepsFacts_36 : decode cX11_keepsFacts 36 = .ok (.iload_n 2, 1) := by decide +kernel
theorem dX11_keepsFacts_37 : decode cX11_keepsFacts 37 = .ok (.iaload, 1) := by decide +kernel
theorem dX11_keepsFacts_38 : decode cX11_keepsFacts 38 = .ok (.iastore, 1) := by decide +kernel
theorem dX11_keepsFacts_39 : decode cX11_keepsFacts 39 = .ok (.iinc 2 1, 3) := by decide +kernel
theorem dX11_keepsFacts_42 : decode cX11_keepsFacts 42 = .ok (.goto (-40), 3) := by decide +kernel
theorem dX11_keepsFacts_45 : decode cX11_keepsFacts 45 = .ok (.return_, 1) := by decide +kernel
theorem dX11_judge_0 : decode cX11_judge 0 = .ok (.aload_n 0, 1) := by decide +kernel
theorem dX11_judge_1 : decode cX11_judge 1 = .ok (.iconst 0, 1) := by decide +kernel
theorem dX11_judge_2 : decode cX11_judge 2 = .ok (.putfield 1, 3) := by decide +kernel
theorem dX11_judge_5 : decode cX11_judge 5 = .ok (.aload_n 0, 1) := by decide +kernel
theorem dX11_judge_6 : decode cX11_judge 6 = .ok (.getfield 159, 3) := by decide +kernel
theorem dX11_judge_9 : decode cX11_judge 9 = .ok (.ifCond .lt 22, 3) := by decide +kernel
theorem dX11_judge_12 : decode cX11_judge 12 = .ok (.iload_n 1, 1) := by decide +kernel
theorem dX11_judge_13 : decode cX11_judge 13 = .ok (.iconst 1, 1) := by decide +kernel
theorem dX11_judge_14 : decode cX11_judge 14 = .ok (.if_icmp .lt 17, 3) := by decide +kernel
theorem dX11_judge_17 : decode cX11_judge 17 = .ok (.iload_n 1, 1) := by decide +kernel
theorem dX11_judge_18 : decode cX11_judge 18 = .ok (.iconst 4, 1) := by decide +kernel
theorem dX11_judge_19 : decode cX11_judge 19 = .ok (.if_icmp .gt 12, 3) := by decide +kernel
theorem dX11_judge_22 : decode cX11_judge 22 = .ok (.iload_n 2, 1) := by decide +kernel
theorem dX11_judge_23 : decode cX11_judge 23 = .ok (.ifCond .lt 8, 3) := by decide +kernel
theorem dX11_judge_26 : decode cX11_judge 26 = .ok (.iload_n 2, 1) := by decide +kernel
theorem dX11_judge_27 : decode cX11_judge 27 = .ok (.iconst 1, 1) := by decide +kernel
theorem dX11_judge_28 : decode cX11_judge 28 = .ok (.if_icmp .le 5, 3) := by decide +kernel
theorem dX11_judge_31 : decode cX11_judge 31 = .ok (.iconst (-1), 1) := by decide +kernel
theorem dX11_judge_32 : decode cX11_judge 32 = .ok (.ireturn, 1) := by decide +kernel
theorem dX11_judge_33 : decode cX11_judge 33 = .ok (.aload_n 0, 1) := by decide +kernel
theorem dX11_judge_34 : decode cX11_judge 34 = .ok (.iconst 0, 1) := by decide +kernel
theorem dX11_judge_35 : decode cX11_judge 35 = .ok (.invokevirtual 381, 3) := by decide +kernel
theorem dX11_judge_38 : decode cX11_judge 38 = .ok (.iconst 0, 1) := by decide +kernel
theorem dX11_judge_39 : decode cX11_judge 39 = .ok (.istore_n 3, 1) := by decide +kernel
theorem dX11_judge_40 : decode cX11_judge 40 = .ok (.iconst (-1), 1) := by decide +kernel
theorem dX11_judge_41 : decode cX11_judge 41 = .ok (.istore 4, 2) := by decide +kernel
theorem dX11_judge_43 : decode cX11_judge 43 = .ok (.iconst 0, 1) := by decide +kernel
theorem dX11_judge_44 : decode cX11_judge 44 = .ok (.istore 5, 2) := by decide +kernel
theorem dX11_judge_46 : decode cX11_judge 46 = .ok (.iload 5, 2) := by decide +kernel
theorem dX11_judge_48 : decode cX11_judge 48 = .ok (.i2l, 1) := by decide +kernel
theorem dX11_judge_49 : decode cX11_judge 49 = .ok (.aload_n 0, 1) := by decide +kernel
theorem dX11_judge_50 : decode cX11_judge 50 = .ok (.aload_n 0, 1) := by decide +kernel
theorem dX11_judge_51 : decode cX11_judge 51 = .ok (.getfield 159, 3) := by decide +kernel
theorem dX11_judge_54 : decode cX11_judge 54 = .ok (.invokevirtual 242, 3) := by decide +kernel
theorem dX11_judge_57 : decode cX11_judge 57 = .ok (.lcmp, 1) := by decide +kernel
theorem dX11_judge_58 : decode cX11_judge 58 = .ok (.ifCond .ge 60, 3) := by decide +kernel
theorem dX11_judge_61 : decode cX11_judge 61 = .ok (.aload_n 0, 1) := by decide +kernel
theorem dX11_judge_62 : decode cX11_judge 62 = .ok (.aload_n 0, 1) := by decide +kernel
theorem dX11_judge_63 : decode cX11_judge 63 = .ok (.getfield 159, 3) := by decide +kernel
theorem dX11_judge_66 : decode cX11_judge 66 = .ok (.iload 5, 2) := by decide +kernel
theorem dX11_judge_68 : decode cX11_judge 68 = .ok (.invokevirtual 289, 3) := by decide +kernel
theorem dX11_judge_71 : decode cX11_judge 71 = .ok (.aload_n 0, 1) := by decide +kernel
theorem dX11_judge_72 : decode cX11_judge 72 = .ok (.aload_n 0, 1) := by decide +kernel
theorem dX11_judge_73 : decode cX11_judge 73 = .ok (.getfield 159, 3) := by decide +kernel
theorem dX11_judge_76 : decode cX11_judge 76 = .ok (.invokevirtual 350, 3) := by decide +kernel
theorem dX11_judge_79 : decode cX11_judge 79 = .ok (.aload_n 0, 1) := by decide +kernel
theorem dX11_judge_80 : decode cX11_judge 80 = .ok (.aload_n 0, 1) := by decide +kernel
theorem dX11_judge_81 : decode cX11_judge 81 = .ok (.getfield 159, 3) := by decide +kernel
theorem dX11_judge_84 : decode cX11_judge 84 = .ok (.invokevirtual 353, 3) := by decide +kernel
theorem dX11_judge_87 : decode cX11_judge 87 = .ok (.aload_n 0, 1) := by decide +kernel
theorem dX11_judge_88 : decode cX11_judge 88 = .ok (.getfield 307, 3) := by decide +kernel
theorem dX11_judge_91 : decode cX11_judge 91 = .ok (.iload_n 1, 1) := by decide +kernel
theorem dX11_judge_92 : decode cX11_judge 92 = .ok (.if_icmp .ne 20, 3) := by decide +kernel
theorem dX11_judge_95 : decode cX11_judge 95 = .ok (.iinc 3 1, 3) := by decide +kernel
theorem dX11_judge_98 : decode cX11_judge 98 = .ok (.iload 4, 2) := by decide +kernel
theorem dX11_judge_100 : decode cX11_judge 100 = .ok (.ifCond .ge 8, 3) := by decide +kernel
theorem dX11_judge_103 : decode cX11_judge 103 = .ok (.iload 5, 2) := by decide +kernel
theorem dX11_judge_105 : decode cX11_judge 105 = .ok (.goto 5, 3) := by decide +kernel
theorem dX11_judge_108 : decode cX11_judge 108 = .ok (.iload 4, 2) := by decide +kernel
theorem dX11_judge_110 : decode cX11_judge 110 = .ok (.istore 4, 2) := by decide +kernel
theorem dX11_judge_112 : decode cX11_judge 112 = .ok (.iinc 5 1, 3) := by decide +kernel
theorem dX11_judge_115 : decode cX11_judge 115 = .ok (.goto (-69), 3) := by decide +kernel
theorem dX11_judge_118 : decode cX11_judge 118 = .ok (.aload_n 0, 1) := by decide +kernel
theorem dX11_judge_119 : decode cX11_judge 119 = .ok (.iconst 1, 1) := by decide +kernel
theorem dX11_judge_120 : decode cX11_judge 120 = .ok (.invokevirtual 381, 3) := by decide +kernel
theorem dX11_judge_123 : decode cX11_judge 123 = .ok (.iload_n 2, 1) := by decide +kernel
theorem dX11_judge_124 : decode cX11_judge 124 = .ok (.ifCond .ne 7, 3) := by decide +kernel
theorem dX11_judge_127 : decode cX11_judge 127 = .ok (.iload_n 3, 1) := by decide +kernel
theorem dX11_judge_128 : decode cX11_judge 128 = .ok (.goto 5, 3) := by decide +kernel
theorem dX11_judge_131 : decode cX11_judge 131 = .ok (.iload 4, 2) := by decide +kernel
theorem dX11_judge_133 : decode cX11_judge 133 = .ok (.ireturn, 1) := by decide +kernel
theorem dX11_haveSameFacts_0 : decode cX11_haveSameFacts 0 = .ok (.aload_n 0, 1) := by decide +kernel
theorem dX11_haveSameFacts_1 : decode cX11_haveSameFacts 1 = .ok (.getfield 62, 3) := by decide +kernel
theorem dX11_haveSameFacts_4 : decode cX11_haveSameFacts 4 = .ok (.iload_n 1, 1) := by decide +kernel
theorem dX11_haveSameFacts_5 : decode cX11_haveSameFacts 5 = .ok (.iaload, 1) := by decide +kernel
theorem dX11_haveSameFacts_6 : decode cX11_haveSameFacts 6 = .ok (.aload_n 0, 1) := by decide +kernel
theorem dX11_haveSameFacts_7 : decode cX11_haveSameFacts 7 = .ok (.getfield 62, 3) := by decide +kernel
theorem dX11_haveSameFacts_10 : decode cX11_haveSameFacts 10 = .ok (.iload_n 2, 1) := by decide +kernel
theorem dX11_haveSameFacts_11 : decode cX11_haveSameFacts 11 = .ok (.iaload, 1) := by decide +kernel
theorem dX11_haveSameFacts_12 : decode cX11_haveSameFacts 12 = .ok (.if_icmp .ne 7, 3) := by decide +kernel
theorem dX11_haveSameFacts_15 : decode cX11_haveSameFacts 15 = .ok (.iconst 1, 1) := by decide +kernel
theorem dX11_haveSameFacts_16 : decode cX11_haveSameFacts 16 = .ok (.goto 4, 3) := by decide +kernel
theorem dX11_haveSameFacts_19 : decode cX11_haveSameFacts 19 = .ok (.iconst 0, 1) := by decide +kernel
theorem dX11_haveSameFacts_20 : decode cX11_haveSameFacts 20 = .ok (.istore_n 3, 1) := by decide +kernel
theorem dX11_haveSameFacts_21 : decode cX11_haveSameFacts 21 = .ok (.iconst 0, 1) := by decide +kernel
theorem dX11_haveSameFacts_22 : decode cX11_haveSameFacts 22 = .ok (.istore 4, 2) := by decide +kernel
theorem dX11_haveSameFacts_24 : decode cX11_haveSameFacts 24 = .ok (.iload 4, 2) := by decide +kernel
theorem dX11_haveSameFacts_26 : decode cX11_haveSameFacts 26 = .ok (.aload_n 0, 1) := by decide +kernel
theorem dX11_haveSameFacts_27 : decode cX11_haveSameFacts 27 = .ok (.getfield 62, 3) := by decide +kernel
theorem dX11_haveSameFacts_30 : decode cX11_haveSameFacts 30 = .ok (.iload_n 1, 1) := by decide +kernel
theorem dX11_haveSameFacts_31 : decode cX11_haveSameFacts 31 = .ok (.iaload, 1) := by decide +kernel
theorem dX11_haveSameFacts_32 : decode cX11_haveSameFacts 32 = .ok (.if_icmp .ge 101, 3) := by decide +kernel
theorem dX11_haveSameFacts_35 : decode cX11_haveSameFacts 35 = .ok (.iload_n 3, 1) := by decide +kernel
theorem dX11_haveSameFacts_36 : decode cX11_haveSameFacts 36 = .ok (.ifCond .eq 97, 3) := by decide +kernel
theorem dX11_haveSameFacts_39 : decode cX11_haveSameFacts 39 = .ok (.aload_n 0, 1) := by decide +kernel
theorem dX11_haveSameFacts_40 : decode cX11_haveSameFacts 40 = .ok (.getfield 65, 3) := by decide +kernel
theorem dX11_haveSameFacts_43 : decode cX11_haveSameFacts 43 = .ok (.bipush 8, 2) := by decide +kernel
theorem dX11_haveSameFacts_45 : decode cX11_haveSameFacts 45 = .ok (.iload_n 1, 1) := by decide +kernel
theorem dX11_haveSameFacts_46 : decode cX11_haveSameFacts 46 = .ok (.imul, 1) := by decide +kernel
theorem dX11_haveSameFacts_47 : decode cX11_haveSameFacts 47 = .ok (.iload 4, 2) := by decide +kernel
theorem dX11_haveSameFacts_49 : decode cX11_haveSameFacts 49 = .ok (.iadd, 1) := by decide +kernel
theorem dX11_haveSameFacts_50 : decode cX11_haveSameFacts 50 = .ok (.laload, 1) := by decide +kernel
theorem dX11_haveSameFacts_51 : decode cX11_haveSameFacts 51 = .ok (.aload_n 0, 1) := by decide +kernel
theorem dX11_haveSameFacts_52 : decode cX11_haveSameFacts 52 = .ok (.getfield 65, 3) := by decide +kernel
theorem dX11_haveSameFacts_55 : decode cX11_haveSameFacts 55 = .ok (.bipush 8, 2) := by decide +kernel
theorem dX11_haveSameFacts_57 : decode cX11_haveSameFacts 57 = .ok (.iload_n 2, 1) := by decide +kernel
theorem dX11_haveSameFacts_58 : decode cX11_haveSameFacts 58 = .ok (.imul, 1) := by decide +kernel
theorem dX11_haveSameFacts_59 : decode cX11_haveSameFacts 59 = .ok (.iload 4, 2) := by decide +kernel
theorem dX11_haveSameFacts_61 : decode cX11_haveSameFacts 61 = .ok (.iadd, 1) := by decide +kernel
theorem dX11_haveSameFacts_62 : decode cX11_haveSameFacts 62 = .ok (.laload, 1) := by decide +kernel
theorem dX11_haveSameFacts_63 : decode cX11_haveSameFacts 63 = .ok (.lcmp, 1) := by decide +kernel
theorem dX11_haveSameFacts_64 : decode cX11_haveSameFacts 64 = .ok (.ifCond .ne 61, 3) := by decide +kernel
theorem dX11_haveSameFacts_67 : decode cX11_haveSameFacts 67 = .ok (.aload_n 0, 1) := by decide +kernel
theorem dX11_haveSameFacts_68 : decode cX11_haveSameFacts 68 = .ok (.getfield 68, 3) := by decide +kernel
theorem dX11_haveSameFacts_71 : decode cX11_haveSameFacts 71 = .ok (.bipush 8, 2) := by decide +kernel
theorem dX11_haveSameFacts_73 : decode cX11_haveSameFacts 73 = .ok (.iload_n 1, 1) := by decide +kernel
theorem dX11_haveSameFacts_74 : decode cX11_haveSameFacts 74 = .ok (.imul, 1) := by decide +kernel
theorem dX11_haveSameFacts_75 : decode cX11_haveSameFacts 75 = .ok (.iload 4, 2) := by decide +kernel
theorem dX11_haveSameFacts_77 : decode cX11_haveSameFacts 77 = .ok (.iadd, 1) := by decide +kernel
theorem dX11_haveSameFacts_78 : decode cX11_haveSameFacts 78 = .ok (.iaload, 1) := by decide +kernel
theorem dX11_haveSameFacts_79 : decode cX11_haveSameFacts 79 = .ok (.aload_n 0, 1) := by decide +kernel
theorem dX11_haveSameFacts_80 : decode cX11_haveSameFacts 80 = .ok (.getfield 68, 3) := by decide +kernel
theorem dX11_haveSameFacts_83 : decode cX11_haveSameFacts 83 = .ok (.bipush 8, 2) := by decide +kernel
theorem dX11_haveSameFacts_85 : decode cX11_haveSameFacts 85 = .ok (.iload_n 2, 1) := by decide +kernel
theorem dX11_haveSameFacts_86 : decode cX11_haveSameFacts 86 = .ok (.imul, 1) := by decide +kernel
theorem dX11_haveSameFacts_87 : decode cX11_haveSameFacts 87 = .ok (.iload 4, 2) := by decide +kernel
theorem dX11_haveSameFacts_89 : decode cX11_haveSameFacts 89 = .ok (.iadd, 1) := by decide +kernel
theorem dX11_haveSameFacts_90 : decode cX11_haveSameFacts 90 = .ok (.iaload, 1) := by decide +kernel
theorem dX11_haveSameFacts_91 : decode cX11_haveSameFacts 91 = .ok (.if_icmp .ne 34, 3) := by decide +kernel
theorem dX11_haveSameFacts_94 : decode cX11_haveSameFacts 94 = .ok (.aload_n 0, 1) := by decide +kernel
theorem dX11_haveSameFacts_95 : decode cX11_haveSameFacts 95 = .ok (.getfield 71, 3) := by decide +kernel
theorem dX11_haveSameFacts_98 : decode cX11_haveSameFacts 98 = .ok (.bipush 8, 2) := by decide +kernel
theorem dX11_haveSameFacts_100 : decode cX11_haveSameFacts 100 = .ok (.iload_n 1, 1) := by decide +kernel
theorem dX11_haveSameFacts_101 : decode cX11_haveSameFacts 101 = .ok (.imul, 1) := by decide +kernel
theorem dX11_haveSameFacts_102 : decode cX11_haveSameFacts 102 = .ok (.iload 4, 2) := by decide +kernel
theorem dX11_haveSameFacts_104 : decode cX11_haveSameFacts 104 = .ok (.iadd, 1) := by decide +kernel
theorem dX11_haveSameFacts_105 : decode cX11_haveSameFacts 105 = .ok (.iaload, 1) := by decide +kernel
theorem dX11_haveSameFacts_106 : decode cX11_haveSameFacts 106 = .ok (.aload_n 0, 1) := by decide +kernel
theorem dX11_haveSameFacts_107 : decode cX11_haveSameFacts 107 = .ok (.getfield 71, 3) := by decide +kernel
theorem dX11_haveSameFacts_110 : decode cX11_haveSameFacts 110 = .ok (.bipush 8, 2) := by decide +kernel
theorem dX11_haveSameFacts_112 : decode cX11_haveSameFacts 112 = .ok (.iload_n 2, 1) := by decide +kernel
theorem dX11_haveSameFacts_113 : decode cX11_haveSameFacts 113 = .ok (.imul, 1) := by decide +kernel
theorem dX11_haveSameFacts_114 : decode cX11_haveSameFacts 114 = .ok (.iload 4, 2) := by decide +kernel
theorem dX11_haveSameFacts_116 : decode cX11_haveSameFacts 116 = .ok (.iadd, 1) := by decide +kernel
theorem dX11_haveSameFacts_117 : decode cX11_haveSameFacts 117 = .ok (.iaload, 1) := by decide +kernel
theorem dX11_haveSameFacts_118 : decode cX11_haveSameFacts 118 = .ok (.if_icmp .ne 7, 3) := by decide +kernel
theorem dX11_haveSameFacts_121 : decode cX11_haveSameFacts 121 = .ok (.iconst 1, 1) := by decide +kernel
theorem dX11_haveSameFacts_122 : decode cX11_haveSameFacts 122 = .ok (.goto 4, 3) := by decide +kernel
theorem dX11_haveSameFacts_125 : decode cX11_haveSameFacts 125 = .ok (.iconst 0, 1) := by decide +kernel
theorem dX11_haveSameFacts_126 : decode cX11_haveSameFacts 126 = .ok (.istore_n 3, 1) := by decide +kernel
theorem dX11_haveSameFacts_127 : decode cX11_haveSameFacts 127 = .ok (.iinc 4 1, 3) := by decide +kernel
theorem dX11_haveSameFacts_130 : decode cX11_haveSameFacts 130 = .ok (.goto (-106), 3) := by decide +kernel
theorem dX11_haveSameFacts_133 : decode cX11_haveSameFacts 133 = .ok (.iload_n 3, 1) := by decide +kernel
theorem dX11_haveSameFacts_134 : decode cX11_haveSameFacts 134 = .ok (.ireturn, 1) := by decide +kernel
theorem dX11_areAlike_0 : decode cX11_areAlike 0 = .ok (.aload_n 0, 1) := by decide +kernel
theorem dX11_areAlike_1 : decode cX11_areAlike 1 = .ok (.iload_n 1, 1) := by decide +kernel
theorem dX11_areAlike_2 : decode cX11_areAlike 2 = .ok (.iload_n 3, 1) := by decide +kernel
theorem dX11_areAlike_3 : decode cX11_areAlike 3 = .ok (.invokevirtual 366, 3) := by decide +kernel
theorem dX11_areAlike_6 : decode cX11_areAlike 6 = .ok (.aload_n 0, 1) := by decide +kernel
theorem dX11_areAlike_7 : decode cX11_areAlike 7 = .ok (.getfield 307, 3) := by decide +kernel
theorem dX11_areAlike_10 : decode cX11_areAlike 10 = .ok (.istore 4, 2) := by decide +kernel
theorem dX11_areAlike_12 : decode cX11_areAlike 12 = .ok (.aload_n 0, 1) := by decide +kernel
theorem dX11_areAlike_13 : decode cX11_areAlike 13 = .ok (.getfield 310, 3) := by decide +kernel
theorem dX11_areAlike_16 : decode cX11_areAlike 16 = .ok (.istore 5, 2) := by decide +kernel
theorem dX11_areAlike_18 : decode cX11_areAlike 18 = .ok (.aload_n 0, 1) := by decide +kernel
theorem dX11_areAlike_19 : decode cX11_areAlike 19 = .ok (.getfield 313, 3) := by decide +kernel
theorem dX11_areAlike_22 : decode cX11_areAlike 22 = .ok (.istore 6, 2) := by decide +kernel
theorem dX11_areAlike_24 : decode cX11_areAlike 24 = .ok (.aload_n 0, 1) := by decide +kernel
theorem dX11_areAlike_25 : decode cX11_areAlike 25 = .ok (.getfield 325, 3) := by decide +kernel
theorem dX11_areAlike_28 : decode cX11_areAlike 28 = .ok (.istore 7, 2) := by decide +kernel
theorem dX11_areAlike_30 : decode cX11_areAlike 30 = .ok (.iconst 0, 1) := by decide +kernel
theorem dX11_areAlike_31 : decode cX11_areAlike 31 = .ok (.istore 8, 2) := by decide +kernel
theorem dX11_areAlike_33 : decode cX11_areAlike 33 = .ok (.iload 8, 2) := by decide +kernel
theorem dX11_areAlike_35 : decode cX11_areAlike 35 = .ok (.iload 7, 2) := by decide +kernel
theorem dX11_areAlike_37 : decode cX11_areAlike 37 = .ok (.if_icmp .ge 23, 3) := by decide +kernel
theorem dX11_areAlike_40 : decode cX11_areAlike 40 = .ok (.aload_n 0, 1) := by decide +kernel
theorem dX11_areAlike_41 : decode cX11_areAlike 41 = .ok (.getfield 153, 3) := by decide +kernel
theorem dX11_areAlike_44 : decode cX11_areAlike 44 = .ok (.iload 8, 2) := by decide +kernel
theorem dX11_areAlike_46 : decode cX11_areAlike 46 = .ok (.aload_n 0, 1) := by decide +kernel
theorem dX11_areAlike_47 : decode cX11_areAlike 47 = .ok (.getfield 141, 3) := by decide +kernel
theorem dX11_areAlike_50 : decode cX11_areAlike 50 = .ok (.iload 8, 2) := by decide +kernel
theorem dX11_areAlike_52 : decode cX11_areAlike 52 = .ok (.iaload, 1) := by decide +kernel
theorem dX11_areAlike_53 : decode cX11_areAlike 53 = .ok (.iastore, 1) := by decide +kernel
theorem dX11_areAlike_54 : decode cX11_areAlike 54 = .ok (.iinc 8 1, 3) := by decide +kernel
theorem dX11_areAlike_57 : decode cX11_areAlike 57 = .ok (.goto (-24), 3) := by decide +kernel
theorem dX11_areAlike_60 : decode cX11_areAlike 60 = .ok (.aload_n 0, 1) := by decide +kernel
theorem dX11_areAlike_61 : decode cX11_areAlike 61 = .ok (.iload_n 2, 1) := by decide +kernel
theorem dX11_areAlike_62 : decode cX11_areAlike 62 = .ok (.iload_n 3, 1) := by decide +kernel
theorem dX11_areAlike_63 : decode cX11_areAlike 63 = .ok (.invokevirtual 366, 3) := by decide +kernel
theorem dX11_areAlike_66 : decode cX11_areAlike 66 = .ok (.iload 4, 2) := by decide +kernel
theorem dX11_areAlike_68 : decode cX11_areAlike 68 = .ok (.aload_n 0, 1) := by decide +kernel
theorem dX11_areAlike_69 : decode cX11_areAlike 69 = .ok (.getfield 307, 3) := by decide +kernel
theorem dX11_areAlike_72 : decode cX11_areAlike 72 = .ok (.if_icmp .ne 34, 3) := by decide +kernel
theorem dX11_areAlike_75 : decode cX11_areAlike 75 = .ok (.iload 5, 2) := by decide +kernel
theorem dX11_areAlike_77 : decode cX11_areAlike 77 = .ok (.aload_n 0, 1) := by decide +kernel
theorem dX11_areAlike_78 : decode cX11_areAlike 78 = .ok (.getfield 310, 3) := by decide +kernel
theorem dX11_areAlike_81 : decode cX11_areAlike 81 = .ok (.if_icmp .ne 25, 3) := by decide +kernel
theorem dX11_areAlike_84 : decode cX11_areAlike 84 = .ok (.iload 6, 2) := by decide +kernel
theorem dX11_areAlike_86 : decode cX11_areAlike 86 = .ok (.aload_n 0, 1) := by decide +kernel
theorem dX11_areAlike_87 : decode cX11_areAlike 87 = .ok (.getfield 313, 3) := by decide +kernel
theorem dX11_areAlike_90 : decode cX11_areAlike 90 = .ok (.if_icmp .ne 16, 3) := by decide +kernel
theorem dX11_areAlike_93 : decode cX11_areAlike 93 = .ok (.iload 7, 2) := by decide +kernel
theorem dX11_areAlike_95 : decode cX11_areAlike 95 = .ok (.aload_n 0, 1) := by decide +kernel
theorem dX11_areAlike_96 : decode cX11_areAlike 96 = .ok (.getfield 325, 3) := by decide +kernel
theorem dX11_areAlike_99 : decode cX11_areAlike 99 = .ok (.if_icmp .ne 7, 3) := by decide +kernel
theorem dX11_areAlike_102 : decode cX11_areAlike 102 = .ok (.iconst 1, 1) := by decide +kernel
theorem dX11_areAlike_103 : decode cX11_areAlike 103 = .ok (.goto 4, 3) := by decide +kernel
theorem dX11_areAlike_106 : decode cX11_areAlike 106 = .ok (.iconst 0, 1) := by decide +kernel
theorem dX11_areAlike_107 : decode cX11_areAlike 107 = .ok (.istore 8, 2) := by decide +kernel
theorem dX11_areAlike_109 : decode cX11_areAlike 109 = .ok (.iconst 0, 1) := by decide +kernel
theorem dX11_areAlike_110 : decode cX11_areAlike 110 = .ok (.istore 9, 2) := by decide +kernel
theorem dX11_areAlike_112 : decode cX11_areAlike 112 = .ok (.iload 9, 2) := by decide +kernel
theorem dX11_areAlike_114 : decode cX11_areAlike 114 = .ok (.iload 7, 2) := by decide +kernel
theorem dX11_areAlike_116 : decode cX11_areAlike 116 = .ok (.if_icmp .ge 38, 3) := by decide +kernel
theorem dX11_areAlike_119 : decode cX11_areAlike 119 = .ok (.iload 8, 2) := by decide +kernel
theorem dX11_areAlike_121 : decode cX11_areAlike 121 = .ok (.ifCond .eq 33, 3) := by decide +kernel
theorem dX11_areAlike_124 : decode cX11_areAlike 124 = .ok (.aload_n 0, 1) := by decide +kernel
theorem dX11_areAlike_125 : decode cX11_areAlike 125 = .ok (.getfield 153, 3) := by decide +kernel
theorem dX11_areAlike_128 : decode cX11_areAlike 128 = .ok (.iload 9, 2) := by decide +kernel
theorem dX11_areAlike_130 : decode cX11_areAlike 130 = .ok (.iaload, 1) := by decide +kernel
theorem dX11_areAlike_131 : decode cX11_areAlike 131 = .ok (.aload_n 0, 1) := by decide +kernel
theorem dX11_areAlike_132 : decode cX11_areAlike 132 = .ok (.getfield 141, 3) := by decide +kernel
theorem dX11_areAlike_135 : decode cX11_areAlike 135 = .ok (.iload 9, 2) := by decide +kernel
theorem dX11_areAlike_137 : decode cX11_areAlike 137 = .ok (.iaload, 1) := by decide +kernel
theorem dX11_areAlike_138 : decode cX11_areAlike 138 = .ok (.if_icmp .ne 7, 3) := by decide +kernel
theorem dX11_areAlike_141 : decode cX11_areAlike 141 = .ok (.iconst 1, 1) := by decide +kernel
theorem dX11_areAlike_142 : decode cX11_areAlike 142 = .ok (.goto 4, 3) := by decide +kernel
theorem dX11_areAlike_145 : decode cX11_areAlike 145 = .ok (.iconst 0, 1) := by decide +kernel
theorem dX11_areAlike_146 : decode cX11_areAlike 146 = .ok (.istore 8, 2) := by decide +kernel
theorem dX11_areAlike_148 : decode cX11_areAlike 148 = .ok (.iinc 9 1, 3) := by decide +kernel
theorem dX11_areAlike_151 : decode cX11_areAlike 151 = .ok (.goto (-39), 3) := by decide +kernel
theorem dX11_areAlike_154 : decode cX11_areAlike 154 = .ok (.iload 8, 2) := by decide +kernel
theorem dX11_areAlike_156 : decode cX11_areAlike 156 = .ok (.ireturn, 1) := by decide +kernel
theorem dX11_changed_0 : decode cX11_changed 0 = .ok (.aload_n 0, 1) := by decide +kernel
theorem dX11_changed_1 : decode cX11_changed 1 = .ok (.iconst 0, 1) := by decide +kernel
theorem dX11_changed_2 : decode cX11_changed 2 = .ok (.putfield 1, 3) := by decide +kernel
theorem dX11_changed_5 : decode cX11_changed 5 = .ok (.iload_n 1, 1) := by decide +kernel
theorem dX11_changed_6 : decode cX11_changed 6 = .ok (.ifCond .lt 45, 3) := by decide +kernel
theorem dX11_changed_9 : decode cX11_changed 9 = .ok (.iload_n 1, 1) := by decide +kernel
theorem dX11_changed_10 : decode cX11_changed 10 = .ok (.aload_n 0, 1) := by decide +kernel
theorem dX11_changed_11 : decode cX11_changed 11 = .ok (.getfield 207, 3) := by decide +kernel
theorem dX11_changed_14 : decode cX11_changed 14 = .ok (.if_icmp .ge 37, 3) := by decide +kernel
theorem dX11_changed_17 : decode cX11_changed 17 = .ok (.iload_n 2, 1) := by decide +kernel
theorem dX11_changed_18 : decode cX11_changed 18 = .ok (.ifCond .lt 33, 3) := by decide +kernel
theorem dX11_changed_21 : decode cX11_changed 21 = .ok (.iload_n 2, 1) := by decide +kernel
theorem dX11_changed_22 : decode cX11_changed 22 = .ok (.aload_n 0, 1) := by decide +kernel
theorem dX11_changed_23 : decode cX11_changed 23 = .ok (.getfield 207, 3) := by decide +kernel
theorem dX11_changed_26 : decode cX11_changed 26 = .ok (.if_icmp .ge 25, 3) := by decide +kernel
theorem dX11_changed_29 : decode cX11_changed 29 = .ok (.iload_n 3, 1) := by decide +kernel
theorem dX11_changed_30 : decode cX11_changed 30 = .ok (.ifCond .lt 21, 3) := by decide +kernel
theorem dX11_changed_33 : decode cX11_changed 33 = .ok (.iload_n 3, 1) := by decide +kernel
theorem dX11_changed_34 : decode cX11_changed 34 = .ok (.sipush 9999, 3) := by decide +kernel
theorem dX11_changed_37 : decode cX11_changed 37 = .ok (.if_icmp .gt 14, 3) := by decide +kernel
theorem dX11_changed_40 : decode cX11_changed 40 = .ok (.iload 4, 2) := by decide +kernel
theorem dX11_changed_42 : decode cX11_changed 42 = .ok (.ifCond .lt 9, 3) := by decide +kernel
theorem dX11_changed_45 : decode cX11_changed 45 = .ok (.iload 4, 2) := by decide +kernel
theorem dX11_changed_47 : decode cX11_changed 47 = .ok (.iconst 1, 1) := by decide +kernel
theorem dX11_changed_48 : decode cX11_changed 48 = .ok (.if_icmp .le 5, 3) := by decide +kernel
theorem dX11_changed_51 : decode cX11_changed 51 = .ok (.iconst (-1), 1) := by decide +kernel
theorem dX11_changed_52 : decode cX11_changed 52 = .ok (.ireturn, 1) := by decide +kernel
theorem dX11_changed_53 : decode cX11_changed 53 = .ok (.aload_n 0, 1) := by decide +kernel
theorem dX11_changed_54 : decode cX11_changed 54 = .ok (.iload_n 1, 1) := by decide +kernel
theorem dX11_changed_55 : decode cX11_changed 55 = .ok (.iload_n 2, 1) := by decide +kernel
theorem dX11_changed_56 : decode cX11_changed 56 = .ok (.invokevirtual 385, 3) := by decide +kernel
theorem dX11_changed_59 : decode cX11_changed 59 = .ok (.ifCond .ne 6, 3) := by decide +kernel
theorem dX11_changed_62 : decode cX11_changed 62 = .ok (.bipush (-2), 2) := by decide +kernel
theorem dX11_changed_64 : decode cX11_changed 64 = .ok (.ireturn, 1) := by decide +kernel
theorem dX11_changed_65 : decode cX11_changed 65 = .ok (.aload_n 0, 1) := by decide +kernel
theorem dX11_changed_66 : decode cX11_changed 66 = .ok (.iconst 0, 1) := by decide +kernel
theorem dX11_changed_67 : decode cX11_changed 67 = .ok (.invokevirtual 381, 3) := by decide +kernel
theorem dX11_changed_70 : decode cX11_changed 70 = .ok (.aload_n 0, 1) := by decide +kernel
theorem dX11_changed_71 : decode cX11_changed 71 = .ok (.iload_n 3, 1) := by decide +kernel
theorem dX11_changed_72 : decode cX11_changed 72 = .ok (.invokevirtual 363, 3) := by decide +kernel
theorem dX11_changed_75 : decode cX11_changed 75 = .ok (.iconst 0, 1) := by decide +kernel
theorem dX11_changed_76 : decode cX11_changed 76 = .ok (.istore 5, 2) := by decide +kernel
theorem dX11_changed_78 : decode cX11_changed 78 = .ok (.iconst (-1), 1) := by decide +kernel
theorem dX11_changed_79 : decode cX11_changed 79 = .ok (.istore 6, 2) := by decide +kernel
theorem dX11_changed_81 : decode cX11_changed 81 = .ok (.iconst 0, 1) := by decide +kernel
theorem dX11_changed_82 : decode cX11_changed 82 = .ok (.istore 7, 2) := by decide +kernel
theorem dX11_changed_84 : decode cX11_changed 84 = .ok (.iload 7, 2) := by decide +kernel
theorem dX11_changed_86 : decode cX11_changed 86 = .ok (.i2l, 1) := by decide +kernel
theorem dX11_changed_87 : decode cX11_changed 87 = .ok (.aload_n 0, 1) := by decide +kernel
theorem dX11_changed_88 : decode cX11_changed 88 = .ok (.iload_n 1, 1) := by decide +kernel
theorem dX11_changed_89 : decode cX11_changed 89 = .ok (.invokevirtual 242, 3) := by decide +kernel
theorem dX11_changed_92 : decode cX11_changed 92 = .ok (.lcmp, 1) := by decide +kernel
theorem dX11_changed_93 : decode cX11_changed 93 = .ok (.ifCond .ge 43, 3) := by decide +kernel
theorem dX11_changed_96 : decode cX11_changed 96 = .ok (.aload_n 0, 1) := by decide +kernel
theorem dX11_changed_97 : decode cX11_changed 97 = .ok (.iload_n 1, 1) := by decide +kernel
theorem dX11_changed_98 : decode cX11_changed 98 = .ok (.iload 7, 2) := by decide +kernel
theorem dX11_changed_100 : decode cX11_changed 100 = .ok (.invokevirtual 289, 3) := by decide +kernel
theorem dX11_changed_103 : decode cX11_changed 103 = .ok (.aload_n 0, 1) := by decide +kernel
theorem dX11_changed_104 : decode cX11_changed 104 = .ok (.iload_n 1, 1) := by decide +kernel
theorem dX11_changed_105 : decode cX11_changed 105 = .ok (.iload_n 2, 1) := by decide +kernel
theorem dX11_changed_106 : decode cX11_changed 106 = .ok (.iload_n 3, 1) := by decide +kernel
theorem dX11_changed_107 : decode cX11_changed 107 = .ok (.invokevirtual 389, 3) := by decide +kernel
theorem dX11_changed_110 : decode cX11_changed 110 = .ok (.ifCond .ne 20, 3) := by decide +kernel
theorem dX11_changed_113 : decode cX11_changed 113 = .ok (.iinc 5 1, 3) := by decide +kernel
theorem dX11_changed_116 : decode cX11_changed 116 = .ok (.iload 6, 2) := by decide +kernel
theorem dX11_changed_118 : decode cX11_changed 118 = .ok (.ifCond .ge 8, 3) := by decide +kernel
theorem dX11_changed_121 : decode cX11_changed 121 = .ok (.iload 7, 2) := by decide +kernel
theorem dX11_changed_123 : decode cX11_changed 123 = .ok (.goto 5, 3) := by decide +kernel
theorem dX11_changed_126 : decode cX11_changed 126 = .ok (.iload 6, 2) := by decide +kernel
theorem dX11_changed_128 : decode cX11_changed 128 = .ok (.istore 6, 2) := by decide +kernel
theorem dX11_changed_130 : decode cX11_changed 130 = .ok (.iinc 7 1, 3) := by decide +kernel
theorem dX11_changed_133 : decode cX11_changed 133 = .ok (.goto (-49), 3) := by decide +kernel
theorem dX11_changed_136 : decode cX11_changed 136 = .ok (.aload_n 0, 1) := by decide +kernel
theorem dX11_changed_137 : decode cX11_changed 137 = .ok (.iconst 1, 1) := by decide +kernel
theorem dX11_changed_138 : decode cX11_changed 138 = .ok (.invokevirtual 381, 3) := by decide +kernel
theorem dX11_changed_141 : decode cX11_changed 141 = .ok (.iload 4, 2) := by decide +kernel
theorem dX11_changed_143 : decode cX11_changed 143 = .ok (.ifCond .ne 8, 3) := by decide +kernel
theorem dX11_changed_146 : decode cX11_changed 146 = .ok (.iload 5, 2) := by decide +kernel
theorem dX11_changed_148 : decode cX11_changed 148 = .ok (.goto 5, 3) := by decide +kernel
theorem dX11_changed_151 : decode cX11_changed 151 = .ok (.iload 6, 2) := by decide +kernel
theorem dX11_changed_153 : decode cX11_changed 153 = .ok (.ireturn, 1) := by decide +kernel
theorem dX11_look_0 : decode cX11_look 0 = .ok (.aload_n 0, 1) := by decide +kernel
theorem dX11_look_1 : decode cX11_look 1 = .ok (.iconst 0, 1) := by decide +kernel
theorem dX11_look_2 : decode cX11_look 2 = .ok (.putfield 1, 3) := by decide +kernel
theorem dX11_look_5 : decode cX11_look 5 = .ok (.aload_n 0, 1) := by decide +kernel
theorem dX11_look_6 : decode cX11_look 6 = .ok (.getfield 159, 3) := by decide +kernel
theorem dX11_look_9 : decode cX11_look 9 = .ok (.ifCond .ge 5, 3) := by decide +kernel
theorem dX11_look_12 : decode cX11_look 12 = .ok (.iconst (-1), 1) := by decide +kernel
theorem dX11_look_13 : decode cX11_look 13 = .ok (.ireturn, 1) := by decide +kernel
theorem dX11_look_14 : decode cX11_look 14 = .ok (.iload_n 1, 1) := by decide +kernel
theorem dX11_look_15 : decode cX11_look 15 = .ok (.ifCond .ne 10, 3) := by decide +kernel
theorem dX11_look_18 : decode cX11_look 18 = .ok (.aload_n 0, 1) := by decide +kernel
theorem dX11_look_19 : decode cX11_look 19 = .ok (.getfield 159, 3) := by decide +kernel
theorem dX11_look_22 : decode cX11_look 22 = .ok (.goto 84, 3) := by decide +kernel
theorem dX11_look_25 : decode cX11_look 25 = .ok (.iload_n 1, 1) := by decide +kernel
theorem dX11_look_26 : decode cX11_look 26 = .ok (.iconst 1, 1) := by decide +kernel
theorem dX11_look_27 : decode cX11_look 27 = .ok (.if_icmp .ne 15, 3) := by decide +kernel
theorem dX11_look_30 : decode cX11_look 30 = .ok (.aload_n 0, 1) := by decide +kernel
theorem dX11_look_31 : decode cX11_look 31 = .ok (.getfield 62, 3) := by decide +kernel
theorem dX11_look_34 : decode cX11_look 34 = .ok (.aload_n 0, 1) := by decide +kernel
theorem dX11_look_35 : decode cX11_look 35 = .ok (.getfield 159, 3) := by decide +kernel
theorem dX11_look_38 : decode cX11_look 38 = .ok (.iaload, 1) := by decide +kernel
theorem dX11_look_39 : decode cX11_look 39 = .ok (.goto 67, 3) := by decide +kernel
theorem dX11_look_42 : decode cX11_look 42 = .ok (.iload_n 1, 1) := by decide +kernel
theorem dX11_look_43 : decode cX11_look 43 = .ok (.iconst 2, 1) := by decide +kernel
theorem dX11_look_44 : decode cX11_look 44 = .ok (.if_icmp .ne 15, 3) := by decide +kernel
theorem dX11_look_47 : decode cX11_look 47 = .ok (.aload_n 0, 1) := by decide +kernel
theorem dX11_look_48 : decode cX11_look 48 = .ok (.getfield 74, 3) := by decide +kernel
theorem dX11_look_51 : decode cX11_look 51 = .ok (.aload_n 0, 1) := by decide +kernel
theorem dX11_look_52 : decode cX11_look 52 = .ok (.getfield 159, 3) := by decide +kernel
theorem dX11_look_55 : decode cX11_look 55 = .ok (.iaload, 1) := by decide +kernel
theorem dX11_look_56 : decode cX11_look 56 = .ok (.goto 50, 3) := by decide +kernel
theorem dX11_look_59 : decode cX11_look 59 = .ok (.iload_n 1, 1) := by decide +kernel
theorem dX11_look_60 : decode cX11_look 60 = .ok (.iconst 3, 1) := by decide +kernel
theorem dX11_look_61 : decode cX11_look 61 = .ok (.if_icmp .ne 15, 3) := by decide +kernel
theorem dX11_look_64 : decode cX11_look 64 = .ok (.aload_n 0, 1) := by decide +kernel
theorem dX11_look_65 : decode cX11_look 65 = .ok (.aload_n 0, 1) := by decide +kernel
theorem dX11_look_66 : decode cX11_look 66 = .ok (.getfield 159, 3) := by decide +kernel
theorem dX11_look_69 : decode cX11_look 69 = .ok (.invokevirtual 242, 3) := by decide +kernel
theorem dX11_look_72 : decode cX11_look 72 = .ok (.l2i, 1) := by decide +kernel
theorem dX11_look_73 : decode cX11_look 73 = .ok (.goto 33, 3) := by decide +kernel
theorem dX11_look_76 : decode cX11_look 76 = .ok (.iload_n 1, 1) := by decide +kernel
theorem dX11_look_77 : decode cX11_look 77 = .ok (.iconst 4, 1) := by decide +kernel
theorem dX11_look_78 : decode cX11_look 78 = .ok (.if_icmp .ne 15, 3) := by decide +kernel
theorem dX11_look_81 : decode cX11_look 81 = .ok (.aload_n 0, 1) := by decide +kernel
theorem dX11_look_82 : decode cX11_look 82 = .ok (.getfield 59, 3) := by decide +kernel
theorem dX11_look_85 : decode cX11_look 85 = .ok (.aload_n 0, 1) := by decide +kernel
theorem dX11_look_86 : decode cX11_look 86 = .ok (.getfield 159, 3) := by decide +kernel
theorem dX11_look_89 : decode cX11_look 89 = .ok (.iaload, 1) := by decide +kernel
theorem dX11_look_90 : decode cX11_look 90 = .ok (.goto 16, 3) := by decide +kernel
theorem dX11_look_93 : decode cX11_look 93 = .ok (.iload_n 1, 1) := by decide +kernel
theorem dX11_look_94 : decode cX11_look 94 = .ok (.iconst 5, 1) := by decide +kernel
theorem dX11_look_95 : decode cX11_look 95 = .ok (.if_icmp .ne 10, 3) := by decide +kernel
theorem dX11_look_98 : decode cX11_look 98 = .ok (.aload_n 0, 1) := by decide +kernel
theorem dX11_look_99 : decode cX11_look 99 = .ok (.invokevirtual 393, 3) := by decide +kernel
theorem dX11_look_102 : decode cX11_look 102 = .ok (.goto 4, 3) := by decide +kernel
theorem dX11_look_105 : decode cX11_look 105 = .ok (.iconst (-1), 1) := by decide +kernel
theorem dX11_look_106 : decode cX11_look 106 = .ok (.ireturn, 1) := by decide +kernel
theorem dX11_told_0 : decode cX11_told 0 = .ok (.aload_n 0, 1) := by decide +kernel
theorem dX11_told_1 : decode cX11_told 1 = .ok (.aload_n 0, 1) := by decide +kernel
theorem dX11_told_2 : decode cX11_told 2 = .ok (.getfield 159, 3) := by decide +kernel
theorem dX11_told_5 : decode cX11_told 5 = .ok (.ifCond .lt 33, 3) := by decide +kernel
theorem dX11_told_8 : decode cX11_told 8 = .ok (.iload_n 1, 1) := by decide +kernel
theorem dX11_told_9 : decode cX11_told 9 = .ok (.ifCond .lt 29, 3) := by decide +kernel
theorem dX11_told_12 : decode cX11_told 12 = .ok (.iload_n 1, 1) := by decide +kernel
theorem dX11_told_13 : decode cX11_told 13 = .ok (.aload_n 0, 1) := by decide +kernel
theorem dX11_told_14 : decode cX11_told 14 = .ok (.getfield 62, 3) := by decide +kernel
theorem dX11_told_17 : decode cX11_told 17 = .ok (.aload_n 0, 1) := by decide +kernel
theorem dX11_told_18 : decode cX11_told 18 = .ok (.getfield 159, 3) := by decide +kernel
theorem dX11_told_21 : decode cX11_told 21 = .ok (.iaload, 1) := by decide +kernel
theorem dX11_told_22 : decode cX11_told 22 = .ok (.if_icmp .ge 16, 3) := by decide +kernel
theorem dX11_told_25 : decode cX11_told 25 = .ok (.iload_n 2, 1) := by decide +kernel
theorem dX11_told_26 : decode cX11_told 26 = .ok (.ifCond .lt 12, 3) := by decide +kernel
theorem dX11_told_29 : decode cX11_told 29 = .ok (.iload_n 2, 1) := by decide +kernel
theorem dX11_told_30 : decode cX11_told 30 = .ok (.iconst 2, 1) := by decide +kernel
theorem dX11_told_31 : decode cX11_told 31 = .ok (.if_icmp .gt 7, 3) := by decide +kernel
theorem dX11_told_34 : decode cX11_told 34 = .ok (.iconst 0, 1) := by decide +kernel
theorem dX11_told_35 : decode cX11_told 35 = .ok (.goto 4, 3) := by decide +kernel
theorem dX11_told_38 : decode cX11_told 38 = .ok (.iconst 1, 1) := by decide +kernel
theorem dX11_told_39 : decode cX11_told 39 = .ok (.putfield 1, 3) := by decide +kernel
theorem dX11_told_42 : decode cX11_told 42 = .ok (.aload_n 0, 1) := by decide +kernel
theorem dX11_told_43 : decode cX11_told 43 = .ok (.getfield 1, 3) := by decide +kernel
theorem dX11_told_46 : decode cX11_told 46 = .ok (.ifCond .le 5, 3) := by decide +kernel
theorem dX11_told_49 : decode cX11_told 49 = .ok (.iconst 0, 1) := by decide +kernel
theorem dX11_told_50 : decode cX11_told 50 = .ok (.ireturn, 1) := by decide +kernel
theorem dX11_told_51 : decode cX11_told 51 = .ok (.iload_n 2, 1) := by decide +kernel
theorem dX11_told_52 : decode cX11_told 52 = .ok (.ifCond .ne 20, 3) := by decide +kernel
theorem dX11_told_55 : decode cX11_told 55 = .ok (.aload_n 0, 1) := by decide +kernel
theorem dX11_told_56 : decode cX11_told 56 = .ok (.getfield 68, 3) := by decide +kernel
theorem dX11_told_59 : decode cX11_told 59 = .ok (.bipush 8, 2) := by decide +kernel
theorem dX11_told_61 : decode cX11_told 61 = .ok (.aload_n 0, 1) := by decide +kernel
theorem dX11_told_62 : decode cX11_told 62 = .ok (.getfield 159, 3) := by decide +kernel
theorem dX11_told_65 : decode cX11_told 65 = .ok (.imul, 1) := by decide +kernel
theorem dX11_told_66 : decode cX11_told 66 = .ok (.iload_n 1, 1) := by decide +kernel
theorem dX11_told_67 : decode cX11_told 67 = .ok (.iadd, 1) := by decide +kernel
theorem dX11_told_68 : decode cX11_told 68 = .ok (.iaload, 1) := by decide +kernel
theorem dX11_told_69 : decode cX11_told 69 = .ok (.goto 31, 3) := by decide +kernel
theorem dX11_told_72 : decode cX11_told 72 = .ok (.iload_n 2, 1) := by decide +kernel
theorem dX11_told_73 : decode cX11_told 73 = .ok (.iconst 1, 1) := by decide +kernel
theorem dX11_told_74 : decode cX11_told 74 = .ok (.if_icmp .ne 20, 3) := by decide +kernel
theorem dX11_told_77 : decode cX11_told 77 = .ok (.aload_n 0, 1) := by decide +kernel
theorem dX11_told_78 : decode cX11_told 78 = .ok (.getfield 71, 3) := by decide +kernel
theorem dX11_told_81 : decode cX11_told 81 = .ok (.bipush 8, 2) := by decide +kernel
theorem dX11_told_83 : decode cX11_told 83 = .ok (.aload_n 0, 1) := by decide +kernel
theorem dX11_told_84 : decode cX11_told 84 = .ok (.getfield 159, 3) := by decide +kernel
theorem dX11_told_87 : decode cX11_told 87 = .ok (.imul, 1) := by decide +kernel
theorem dX11_told_88 : decode cX11_told 88 = .ok (.iload_n 1, 1) := by decide +kernel
theorem dX11_told_89 : decode cX11_told 89 = .ok (.iadd, 1) := by decide +kernel
theorem dX11_told_90 : decode cX11_told 90 = .ok (.iaload, 1) := by decide +kernel
theorem dX11_told_91 : decode cX11_told 91 = .ok (.goto 9, 3) := by decide +kernel
theorem dX11_told_94 : decode cX11_told 94 = .ok (.aload_n 0, 1) := by decide +kernel
theorem dX11_told_95 : decode cX11_told 95 = .ok (.getfield 123, 3) := by decide +kernel
theorem dX11_told_98 : decode cX11_told 98 = .ok (.iload_n 1, 1) := by decide +kernel
theorem dX11_told_99 : decode cX11_told 99 = .ok (.iaload, 1) := by decide +kernel
theorem dX11_told_100 : decode cX11_told 100 = .ok (.ireturn, 1) := by decide +kernel
theorem dX11_count_0 : decode cX11_count 0 = .ok (.aload_n 0, 1) := by decide +kernel
theorem dX11_count_1 : decode cX11_count 1 = .ok (.iconst 0, 1) := by decide +kernel
theorem dX11_count_2 : decode cX11_count 2 = .ok (.putfield 1, 3) := by decide +kernel
theorem dX11_count_5 : decode cX11_count 5 = .ok (.iload_n 1, 1) := by decide +kernel
theorem dX11_count_6 : decode cX11_count 6 = .ok (.ifCond .ne 10, 3) := by decide +kernel
theorem dX11_count_9 : decode cX11_count 9 = .ok (.aload_n 0, 1) := by decide +kernel
theorem dX11_count_10 : decode cX11_count 10 = .ok (.getfield 207, 3) := by decide +kernel
theorem dX11_count_13 : decode cX11_count 13 = .ok (.goto 28, 3) := by decide +kernel
theorem dX11_count_16 : decode cX11_count 16 = .ok (.iload_n 1, 1) := by decide +kernel
theorem dX11_count_17 : decode cX11_count 17 = .ok (.iconst 1, 1) := by decide +kernel
theorem dX11_count_18 : decode cX11_count 18 = .ok (.if_icmp .ne 10, 3) := by decide +kernel
theorem dX11_count_21 : decode cX11_count 21 = .ok (.aload_n 0, 1) := by decide +kernel
theorem dX11_count_22 : decode cX11_count 22 = .ok (.getfield 11, 3) := by decide +kernel
theorem dX11_count_25 : decode cX11_count 25 = .ok (.goto 16, 3) := by decide +kernel
theorem dX11_count_28 : decode cX11_count 28 = .ok (.iload_n 1, 1) := by decide +kernel
theorem dX11_count_29 : decode cX11_count 29 = .ok (.iconst 2, 1) := by decide +kernel
theorem dX11_count_30 : decode cX11_count 30 = .ok (.if_icmp .ne 10, 3) := by decide +kernel
theorem dX11_count_33 : decode cX11_count 33 = .ok (.aload_n 0, 1) := by decide +kernel
theorem dX11_count_34 : decode cX11_count 34 = .ok (.getfield 292, 3) := by decide +kernel
theorem dX11_count_37 : decode cX11_count 37 = .ok (.goto 4, 3) := by decide +kernel
theorem dX11_count_40 : decode cX11_count 40 = .ok (.iconst (-1), 1) := by decide +kernel
theorem dX11_count_41 : decode cX11_count 41 = .ok (.ireturn, 1) := by decide +kernel
theorem dJ11_isValidCodePoint_9a6ad_0 : decode cJ11_isValidCodePoint_9a6ad 0 = .ok (.iload_n 0, 1) := by decide +kernel
theorem dJ11_isValidCodePoint_9a6ad_1 : decode cJ11_isValidCodePoint_9a6ad 1 = .ok (.bipush 16, 2) := by decide +kernel
theorem dJ11_isValidCodePoint_9a6ad_3 : decode cJ11_isValidCodePoint_9a6ad 3 = .ok (.iushr, 1) := by decide +kernel
theorem dJ11_isValidCodePoint_9a6ad_4 : decode cJ11_isValidCodePoint_9a6ad 4 = .ok (.istore_n 1, 1) := by decide +kernel
theorem dJ11_isValidCodePoint_9a6ad_5 : decode cJ11_isValidCodePoint_9a6ad 5 = .ok (.iload_n 1, 1) := by decide +kernel
theorem dJ11_isValidCodePoint_9a6ad_6 : decode cJ11_isValidCodePoint_9a6ad 6 = .ok (.bipush 17, 2) := by decide +kernel
theorem dJ11_isValidCodePoint_9a6ad_8 : decode cJ11_isValidCodePoint_9a6ad 8 = .ok (.if_icmp .ge 7, 3) := by decide +kernel
theorem dJ11_isValidCodePoint_9a6ad_11 : decode cJ11_isValidCodePoint_9a6ad 11 = .ok (.iconst 1, 1) := by decide +kernel
theorem dJ11_isValidCodePoint_9a6ad_12 : decode cJ11_isValidCodePoint_9a6ad 12 = .ok (.goto 4, 3) := by decide +kernel
theorem dJ11_isValidCodePoint_9a6ad_15 : decode cJ11_isValidCodePoint_9a6ad 15 = .ok (.iconst 0, 1) := by decide +kernel
theorem dJ11_isValidCodePoint_9a6ad_16 : decode cJ11_isValidCodePoint_9a6ad 16 = .ok (.ireturn, 1) := by decide +kernel
theorem dJ11_highSurrogate_5068e_0 : decode cJ11_highSurrogate_5068e 0 = .ok (.iload_n 0, 1) := by decide +kernel
theorem dJ11_highSurrogate_5068e_1 : decode cJ11_highSurrogate_5068e 1 = .ok (.bipush 10, 2) := by decide +kernel
theorem dJ11_highSurrogate_5068e_3 : decode cJ11_highSurrogate_5068e 3 = .ok (.iushr, 1) := by decide +kernel
theorem dJ11_highSurrogate_5068e_4 : decode cJ11_highSurrogate_5068e 4 = .ok (.ldc 110, 2) := by decide +kernel
theorem dJ11_highSurrogate_5068e_6 : decode cJ11_highSurrogate_5068e 6 = .ok (.iadd, 1) := by decide +kernel
theorem dJ11_highSurrogate_5068e_7 : decode cJ11_highSurrogate_5068e 7 = .ok (.i2c, 1) := by decide +kernel
theorem dJ11_highSurrogate_5068e_8 : decode cJ11_highSurrogate_5068e 8 = .ok (.ireturn, 1) := by decide +kernel
theorem dJ11_lowSurrogate_5068e_0 : decode cJ11_lowSurrogate_5068e 0 = .ok (.iload_n 0, 1) := by decide +kernel
theorem dJ11_lowSurrogate_5068e_1 : decode cJ11_lowSurrogate_5068e 1 = .ok (.sipush 1023, 3) := by decide +kernel
theorem dJ11_lowSurrogate_5068e_4 : decode cJ11_lowSurrogate_5068e 4 = .ok (.iand, 1) := by decide +kernel
theorem dJ11_lowSurrogate_5068e_5 : decode cJ11_lowSurrogate_5068e 5 = .ok (.ldc 76, 2) := by decide +kernel
theorem dJ11_lowSurrogate_5068e_7 : decode cJ11_lowSurrogate_5068e 7 = .ok (.iadd, 1) := by decide +kernel
theorem dJ11_lowSurrogate_5068e_8 : decode cJ11_lowSurrogate_5068e 8 = .ok (.i2c, 1) := by decide +kernel
theorem dJ11_lowSurrogate_5068e_9 : decode cJ11_lowSurrogate_5068e 9 = .ok (.ireturn, 1) := by decide +kernel
theorem dJ9_abs_0f7a4_0 : decode cJ9_abs_0f7a4 0 = .ok (.iload_n 0, 1) := by decide +kernel
theorem dJ9_abs_0f7a4_1 : decode cJ9_abs_0f7a4 1 = .ok (.ifCond .ge 8, 3) := by decide +kernel
theorem dJ9_abs_0f7a4_4 : decode cJ9_abs_0f7a4 4 = .ok (.iload_n 0, 1) := by decide +kernel
theorem dJ9_abs_0f7a4_5 : decode cJ9_abs_0f7a4 5 = .ok (.ineg, 1) := by decide +kernel
theorem dJ9_abs_0f7a4_6 : decode cJ9_abs_0f7a4 6 = .ok (.goto 4, 3) := by decide +kernel
theorem dJ9_abs_0f7a4_9 : decode cJ9_abs_0f7a4 9 = .ok (.iload_n 0, 1) := by decide +kernel
theorem dJ9_abs_0f7a4_10 : decode cJ9_abs_0f7a4 10 = .ok (.ireturn, 1) := by decide +kernel
theorem dJ9_max_7cf53_0 : decode cJ9_max_7cf53 0 = .ok (.iload_n 0, 1) := by decide +kernel
theorem dJ9_max_7cf53_1 : decode cJ9_max_7cf53 1 = .ok (.iload_n 1, 1) := by decide +kernel
theorem dJ9_max_7cf53_2 : decode cJ9_max_7cf53 2 = .ok (.if_icmp .lt 7, 3) := by decide +kernel
theorem dJ9_max_7cf53_5 : decode cJ9_max_7cf53 5 = .ok (.iload_n 0, 1) := by decide +kernel
theorem dJ9_max_7cf53_6 : decode cJ9_max_7cf53 6 = .ok (.goto 4, 3) := by decide +kernel
theorem dJ9_max_7cf53_9 : decode cJ9_max_7cf53 9 = .ok (.iload_n 1, 1) := by decide +kernel
theorem dJ9_max_7cf53_10 : decode cJ9_max_7cf53 10 = .ok (.ireturn, 1) := by decide +kernel
theorem dJ9_min_7cf53_0 : decode cJ9_min_7cf53 0 = .ok (.iload_n 0, 1) := by decide +kernel
theorem dJ9_min_7cf53_1 : decode cJ9_min_7cf53 1 = .ok (.iload_n 1, 1) := by decide +kernel
theorem dJ9_min_7cf53_2 : decode cJ9_min_7cf53 2 = .ok (.if_icmp .gt 7, 3) := by decide +kernel
theorem dJ9_min_7cf53_5 : decode cJ9_min_7cf53 5 = .ok (.iload_n 0, 1) := by decide +kernel
theorem dJ9_min_7cf53_6 : decode cJ9_min_7cf53 6 = .ok (.goto 4, 3) := by decide +kernel
theorem dJ9_min_7cf53_9 : decode cJ9_min_7cf53 9 = .ok (.iload_n 1, 1) := by decide +kernel
theorem dJ9_min_7cf53_10 : decode cJ9_min_7cf53 10 = .ok (.ireturn, 1) := by decide +kernel
theorem dJ0_length_8abf5_0 : decode cJ0_length_8abf5 0 = .ok (.aload_n 0, 1) := by decide +kernel
theorem dJ0_length_8abf5_1 : decode cJ0_length_8abf5 1 = .ok (.getfield 9, 3) := by decide +kernel
theorem dJ0_length_8abf5_4 : decode cJ0_length_8abf5 4 = .ok (.arraylength, 1) := by decide +kernel
theorem dJ0_length_8abf5_5 : decode cJ0_length_8abf5 5 = .ok (.aload_n 0, 1) := by decide +kernel
theorem dJ0_length_8abf5_6 : decode cJ0_length_8abf5 6 = .ok (.invokevirtual 335, 3) := by decide +kernel
theorem dJ0_length_8abf5_9 : decode cJ0_length_8abf5 9 = .ok (.ishr, 1) := by decide +kernel
theorem dJ0_length_8abf5_10 : decode cJ0_length_8abf5 10 = .ok (.ireturn, 1) := by decide +kernel
theorem dJ0_charAt_5068e_0 : decode cJ0_charAt_5068e 0 = .ok (.aload_n 0, 1) := by decide +kernel
theorem dJ0_charAt_5068e_1 : decode cJ0_charAt_5068e 1 = .ok (.invokevirtual 492, 3) := by decide +kernel
theorem dJ0_charAt_5068e_4 : decode cJ0_charAt_5068e 4 = .ok (.ifCond .eq 12, 3) := by decide +kernel
theorem dJ0_charAt_5068e_7 : decode cJ0_charAt_5068e 7 = .ok (.aload_n 0, 1) := by decide +kernel
theorem dJ0_charAt_5068e_8 : decode cJ0_charAt_5068e 8 = .ok (.getfield 9, 3) := by decide +kernel
theorem dJ0_charAt_5068e_11 : decode cJ0_charAt_5068e 11 = .ok (.iload_n 1, 1) := by decide +kernel
theorem dJ0_charAt_5068e_12 : decode cJ0_charAt_5068e 12 = .ok (.invokestatic 495, 3) := by decide +kernel
theorem dJ0_charAt_5068e_15 : decode cJ0_charAt_5068e 15 = .ok (.ireturn, 1) := by decide +kernel
theorem dJ0_charAt_5068e_16 : decode cJ0_charAt_5068e 16 = .ok (.aload_n 0, 1) := by decide +kernel
theorem dJ0_charAt_5068e_17 : decode cJ0_charAt_5068e 17 = .ok (.getfield 9, 3) := by decide +kernel
theorem dJ0_charAt_5068e_20 : decode cJ0_charAt_5068e 20 = .ok (.iload_n 1, 1) := by decide +kernel
theorem dJ0_charAt_5068e_21 : decode cJ0_charAt_5068e 21 = .ok (.invokestatic 498, 3) := by decide +kernel
theorem dJ0_charAt_5068e_24 : decode cJ0_charAt_5068e 24 = .ok (.ireturn, 1) := by decide +kernel
theorem dJ0_indexOf_0f7a4_0 : decode cJ0_indexOf_0f7a4 0 = .ok (.aload_n 0, 1) := by decide +kernel
theorem dJ0_indexOf_0f7a4_1 : decode cJ0_indexOf_0f7a4 1 = .ok (.iload_n 1, 1) := by decide +kernel
theorem dJ0_indexOf_0f7a4_2 : decode cJ0_indexOf_0f7a4 2 = .ok (.iconst 0, 1) := by decide +kernel
theorem dJ0_indexOf_0f7a4_3 : decode cJ0_indexOf_0f7a4 3 = .ok (.invokevirtual 633, 3) := by decide +kernel
theorem dJ0_indexOf_0f7a4_6 : decode cJ0_indexOf_0f7a4 6 = .ok (.ireturn, 1) := by decide +kernel
theorem dJ0_indexOf_7cf53_0 : decode cJ0_indexOf_7cf53 0 = .ok (.aload_n 0, 1) := by decide +kernel
theorem dJ0_indexOf_7cf53_1 : decode cJ0_indexOf_7cf53 1 = .ok (.invokevirtual 492, 3) := by decide +kernel
theorem dJ0_indexOf_7cf53_4 : decode cJ0_indexOf_7cf53 4 = .ok (.ifCond .eq 19, 3) := by decide +kernel
theorem dJ0_indexOf_7cf53_7 : decode cJ0_indexOf_7cf53 7 = .ok (.aload_n 0, 1) := by decide +kernel
theorem dJ0_indexOf_7cf53_8 : decode cJ0_indexOf_7cf53 8 = .ok (.getfield 9, 3) := by decide +kernel
theorem dJ0_indexOf_7cf53_11 : decode cJ0_indexOf_7cf53 11 = .ok (.iload_n 1, 1) := by decide +kernel
theorem dJ0_indexOf_7cf53_12 : decode cJ0_indexOf_7cf53 12 = .ok (.iload_n 2, 1) := by decide +kernel
theorem dJ0_indexOf_7cf53_13 : decode cJ0_indexOf_7cf53 13 = .ok (.aload_n 0, 1) := by decide +kernel
theorem dJ0_indexOf_7cf53_14 : decode cJ0_indexOf_7cf53 14 = .ok (.invokevirtual 505, 3) := by decide +kernel
theorem dJ0_indexOf_7cf53_17 : decode cJ0_indexOf_7cf53 17 = .ok (.invokestatic 637, 3) := by decide +kernel
theorem dJ0_indexOf_7cf53_20 : decode cJ0_indexOf_7cf53 20 = .ok (.goto 16, 3) := by decide +kernel
theorem dJ0_indexOf_7cf53_23 : decode cJ0_indexOf_7cf53 23 = .ok (.aload_n 0, 1) := by decide +kernel
theorem dJ0_indexOf_7cf53_24 : decode cJ0_indexOf_7cf53 24 = .ok (.getfield 9, 3) := by decide +kernel
theorem dJ0_indexOf_7cf53_27 : decode cJ0_indexOf_7cf53 27 = .ok (.iload_n 1, 1) := by decide +kernel
theorem dJ0_indexOf_7cf53_28 : decode cJ0_indexOf_7cf53 28 = .ok (.iload_n 2, 1) := by decide +kernel
theorem dJ0_indexOf_7cf53_29 : decode cJ0_indexOf_7cf53 29 = .ok (.aload_n 0, 1) := by decide +kernel
theorem dJ0_indexOf_7cf53_30 : decode cJ0_indexOf_7cf53 30 = .ok (.invokevirtual 505, 3) := by decide +kernel
theorem dJ0_indexOf_7cf53_33 : decode cJ0_indexOf_7cf53 33 = .ok (.invokestatic 640, 3) := by decide +kernel
theorem dJ0_indexOf_7cf53_36 : decode cJ0_indexOf_7cf53 36 = .ok (.ireturn, 1) := by decide +kernel
theorem dJ0_coder_7d493_0 : decode cJ0_coder_7d493 0 = .ok (.getstatic 38, 3) := by decide +kernel
theorem dJ0_coder_7d493_3 : decode cJ0_coder_7d493 3 = .ok (.ifCond .eq 10, 3) := by decide +kernel
theorem dJ0_coder_7d493_6 : decode cJ0_coder_7d493 6 = .ok (.aload_n 0, 1) := by decide +kernel
theorem dJ0_coder_7d493_7 : decode cJ0_coder_7d493 7 = .ok (.getfield 15, 3) := by decide +kernel
theorem dJ0_coder_7d493_10 : decode cJ0_coder_7d493 10 = .ok (.goto 4, 3) := by decide +kernel
theorem dJ0_coder_7d493_13 : decode cJ0_coder_7d493 13 = .ok (.iconst 1, 1) := by decide +kernel
theorem dJ0_coder_7d493_14 : decode cJ0_coder_7d493 14 = .ok (.ireturn, 1) := by decide +kernel
theorem dJ0_isLatin1_aae02_0 : decode cJ0_isLatin1_aae02 0 = .ok (.getstatic 38, 3) := by decide +kernel
theorem dJ0_isLatin1_aae02_3 : decode cJ0_isLatin1_aae02 3 = .ok (.ifCond .eq 14, 3) := by decide +kernel
theorem dJ0_isLatin1_aae02_6 : decode cJ0_isLatin1_aae02 6 = .ok (.aload_n 0, 1) := by decide +kernel
theorem dJ0_isLatin1_aae02_7 : decode cJ0_isLatin1_aae02 7 = .ok (.getfield 15, 3) := by decide +kernel
theorem dJ0_isLatin1_aae02_10 : decode cJ0_isLatin1_aae02 10 = .ok (.ifCond .ne 7, 3) := by decide +kernel
theorem dJ0_isLatin1_aae02_13 : decode cJ0_isLatin1_aae02 13 = .ok (.iconst 1, 1) := by decide +kernel
theorem dJ0_isLatin1_aae02_14 : decode cJ0_isLatin1_aae02 14 = .ok (.goto 4, 3) := by decide +kernel
theorem dJ0_isLatin1_aae02_17 : decode cJ0_isLatin1_aae02 17 = .ok (.iconst 0, 1) := by decide +kernel
theorem dJ0_isLatin1_aae02_18 : decode cJ0_isLatin1_aae02 18 = .ok (.ireturn, 1) := by decide +kernel
theorem dJ0_checkIndex_df160_0 : decode cJ0_checkIndex_df160 0 = .ok (.iload_n 0, 1) := by decide +kernel
theorem dJ0_checkIndex_df160_1 : decode cJ0_checkIndex_df160 1 = .ok (.iload_n 1, 1) := by decide +kernel
theorem dJ0_checkIndex_df160_2 : decode cJ0_checkIndex_df160 2 = .ok (.getstatic 1053, 3) := by decide +kernel
theorem dJ0_checkIndex_df160_5 : decode cJ0_checkIndex_df160 5 = .ok (.invokestatic 1059, 3) := by decide +kernel
theorem dJ0_checkIndex_df160_8 : decode cJ0_checkIndex_df160 8 = .ok (.pop, 1) := by decide +kernel
theorem dJ0_checkIndex_df160_9 : decode cJ0_checkIndex_df160 9 = .ok (.return_, 1) := by decide +kernel
theorem dJ0_checkBoundsBeginEnd_23922_0 : decode cJ0_checkBoundsBeginEnd_23922 0 = .ok (.iload_n 0, 1) := by decide +kernel
theorem dJ0_checkBoundsBeginEnd_23922_1 : decode cJ0_checkBoundsBeginEnd_23922 1 = .ok (.iload_n 1, 1) := by decide +kernel
theorem dJ0_checkBoundsBeginEnd_23922_2 : decode cJ0_checkBoundsBeginEnd_23922 2 = .ok (.iload_n 2, 1) := by decide +kernel
theorem dJ0_checkBoundsBeginEnd_23922_3 : decode cJ0_checkBoundsBeginEnd_23922 3 = .ok (.getstatic 1053, 3) := by decide +kernel
theorem dJ0_checkBoundsBeginEnd_23922_6 : decode cJ0_checkBoundsBeginEnd_23922 6 = .ok (.invokestatic 1062, 3) := by decide +kernel
theorem dJ0_checkBoundsBeginEnd_23922_9 : decode cJ0_checkBoundsBeginEnd_23922 9 = .ok (.pop, 1) := by decide +kernel
theorem dJ0_checkBoundsBeginEnd_23922_10 : decode cJ0_checkBoundsBeginEnd_23922 10 = .ok (.return_, 1) := by decide +kernel
theorem dJ1_charAt_3b067_0 : decode cJ1_charAt_3b067 0 = .ok (.iload_n 1, 1) := by decide +kernel
theorem dJ1_charAt_3b067_1 : decode cJ1_charAt_3b067 1 = .ok (.aload_n 0, 1) := by decide +kernel
theorem dJ1_charAt_3b067_2 : decode cJ1_charAt_3b067 2 = .ok (.arraylength, 1) := by decide +kernel
theorem dJ1_charAt_3b067_3 : decode cJ1_charAt_3b067 3 = .ok (.invokestatic 9, 3) := by decide +kernel
theorem dJ1_charAt_3b067_6 : decode cJ1_charAt_3b067 6 = .ok (.aload_n 0, 1) := by decide +kernel
theorem dJ1_charAt_3b067_7 : decode cJ1_charAt_3b067 7 = .ok (.iload_n 1, 1) := by decide +kernel
theorem dJ1_charAt_3b067_8 : decode cJ1_charAt_3b067 8 = .ok (.baload, 1) := by decide +kernel
theorem dJ1_charAt_3b067_9 : decode cJ1_charAt_3b067 9 = .ok (.sipush 255, 3) := by decide +kernel
theorem dJ1_charAt_3b067_12 : decode cJ1_charAt_3b067 12 = .ok (.iand, 1) := by decide +kernel
theorem dJ1_charAt_3b067_13 : decode cJ1_charAt_3b067 13 = .ok (.i2c, 1) := by decide +kernel
theorem dJ1_charAt_3b067_14 : decode cJ1_charAt_3b067 14 = .ok (.ireturn, 1) := by decide +kernel
theorem dJ1_canEncode_9a6ad_0 : decode cJ1_canEncode_9a6ad 0 = .ok (.iload_n 0, 1) := by decide +kernel
theorem dJ1_canEncode_9a6ad_1 : decode cJ1_canEncode_9a6ad 1 = .ok (.ifCond .lt 14, 3) := by decide +kernel
theorem dJ1_canEncode_9a6ad_4 : decode cJ1_canEncode_9a6ad 4 = .ok (.iload_n 0, 1) := by decide +kernel
theorem dJ1_canEncode_9a6ad_5 : decode cJ1_canEncode_9a6ad 5 = .ok (.sipush 255, 3) := by decide +kernel
theorem dJ1_canEncode_9a6ad_8 : decode cJ1_canEncode_9a6ad 8 = .ok (.if_icmp .gt 7, 3) := by decide +kernel
theorem dJ1_canEncode_9a6ad_11 : decode cJ1_canEncode_9a6ad 11 = .ok (.iconst 1, 1) := by decide +kernel
theorem dJ1_canEncode_9a6ad_12 : decode cJ1_canEncode_9a6ad 12 = .ok (.goto 4, 3) := by decide +kernel
theorem dJ1_canEncode_9a6ad_15 : decode cJ1_canEncode_9a6ad 15 = .ok (.iconst 0, 1) := by decide +kernel
theorem dJ1_canEncode_9a6ad_16 : decode cJ1_canEncode_9a6ad 16 = .ok (.ireturn, 1) := by decide +kernel
theorem dJ1_indexOf_4cfef_0 : decode cJ1_indexOf_4cfef 0 = .ok (.iload_n 1, 1) := by decide +kernel
theorem dJ1_indexOf_4cfef_1 : decode cJ1_indexOf_4cfef 1 = .ok (.invokestatic 88, 3) := by decide +kernel
theorem dJ1_indexOf_4cfef_4 : decode cJ1_indexOf_4cfef 4 = .ok (.ifCond .ne 5, 3) := by decide +kernel
theorem dJ1_indexOf_4cfef_7 : decode cJ1_indexOf_4cfef 7 = .ok (.iconst (-1), 1) := by decide +kernel
theorem dJ1_indexOf_4cfef_8 : decode cJ1_indexOf_4cfef 8 = .ok (.ireturn, 1) := by decide +kernel
theorem dJ1_indexOf_4cfef_9 : decode cJ1_indexOf_4cfef 9 = .ok (.iload_n 2, 1) := by decide +kernel
theorem dJ1_indexOf_4cfef_10 : decode cJ1_indexOf_4cfef 10 = .ok (.iconst 0, 1) := by decide +kernel
theorem dJ1_indexOf_4cfef_11 : decode cJ1_indexOf_4cfef 11 = .ok (.invokestatic 92, 3) := by decide +kernel
theorem dJ1_indexOf_4cfef_14 : decode cJ1_indexOf_4cfef 14 = .ok (.istore_n 2, 1) := by decide +kernel
theorem dJ1_indexOf_4cfef_15 : decode cJ1_indexOf_4cfef 15 = .ok (.iload_n 3, 1) := by decide +kernel
theorem dJ1_indexOf_4cfef_16 : decode cJ1_indexOf_4cfef 16 = .ok (.aload_n 0, 1) := by decide +kernel
theorem dJ1_indexOf_4cfef_17 : decode cJ1_indexOf_4cfef 17 = .ok (.arraylength, 1) := by decide +kernel
theorem dJ1_indexOf_4cfef_18 : decode cJ1_indexOf_4cfef 18 = .ok (.invokestatic 38, 3) := by decide +kernel
theorem dJ1_indexOf_4cfef_21 : decode cJ1_indexOf_4cfef 21 = .ok (.istore_n 3, 1) := by decide +kernel
theorem dJ1_indexOf_4cfef_22 : decode cJ1_indexOf_4cfef 22 = .ok (.iload_n 2, 1) := by decide +kernel
theorem dJ1_indexOf_4cfef_23 : decode cJ1_indexOf_4cfef 23 = .ok (.iload_n 3, 1) := by decide +kernel
theorem dJ1_indexOf_4cfef_24 : decode cJ1_indexOf_4cfef 24 = .ok (.if_icmp .lt 5, 3) := by decide +kernel
theorem dJ1_indexOf_4cfef_27 : decode cJ1_indexOf_4cfef 27 = .ok (.iconst (-1), 1) := by decide +kernel
theorem dJ1_indexOf_4cfef_28 : decode cJ1_indexOf_4cfef 28 = .ok (.ireturn, 1) := by decide +kernel
theorem dJ1_indexOf_4cfef_29 : decode cJ1_indexOf_4cfef 29 = .ok (.aload_n 0, 1) := by decide +kernel
theorem dJ1_indexOf_4cfef_30 : decode cJ1_indexOf_4cfef 30 = .ok (.iload_n 1, 1) := by decide +kernel
theorem dJ1_indexOf_4cfef_31 : decode cJ1_indexOf_4cfef 31 = .ok (.iload_n 2, 1) := by decide +kernel
theorem dJ1_indexOf_4cfef_32 : decode cJ1_indexOf_4cfef 32 = .ok (.iload_n 3, 1) := by decide +kernel
theorem dJ1_indexOf_4cfef_33 : decode cJ1_indexOf_4cfef 33 = .ok (.invokestatic 95, 3) := by decide +kernel
theorem dJ1_indexOf_4cfef_36 : decode cJ1_indexOf_4cfef 36 = .ok (.ireturn, 1) := by decide +kernel
theorem dJ1_indexOfChar_4cfef_0 : decode cJ1_indexOfChar_4cfef 0 = .ok (.iload_n 1, 1) := by decide +kernel
theorem dJ1_indexOfChar_4cfef_1 : decode cJ1_indexOfChar_4cfef 1 = .ok (.i2b, 1) := by decide +kernel
theorem dJ1_indexOfChar_4cfef_2 : decode cJ1_indexOfChar_4cfef 2 = .ok (.istore 4, 2) := by decide +kernel
theorem dJ1_indexOfChar_4cfef_4 : decode cJ1_indexOfChar_4cfef 4 = .ok (.iload_n 2, 1) := by decide +kernel
theorem dJ1_indexOfChar_4cfef_5 : decode cJ1_indexOfChar_4cfef 5 = .ok (.istore 5, 2) := by decide +kernel
theorem dJ1_indexOfChar_4cfef_7 : decode cJ1_indexOfChar_4cfef 7 = .ok (.iload 5, 2) := by decide +kernel
theorem dJ1_indexOfChar_4cfef_9 : decode cJ1_indexOfChar_4cfef 9 = .ok (.iload_n 3, 1) := by decide +kernel
theorem dJ1_indexOfChar_4cfef_10 : decode cJ1_indexOfChar_4cfef 10 = .ok (.if_icmp .ge 21, 3) := by decide +kernel
theorem dJ1_indexOfChar_4cfef_13 : decode cJ1_indexOfChar_4cfef 13 = .ok (.aload_n 0, 1) := by decide +kernel
theorem dJ1_indexOfChar_4cfef_14 : decode cJ1_indexOfChar_4cfef 14 = .ok (.iload 5, 2) := by decide +kernel
theorem dJ1_indexOfChar_4cfef_16 : decode cJ1_indexOfChar_4cfef 16 = .ok (.baload, 1) := by decide +kernel
theorem dJ1_indexOfChar_4cfef_17 : decode cJ1_indexOfChar_4cfef 17 = .ok (.iload 4, 2) := by decide +kernel
theorem dJ1_indexOfChar_4cfef_19 : decode cJ1_indexOfChar_4cfef 19 = .ok (.if_icmp .ne 6, 3) := by decide +kernel
theorem dJ1_indexOfChar_4cfef_22 : decode cJ1_indexOfChar_4cfef 22 = .ok (.iload 5, 2) := by decide +kernel
theorem dJ1_indexOfChar_4cfef_24 : decode cJ1_indexOfChar_4cfef 24 = .ok (.ireturn, 1) := by decide +kernel
theorem dJ1_indexOfChar_4cfef_25 : decode cJ1_indexOfChar_4cfef 25 = .ok (.iinc 5 1, 3) := by decide +kernel
theorem dJ1_indexOfChar_4cfef_28 : decode cJ1_indexOfChar_4cfef 28 = .ok (.goto (-21), 3) := by decide +kernel
theorem dJ1_indexOfChar_4cfef_31 : decode cJ1_indexOfChar_4cfef 31 = .ok (.iconst (-1), 1) := by decide +kernel
theorem dJ1_indexOfChar_4cfef_32 : decode cJ1_indexOfChar_4cfef 32 = .ok (.ireturn, 1) := by decide +kernel
theorem dJ2_getChar_3b067_0 : decode cJ2_getChar_3b067 0 = .ok (.getstatic 44, 3) := by decide +kernel
theorem dJ2_getChar_3b067_3 : decode cJ2_getChar_3b067 3 = .ok (.ifCond .ne 25, 3) := by decide +kernel
theorem dJ2_getChar_3b067_6 : decode cJ2_getChar_3b067 6 = .ok (.iload_n 1, 1) := by decide +kernel
theorem dJ2_getChar_3b067_7 : decode cJ2_getChar_3b067 7 = .ok (.ifCond .lt 11, 3) := by decide +kernel
theorem dJ2_getChar_3b067_10 : decode cJ2_getChar_3b067 10 = .ok (.iload_n 1, 1) := by decide +kernel
theorem dJ2_getChar_3b067_11 : decode cJ2_getChar_3b067 11 = .ok (.aload_n 0, 1) := by decide +kernel
theorem dJ2_getChar_3b067_12 : decode cJ2_getChar_3b067 12 = .ok (.invokestatic 48, 3) := by decide +kernel
theorem dJ2_getChar_3b067_15 : decode cJ2_getChar_3b067 15 = .ok (.if_icmp .lt 13, 3) := by decide +kernel
theorem dJ2_getChar_3b067_18 : decode cJ2_getChar_3b067 18 = .ok (.new 52, 3) := by decide +kernel
theorem dJ2_getChar_3b067_21 : decode cJ2_getChar_3b067 21 = .ok (.dup, 1) := by decide +kernel
theorem dJ2_getChar_3b067_22 : decode cJ2_getChar_3b067 22 = .ok (.ldc 54, 2) := by decide +kernel
theorem dJ2_getChar_3b067_24 : decode cJ2_getChar_3b067 24 = .ok (.invokespecial 56, 3) := by decide +kernel
theorem dJ2_getChar_3b067_27 : decode cJ2_getChar_3b067 27 = .ok (.athrow, 1) := by decide +kernel
theorem dJ2_getChar_3b067_28 : decode cJ2_getChar_3b067 28 = .ok (.iload_n 1, 1) := by decide +kernel
theorem dJ2_getChar_3b067_29 : decode cJ2_getChar_3b067 29 = .ok (.iconst 1, 1) := by decide +kernel
theorem dJ2_getChar_3b067_30 : decode cJ2_getChar_3b067 30 = .ok (.ishl, 1) := by decide +kernel
theorem dJ2_getChar_3b067_31 : decode cJ2_getChar_3b067 31 = .ok (.istore_n 1, 1) := by decide +kernel
theorem dJ2_getChar_3b067_32 : decode cJ2_getChar_3b067 32 = .ok (.aload_n 0, 1) := by decide +kernel
theorem dJ2_getChar_3b067_33 : decode cJ2_getChar_3b067 33 = .ok (.iload_n 1, 1) := by decide +kernel
theorem dJ2_getChar_3b067_34 : decode cJ2_getChar_3b067 34 = .ok (.iinc 1 1, 3) := by decide +kernel
theorem dJ2_getChar_3b067_37 : decode cJ2_getChar_3b067 37 = .ok (.baload, 1) := by decide +kernel
theorem dJ2_getChar_3b067_38 : decode cJ2_getChar_3b067 38 = .ok (.sipush 255, 3) := by decide +kernel
theorem dJ2_getChar_3b067_41 : decode cJ2_getChar_3b067 41 = .ok (.iand, 1) := by decide +kernel
theorem dJ2_getChar_3b067_42 : decode cJ2_getChar_3b067 42 = .ok (.getstatic 59, 3) := by decide +kernel
theorem dJ2_getChar_3b067_45 : decode cJ2_getChar_3b067 45 = .ok (.ishl, 1) := by decide +kernel
theorem dJ2_getChar_3b067_46 : decode cJ2_getChar_3b067 46 = .ok (.aload_n 0, 1) := by decide +kernel
theorem dJ2_getChar_3b067_47 : decode cJ2_getChar_3b067 47 = .ok (.iload_n 1, 1) := by decide +kernel
theorem dJ2_getChar_3b067_48 : decode cJ2_getChar_3b067 48 = .ok (.baload, 1) := by decide +kernel
theorem dJ2_getChar_3b067_49 : decode cJ2_getChar_3b067 49 = .ok (.sipush 255, 3) := by decide +kernel
theorem dJ2_getChar_3b067_52 : decode cJ2_getChar_3b067 52 = .ok (.iand, 1) := by decide +kernel
theorem dJ2_getChar_3b067_53 : decode cJ2_getChar_3b067 53 = .ok (.getstatic 63, 3) := by decide +kernel
theorem dJ2_getChar_3b067_56 : decode cJ2_getChar_3b067 56 = .ok (.ishl, 1) := by decide +kernel
theorem dJ2_getChar_3b067_57 : decode cJ2_getChar_3b067 57 = .ok (.ior, 1) := by decide +kernel
theorem dJ2_getChar_3b067_58 : decode cJ2_getChar_3b067 58 = .ok (.i2c, 1) := by decide +kernel
theorem dJ2_getChar_3b067_59 : decode cJ2_getChar_3b067 59 = .ok (.ireturn, 1) := by decide +kernel
theorem dJ2_length_9d52b_0 : decode cJ2_length_9d52b 0 = .ok (.aload_n 0, 1) := by decide +kernel
theorem dJ2_length_9d52b_1 : decode cJ2_length_9d52b 1 = .ok (.arraylength, 1) := by decide +kernel
theorem dJ2_length_9d52b_2 : decode cJ2_length_9d52b 2 = .ok (.iconst 1, 1) := by decide +kernel
theorem dJ2_length_9d52b_3 : decode cJ2_length_9d52b 3 = .ok (.ishr, 1) := by decide +kernel
theorem dJ2_length_9d52b_4 : decode cJ2_length_9d52b 4 = .ok (.ireturn, 1) := by decide +kernel
theorem dJ2_indexOf_4cfef_0 : decode cJ2_indexOf_4cfef 0 = .ok (.iload_n 2, 1) := by decide +kernel
theorem dJ2_indexOf_4cfef_1 : decode cJ2_indexOf_4cfef 1 = .ok (.iconst 0, 1) := by decide +kernel
theorem dJ2_indexOf_4cfef_2 : decode cJ2_indexOf_4cfef 2 = .ok (.invokestatic 224, 3) := by decide +kernel
theorem dJ2_indexOf_4cfef_5 : decode cJ2_indexOf_4cfef 5 = .ok (.istore_n 2, 1) := by decide +kernel
theorem dJ2_indexOf_4cfef_6 : decode cJ2_indexOf_4cfef 6 = .ok (.iload_n 3, 1) := by decide +kernel
theorem dJ2_indexOf_4cfef_7 : decode cJ2_indexOf_4cfef 7 = .ok (.aload_n 0, 1) := by decide +kernel
theorem dJ2_indexOf_4cfef_8 : decode cJ2_indexOf_4cfef 8 = .ok (.arraylength, 1) := by decide +kernel
theorem dJ2_indexOf_4cfef_9 : decode cJ2_indexOf_4cfef 9 = .ok (.iconst 1, 1) := by decide +kernel
theorem dJ2_indexOf_4cfef_10 : decode cJ2_indexOf_4cfef 10 = .ok (.ishr, 1) := by decide +kernel
theorem dJ2_indexOf_4cfef_11 : decode cJ2_indexOf_4cfef 11 = .ok (.invokestatic 183, 3) := by decide +kernel
theorem dJ2_indexOf_4cfef_14 : decode cJ2_indexOf_4cfef 14 = .ok (.istore_n 3, 1) := by decide +kernel
theorem dJ2_indexOf_4cfef_15 : decode cJ2_indexOf_4cfef 15 = .ok (.iload_n 2, 1) := by decide +kernel
theorem dJ2_indexOf_4cfef_16 : decode cJ2_indexOf_4cfef 16 = .ok (.iload_n 3, 1) := by decide +kernel
theorem dJ2_indexOf_4cfef_17 : decode cJ2_indexOf_4cfef 17 = .ok (.if_icmp .lt 5, 3) := by decide +kernel
theorem dJ2_indexOf_4cfef_20 : decode cJ2_indexOf_4cfef 20 = .ok (.iconst (-1), 1) := by decide +kernel
theorem dJ2_indexOf_4cfef_21 : decode cJ2_indexOf_4cfef 21 = .ok (.ireturn, 1) := by decide +kernel
theorem dJ2_indexOf_4cfef_22 : decode cJ2_indexOf_4cfef 22 = .ok (.iload_n 1, 1) := by decide +kernel
theorem dJ2_indexOf_4cfef_23 : decode cJ2_indexOf_4cfef 23 = .ok (.ldc 227, 2) := by decide +kernel
theorem dJ2_indexOf_4cfef_25 : decode cJ2_indexOf_4cfef 25 = .ok (.if_icmp .ge 11, 3) := by decide +kernel
theorem dJ2_indexOf_4cfef_28 : decode cJ2_indexOf_4cfef 28 = .ok (.aload_n 0, 1) := by decide +kernel
theorem dJ2_indexOf_4cfef_29 : decode cJ2_indexOf_4cfef 29 = .ok (.iload_n 1, 1) := by decide +kernel
theorem dJ2_indexOf_4cfef_30 : decode cJ2_indexOf_4cfef 30 = .ok (.iload_n 2, 1) := by decide +kernel
theorem dJ2_indexOf_4cfef_31 : decode cJ2_indexOf_4cfef 31 = .ok (.iload_n 3, 1) := by decide +kernel
theorem dJ2_indexOf_4cfef_32 : decode cJ2_indexOf_4cfef 32 = .ok (.invokestatic 228, 3) := by decide +kernel
theorem dJ2_indexOf_4cfef_35 : decode cJ2_indexOf_4cfef 35 = .ok (.ireturn, 1) := by decide +kernel
theorem dJ2_indexOf_4cfef_36 : decode cJ2_indexOf_4cfef 36 = .ok (.aload_n 0, 1) := by decide +kernel
theorem dJ2_indexOf_4cfef_37 : decode cJ2_indexOf_4cfef 37 = .ok (.iload_n 1, 1) := by decide +kernel
theorem dJ2_indexOf_4cfef_38 : decode cJ2_indexOf_4cfef 38 = .ok (.iload_n 2, 1) := by decide +kernel
theorem dJ2_indexOf_4cfef_39 : decode cJ2_indexOf_4cfef 39 = .ok (.iload_n 3, 1) := by decide +kernel
theorem dJ2_indexOf_4cfef_40 : decode cJ2_indexOf_4cfef 40 = .ok (.invokestatic 232, 3) := by decide +kernel
theorem dJ2_indexOf_4cfef_43 : decode cJ2_indexOf_4cfef 43 = .ok (.ireturn, 1) := by decide +kernel
theorem dJ2_indexOfChar_4cfef_0 : decode cJ2_indexOfChar_4cfef 0 = .ok (.iload_n 2, 1) := by decide +kernel
theorem dJ2_indexOfChar_4cfef_1 : decode cJ2_indexOfChar_4cfef 1 = .ok (.iload_n 3, 1) := by decide +kernel
theorem dJ2_indexOfChar_4cfef_2 : decode cJ2_indexOfChar_4cfef 2 = .ok (.aload_n 0, 1) := by decide +kernel
theorem dJ2_indexOfChar_4cfef_3 : decode cJ2_indexOfChar_4cfef 3 = .ok (.invokestatic 96, 3) := by decide +kernel
theorem dJ2_indexOfChar_4cfef_6 : decode cJ2_indexOfChar_4cfef 6 = .ok (.aload_n 0, 1) := by decide +kernel
theorem dJ2_indexOfChar_4cfef_7 : decode cJ2_indexOfChar_4cfef 7 = .ok (.iload_n 1, 1) := by decide +kernel
theorem dJ2_indexOfChar_4cfef_8 : decode cJ2_indexOfChar_4cfef 8 = .ok (.iload_n 2, 1) := by decide +kernel
theorem dJ2_indexOfChar_4cfef_9 : decode cJ2_indexOfChar_4cfef 9 = .ok (.iload_n 3, 1) := by decide +kernel
theorem dJ2_indexOfChar_4cfef_10 : decode cJ2_indexOfChar_4cfef 10 = .ok (.invokestatic 244, 3) := by decide +kernel
theorem dJ2_indexOfChar_4cfef_13 : decode cJ2_indexOfChar_4cfef 13 = .ok (.ireturn, 1) := by decide +kernel
theorem dJ2_indexOfCharUnsafe_4cfef_0 : decode cJ2_indexOfCharUnsafe_4cfef 0 = .ok (.iload_n 2, 1) := by decide +kernel
theorem dJ2_indexOfCharUnsafe_4cfef_1 : decode cJ2_indexOfCharUnsafe_4cfef 1 = .ok (.istore 4, 2) := by decide +kernel
theorem dJ2_indexOfCharUnsafe_4cfef_3 : decode cJ2_indexOfCharUnsafe_4cfef 3 = .ok (.iload 4, 2) := by decide +kernel
theorem dJ2_indexOfCharUnsafe_4cfef_5 : decode cJ2_indexOfCharUnsafe_4cfef 5 = .ok (.iload_n 3, 1) := by decide +kernel
theorem dJ2_indexOfCharUnsafe_4cfef_6 : decode cJ2_indexOfCharUnsafe_4cfef 6 = .ok (.if_icmp .ge 22, 3) := by decide +kernel
theorem dJ2_indexOfCharUnsafe_4cfef_9 : decode cJ2_indexOfCharUnsafe_4cfef 9 = .ok (.aload_n 0, 1) := by decide +kernel
theorem dJ2_indexOfCharUnsafe_4cfef_10 : decode cJ2_indexOfCharUnsafe_4cfef 10 = .ok (.iload 4, 2) := by decide +kernel
theorem dJ2_indexOfCharUnsafe_4cfef_12 : decode cJ2_indexOfCharUnsafe_4cfef 12 = .ok (.invokestatic 71, 3) := by decide +kernel
theorem dJ2_indexOfCharUnsafe_4cfef_15 : decode cJ2_indexOfCharUnsafe_4cfef 15 = .ok (.iload_n 1, 1) := by decide +kernel
theorem dJ2_indexOfCharUnsafe_4cfef_16 : decode cJ2_indexOfCharUnsafe_4cfef 16 = .ok (.if_icmp .ne 6, 3) := by decide +kernel
theorem dJ2_indexOfCharUnsafe_4cfef_19 : decode cJ2_indexOfCharUnsafe_4cfef 19 = .ok (.iload 4, 2) := by decide +kernel
theorem dJ2_indexOfCharUnsafe_4cfef_21 : decode cJ2_indexOfCharUnsafe_4cfef 21 = .ok (.ireturn, 1) := by decide +kernel
theorem dJ2_indexOfCharUnsafe_4cfef_22 : decode cJ2_indexOfCharUnsafe_4cfef 22 = .ok (.iinc 4 1, 3) := by decide +kernel
theorem dJ2_indexOfCharUnsafe_4cfef_25 : decode cJ2_indexOfCharUnsafe_4cfef 25 = .ok (.goto (-22), 3) := by decide +kernel
theorem dJ2_indexOfCharUnsafe_4cfef_28 : decode cJ2_indexOfCharUnsafe_4cfef 28 = .ok (.iconst (-1), 1) := by decide +kernel
theorem dJ2_indexOfCharUnsafe_4cfef_29 : decode cJ2_indexOfCharUnsafe_4cfef 29 = .ok (.ireturn, 1) := by decide +kernel
theorem dJ2_indexOfSupplementary_4cfef_0 : decode cJ2_indexOfSupplementary_4cfef 0 = .ok (.iload_n 1, 1) := by decide +kernel
theorem dJ2_indexOfSupplementary_4cfef_1 : decode cJ2_indexOfSupplementary_4cfef 1 = .ok (.invokestatic 164, 3) := by decide +kernel
theorem dJ2_indexOfSupplementary_4cfef_4 : decode cJ2_indexOfSupplementary_4cfef 4 = .ok (.ifCond .eq 65, 3) := by decide +kernel
theorem dJ2_indexOfSupplementary_4cfef_7 : decode cJ2_indexOfSupplementary_4cfef 7 = .ok (.iload_n 1, 1) := by decide +kernel
theorem dJ2_indexOfSupplementary_4cfef_8 : decode cJ2_indexOfSupplementary_4cfef 8 = .ok (.invokestatic 157, 3) := by decide +kernel
theorem dJ2_indexOfSupplementary_4cfef_11 : decode cJ2_indexOfSupplementary_4cfef 11 = .ok (.istore 4, 2) := by decide +kernel
theorem dJ2_indexOfSupplementary_4cfef_13 : decode cJ2_indexOfSupplementary_4cfef 13 = .ok (.iload_n 1, 1) := by decide +kernel
theorem dJ2_indexOfSupplementary_4cfef_14 : decode cJ2_indexOfSupplementary_4cfef 14 = .ok (.invokestatic 161, 3) := by decide +kernel
theorem dJ2_indexOfSupplementary_4cfef_17 : decode cJ2_indexOfSupplementary_4cfef 17 = .ok (.istore 5, 2) := by decide +kernel
theorem dJ2_indexOfSupplementary_4cfef_19 : decode cJ2_indexOfSupplementary_4cfef 19 = .ok (.iload_n 2, 1) := by decide +kernel
theorem dJ2_indexOfSupplementary_4cfef_20 : decode cJ2_indexOfSupplementary_4cfef 20 = .ok (.iload_n 3, 1) := by decide +kernel
theorem dJ2_indexOfSupplementary_4cfef_21 : decode cJ2_indexOfSupplementary_4cfef 21 = .ok (.aload_n 0, 1) := by decide +kernel
theorem dJ2_indexOfSupplementary_4cfef_22 : decode cJ2_indexOfSupplementary_4cfef 22 = .ok (.invokestatic 96, 3) := by decide +kernel
theorem dJ2_indexOfSupplementary_4cfef_25 : decode cJ2_indexOfSupplementary_4cfef 25 = .ok (.iload_n 2, 1) := by decide +kernel
theorem dJ2_indexOfSupplementary_4cfef_26 : decode cJ2_indexOfSupplementary_4cfef 26 = .ok (.istore 6, 2) := by decide +kernel
theorem dJ2_indexOfSupplementary_4cfef_28 : decode cJ2_indexOfSupplementary_4cfef 28 = .ok (.iload 6, 2) := by decide +kernel
theorem dJ2_indexOfSupplementary_4cfef_30 : decode cJ2_indexOfSupplementary_4cfef 30 = .ok (.iload_n 3, 1) := by decide +kernel
theorem dJ2_indexOfSupplementary_4cfef_31 : decode cJ2_indexOfSupplementary_4cfef 31 = .ok (.iconst 1, 1) := by decide +kernel
theorem dJ2_indexOfSupplementary_4cfef_32 : decode cJ2_indexOfSupplementary_4cfef 32 = .ok (.isub, 1) := by decide +kernel
theorem dJ2_indexOfSupplementary_4cfef_33 : decode cJ2_indexOfSupplementary_4cfef 33 = .ok (.if_icmp .ge 36, 3) := by decide +kernel
theorem dJ2_indexOfSupplementary_4cfef_36 : decode cJ2_indexOfSupplementary_4cfef 36 = .ok (.aload_n 0, 1) := by decide +kernel
theorem dJ2_indexOfSupplementary_4cfef_37 : decode cJ2_indexOfSupplementary_4cfef 37 = .ok (.iload 6, 2) := by decide +kernel
theorem dJ2_indexOfSupplementary_4cfef_39 : decode cJ2_indexOfSupplementary_4cfef 39 = .ok (.invokestatic 71, 3) := by decide +kernel
theorem dJ2_indexOfSupplementary_4cfef_42 : decode cJ2_indexOfSupplementary_4cfef 42 = .ok (.iload 4, 2) := by decide +kernel
theorem dJ2_indexOfSupplementary_4cfef_44 : decode cJ2_indexOfSupplementary_4cfef 44 = .ok (.if_icmp .ne 19, 3) := by decide +kernel
theorem dJ2_indexOfSupplementary_4cfef_47 : decode cJ2_indexOfSupplementary_4cfef 47 = .ok (.aload_n 0, 1) := by decide +kernel
theorem dJ2_indexOfSupplementary_4cfef_48 : decode cJ2_indexOfSupplementary_4cfef 48 = .ok (.iload 6, 2) := by decide +kernel
theorem dJ2_indexOfSupplementary_4cfef_50 : decode cJ2_indexOfSupplementary_4cfef 50 = .ok (.iconst 1, 1) := by decide +kernel
theorem dJ2_indexOfSupplementary_4cfef_51 : decode cJ2_indexOfSupplementary_4cfef 51 = .ok (.iadd, 1) := by decide +kernel
theorem dJ2_indexOfSupplementary_4cfef_52 : decode cJ2_indexOfSupplementary_4cfef 52 = .ok (.invokestatic 71, 3) := by decide +kernel
theorem dJ2_indexOfSupplementary_4cfef_55 : decode cJ2_indexOfSupplementary_4cfef 55 = .ok (.iload 5, 2) := by decide +kernel
theorem dJ2_indexOfSupplementary_4cfef_57 : decode cJ2_indexOfSupplementary_4cfef 57 = .ok (.if_icmp .ne 6, 3) := by decide +kernel
theorem dJ2_indexOfSupplementary_4cfef_60 : decode cJ2_indexOfSupplementary_4cfef 60 = .ok (.iload 6, 2) := by decide +kernel
theorem dJ2_indexOfSupplementary_4cfef_62 : decode cJ2_indexOfSupplementary_4cfef 62 = .ok (.ireturn, 1) := by decide +kernel
theorem dJ2_indexOfSupplementary_4cfef_63 : decode cJ2_indexOfSupplementary_4cfef 63 = .ok (.iinc 6 1, 3) := by decide +kernel
theorem dJ2_indexOfSupplementary_4cfef_66 : decode cJ2_indexOfSupplementary_4cfef 66 = .ok (.goto (-38), 3) := by decide +kernel
theorem dJ2_indexOfSupplementary_4cfef_69 : decode cJ2_indexOfSupplementary_4cfef 69 = .ok (.iconst (-1), 1) := by decide +kernel
theorem dJ2_indexOfSupplementary_4cfef_70 : decode cJ2_indexOfSupplementary_4cfef 70 = .ok (.ireturn, 1) := by decide +kernel
theorem dJ2_charAt_3b067_0 : decode cJ2_charAt_3b067 0 = .ok (.iload_n 1, 1) := by decide +kernel
theorem dJ2_charAt_3b067_1 : decode cJ2_charAt_3b067 1 = .ok (.aload_n 0, 1) := by decide +kernel
theorem dJ2_charAt_3b067_2 : decode cJ2_charAt_3b067 2 = .ok (.invokestatic 67, 3) := by decide +kernel
theorem dJ2_charAt_3b067_5 : decode cJ2_charAt_3b067 5 = .ok (.aload_n 0, 1) := by decide +kernel
theorem dJ2_charAt_3b067_6 : decode cJ2_charAt_3b067 6 = .ok (.iload_n 1, 1) := by decide +kernel
theorem dJ2_charAt_3b067_7 : decode cJ2_charAt_3b067 7 = .ok (.invokestatic 71, 3) := by decide +kernel
theorem dJ2_charAt_3b067_10 : decode cJ2_charAt_3b067 10 = .ok (.ireturn, 1) := by decide +kernel
theorem dJ2_checkIndex_2214a_0 : decode cJ2_checkIndex_2214a 0 = .ok (.iload_n 0, 1) := by decide +kernel
theorem dJ2_checkIndex_2214a_1 : decode cJ2_checkIndex_2214a 1 = .ok (.aload_n 1, 1) := by decide +kernel
theorem dJ2_checkIndex_2214a_2 : decode cJ2_checkIndex_2214a 2 = .ok (.invokestatic 48, 3) := by decide +kernel
theorem dJ2_checkIndex_2214a_5 : decode cJ2_checkIndex_2214a 5 = .ok (.invokestatic 414, 3) := by decide +kernel
theorem dJ2_checkIndex_2214a_8 : decode cJ2_checkIndex_2214a 8 = .ok (.return_, 1) := by decide +kernel
theorem dJ2_checkBoundsBeginEnd_d044e_0 : decode cJ2_checkBoundsBeginEnd_d044e 0 = .ok (.iload_n 0, 1) := by decide +kernel
theorem dJ2_checkBoundsBeginEnd_d044e_1 : decode cJ2_checkBoundsBeginEnd_d044e 1 = .ok (.iload_n 1, 1) := by decide +kernel
theorem dJ2_checkBoundsBeginEnd_d044e_2 : decode cJ2_checkBoundsBeginEnd_d044e 2 = .ok (.aload_n 2, 1) := by decide +kernel
theorem dJ2_checkBoundsBeginEnd_d044e_3 : decode cJ2_checkBoundsBeginEnd_d044e 3 = .ok (.invokestatic 48, 3) := by decide +kernel
theorem dJ2_checkBoundsBeginEnd_d044e_6 : decode cJ2_checkBoundsBeginEnd_d044e 6 = .ok (.invokestatic 241, 3) := by decide +kernel
theorem dJ2_checkBoundsBeginEnd_d044e_9 : decode cJ2_checkBoundsBeginEnd_d044e 9 = .ok (.return_, 1) := by decide +kernel
theorem dJ7_fill_53178_0 : decode cJ7_fill_53178 0 = .ok (.iconst 0, 1) := by decide +kernel
theorem dJ7_fill_53178_1 : decode cJ7_fill_53178 1 = .ok (.istore_n 2, 1) := by decide +kernel
theorem dJ7_fill_53178_2 : decode cJ7_fill_53178 2 = .ok (.aload_n 0, 1) := by decide +kernel
theorem dJ7_fill_53178_3 : decode cJ7_fill_53178 3 = .ok (.arraylength, 1) := by decide +kernel
theorem dJ7_fill_53178_4 : decode cJ7_fill_53178 4 = .ok (.istore_n 3, 1) := by decide +kernel
theorem dJ7_fill_53178_5 : decode cJ7_fill_53178 5 = .ok (.iload_n 2, 1) := by decide +kernel
theorem dJ7_fill_53178_6 : decode cJ7_fill_53178 6 = .ok (.iload_n 3, 1) := by decide +kernel
theorem dJ7_fill_53178_7 : decode cJ7_fill_53178 7 = .ok (.if_icmp .ge 13, 3) := by decide +kernel
theorem dJ7_fill_53178_10 : decode cJ7_fill_53178 10 = .ok (.aload_n 0, 1) := by decide +kernel
theorem dJ7_fill_53178_11 : decode cJ7_fill_53178 11 = .ok (.iload_n 2, 1) := by decide +kernel
theorem dJ7_fill_53178_12 : decode cJ7_fill_53178 12 = .ok (.iload_n 1, 1) := by decide +kernel
theorem dJ7_fill_53178_13 : decode cJ7_fill_53178 13 = .ok (.iastore, 1) := by decide +kernel
theorem dJ7_fill_53178_14 : decode cJ7_fill_53178 14 = .ok (.iinc 2 1, 3) := by decide +kernel
theorem dJ7_fill_53178_17 : decode cJ7_fill_53178 17 = .ok (.goto (-12), 3) := by decide +kernel
theorem dJ7_fill_53178_20 : decode cJ7_fill_53178 20 = .ok (.return_, 1) := by decide +kernel
theorem dJ7_copyOf_59c91_0 : decode cJ7_copyOf_59c91 0 = .ok (.iload_n 1, 1) := by decide +kernel
theorem dJ7_copyOf_59c91_1 : decode cJ7_copyOf_59c91 1 = .ok (.aload_n 0, 1) := by decide +kernel
theorem dJ7_copyOf_59c91_2 : decode cJ7_copyOf_59c91 2 = .ok (.arraylength, 1) := by decide +kernel
theorem dJ7_copyOf_59c91_3 : decode cJ7_copyOf_59c91 3 = .ok (.if_icmp .ne 11, 3) := by decide +kernel
theorem dJ7_copyOf_59c91_6 : decode cJ7_copyOf_59c91 6 = .ok (.aload_n 0, 1) := by decide +kernel
theorem dJ7_copyOf_59c91_7 : decode cJ7_copyOf_59c91 7 = .ok (.invokevirtual 316, 3) := by decide +kernel
theorem dJ7_copyOf_59c91_10 : decode cJ7_copyOf_59c91 10 = .ok (.checkcast 317, 3) := by decide +kernel
theorem dJ7_copyOf_59c91_13 : decode cJ7_copyOf_59c91 13 = .ok (.areturn, 1) := by decide +kernel
theorem dJ7_copyOf_59c91_14 : decode cJ7_copyOf_59c91 14 = .ok (.iload_n 1, 1) := by decide +kernel
theorem dJ7_copyOf_59c91_15 : decode cJ7_copyOf_59c91 15 = .ok (.newarray .int, 2) := by decide +kernel
theorem dJ7_copyOf_59c91_17 : decode cJ7_copyOf_59c91 17 = .ok (.astore_n 2, 1) := by decide +kernel
theorem dJ7_copyOf_59c91_18 : decode cJ7_copyOf_59c91 18 = .ok (.aload_n 0, 1) := by decide +kernel
theorem dJ7_copyOf_59c91_19 : decode cJ7_copyOf_59c91 19 = .ok (.iconst 0, 1) := by decide +kernel
theorem dJ7_copyOf_59c91_20 : decode cJ7_copyOf_59c91 20 = .ok (.aload_n 2, 1) := by decide +kernel
theorem dJ7_copyOf_59c91_21 : decode cJ7_copyOf_59c91 21 = .ok (.iconst 0, 1) := by decide +kernel
theorem dJ7_copyOf_59c91_22 : decode cJ7_copyOf_59c91 22 = .ok (.aload_n 0, 1) := by decide +kernel
theorem dJ7_copyOf_59c91_23 : decode cJ7_copyOf_59c91 23 = .ok (.arraylength, 1) := by decide +kernel
theorem dJ7_copyOf_59c91_24 : decode cJ7_copyOf_59c91 24 = .ok (.iload_n 1, 1) := by decide +kernel
theorem dJ7_copyOf_59c91_25 : decode cJ7_copyOf_59c91 25 = .ok (.invokestatic 304, 3) := by decide +kernel
theorem dJ7_copyOf_59c91_28 : decode cJ7_copyOf_59c91 28 = .ok (.invokestatic 150, 3) := by decide +kernel
theorem dJ7_copyOf_59c91_31 : decode cJ7_copyOf_59c91 31 = .ok (.aload_n 2, 1) := by decide +kernel
theorem dJ7_copyOf_59c91_32 : decode cJ7_copyOf_59c91 32 = .ok (.areturn, 1) := by decide +kernel
theorem dJ3_checkIndex_8e157_0 : decode cJ3_checkIndex_8e157 0 = .ok (.iload_n 0, 1) := by decide +kernel
theorem dJ3_checkIndex_8e157_1 : decode cJ3_checkIndex_8e157 1 = .ok (.ifCond .lt 8, 3) := by decide +kernel
theorem dJ3_checkIndex_8e157_4 : decode cJ3_checkIndex_8e157 4 = .ok (.iload_n 0, 1) := by decide +kernel
theorem dJ3_checkIndex_8e157_5 : decode cJ3_checkIndex_8e157 5 = .ok (.iload_n 1, 1) := by decide +kernel
theorem dJ3_checkIndex_8e157_6 : decode cJ3_checkIndex_8e157 6 = .ok (.if_icmp .lt 10, 3) := by decide +kernel
theorem dJ3_checkIndex_8e157_9 : decode cJ3_checkIndex_8e157 9 = .ok (.aload_n 2, 1) := by decide +kernel
theorem dJ3_checkIndex_8e157_10 : decode cJ3_checkIndex_8e157 10 = .ok (.iload_n 0, 1) := by decide +kernel
theorem dJ3_checkIndex_8e157_11 : decode cJ3_checkIndex_8e157 11 = .ok (.iload_n 1, 1) := by decide +kernel
theorem dJ3_checkIndex_8e157_12 : decode cJ3_checkIndex_8e157 12 = .ok (.invokestatic 95, 3) := by decide +kernel
theorem dJ3_checkIndex_8e157_15 : decode cJ3_checkIndex_8e157 15 = .ok (.athrow, 1) := by decide +kernel
theorem dJ3_checkIndex_8e157_16 : decode cJ3_checkIndex_8e157 16 = .ok (.iload_n 0, 1) := by decide +kernel
theorem dJ3_checkIndex_8e157_17 : decode cJ3_checkIndex_8e157 17 = .ok (.ireturn, 1) := by decide +kernel
theorem dJ3_checkFromToIndex_8c36e_0 : decode cJ3_checkFromToIndex_8c36e 0 = .ok (.iload_n 0, 1) := by decide +kernel
theorem dJ3_checkFromToIndex_8c36e_1 : decode cJ3_checkFromToIndex_8c36e 1 = .ok (.ifCond .lt 13, 3) := by decide +kernel
theorem dJ3_checkFromToIndex_8c36e_4 : decode cJ3_checkFromToIndex_8c36e 4 = .ok (.iload_n 0, 1) := by decide +kernel
theorem dJ3_checkFromToIndex_8c36e_5 : decode cJ3_checkFromToIndex_8c36e 5 = .ok (.iload_n 1, 1) := by decide +kernel
theorem dJ3_checkFromToIndex_8c36e_6 : decode cJ3_checkFromToIndex_8c36e 6 = .ok (.if_icmp .gt 8, 3) := by decide +kernel
theorem dJ3_checkFromToIndex_8c36e_9 : decode cJ3_checkFromToIndex_8c36e 9 = .ok (.iload_n 1, 1) := by decide +kernel
theorem dJ3_checkFromToIndex_8c36e_10 : decode cJ3_checkFromToIndex_8c36e 10 = .ok (.iload_n 2, 1) := by decide +kernel
theorem dJ3_checkFromToIndex_8c36e_11 : decode cJ3_checkFromToIndex_8c36e 11 = .ok (.if_icmp .le 11, 3) := by decide +kernel
theorem dJ3_checkFromToIndex_8c36e_14 : decode cJ3_checkFromToIndex_8c36e 14 = .ok (.aload_n 3, 1) := by decide +kernel
theorem dJ3_checkFromToIndex_8c36e_15 : decode cJ3_checkFromToIndex_8c36e 15 = .ok (.iload_n 0, 1) := by decide +kernel
theorem dJ3_checkFromToIndex_8c36e_16 : decode cJ3_checkFromToIndex_8c36e 16 = .ok (.iload_n 1, 1) := by decide +kernel
theorem dJ3_checkFromToIndex_8c36e_17 : decode cJ3_checkFromToIndex_8c36e 17 = .ok (.iload_n 2, 1) := by decide +kernel
theorem dJ3_checkFromToIndex_8c36e_18 : decode cJ3_checkFromToIndex_8c36e 18 = .ok (.invokestatic 99, 3) := by decide +kernel
theorem dJ3_checkFromToIndex_8c36e_21 : decode cJ3_checkFromToIndex_8c36e 21 = .ok (.athrow, 1) := by decide +kernel
theorem dJ3_checkFromToIndex_8c36e_22 : decode cJ3_checkFromToIndex_8c36e 22 = .ok (.iload_n 0, 1) := by decide +kernel
theorem dJ3_checkFromToIndex_8c36e_23 : decode cJ3_checkFromToIndex_8c36e 23 = .ok (.ireturn, 1) := by decide +kernel
theorem dL_told_0 : decode cL_told 0 = .ok (.aload_n 3, 1) := by decide +kernel
theorem dL_told_1 : decode cL_told 1 = .ok (.iconst 0, 1) := by decide +kernel
theorem dL_told_2 : decode cL_told 2 = .ok (.aload_n 0, 1) := by decide +kernel
theorem dL_told_3 : decode cL_told 3 = .ok (.iload_n 1, 1) := by decide +kernel
theorem dL_told_4 : decode cL_told 4 = .ok (.iload_n 2, 1) := by decide +kernel
theorem dL_told_5 : decode cL_told 5 = .ok (.invokevirtual 7, 3) := by decide +kernel
theorem dL_told_8 : decode cL_told 8 = .ok (.i2l, 1) := by decide +kernel
theorem dL_told_9 : decode cL_told 9 = .ok (.lastore, 1) := by decide +kernel
theorem dL_told_10 : decode cL_told 10 = .ok (.goto 7, 3) := by decide +kernel
theorem dL_told_13 : decode cL_told 13 = .ok (.astore 4, 2) := by decide +kernel
theorem dL_told_15 : decode cL_told 15 = .ok (.iconst 1, 1) := by decide +kernel
theorem dL_told_16 : decode cL_told 16 = .ok (.ireturn, 1) := by decide +kernel
theorem dL_told_17 : decode cL_told 17 = .ok (.iconst 0, 1) := by decide +kernel
theorem dL_told_18 : decode cL_told 18 = .ok (.ireturn, 1) := by decide +kernel
theorem dL_law_0 : decode cL_law 0 = .ok (.new 8, 3) := by decide +kernel
theorem dL_law_3 : decode cL_law 3 = .ok (.dup, 1) := by decide +kernel
theorem dL_law_4 : decode cL_law 4 = .ok (.invokespecial 15, 3) := by decide +kernel
theorem dL_law_7 : decode cL_law 7 = .ok (.astore_n 1, 1) := by decide +kernel
theorem dL_law_8 : decode cL_law 8 = .ok (.new 16, 3) := by decide +kernel
theorem dL_law_11 : decode cL_law 11 = .ok (.dup, 1) := by decide +kernel
theorem dL_law_12 : decode cL_law 12 = .ok (.invokespecial 18, 3) := by decide +kernel
theorem dL_law_15 : decode cL_law 15 = .ok (.astore_n 2, 1) := by decide +kernel
theorem dL_law_16 : decode cL_law 16 = .ok (.iconst 1, 1) := by decide +kernel
theorem dL_law_17 : decode cL_law 17 = .ok (.newarray .long, 2) := by decide +kernel
theorem dL_law_19 : decode cL_law 19 = .ok (.astore_n 3, 1) := by decide +kernel
theorem dL_law_20 : decode cL_law 20 = .ok (.iconst 0, 1) := by decide +kernel
theorem dL_law_21 : decode cL_law 21 = .ok (.istore 4, 2) := by decide +kernel
theorem dL_law_23 : decode cL_law 23 = .ok (.iload 4, 2) := by decide +kernel
theorem dL_law_25 : decode cL_law 25 = .ok (.aload_n 0, 1) := by decide +kernel
theorem dL_law_26 : decode cL_law 26 = .ok (.arraylength, 1) := by decide +kernel
theorem dL_law_27 : decode cL_law 27 = .ok (.bipush 7, 2) := by decide +kernel
theorem dL_law_29 : decode cL_law 29 = .ok (.isub, 1) := by decide +kernel
theorem dL_law_30 : decode cL_law 30 = .ok (.if_icmp .gt 790, 3) := by decide +kernel
theorem dL_law_33 : decode cL_law 33 = .ok (.aload_n 0, 1) := by decide +kernel
theorem dL_law_34 : decode cL_law 34 = .ok (.iload 4, 2) := by decide +kernel
theorem dL_law_36 : decode cL_law 36 = .ok (.iaload, 1) := by decide +kernel
theorem dL_law_37 : decode cL_law 37 = .ok (.bipush 31, 2) := by decide +kernel
theorem dL_law_39 : decode cL_law 39 = .ok (.iand, 1) := by decide +kernel
theorem dL_law_40 : decode cL_law 40 = .ok (.tableswitch 774 0 16 #[84, 231, 256, 281, 306, 343, 368, 421, 446, 471, 496, 521, 558, 595, 656, 681, 749], 84) := by decide +kernel
theorem dL_law_124 : decode cL_law 124 = .ok (.aload_n 1, 1) := by decide +kernel
theorem dL_law_125 : decode cL_law 125 = .ok (.aload_n 0, 1) := by decide +kernel
theorem dL_law_126 : decode cL_law 126 = .ok (.iload 4, 2) := by decide +kernel
theorem dL_law_128 : decode cL_law 128 = .ok (.iconst 1, 1) := by decide +kernel
theorem dL_law_129 : decode cL_law 129 = .ok (.iadd, 1) := by decide +kernel
theorem dL_law_130 : decode cL_law 130 = .ok (.iaload, 1) := by decide +kernel
theorem dL_law_131 : decode cL_law 131 = .ok (.i2l, 1) := by decide +kernel
theorem dL_law_132 : decode cL_law 132 = .ok (.bipush 32, 2) := by decide +kernel
theorem dL_law_134 : decode cL_law 134 = .ok (.lshl, 1) := by decide +kernel
theorem dL_law_135 : decode cL_law 135 = .ok (.aload_n 0, 1) := by decide +kernel
theorem dL_law_136 : decode cL_law 136 = .ok (.iload 4, 2) := by decide +kernel
theorem dL_law_138 : decode cL_law 138 = .ok (.iconst 2, 1) := by decide +kernel
theorem dL_law_139 : decode cL_law 139 = .ok (.iadd, 1) := by decide +kernel
theorem dL_law_140 : decode cL_law 140 = .ok (.iaload, 1) := by decide +kernel
theorem dL_law_141 : decode cL_law 141 = .ok (.i2l, 1) := by decide +kernel
theorem dL_law_142 : decode cL_law 142 = .ok (.ldc2_w 19, 3) := by decide +kernel
theorem dL_law_145 : decode cL_law 145 = .ok (.land, 1) := by decide +kernel
theorem dL_law_146 : decode cL_law 146 = .ok (.lor, 1) := by decide +kernel
theorem dL_law_147 : decode cL_law 147 = .ok (.aload_n 0, 1) := by decide +kernel
theorem dL_law_148 : decode cL_law 148 = .ok (.iload 4, 2) := by decide +kernel
theorem dL_law_150 : decode cL_law 150 = .ok (.iconst 3, 1) := by decide +kernel
theorem dL_law_151 : decode cL_law 151 = .ok (.iadd, 1) := by decide +kernel
theorem dL_law_152 : decode cL_law 152 = .ok (.iaload, 1) := by decide +kernel
theorem dL_law_153 : decode cL_law 153 = .ok (.i2l, 1) := by decide +kernel
theorem dL_law_154 : decode cL_law 154 = .ok (.bipush 32, 2) := by decide +kernel
theorem dL_law_156 : decode cL_law 156 = .ok (.lshl, 1) := by decide +kernel
theorem dL_law_157 : decode cL_law 157 = .ok (.aload_n 0, 1) := by decide +kernel
theorem dL_law_158 : decode cL_law 158 = .ok (.iload 4, 2) := by decide +kernel
theorem dL_law_160 : decode cL_law 160 = .ok (.iconst 4, 1) := by decide +kernel
theorem dL_law_161 : decode cL_law 161 = .ok (.iadd, 1) := by decide +kernel
theorem dL_law_162 : decode cL_law 162 = .ok (.iaload, 1) := by decide +kernel
theorem dL_law_163 : decode cL_law 163 = .ok (.i2l, 1) := by decide +kernel
theorem dL_law_164 : decode cL_law 164 = .ok (.ldc2_w 19, 3) := by decide +kernel
theorem dL_law_167 : decode cL_law 167 = .ok (.land, 1) := by decide +kernel
theorem dL_law_168 : decode cL_law 168 = .ok (.lor, 1) := by decide +kernel
theorem dL_law_169 : decode cL_law 169 = .ok (.aload_n 0, 1) := by decide +kernel
theorem dL_law_170 : decode cL_law 170 = .ok (.iload 4, 2) := by decide +kernel
theorem dL_law_172 : decode cL_law 172 = .ok (.iconst 5, 1) := by decide +kernel
theorem dL_law_173 : decode cL_law 173 = .ok (.iadd, 1) := by decide +kernel
theorem dL_law_174 : decode cL_law 174 = .ok (.iaload, 1) := by decide +kernel
theorem dL_law_175 : decode cL_law 175 = .ok (.i2l, 1) := by decide +kernel
theorem dL_law_176 : decode cL_law 176 = .ok (.bipush 32, 2) := by decide +kernel
theorem dL_law_178 : decode cL_law 178 = .ok (.lshl, 1) := by decide +kernel
theorem dL_law_179 : decode cL_law 179 = .ok (.aload_n 0, 1) := by decide +kernel
theorem dL_law_180 : decode cL_law 180 = .ok (.iload 4, 2) := by decide +kernel
theorem dL_law_182 : decode cL_law 182 = .ok (.bipush 6, 2) := by decide +kernel
theorem dL_law_184 : decode cL_law 184 = .ok (.iadd, 1) := by decide +kernel
theorem dL_law_185 : decode cL_law 185 = .ok (.iaload, 1) := by decide +kernel
theorem dL_law_186 : decode cL_law 186 = .ok (.i2l, 1) := by decide +kernel
theorem dL_law_187 : decode cL_law 187 = .ok (.ldc2_w 19, 3) := by decide +kernel
theorem dL_law_190 : decode cL_law 190 = .ok (.land, 1) := by decide +kernel
theorem dL_law_191 : decode cL_law 191 = .ok (.lor, 1) := by decide +kernel
theorem dL_law_192 : decode cL_law 192 = .ok (.invokevirtual 21, 3) := by decide +kernel
theorem dL_law_195 : decode cL_law 195 = .ok (.aload_n 2, 1) := by decide +kernel
theorem dL_law_196 : decode cL_law 196 = .ok (.aload_n 0, 1) := by decide +kernel
theorem dL_law_197 : decode cL_law 197 = .ok (.iload 4, 2) := by decide +kernel
theorem dL_law_199 : decode cL_law 199 = .ok (.iconst 1, 1) := by decide +kernel
theorem dL_law_200 : decode cL_law 200 = .ok (.iadd, 1) := by decide +kernel
theorem dL_law_201 : decode cL_law 201 = .ok (.iaload, 1) := by decide +kernel
theorem dL_law_202 : decode cL_law 202 = .ok (.i2l, 1) := by decide +kernel
theorem dL_law_203 : decode cL_law 203 = .ok (.bipush 32, 2) := by decide +kernel
theorem dL_law_205 : decode cL_law 205 = .ok (.lshl, 1) := by decide +kernel
theorem dL_law_206 : decode cL_law 206 = .ok (.aload_n 0, 1) := by decide +kernel
theorem dL_law_207 : decode cL_law 207 = .ok (.iload 4, 2) := by decide +kernel
theorem dL_law_209 : decode cL_law 209 = .ok (.iconst 2, 1) := by decide +kernel
theorem dL_law_210 : decode cL_law 210 = .ok (.iadd, 1) := by decide +kernel
theorem dL_law_211 : decode cL_law 211 = .ok (.iaload, 1) := by decide +kernel
theorem dL_law_212 : decode cL_law 212 = .ok (.i2l, 1) := by decide +kernel
theorem dL_law_213 : decode cL_law 213 = .ok (.ldc2_w 19, 3) := by decide +kernel
theorem dL_law_216 : decode cL_law 216 = .ok (.land, 1) := by decide +kernel
theorem dL_law_217 : decode cL_law 217 = .ok (.lor, 1) := by decide +kernel
theorem dL_law_218 : decode cL_law 218 = .ok (.aload_n 0, 1) := by decide +kernel
theorem dL_law_219 : decode cL_law 219 = .ok (.iload 4, 2) := by decide +kernel
theorem dL_law_221 : decode cL_law 221 = .ok (.iconst 3, 1) := by decide +kernel
theorem dL_law_222 : decode cL_law 222 = .ok (.iadd, 1) := by decide +kernel
theorem dL_law_223 : decode cL_law 223 = .ok (.iaload, 1) := by decide +kernel
theorem dL_law_224 : decode cL_law 224 = .ok (.i2l, 1) := by decide +kernel
theorem dL_law_225 : decode cL_law 225 = .ok (.bipush 32, 2) := by decide +kernel
theorem dL_law_227 : decode cL_law 227 = .ok (.lshl, 1) := by decide +kernel
theorem dL_law_228 : decode cL_law 228 = .ok (.aload_n 0, 1) := by decide +kernel
theorem dL_law_229 : decode cL_law 229 = .ok (.iload 4, 2) := by decide +kernel
theorem dL_law_231 : decode cL_law 231 = .ok (.iconst 4, 1) := by decide +kernel
theorem dL_law_232 : decode cL_law 232 = .ok (.iadd, 1) := by decide +kernel
theorem dL_law_233 : decode cL_law 233 = .ok (.iaload, 1) := by decide +kernel
theorem dL_law_234 : decode cL_law 234 = .ok (.i2l, 1) := by decide +kernel
theorem dL_law_235 : decode cL_law 235 = .ok (.ldc2_w 19, 3) := by decide +kernel
theorem dL_law_238 : decode cL_law 238 = .ok (.land, 1) := by decide +kernel
theorem dL_law_239 : decode cL_law 239 = .ok (.lor, 1) := by decide +kernel
theorem dL_law_240 : decode cL_law 240 = .ok (.aload_n 0, 1) := by decide +kernel
theorem dL_law_241 : decode cL_law 241 = .ok (.iload 4, 2) := by decide +kernel
theorem dL_law_243 : decode cL_law 243 = .ok (.iconst 5, 1) := by decide +kernel
theorem dL_law_244 : decode cL_law 244 = .ok (.iadd, 1) := by decide +kernel
theorem dL_law_245 : decode cL_law 245 = .ok (.iaload, 1) := by decide +kernel
theorem dL_law_246 : decode cL_law 246 = .ok (.i2l, 1) := by decide +kernel
theorem dL_law_247 : decode cL_law 247 = .ok (.bipush 32, 2) := by decide +kernel
theorem dL_law_249 : decode cL_law 249 = .ok (.lshl, 1) := by decide +kernel
theorem dL_law_250 : decode cL_law 250 = .ok (.aload_n 0, 1) := by decide +kernel
theorem dL_law_251 : decode cL_law 251 = .ok (.iload 4, 2) := by decide +kernel
theorem dL_law_253 : decode cL_law 253 = .ok (.bipush 6, 2) := by decide +kernel
theorem dL_law_255 : decode cL_law 255 = .ok (.iadd, 1) := by decide +kernel
theorem dL_law_256 : decode cL_law 256 = .ok (.iaload, 1) := by decide +kernel
theorem dL_law_257 : decode cL_law 257 = .ok (.i2l, 1) := by decide +kernel
theorem dL_law_258 : decode cL_law 258 = .ok (.ldc2_w 19, 3) := by decide +kernel
theorem dL_law_261 : decode cL_law 261 = .ok (.land, 1) := by decide +kernel
theorem dL_law_262 : decode cL_law 262 = .ok (.lor, 1) := by decide +kernel
theorem dL_law_263 : decode cL_law 263 = .ok (.invokevirtual 25, 3) := by decide +kernel
theorem dL_law_266 : decode cL_law 266 = .ok (.if_icmp .eq 548, 3) := by decide +kernel
theorem dL_law_269 : decode cL_law 269 = .ok (.iconst 0, 1) := by decide +kernel
theorem dL_law_270 : decode cL_law 270 = .ok (.ireturn, 1) := by decide +kernel
theorem dL_law_271 : decode cL_law 271 = .ok (.aload_n 1, 1) := by decide +kernel
theorem dL_law_272 : decode cL_law 272 = .ok (.aload_n 0, 1) := by decide +kernel
theorem dL_law_273 : decode cL_law 273 = .ok (.iload 4, 2) := by decide +kernel
theorem dL_law_275 : decode cL_law 275 = .ok (.iconst 1, 1) := by decide +kernel
theorem dL_law_276 : decode cL_law 276 = .ok (.iadd, 1) := by decide +kernel
theorem dL_law_277 : decode cL_law 277 = .ok (.iaload, 1) := by decide +kernel
theorem dL_law_278 : decode cL_law 278 = .ok (.invokevirtual 26, 3) := by decide +kernel
theorem dL_law_281 : decode cL_law 281 = .ok (.aload_n 2, 1) := by decide +kernel
theorem dL_law_282 : decode cL_law 282 = .ok (.aload_n 0, 1) := by decide +kernel
theorem dL_law_283 : decode cL_law 283 = .ok (.iload 4, 2) := by decide +kernel
theorem dL_law_285 : decode cL_law 285 = .ok (.iconst 1, 1) := by decide +kernel
theorem dL_law_286 : decode cL_law 286 = .ok (.iadd, 1) := by decide +kernel
theorem dL_law_287 : decode cL_law 287 = .ok (.iaload, 1) := by decide +kernel
theorem dL_law_288 : decode cL_law 288 = .ok (.invokevirtual 30, 3) := by decide +kernel
theorem dL_law_291 : decode cL_law 291 = .ok (.if_icmp .eq 523, 3) := by decide +kernel
theorem dL_law_294 : decode cL_law 294 = .ok (.iconst 0, 1) := by decide +kernel
theorem dL_law_295 : decode cL_law 295 = .ok (.ireturn, 1) := by decide +kernel
theorem dL_law_296 : decode cL_law 296 = .ok (.aload_n 1, 1) := by decide +kernel
theorem dL_law_297 : decode cL_law 297 = .ok (.aload_n 0, 1) := by decide +kernel
theorem dL_law_298 : decode cL_law 298 = .ok (.iload 4, 2) := by decide +kernel
theorem dL_law_300 : decode cL_law 300 = .ok (.iconst 1, 1) := by decide +kernel
theorem dL_law_301 : decode cL_law 301 = .ok (.iadd, 1) := by decide +kernel
theorem dL_law_302 : decode cL_law 302 = .ok (.iaload, 1) := by decide +kernel
theorem dL_law_303 : decode cL_law 303 = .ok (.invokevirtual 31, 3) := by decide +kernel
theorem dL_law_306 : decode cL_law 306 = .ok (.aload_n 2, 1) := by decide +kernel
theorem dL_law_307 : decode cL_law 307 = .ok (.aload_n 0, 1) := by decide +kernel
theorem dL_law_308 : decode cL_law 308 = .ok (.iload 4, 2) := by decide +kernel
theorem dL_law_310 : decode cL_law 310 = .ok (.iconst 1, 1) := by decide +kernel
theorem dL_law_311 : decode cL_law 311 = .ok (.iadd, 1) := by decide +kernel
theorem dL_law_312 : decode cL_law 312 = .ok (.iaload, 1) := by decide +kernel
theorem dL_law_313 : decode cL_law 313 = .ok (.invokevirtual 35, 3) := by decide +kernel
theorem dL_law_316 : decode cL_law 316 = .ok (.if_icmp .eq 498, 3) := by decide +kernel
theorem dL_law_319 : decode cL_law 319 = .ok (.iconst 0, 1) := by decide +kernel
theorem dL_law_320 : decode cL_law 320 = .ok (.ireturn, 1) := by decide +kernel
theorem dL_law_321 : decode cL_law 321 = .ok (.aload_n 1, 1) := by decide +kernel
theorem dL_law_322 : decode cL_law 322 = .ok (.aload_n 0, 1) := by decide +kernel
theorem dL_law_323 : decode cL_law 323 = .ok (.iload 4, 2) := by decide +kernel
theorem dL_law_325 : decode cL_law 325 = .ok (.iconst 1, 1) := by decide +kernel
theorem dL_law_326 : decode cL_law 326 = .ok (.iadd, 1) := by decide +kernel
theorem dL_law_327 : decode cL_law 327 = .ok (.iaload, 1) := by decide +kernel
theorem dL_law_328 : decode cL_law 328 = .ok (.invokevirtual 36, 3) := by decide +kernel
theorem dL_law_331 : decode cL_law 331 = .ok (.aload_n 2, 1) := by decide +kernel
theorem dL_law_332 : decode cL_law 332 = .ok (.aload_n 0, 1) := by decide +kernel
theorem dL_law_333 : decode cL_law 333 = .ok (.iload 4, 2) := by decide +kernel
theorem dL_law_335 : decode cL_law 335 = .ok (.iconst 1, 1) := by decide +kernel
theorem dL_law_336 : decode cL_law 336 = .ok (.iadd, 1) := by decide +kernel
theorem dL_law_337 : decode cL_law 337 = .ok (.iaload, 1) := by decide +kernel
theorem dL_law_338 : decode cL_law 338 = .ok (.invokevirtual 39, 3) := by decide +kernel
theorem dL_law_341 : decode cL_law 341 = .ok (.if_icmp .eq 473, 3) := by decide +kernel
theorem dL_law_344 : decode cL_law 344 = .ok (.iconst 0, 1) := by decide +kernel
theorem dL_law_345 : decode cL_law 345 = .ok (.ireturn, 1) := by decide +kernel
theorem dL_law_346 : decode cL_law 346 = .ok (.aload_n 1, 1) := by decide +kernel
theorem dL_law_347 : decode cL_law 347 = .ok (.aload_n 0, 1) := by decide +kernel
theorem dL_law_348 : decode cL_law 348 = .ok (.iload 4, 2) := by decide +kernel
theorem dL_law_350 : decode cL_law 350 = .ok (.iconst 1, 1) := by decide +kernel
theorem dL_law_351 : decode cL_law 351 = .ok (.iadd, 1) := by decide +kernel
theorem dL_law_352 : decode cL_law 352 = .ok (.iaload, 1) := by decide +kernel
theorem dL_law_353 : decode cL_law 353 = .ok (.aload_n 0, 1) := by decide +kernel
theorem dL_law_354 : decode cL_law 354 = .ok (.iload 4, 2) := by decide +kernel
theorem dL_law_356 : decode cL_law 356 = .ok (.iconst 2, 1) := by decide +kernel
theorem dL_law_357 : decode cL_law 357 = .ok (.iadd, 1) := by decide +kernel
theorem dL_law_358 : decode cL_law 358 = .ok (.iaload, 1) := by decide +kernel
theorem dL_law_359 : decode cL_law 359 = .ok (.invokevirtual 40, 3) := by decide +kernel
theorem dL_law_362 : decode cL_law 362 = .ok (.aload_n 2, 1) := by decide +kernel
theorem dL_law_363 : decode cL_law 363 = .ok (.aload_n 0, 1) := by decide +kernel
theorem dL_law_364 : decode cL_law 364 = .ok (.iload 4, 2) := by decide +kernel
theorem dL_law_366 : decode cL_law 366 = .ok (.iconst 1, 1) := by decide +kernel
theorem dL_law_367 : decode cL_law 367 = .ok (.iadd, 1) := by decide +kernel
theorem dL_law_368 : decode cL_law 368 = .ok (.iaload, 1) := by decide +kernel
theorem dL_law_369 : decode cL_law 369 = .ok (.aload_n 0, 1) := by decide +kernel
theorem dL_law_370 : decode cL_law 370 = .ok (.iload 4, 2) := by decide +kernel
theorem dL_law_372 : decode cL_law 372 = .ok (.iconst 2, 1) := by decide +kernel
theorem dL_law_373 : decode cL_law 373 = .ok (.iadd, 1) := by decide +kernel
theorem dL_law_374 : decode cL_law 374 = .ok (.iaload, 1) := by decide +kernel
theorem dL_law_375 : decode cL_law 375 = .ok (.invokevirtual 44, 3) := by decide +kernel
theorem dL_law_378 : decode cL_law 378 = .ok (.if_icmp .eq 436, 3) := by decide +kernel
theorem dL_law_381 : decode cL_law 381 = .ok (.iconst 0, 1) := by decide +kernel
theorem dL_law_382 : decode cL_law 382 = .ok (.ireturn, 1) := by decide +kernel
theorem dL_law_383 : decode cL_law 383 = .ok (.aload_n 1, 1) := by decide +kernel
end
section
theorem dL_law_384 : decode cL_law 384 = .ok (.aload_n 0, 1) := by decide +kernel
theorem dL_law_385 : decode cL_law 385 = .ok (.iload 4, 2) := by decide +kernel
theorem dL_law_387 : decode cL_law 387 = .ok (.iconst 1, 1) := by decide +kernel
theorem dL_law_388 : decode cL_law 388 = .ok (.iadd, 1) := by decide +kernel
theorem dL_law_389 : decode cL_law 389 = .ok (.iaload, 1) := by decide +kernel
theorem dL_law_390 : decode cL_law 390 = .ok (.invokevirtual 45, 3) := by decide +kernel
theorem dL_law_393 : decode cL_law 393 = .ok (.aload_n 2, 1) := by decide +kernel
theorem dL_law_394 : decode cL_law 394 = .ok (.aload_n 0, 1) := by decide +kernel
theorem dL_law_395 : decode cL_law 395 = .ok (.iload 4, 2) := by decide +kernel
theorem dL_law_397 : decode cL_law 397 = .ok (.iconst 1, 1) := by decide +kernel
theorem dL_law_398 : decode cL_law 398 = .ok (.iadd, 1) := by decide +kernel
theorem dL_law_399 : decode cL_law 399 = .ok (.iaload, 1) := by decide +kernel
theorem dL_law_400 : decode cL_law 400 = .ok (.invokevirtual 48, 3) := by decide +kernel
theorem dL_law_403 : decode cL_law 403 = .ok (.if_icmp .eq 411, 3) := by decide +kernel
theorem dL_law_406 : decode cL_law 406 = .ok (.iconst 0, 1) := by decide +kernel
theorem dL_law_407 : decode cL_law 407 = .ok (.ireturn, 1) := by decide +kernel
theorem dL_law_408 : decode cL_law 408 = .ok (.aload_n 1, 1) := by decide +kernel
theorem dL_law_409 : decode cL_law 409 = .ok (.aload_n 0, 1) := by decide +kernel
theorem dL_law_410 : decode cL_law 410 = .ok (.iload 4, 2) := by decide +kernel
theorem dL_law_412 : decode cL_law 412 = .ok (.iconst 1, 1) := by decide +kernel
theorem dL_law_413 : decode cL_law 413 = .ok (.iadd, 1) := by decide +kernel
theorem dL_law_414 : decode cL_law 414 = .ok (.iaload, 1) := by decide +kernel
theorem dL_law_415 : decode cL_law 415 = .ok (.aload_n 0, 1) := by decide +kernel
theorem dL_law_416 : decode cL_law 416 = .ok (.iload 4, 2) := by decide +kernel
theorem dL_law_418 : decode cL_law 418 = .ok (.iconst 2, 1) := by decide +kernel
theorem dL_law_419 : decode cL_law 419 = .ok (.iadd, 1) := by decide +kernel
theorem dL_law_420 : decode cL_law 420 = .ok (.iaload, 1) := by decide +kernel
theorem dL_law_421 : decode cL_law 421 = .ok (.ifCond .eq 7, 3) := by decide +kernel
theorem dL_law_424 : decode cL_law 424 = .ok (.iconst 1, 1) := by decide +kernel
theorem dL_law_425 : decode cL_law 425 = .ok (.goto 4, 3) := by decide +kernel
theorem dL_law_428 : decode cL_law 428 = .ok (.iconst 0, 1) := by decide +kernel
theorem dL_law_429 : decode cL_law 429 = .ok (.invokevirtual 49, 3) := by decide +kernel
theorem dL_law_432 : decode cL_law 432 = .ok (.aload_n 2, 1) := by decide +kernel
theorem dL_law_433 : decode cL_law 433 = .ok (.aload_n 0, 1) := by decide +kernel
theorem dL_law_434 : decode cL_law 434 = .ok (.iload 4, 2) := by decide +kernel
theorem dL_law_436 : decode cL_law 436 = .ok (.iconst 1, 1) := by decide +kernel
theorem dL_law_437 : decode cL_law 437 = .ok (.iadd, 1) := by decide +kernel
theorem dL_law_438 : decode cL_law 438 = .ok (.iaload, 1) := by decide +kernel
theorem dL_law_439 : decode cL_law 439 = .ok (.aload_n 0, 1) := by decide +kernel
theorem dL_law_440 : decode cL_law 440 = .ok (.iload 4, 2) := by decide +kernel
theorem dL_law_442 : decode cL_law 442 = .ok (.iconst 2, 1) := by decide +kernel
theorem dL_law_443 : decode cL_law 443 = .ok (.iadd, 1) := by decide +kernel
theorem dL_law_444 : decode cL_law 444 = .ok (.iaload, 1) := by decide +kernel
theorem dL_law_445 : decode cL_law 445 = .ok (.ifCond .eq 7, 3) := by decide +kernel
theorem dL_law_448 : decode cL_law 448 = .ok (.iconst 1, 1) := by decide +kernel
theorem dL_law_449 : decode cL_law 449 = .ok (.goto 4, 3) := by decide +kernel
theorem dL_law_452 : decode cL_law 452 = .ok (.iconst 0, 1) := by decide +kernel
theorem dL_law_453 : decode cL_law 453 = .ok (.invokevirtual 53, 3) := by decide +kernel
theorem dL_law_456 : decode cL_law 456 = .ok (.if_icmp .eq 358, 3) := by decide +kernel
theorem dL_law_459 : decode cL_law 459 = .ok (.iconst 0, 1) := by decide +kernel
theorem dL_law_460 : decode cL_law 460 = .ok (.ireturn, 1) := by decide +kernel
theorem dL_law_461 : decode cL_law 461 = .ok (.aload_n 1, 1) := by decide +kernel
theorem dL_law_462 : decode cL_law 462 = .ok (.aload_n 0, 1) := by decide +kernel
theorem dL_law_463 : decode cL_law 463 = .ok (.iload 4, 2) := by decide +kernel
theorem dL_law_465 : decode cL_law 465 = .ok (.iconst 1, 1) := by decide +kernel
theorem dL_law_466 : decode cL_law 466 = .ok (.iadd, 1) := by decide +kernel
theorem dL_law_467 : decode cL_law 467 = .ok (.iaload, 1) := by decide +kernel
theorem dL_law_468 : decode cL_law 468 = .ok (.invokevirtual 54, 3) := by decide +kernel
theorem dL_law_471 : decode cL_law 471 = .ok (.aload_n 2, 1) := by decide +kernel
theorem dL_law_472 : decode cL_law 472 = .ok (.aload_n 0, 1) := by decide +kernel
theorem dL_law_473 : decode cL_law 473 = .ok (.iload 4, 2) := by decide +kernel
theorem dL_law_475 : decode cL_law 475 = .ok (.iconst 1, 1) := by decide +kernel
theorem dL_law_476 : decode cL_law 476 = .ok (.iadd, 1) := by decide +kernel
theorem dL_law_477 : decode cL_law 477 = .ok (.iaload, 1) := by decide +kernel
theorem dL_law_478 : decode cL_law 478 = .ok (.invokevirtual 57, 3) := by decide +kernel
theorem dL_law_481 : decode cL_law 481 = .ok (.if_icmp .eq 333, 3) := by decide +kernel
theorem dL_law_484 : decode cL_law 484 = .ok (.iconst 0, 1) := by decide +kernel
theorem dL_law_485 : decode cL_law 485 = .ok (.ireturn, 1) := by decide +kernel
theorem dL_law_486 : decode cL_law 486 = .ok (.aload_n 1, 1) := by decide +kernel
theorem dL_law_487 : decode cL_law 487 = .ok (.aload_n 0, 1) := by decide +kernel
theorem dL_law_488 : decode cL_law 488 = .ok (.iload 4, 2) := by decide +kernel
theorem dL_law_490 : decode cL_law 490 = .ok (.iconst 1, 1) := by decide +kernel
theorem dL_law_491 : decode cL_law 491 = .ok (.iadd, 1) := by decide +kernel
theorem dL_law_492 : decode cL_law 492 = .ok (.iaload, 1) := by decide +kernel
theorem dL_law_493 : decode cL_law 493 = .ok (.invokevirtual 58, 3) := by decide +kernel
theorem dL_law_496 : decode cL_law 496 = .ok (.aload_n 2, 1) := by decide +kernel
theorem dL_law_497 : decode cL_law 497 = .ok (.aload_n 0, 1) := by decide +kernel
theorem dL_law_498 : decode cL_law 498 = .ok (.iload 4, 2) := by decide +kernel
theorem dL_law_500 : decode cL_law 500 = .ok (.iconst 1, 1) := by decide +kernel
theorem dL_law_501 : decode cL_law 501 = .ok (.iadd, 1) := by decide +kernel
theorem dL_law_502 : decode cL_law 502 = .ok (.iaload, 1) := by decide +kernel
theorem dL_law_503 : decode cL_law 503 = .ok (.invokevirtual 61, 3) := by decide +kernel
theorem dL_law_506 : decode cL_law 506 = .ok (.if_icmp .eq 308, 3) := by decide +kernel
theorem dL_law_509 : decode cL_law 509 = .ok (.iconst 0, 1) := by decide +kernel
theorem dL_law_510 : decode cL_law 510 = .ok (.ireturn, 1) := by decide +kernel
theorem dL_law_511 : decode cL_law 511 = .ok (.aload_n 1, 1) := by decide +kernel
theorem dL_law_512 : decode cL_law 512 = .ok (.aload_n 0, 1) := by decide +kernel
theorem dL_law_513 : decode cL_law 513 = .ok (.iload 4, 2) := by decide +kernel
theorem dL_law_515 : decode cL_law 515 = .ok (.iconst 1, 1) := by decide +kernel
theorem dL_law_516 : decode cL_law 516 = .ok (.iadd, 1) := by decide +kernel
theorem dL_law_517 : decode cL_law 517 = .ok (.iaload, 1) := by decide +kernel
theorem dL_law_518 : decode cL_law 518 = .ok (.invokevirtual 62, 3) := by decide +kernel
theorem dL_law_521 : decode cL_law 521 = .ok (.aload_n 2, 1) := by decide +kernel
theorem dL_law_522 : decode cL_law 522 = .ok (.aload_n 0, 1) := by decide +kernel
theorem dL_law_523 : decode cL_law 523 = .ok (.iload 4, 2) := by decide +kernel
theorem dL_law_525 : decode cL_law 525 = .ok (.iconst 1, 1) := by decide +kernel
theorem dL_law_526 : decode cL_law 526 = .ok (.iadd, 1) := by decide +kernel
theorem dL_law_527 : decode cL_law 527 = .ok (.iaload, 1) := by decide +kernel
theorem dL_law_528 : decode cL_law 528 = .ok (.invokevirtual 65, 3) := by decide +kernel
theorem dL_law_531 : decode cL_law 531 = .ok (.if_icmp .eq 283, 3) := by decide +kernel
theorem dL_law_534 : decode cL_law 534 = .ok (.iconst 0, 1) := by decide +kernel
theorem dL_law_535 : decode cL_law 535 = .ok (.ireturn, 1) := by decide +kernel
theorem dL_law_536 : decode cL_law 536 = .ok (.aload_n 1, 1) := by decide +kernel
theorem dL_law_537 : decode cL_law 537 = .ok (.aload_n 0, 1) := by decide +kernel
theorem dL_law_538 : decode cL_law 538 = .ok (.iload 4, 2) := by decide +kernel
theorem dL_law_540 : decode cL_law 540 = .ok (.iconst 1, 1) := by decide +kernel
theorem dL_law_541 : decode cL_law 541 = .ok (.iadd, 1) := by decide +kernel
theorem dL_law_542 : decode cL_law 542 = .ok (.iaload, 1) := by decide +kernel
theorem dL_law_543 : decode cL_law 543 = .ok (.invokevirtual 66, 3) := by decide +kernel
theorem dL_law_546 : decode cL_law 546 = .ok (.aload_n 2, 1) := by decide +kernel
theorem dL_law_547 : decode cL_law 547 = .ok (.aload_n 0, 1) := by decide +kernel
theorem dL_law_548 : decode cL_law 548 = .ok (.iload 4, 2) := by decide +kernel
theorem dL_law_550 : decode cL_law 550 = .ok (.iconst 1, 1) := by decide +kernel
theorem dL_law_551 : decode cL_law 551 = .ok (.iadd, 1) := by decide +kernel
theorem dL_law_552 : decode cL_law 552 = .ok (.iaload, 1) := by decide +kernel
theorem dL_law_553 : decode cL_law 553 = .ok (.invokevirtual 69, 3) := by decide +kernel
theorem dL_law_556 : decode cL_law 556 = .ok (.if_icmp .eq 258, 3) := by decide +kernel
theorem dL_law_559 : decode cL_law 559 = .ok (.iconst 0, 1) := by decide +kernel
theorem dL_law_560 : decode cL_law 560 = .ok (.ireturn, 1) := by decide +kernel
theorem dL_law_561 : decode cL_law 561 = .ok (.aload_n 1, 1) := by decide +kernel
theorem dL_law_562 : decode cL_law 562 = .ok (.aload_n 0, 1) := by decide +kernel
theorem dL_law_563 : decode cL_law 563 = .ok (.iload 4, 2) := by decide +kernel
theorem dL_law_565 : decode cL_law 565 = .ok (.iconst 1, 1) := by decide +kernel
theorem dL_law_566 : decode cL_law 566 = .ok (.iadd, 1) := by decide +kernel
theorem dL_law_567 : decode cL_law 567 = .ok (.iaload, 1) := by decide +kernel
theorem dL_law_568 : decode cL_law 568 = .ok (.aload_n 0, 1) := by decide +kernel
theorem dL_law_569 : decode cL_law 569 = .ok (.iload 4, 2) := by decide +kernel
theorem dL_law_571 : decode cL_law 571 = .ok (.iconst 2, 1) := by decide +kernel
theorem dL_law_572 : decode cL_law 572 = .ok (.iadd, 1) := by decide +kernel
theorem dL_law_573 : decode cL_law 573 = .ok (.iaload, 1) := by decide +kernel
theorem dL_law_574 : decode cL_law 574 = .ok (.invokevirtual 70, 3) := by decide +kernel
theorem dL_law_577 : decode cL_law 577 = .ok (.aload_n 2, 1) := by decide +kernel
theorem dL_law_578 : decode cL_law 578 = .ok (.aload_n 0, 1) := by decide +kernel
theorem dL_law_579 : decode cL_law 579 = .ok (.iload 4, 2) := by decide +kernel
theorem dL_law_581 : decode cL_law 581 = .ok (.iconst 1, 1) := by decide +kernel
theorem dL_law_582 : decode cL_law 582 = .ok (.iadd, 1) := by decide +kernel
theorem dL_law_583 : decode cL_law 583 = .ok (.iaload, 1) := by decide +kernel
theorem dL_law_584 : decode cL_law 584 = .ok (.aload_n 0, 1) := by decide +kernel
theorem dL_law_585 : decode cL_law 585 = .ok (.iload 4, 2) := by decide +kernel
theorem dL_law_587 : decode cL_law 587 = .ok (.iconst 2, 1) := by decide +kernel
theorem dL_law_588 : decode cL_law 588 = .ok (.iadd, 1) := by decide +kernel
theorem dL_law_589 : decode cL_law 589 = .ok (.iaload, 1) := by decide +kernel
theorem dL_law_590 : decode cL_law 590 = .ok (.invokevirtual 73, 3) := by decide +kernel
theorem dL_law_593 : decode cL_law 593 = .ok (.if_icmp .eq 221, 3) := by decide +kernel
theorem dL_law_596 : decode cL_law 596 = .ok (.iconst 0, 1) := by decide +kernel
theorem dL_law_597 : decode cL_law 597 = .ok (.ireturn, 1) := by decide +kernel
theorem dL_law_598 : decode cL_law 598 = .ok (.aload_n 1, 1) := by decide +kernel
theorem dL_law_599 : decode cL_law 599 = .ok (.aload_n 0, 1) := by decide +kernel
theorem dL_law_600 : decode cL_law 600 = .ok (.iload 4, 2) := by decide +kernel
theorem dL_law_602 : decode cL_law 602 = .ok (.iconst 1, 1) := by decide +kernel
theorem dL_law_603 : decode cL_law 603 = .ok (.iadd, 1) := by decide +kernel
theorem dL_law_604 : decode cL_law 604 = .ok (.iaload, 1) := by decide +kernel
theorem dL_law_605 : decode cL_law 605 = .ok (.aload_n 0, 1) := by decide +kernel
theorem dL_law_606 : decode cL_law 606 = .ok (.iload 4, 2) := by decide +kernel
theorem dL_law_608 : decode cL_law 608 = .ok (.iconst 2, 1) := by decide +kernel
theorem dL_law_609 : decode cL_law 609 = .ok (.iadd, 1) := by decide +kernel
theorem dL_law_610 : decode cL_law 610 = .ok (.iaload, 1) := by decide +kernel
theorem dL_law_611 : decode cL_law 611 = .ok (.invokevirtual 74, 3) := by decide +kernel
theorem dL_law_614 : decode cL_law 614 = .ok (.aload_n 2, 1) := by decide +kernel
theorem dL_law_615 : decode cL_law 615 = .ok (.aload_n 0, 1) := by decide +kernel
theorem dL_law_616 : decode cL_law 616 = .ok (.iload 4, 2) := by decide +kernel
theorem dL_law_618 : decode cL_law 618 = .ok (.iconst 1, 1) := by decide +kernel
theorem dL_law_619 : decode cL_law 619 = .ok (.iadd, 1) := by decide +kernel
theorem dL_law_620 : decode cL_law 620 = .ok (.iaload, 1) := by decide +kernel
theorem dL_law_621 : decode cL_law 621 = .ok (.aload_n 0, 1) := by decide +kernel
theorem dL_law_622 : decode cL_law 622 = .ok (.iload 4, 2) := by decide +kernel
theorem dL_law_624 : decode cL_law 624 = .ok (.iconst 2, 1) := by decide +kernel
theorem dL_law_625 : decode cL_law 625 = .ok (.iadd, 1) := by decide +kernel
theorem dL_law_626 : decode cL_law 626 = .ok (.iaload, 1) := by decide +kernel
theorem dL_law_627 : decode cL_law 627 = .ok (.invokevirtual 77, 3) := by decide +kernel
theorem dL_law_630 : decode cL_law 630 = .ok (.if_icmp .eq 184, 3) := by decide +kernel
theorem dL_law_633 : decode cL_law 633 = .ok (.iconst 0, 1) := by decide +kernel
theorem dL_law_634 : decode cL_law 634 = .ok (.ireturn, 1) := by decide +kernel
theorem dL_law_635 : decode cL_law 635 = .ok (.aload_n 1, 1) := by decide +kernel
theorem dL_law_636 : decode cL_law 636 = .ok (.aload_n 0, 1) := by decide +kernel
theorem dL_law_637 : decode cL_law 637 = .ok (.iload 4, 2) := by decide +kernel
theorem dL_law_639 : decode cL_law 639 = .ok (.iconst 1, 1) := by decide +kernel
theorem dL_law_640 : decode cL_law 640 = .ok (.iadd, 1) := by decide +kernel
theorem dL_law_641 : decode cL_law 641 = .ok (.iaload, 1) := by decide +kernel
theorem dL_law_642 : decode cL_law 642 = .ok (.aload_n 0, 1) := by decide +kernel
theorem dL_law_643 : decode cL_law 643 = .ok (.iload 4, 2) := by decide +kernel
theorem dL_law_645 : decode cL_law 645 = .ok (.iconst 2, 1) := by decide +kernel
theorem dL_law_646 : decode cL_law 646 = .ok (.iadd, 1) := by decide +kernel
theorem dL_law_647 : decode cL_law 647 = .ok (.iaload, 1) := by decide +kernel
theorem dL_law_648 : decode cL_law 648 = .ok (.aload_n 0, 1) := by decide +kernel
theorem dL_law_649 : decode cL_law 649 = .ok (.iload 4, 2) := by decide +kernel
theorem dL_law_651 : decode cL_law 651 = .ok (.iconst 3, 1) := by decide +kernel
theorem dL_law_652 : decode cL_law 652 = .ok (.iadd, 1) := by decide +kernel
theorem dL_law_653 : decode cL_law 653 = .ok (.iaload, 1) := by decide +kernel
theorem dL_law_654 : decode cL_law 654 = .ok (.aload_n 0, 1) := by decide +kernel
theorem dL_law_655 : decode cL_law 655 = .ok (.iload 4, 2) := by decide +kernel
theorem dL_law_657 : decode cL_law 657 = .ok (.iconst 4, 1) := by decide +kernel
theorem dL_law_658 : decode cL_law 658 = .ok (.iadd, 1) := by decide +kernel
theorem dL_law_659 : decode cL_law 659 = .ok (.iaload, 1) := by decide +kernel
theorem dL_law_660 : decode cL_law 660 = .ok (.invokevirtual 78, 3) := by decide +kernel
theorem dL_law_663 : decode cL_law 663 = .ok (.aload_n 2, 1) := by decide +kernel
theorem dL_law_664 : decode cL_law 664 = .ok (.aload_n 0, 1) := by decide +kernel
theorem dL_law_665 : decode cL_law 665 = .ok (.iload 4, 2) := by decide +kernel
theorem dL_law_667 : decode cL_law 667 = .ok (.iconst 1, 1) := by decide +kernel
theorem dL_law_668 : decode cL_law 668 = .ok (.iadd, 1) := by decide +kernel
theorem dL_law_669 : decode cL_law 669 = .ok (.iaload, 1) := by decide +kernel
theorem dL_law_670 : decode cL_law 670 = .ok (.aload_n 0, 1) := by decide +kernel
theorem dL_law_671 : decode cL_law 671 = .ok (.iload 4, 2) := by decide +kernel
theorem dL_law_673 : decode cL_law 673 = .ok (.iconst 2, 1) := by decide +kernel
theorem dL_law_674 : decode cL_law 674 = .ok (.iadd, 1) := by decide +kernel
theorem dL_law_675 : decode cL_law 675 = .ok (.iaload, 1) := by decide +kernel
theorem dL_law_676 : decode cL_law 676 = .ok (.aload_n 0, 1) := by decide +kernel
theorem dL_law_677 : decode cL_law 677 = .ok (.iload 4, 2) := by decide +kernel
theorem dL_law_679 : decode cL_law 679 = .ok (.iconst 3, 1) := by decide +kernel
theorem dL_law_680 : decode cL_law 680 = .ok (.iadd, 1) := by decide +kernel
theorem dL_law_681 : decode cL_law 681 = .ok (.iaload, 1) := by decide +kernel
theorem dL_law_682 : decode cL_law 682 = .ok (.aload_n 0, 1) := by decide +kernel
theorem dL_law_683 : decode cL_law 683 = .ok (.iload 4, 2) := by decide +kernel
theorem dL_law_685 : decode cL_law 685 = .ok (.iconst 4, 1) := by decide +kernel
theorem dL_law_686 : decode cL_law 686 = .ok (.iadd, 1) := by decide +kernel
theorem dL_law_687 : decode cL_law 687 = .ok (.iaload, 1) := by decide +kernel
theorem dL_law_688 : decode cL_law 688 = .ok (.invokevirtual 82, 3) := by decide +kernel
theorem dL_law_691 : decode cL_law 691 = .ok (.if_icmp .eq 123, 3) := by decide +kernel
theorem dL_law_694 : decode cL_law 694 = .ok (.iconst 0, 1) := by decide +kernel
theorem dL_law_695 : decode cL_law 695 = .ok (.ireturn, 1) := by decide +kernel
theorem dL_law_696 : decode cL_law 696 = .ok (.aload_n 1, 1) := by decide +kernel
theorem dL_law_697 : decode cL_law 697 = .ok (.aload_n 0, 1) := by decide +kernel
theorem dL_law_698 : decode cL_law 698 = .ok (.iload 4, 2) := by decide +kernel
theorem dL_law_700 : decode cL_law 700 = .ok (.iconst 1, 1) := by decide +kernel
theorem dL_law_701 : decode cL_law 701 = .ok (.iadd, 1) := by decide +kernel
theorem dL_law_702 : decode cL_law 702 = .ok (.iaload, 1) := by decide +kernel
theorem dL_law_703 : decode cL_law 703 = .ok (.invokevirtual 83, 3) := by decide +kernel
theorem dL_law_706 : decode cL_law 706 = .ok (.aload_n 2, 1) := by decide +kernel
theorem dL_law_707 : decode cL_law 707 = .ok (.aload_n 0, 1) := by decide +kernel
theorem dL_law_708 : decode cL_law 708 = .ok (.iload 4, 2) := by decide +kernel
theorem dL_law_710 : decode cL_law 710 = .ok (.iconst 1, 1) := by decide +kernel
theorem dL_law_711 : decode cL_law 711 = .ok (.iadd, 1) := by decide +kernel
theorem dL_law_712 : decode cL_law 712 = .ok (.iaload, 1) := by decide +kernel
theorem dL_law_713 : decode cL_law 713 = .ok (.invokevirtual 86, 3) := by decide +kernel
theorem dL_law_716 : decode cL_law 716 = .ok (.if_icmp .eq 98, 3) := by decide +kernel
theorem dL_law_719 : decode cL_law 719 = .ok (.iconst 0, 1) := by decide +kernel
theorem dL_law_720 : decode cL_law 720 = .ok (.ireturn, 1) := by decide +kernel
theorem dL_law_721 : decode cL_law 721 = .ok (.aload_n 1, 1) := by decide +kernel
theorem dL_law_722 : decode cL_law 722 = .ok (.aload_n 0, 1) := by decide +kernel
theorem dL_law_723 : decode cL_law 723 = .ok (.iload 4, 2) := by decide +kernel
theorem dL_law_725 : decode cL_law 725 = .ok (.iconst 1, 1) := by decide +kernel
theorem dL_law_726 : decode cL_law 726 = .ok (.iadd, 1) := by decide +kernel
theorem dL_law_727 : decode cL_law 727 = .ok (.iaload, 1) := by decide +kernel
theorem dL_law_728 : decode cL_law 728 = .ok (.aload_n 0, 1) := by decide +kernel
theorem dL_law_729 : decode cL_law 729 = .ok (.iload 4, 2) := by decide +kernel
theorem dL_law_731 : decode cL_law 731 = .ok (.iconst 2, 1) := by decide +kernel
theorem dL_law_732 : decode cL_law 732 = .ok (.iadd, 1) := by decide +kernel
theorem dL_law_733 : decode cL_law 733 = .ok (.iaload, 1) := by decide +kernel
theorem dL_law_734 : decode cL_law 734 = .ok (.aload_n 3, 1) := by decide +kernel
theorem dL_law_735 : decode cL_law 735 = .ok (.invokestatic 87, 3) := by decide +kernel
theorem dL_law_738 : decode cL_law 738 = .ok (.istore 5, 2) := by decide +kernel
theorem dL_law_740 : decode cL_law 740 = .ok (.aload_n 2, 1) := by decide +kernel
theorem dL_law_741 : decode cL_law 741 = .ok (.aload_n 0, 1) := by decide +kernel
theorem dL_law_742 : decode cL_law 742 = .ok (.iload 4, 2) := by decide +kernel
theorem dL_law_744 : decode cL_law 744 = .ok (.iconst 1, 1) := by decide +kernel
theorem dL_law_745 : decode cL_law 745 = .ok (.iadd, 1) := by decide +kernel
theorem dL_law_746 : decode cL_law 746 = .ok (.iaload, 1) := by decide +kernel
theorem dL_law_747 : decode cL_law 747 = .ok (.aload_n 0, 1) := by decide +kernel
theorem dL_law_748 : decode cL_law 748 = .ok (.iload 4, 2) := by decide +kernel
theorem dL_law_750 : decode cL_law 750 = .ok (.iconst 2, 1) := by decide +kernel
theorem dL_law_751 : decode cL_law 751 = .ok (.iadd, 1) := by decide +kernel
theorem dL_law_752 : decode cL_law 752 = .ok (.iaload, 1) := by decide +kernel
theorem dL_law_753 : decode cL_law 753 = .ok (.invokevirtual 92, 3) := by decide +kernel
theorem dL_law_756 : decode cL_law 756 = .ok (.istore 6, 2) := by decide +kernel
theorem dL_law_758 : decode cL_law 758 = .ok (.aload_n 2, 1) := by decide +kernel
theorem dL_law_759 : decode cL_law 759 = .ok (.invokevirtual 93, 3) := by decide +kernel
theorem dL_law_762 : decode cL_law 762 = .ok (.iload 5, 2) := by decide +kernel
theorem dL_law_764 : decode cL_law 764 = .ok (.if_icmp .eq 5, 3) := by decide +kernel
theorem dL_law_767 : decode cL_law 767 = .ok (.iconst 0, 1) := by decide +kernel
theorem dL_law_768 : decode cL_law 768 = .ok (.ireturn, 1) := by decide +kernel
theorem dL_law_769 : decode cL_law 769 = .ok (.iload 5, 2) := by decide +kernel
theorem dL_law_771 : decode cL_law 771 = .ok (.ifCond .ne 15, 3) := by decide +kernel
theorem dL_law_774 : decode cL_law 774 = .ok (.aload_n 3, 1) := by decide +kernel
theorem dL_law_775 : decode cL_law 775 = .ok (.iconst 0, 1) := by decide +kernel
theorem dL_law_776 : decode cL_law 776 = .ok (.laload, 1) := by decide +kernel
theorem dL_law_777 : decode cL_law 777 = .ok (.iload 6, 2) := by decide +kernel
theorem dL_law_779 : decode cL_law 779 = .ok (.i2l, 1) := by decide +kernel
theorem dL_law_780 : decode cL_law 780 = .ok (.lcmp, 1) := by decide +kernel
theorem dL_law_781 : decode cL_law 781 = .ok (.ifCond .eq 5, 3) := by decide +kernel
theorem dL_law_784 : decode cL_law 784 = .ok (.iconst 0, 1) := by decide +kernel
theorem dL_law_785 : decode cL_law 785 = .ok (.ireturn, 1) := by decide +kernel
theorem dL_law_786 : decode cL_law 786 = .ok (.goto 28, 3) := by decide +kernel
theorem dL_law_789 : decode cL_law 789 = .ok (.aload_n 1, 1) := by decide +kernel
theorem dL_law_790 : decode cL_law 790 = .ok (.aload_n 0, 1) := by decide +kernel
theorem dL_law_791 : decode cL_law 791 = .ok (.iload 4, 2) := by decide +kernel
theorem dL_law_793 : decode cL_law 793 = .ok (.iconst 1, 1) := by decide +kernel
theorem dL_law_794 : decode cL_law 794 = .ok (.iadd, 1) := by decide +kernel
theorem dL_law_795 : decode cL_law 795 = .ok (.iaload, 1) := by decide +kernel
theorem dL_law_796 : decode cL_law 796 = .ok (.invokevirtual 97, 3) := by decide +kernel
theorem dL_law_799 : decode cL_law 799 = .ok (.aload_n 2, 1) := by decide +kernel
theorem dL_law_800 : decode cL_law 800 = .ok (.aload_n 0, 1) := by decide +kernel
theorem dL_law_801 : decode cL_law 801 = .ok (.iload 4, 2) := by decide +kernel
theorem dL_law_803 : decode cL_law 803 = .ok (.iconst 1, 1) := by decide +kernel
theorem dL_law_804 : decode cL_law 804 = .ok (.iadd, 1) := by decide +kernel
theorem dL_law_805 : decode cL_law 805 = .ok (.iaload, 1) := by decide +kernel
theorem dL_law_806 : decode cL_law 806 = .ok (.invokevirtual 100, 3) := by decide +kernel
theorem dL_law_809 : decode cL_law 809 = .ok (.if_icmp .eq 5, 3) := by decide +kernel
theorem dL_law_812 : decode cL_law 812 = .ok (.iconst 0, 1) := by decide +kernel
theorem dL_law_813 : decode cL_law 813 = .ok (.ireturn, 1) := by decide +kernel
theorem dL_law_814 : decode cL_law 814 = .ok (.iinc 4 7, 3) := by decide +kernel
theorem dL_law_817 : decode cL_law 817 = .ok (.goto (-794), 3) := by decide +kernel
theorem dL_law_820 : decode cL_law 820 = .ok (.iconst 1, 1) := by decide +kernel
theorem dL_law_821 : decode cL_law 821 = .ok (.ireturn, 1) := by decide +kernel
end
section
/-! ===== THE SMALL MACHINE: a heap of typed rows at addresses counted from the law's start; Gd: from this frame on the method ends so that P holds ===== -/
abbrev SH : Type := Nat × (Nat → Nat × Nat) × (Nat → Nat → Int32) × (Nat → Nat → Int64) × (Nat → Nat → Option Nat)
def hz (h : SH) : Nat := h.1
def hK (h : SH) (a : Nat) : Nat := (h.2.1 a).1
def hN (h : SH) (a : Nat) : Nat := (h.2.1 a).2
def hI (h : SH) : Nat → Nat → Int32 := h.2.2.1
def hJ (h : SH) : Nat → Nat → Int64 := h.2.2.2.1
def hA (h : SH) : Nat → Nat → Option Nat := h.2.2.2.2
def u2 {α : Type} (f : Nat → Nat → α) (a i : Nat) (v : α) : Nat → Nat → α := fun b j => if b = a ∧ j = i then v else f b j
def sI (h : SH) (a i : Nat) (v : Int32) : SH := (h.1, h.2.1, u2 h.2.2.1 a i v, h.2.2.2.1, h.2.2.2.2)
def sJ (h : SH) (a i : Nat) (v : Int64) : SH := (h.1, h.2.1, h.2.2.1, u2 h.2.2.2.1 a i v, h.2.2.2.2)
def sA (h : SH) (a i : Nat) (v : Option Nat) : SH := (h.1, h.2.1, h.2.2.1, h.2.2.2.1, u2 h.2.2.2.2 a i v)
/-- a new cell of kind k with n places, all 0 or null -/
def nw (h : SH) (k n : Nat) : SH := (h.1 + 1, (fun b => if b = h.1 then (k, n) else h.2.1 b), (fun b j => if b = h.1 then 0 else h.2.2.1 b j), (fun b j => if b = h.1 then 0 else h.2.2.2.1 b j), (fun b j => if b = h.1 then none else h.2.2.2.2 b j))
/-- cells of which nothing is known, up to n -/
def ext (h : SH) (n : Nat) : SH := (n, (fun b => if h.1 ≤ b ∧ b < n then (99, 0) else h.2.1 b), h.2.2.1, h.2.2.2.1, h.2.2.2.2)
/-- the run: the law's first state, its launch, the classes and slots, the classes of arrays, the old cells, the script -/
abbrev GX : Type := State × Launch × va_G × (Nat → ClassId) × (Nat → Nat) × Nat × (Nat → Int32)
abbrev xs0 (X : GX) : State := X.1
abbrev xl (X : GX) : Launch := X.2.1
abbrev xD (X : GX) : va_G := X.2.2.1
abbrev xac (X : GX) : Nat → ClassId := X.2.2.2.1
abbrev xph (X : GX) : Nat → Nat := X.2.2.2.2.1
abbrev xL (X : GX) : Nat := X.2.2.2.2.2.1
abbrev xsc (X : GX) : Nat → Int32 := X.2.2.2.2.2.2
def ph (X : GX) (a : Nat) : Nat := if a < 8 then xph X a else (xs0 X).heap.size + (a - 8)
theorem ph_ge {X : GX} {a : Nat} (h : 8 ≤ a) : ph X a = (xs0 X).heap.size + (a - 8) := by unfold ph; rw [if_neg (by omega)]
theorem ph_inj {X : GX} {a b : Nat} (ha : 8 ≤ a) (hb : 8 ≤ b) (h : ph X a = ph X b) : a = b := by rw [ph_ge ha, ph_ge hb] at h; omega
def mv (X : GX) (v : Value) : Value := match v with
  | .ref a => .ref (ph X a)
  | w => w
def ctR (c : Nat) : String := match c with
  | 0 => RX0 | 1 => RX1 | 2 => RX2 | 3 => RX3 | 4 => RX4 | 5 => RX5 | 6 => RX6 | 7 => RX7 | 8 => RX8 | 9 => RX9 | 10 => RX10 | _ => RX11
def ctT (c : Nat) : u_T := match c with
  | 0 => TX0 | 1 => TX1 | 2 => TX2 | 3 => TX3 | 4 => TX4 | 5 => TX5 | 6 => TX6 | 7 => TX7 | 8 => TX8 | 9 => TX9 | 10 => TX10 | _ => TX11
def ctN (c : Nat) : Nat := match c with
  | 0 => 2 | 1 => 2 | 2 => 10 | 3 => 13 | 4 => 1 | 5 => 4 | 6 => 9 | 7 => 9 | 8 => 8 | 9 => 11 | 10 => 10 | _ => 58
def ctY (c : Nat) : Nat → FieldType := match c with
  | 0 => tyX0 | 1 => tyX1 | 2 => tyX2 | 3 => tyX3 | 4 => tyX4 | 5 => tyX5 | 6 => tyX6 | 7 => tyX7 | 8 => tyX8 | 9 => tyX9 | 10 => tyX10 | _ => tyX11
def ctl : List vw_C := [(RX0, TX0, 2), (RX1, TX1, 2), (RX2, TX2, 10), (RX3, TX3, 13), (RX4, TX4, 1), (RX5, TX5, 4), (RX6, TX6, 9), (RX7, TX7, 9), (RX8, TX8, 8), (RX9, TX9, 11), (RX10, TX10, 10), (RX11, TX11, 58)]
theorem ctl_at : ∀ c : Nat, c < 12 → ctl[c]? = some (ctR c, ctT c, ctN c)
  | 0, _ => rfl | 1, _ => rfl | 2, _ => rfl | 3, _ => rfl | 4, _ => rfl | 5, _ => rfl | 6, _ => rfl | 7, _ => rfl | 8, _ => rfl | 9, _ => rfl | 10, _ => rfl | 11, _ => rfl
  | n + 12, h => absurd h (by omega)
theorem ct_nm : ∀ c : Nat, c < 12 → ∀ a, a < ctN c → ∀ b, b < ctN c → a ≠ b → (ctT c a).2.1 ≠ (ctT c b).2.1
  | 0, _ => nmX0 | 1, _ => nmX1 | 2, _ => nmX2 | 3, _ => nmX3 | 4, _ => nmX4 | 5, _ => nmX5 | 6, _ => nmX6 | 7, _ => nmX7 | 8, _ => nmX8 | 9, _ => nmX9 | 10, _ => nmX10 | 11, _ => nmX11
  | n + 12, h => absurd h (by omega)
theorem ct_ty : ∀ c : Nat, c < 12 → ∀ k, k < ctN c → parseFieldDescriptor (ctT c k).2.2.1 = some (ctY c k)
  | 0, _ => tyX0_ok | 1, _ => tyX1_ok | 2, _ => tyX2_ok | 3, _ => tyX3_ok | 4, _ => tyX4_ok | 5, _ => tyX5_ok | 6, _ => tyX6_ok | 7, _ => tyX7_ok | 8, _ => tyX8_ok | 9, _ => tyX9_ok | 10, _ => tyX10_ok | 11, _ => tyX11_ok
  | n + 12, h => absurd h (by omega)
/-- the element types of the arrays' kinds 20 .. 26 -/
def arT (k : Nat) : FieldType := match k with
  | 20 => .int | 21 => .byte | 22 => .boolean | 23 => .long | 24 => .object "LetterDesk$Edition" | 25 => .object "LetterDesk$Clause" | _ => .object "LetterDesk$Item"
def tysX (X : GX) : List (ClassId × FieldType) := [(xac X 20, .int), (xac X 21, .byte), (xac X 22, .boolean), (xac X 23, .long), (xac X 24, .object "LetterDesk$Edition"), (xac X 25, .object "LetterDesk$Clause"), (xac X 26, .object "LetterDesk$Item")]
theorem tysX_at {X : GX} : ∀ k : Nat, k < 7 → (tysX X)[k]? = some (xac X (20 + k), arT (20 + k))
  | 0, _ => rfl | 1, _ => rfl | 2, _ => rfl | 3, _ => rfl | 4, _ => rfl | 5, _ => rfl | 6, _ => rfl
  | n + 7, h => absurd h (by omega)
/-- a field's value, by its type -/
def fvT (X : GX) (h : SH) (a k : Nat) (t : FieldType) : Value := match t with
  | .long => .long (hJ h a k)
  | .object _ => va_rf ((hA h a k).map (ph X))
  | .array _ => va_rf ((hA h a k).map (ph X))
  | _ => .int (hI h a k)
def fvs (X : GX) (h : SH) (a c : Nat) : List Value := (List.range (ctN c)).map (fun k => fvT X h a k (ctY c k))
def arE (X : GX) (h : SH) (a k : Nat) : (Nat → Int32) ⊕ (Nat → Int64) ⊕ (Nat → UInt32) ⊕ (Nat → UInt64) ⊕ (Nat → Option Nat) :=
  if k = 23 then .inr (.inl (hJ h a)) else if 24 ≤ k then .inr (.inr (.inr (.inr (fun i => (hA h a i).map (ph X))))) else .inl (hI h a)
/-- what a cell holds -/
def eE (X : GX) (h : SH) (a : Nat) : va_E := if hK h a < 12 then .inr (hK h a, fvs X h a (hK h a)) else .inl (xac X (hK h a), hN h a, arE X h a (hK h a))
def VR (X : GX) (h : SH) (H : Heap) : Prop :=
  8 ≤ hz h ∧ H.size = ph X (hz h) ∧ (∀ q : Nat, q < (xs0 X).heap.size → H[q]? = (xs0 X).heap[q]?) ∧ ∀ a : Nat, 8 ≤ a → a < hz h → hK h a ≠ 99 → va_at (xD X) ctl (ph X a, eE X h a) H
/-- the locals that are known -/
def lvl (X : GX) : Nat → List (Option Value) → List (Nat × Value)
  | _, [] => []
  | i, none :: r => lvl X (i + 1) r
  | i, some v :: r => (i, mv X v) :: lvl X (i + 1) r
abbrev Out : Type := Option Value ⊕ String
/-- a method: name, code, locals, its answer's type, its depth, its table -/
abbrev MI : Type := MethodName × ByteArray × Nat × Option FieldType × Nat × List (Nat × Nat × Nat × Nat)
def S0 (X : GX) : Prop :=
  (∀ w ∈ lw_tbl, w.before #[Value.ref (xph X 0)] (xs0 X) = true) ∧ va_K (xD X) ctl (tysX X) (xs0 X) ∧
  (va_X (xph X 0) (xL X) (xsc X) (xs0 X) (xs0 X).heap ∧ ∀ a, a < 8 → xph X a < (xs0 X).heap.size) ∧ (xl X).stackTraces = false ∧
  (Jvm.Cond.and given_1 narrow_1).before #[Value.ref (xph X 0)] (xs0 X) = true
def fr (X : GX) : Addr → Prop := fun q => (xs0 X).heap.size ≤ q
def Act (X : GX) (M : MI) (p : Program) (R : Room) (s : State) (m : MethodId) (meth : Method) (c : Code) : Prop :=
  S0 X ∧ (p.tables.exec = Jvm.exec ∧ c.code = M.2.1 ∧ meth.sig.returnType = M.2.2.2.1 ∧ c.maxLocals = M.2.2.1 ∧ s.vm.findClass M.1.cls = some m.cls ∧ meth.locks = false ∧ meth.name = M.1.name ∧ c.exceptionTable.toList = tableOf M.2.2.2.2.2) ∧
  (xs0 X).WarmedH s.vm ∧ (∀ q : Nat, q < (xs0 X).heap.size → s.heap[q]? = (xs0 X).heap[q]?) ∧ (xs0 X).heap.size ≤ s.heap.size ∧ M.2.2.2.2.1 ≤ R.frames ∧ 38 * M.2.2.2.2.1 ≤ R.locals
def Qo (X : GX) (P : Out → SH → Prop) : Array Value → State → Outcome → State → Prop := fun _ _ oc t => ∃ (v : Option Value) (h2 : SH), P (.inl v) h2 ∧ oc = .returned (v.map (mv X)) ∧ VR X h2 t.heap
def Xo (X : GX) (P : Out → SH → Prop) : String → State → State → Prop := fun E _ t => ∃ h2 : SH, P (.inr E) h2 ∧ VR X h2 t.heap
/-- what a place in a method's run is given: the room that is left, the heap, the locals -/
def St (X : GX) (M : MI) (R : Room) (L : List (Option Value)) (h : SH) (nc ns : Nat) (H : Heap) (locs : List Loc) (cells slots : Nat) (ls : Array Slot) (mc ms : Nat) : Prop :=
  VR X h H ∧ lv_has ls M.2.2.1 (lvl X 0 L) ∧ (∀ z ∈ locs, (xs0 X).heap.size ≤ z.base) ∧ cells + nc ≤ mc ∧ slots + ns ≤ ms ∧ mc ≤ R.cells ∧ ms ≤ R.slots
def Gd (X : GX) (M : MI) (pc : Nat) (L : List (Option Value)) (st : List Value) (h : SH) (nc ns : Nat) (P : Out → SH → Prop) : Prop :=
  ∀ (p : Program) (e : Env) (R : Room) (s : State) (m : MethodId) (args : Array Value) (below : List Frame) (meth : Method) (c : Code), Act X M p R s m meth c →
    ∀ (H : Heap) (locs : List Loc) (cells slots : Nat) (ls : Array Slot) (mc ms : Nat), St X M R L h nc ns H locs cells slots ls mc ms →
      W p (xl X) e R s m args below meth c H locs cells slots (vx_MQ below (Qo X P) (Xo X P) args s mc ms (fr X)) (F0 m pc ls (st.map (mv X)))
/-- a place's run goes on at another: the same locals, heap and room -/
theorem Gd.go {X : GX} {M : MI} {pc pc2 : Nat} {L : List (Option Value)} {st st2 : List Value} {h : SH} {nc ns : Nat} {P : Out → SH → Prop}
    (k : ∀ (p : Program) (e : Env) (R : Room) (s : State) (m : MethodId) (args : Array Value) (below : List Frame) (meth : Method) (c : Code), Act X M p R s m meth c → ∀ (H : Heap) (locs : List Loc) (cells slots : Nat) (ls : Array Slot) (Q : State → Prop), lv_has ls M.2.2.1 (lvl X 0 L) → VR X h H →
      W p (xl X) e R s m args below meth c H locs cells slots Q (F0 m pc2 ls (st2.map (mv X))) → W p (xl X) e R s m args below meth c H locs cells slots Q (F0 m pc ls (st.map (mv X))))
    (g : Gd X M pc2 L st2 h nc ns P) : Gd X M pc L st h nc ns P :=
  fun p e R s m args below meth c A H locs cells slots ls mc ms S => k p e R s m args below meth c A H locs cells slots ls _ S.2.1 S.1 (g p e R s m args below meth c A H locs cells slots ls mc ms S)
theorem lvl_mem {X : GX} {v : Value} : ∀ {L : List (Option Value)} {i j : Nat}, L[i]? = some (some v) → (j + i, mv X v) ∈ lvl X j L
  | [], i, j, h => by simp at h
  | none :: r, 0, j, h => by simp at h
  | some w :: r, 0, j, h => by
    simp at h; subst h; simp [lvl]
  | none :: r, i + 1, j, h => by
    have h1 := lvl_mem (X := X) (j := j + 1) (L := r) (i := i) (by simpa using h)
    simp only [lvl]
    rw [show j + (i + 1) = j + 1 + i by omega]; exact h1
  | some w :: r, i + 1, j, h => by
    have h1 := lvl_mem (X := X) (j := j + 1) (L := r) (i := i) (by simpa using h)
    simp only [lvl]
    rw [show j + (i + 1) = j + 1 + i by omega]; exact List.mem_cons_of_mem _ h1
theorem lvl_of {X : GX} : ∀ {L : List (Option Value)} {j : Nat} {q : Nat × Value}, q ∈ lvl X j L → ∃ (i : Nat) (v : Value), L[i]? = some (some v) ∧ q = (j + i, mv X v)
  | [], j, q, h => by simp [lvl] at h
  | none :: r, j, q, h => by
    obtain ⟨i, v, h1, h2⟩ := lvl_of (L := r) (j := j + 1) h
    exact ⟨i + 1, v, by simpa using h1, by rw [h2, show j + (i + 1) = j + 1 + i by omega]⟩
  | some w :: r, j, q, h => by
    simp only [lvl, List.mem_cons] at h
    rcases h with h | h
    · exact ⟨0, w, by simp, by rw [h]; rfl⟩
    · obtain ⟨i, v, h1, h2⟩ := lvl_of (L := r) (j := j + 1) h
      exact ⟨i + 1, v, by simpa using h1, by rw [h2, show j + (i + 1) = j + 1 + i by omega]⟩
theorem lvl_at {X : GX} {ls : Array Slot} {n : Nat} {L : List (Option Value)} {i : Nat} {v : Value} (h : lv_has ls n (lvl X 0 L)) (hi : L[i]? = some (some v)) : ls[i]? = some (.val (mv X v)) := by
  have := h.2.2 (0 + i, mv X v) (lvl_mem hi)
  simpa using this
theorem lv_le {ls : Array Slot} {n : Nat} {l l' : List (Nat × Value)} (h : lv_has ls n l) (hs : ∀ q ∈ l', q ∈ l) : lv_has ls n l' := ⟨h.1, h.2.1, fun q hq => h.2.2 q (hs q hq)⟩
/-- fewer locals known -/
theorem Gd.weak {X : GX} {M : MI} {pc : Nat} {L L' : List (Option Value)} {st : List Value} {h : SH} {nc ns : Nat} {P : Out → SH → Prop} (hs : ∀ (i : Nat) (v : Value), L'[i]? = some (some v) → L[i]? = some (some v)) (g : Gd X M pc L' st h nc ns P) : Gd X M pc L st h nc ns P :=
  fun p e R s m args below meth c A H locs cells slots ls mc ms S => g p e R s m args below meth c A H locs cells slots ls mc ms ⟨S.1, lv_le S.2.1 (fun q hq => by
    obtain ⟨i, v, h1, h2⟩ := lvl_of hq
    rw [h2]; exact lvl_mem (hs i v h1)), S.2.2⟩
theorem W.post {p : Program} {l : Launch} {e : Env} {R : Room} {s : State} {m : MethodId} {args : Array Value} {below : List Frame} {meth : Method} {c : Code} {H : Heap} {locs : List Loc} {cells slots : Nat} {Q Q' : State → Prop} {g : JFrame} (hQ : ∀ t, Q t → Q' t)
    (k : W p l e R s m args below meth c H locs cells slots Q g) : W p l e R s m args below meth c H locs cells slots Q' g := fun T hT X => by
  obtain ⟨t, a, b⟩ := k T hT X
  exact ⟨t, a, hQ t b⟩
theorem Gd.mono {X : GX} {M : MI} {pc : Nat} {L : List (Option Value)} {st : List Value} {h : SH} {nc ns nc' ns' : Nat} {P P' : Out → SH → Prop} (h1 : nc ≤ nc') (h2 : ns ≤ ns') (hP : ∀ o t, P o t → P' o t) (g : Gd X M pc L st h nc ns P) : Gd X M pc L st h nc' ns' P' :=
  fun p e R s m args below meth c A H locs cells slots ls mc ms ⟨a1, a2, a3, a4, a5, a6, a7⟩ => W.post (fun t ⟨o, b1, b2, b3⟩ => ⟨o, b1, b2, b3.elim (fun ⟨⟨v, h2, c1, c2, c3⟩, d⟩ => Or.inl ⟨⟨v, h2, hP _ _ c1, c2, c3⟩, d⟩) (fun ⟨q, e1, E, ce, Lc, ⟨h2, c1, c2⟩, d⟩ => Or.inr ⟨q, e1, E, ce, Lc, ⟨h2, hP _ _ c1, c2⟩, d⟩)⟩)
    (g p e R s m args below meth c A H locs cells slots ls mc ms ⟨a1, a2, a3, by omega, by omega, a6, a7⟩)
end
section
theorem Act.x {X : GX} {M : MI} {p : Program} {R : Room} {s : State} {m : MethodId} {meth : Method} {c : Code} (A : Act X M p R s m meth c) : p.tables.exec = Jvm.exec := A.2.1.1
theorem Act.b {X : GX} {M : MI} {p : Program} {R : Room} {s : State} {m : MethodId} {meth : Method} {c : Code} (A : Act X M p R s m meth c) : c.code = M.2.1 := A.2.1.2.1
theorem Act.rt {X : GX} {M : MI} {p : Program} {R : Room} {s : State} {m : MethodId} {meth : Method} {c : Code} (A : Act X M p R s m meth c) : meth.sig.returnType = M.2.2.2.1 := A.2.1.2.2.1
theorem Act.ml {X : GX} {M : MI} {p : Program} {R : Room} {s : State} {m : MethodId} {meth : Method} {c : Code} (A : Act X M p R s m meth c) : c.maxLocals = M.2.2.1 := A.2.1.2.2.2.1
theorem Act.own {X : GX} {M : MI} {p : Program} {R : Room} {s : State} {m : MethodId} {meth : Method} {c : Code} (A : Act X M p R s m meth c) : s.vm.findClass M.1.cls = some m.cls := A.2.1.2.2.2.2.1
theorem Act.lk {X : GX} {M : MI} {p : Program} {R : Room} {s : State} {m : MethodId} {meth : Method} {c : Code} (A : Act X M p R s m meth c) : meth.locks = false := A.2.1.2.2.2.2.2.1
theorem Act.nm {X : GX} {M : MI} {p : Program} {R : Room} {s : State} {m : MethodId} {meth : Method} {c : Code} (A : Act X M p R s m meth c) : meth.name = M.1.name := A.2.1.2.2.2.2.2.2.1
theorem Act.tb {X : GX} {M : MI} {p : Program} {R : Room} {s : State} {m : MethodId} {meth : Method} {c : Code} (A : Act X M p R s m meth c) : c.exceptionTable.toList = tableOf M.2.2.2.2.2 := A.2.1.2.2.2.2.2.2.2
theorem Act.w {X : GX} {M : MI} {p : Program} {R : Room} {s : State} {m : MethodId} {meth : Method} {c : Code} (A : Act X M p R s m meth c) : (xs0 X).WarmedH s.vm := A.2.2.1
theorem Act.k {X : GX} {M : MI} {p : Program} {R : Room} {s : State} {m : MethodId} {meth : Method} {c : Code} (A : Act X M p R s m meth c) : va_K (xD X) ctl (tysX X) s := A.1.2.1.moved A.2.2.1.alike
/-- a word of the tables that holds at every state of the run -/
def KW (w : Cond) : Prop := w ∈ lw_tbl ∧ goodWord w = true
theorem kw_of {w : Cond} (i : Nat) (h : (lw_tbl[i]? = some w) ∧ goodWord w = true) : KW w := ⟨List.mem_of_getElem? h.1, h.2⟩
theorem S0.word {X : GX} (h : S0 X) {w : Cond} (hw : KW w) {U : State} (hW : (xs0 X).WarmedH U.vm) (a : Array Value) : w.before a U = true := word_at hW (good_of_word hw.2) (h.1 w hw.1)
theorem Act.word {X : GX} {M : MI} {p : Program} {R : Room} {s : State} {m : MethodId} {meth : Method} {c : Code} (A : Act X M p R s m meth c) {w : Cond} (hw : KW w) (a : Array Value) : w.before a s = true := A.1.word hw A.w a
theorem Act.wordU {X : GX} {M : MI} {p : Program} {R : Room} {s : State} {m : MethodId} {meth : Method} {c : Code} (A : Act X M p R s m meth c) {w : Cond} (hw : KW w) (a : Array Value) (U : State) (hU : s.WarmedH U.vm) : w.before a U = true := A.1.word hw (State.WarmedH.trans A.w hU) a
theorem mv_rf (X : GX) (r : Option Nat) : mv X (va_rf r) = va_rf (r.map (ph X)) := by cases r <;> rfl
theorem mv_cat (X : GX) (v : Value) : (mv X v).category = v.category := by cases v <;> rfl
theorem g_iconst {X : GX} {M : MI} {pc : Nat} {L : List (Option Value)} {st : List Value} {h : SH} {nc ns : Nat} {P : Out → SH → Prop} {n : Int} {v : Int32} (hd : decode M.2.1 pc = .ok (.iconst n, 1)) (hv : Int32.ofInt n = v) (g : Gd X M (pc + 1) L (.int v :: st) h nc ns P) : Gd X M (pc) L (st) h nc ns P :=
  Gd.go (fun p e R s m args below meth c A H locs cells slots ls Q hl hV k => lv_iconst A.x A.b hd hv k) g
theorem g_bipush {X : GX} {M : MI} {pc : Nat} {L : List (Option Value)} {st : List Value} {h : SH} {nc ns : Nat} {P : Out → SH → Prop} {n : Int} {v : Int32} (hd : decode M.2.1 pc = .ok (.bipush n, 2)) (hv : (Int8.ofInt n).toInt32 = v) (g : Gd X M (pc + 2) L (.int v :: st) h nc ns P) : Gd X M (pc) L (st) h nc ns P :=
  Gd.go (fun p e R s m args below meth c A H locs cells slots ls Q hl hV k => lv_bipush A.x A.b hd hv k) g
theorem g_sipush {X : GX} {M : MI} {pc : Nat} {L : List (Option Value)} {st : List Value} {h : SH} {nc ns : Nat} {P : Out → SH → Prop} {n : Int} {v : Int32} (hd : decode M.2.1 pc = .ok (.sipush n, 3)) (hv : (Int16.ofInt n).toInt32 = v) (g : Gd X M (pc + 3) L (.int v :: st) h nc ns P) : Gd X M (pc) L (st) h nc ns P :=
  Gd.go (fun p e R s m args below meth c A H locs cells slots ls Q hl hV k => lv_sipush A.x A.b hd hv k) g
theorem g_lconst {X : GX} {M : MI} {pc : Nat} {L : List (Option Value)} {st : List Value} {h : SH} {nc ns : Nat} {P : Out → SH → Prop} {n : Fin 2} {v : Int64} (hd : decode M.2.1 pc = .ok (.lconst n, 1)) (hv : Int64.ofNat (n : Nat) = v) (g : Gd X M (pc + 1) L (.long v :: st) h nc ns P) : Gd X M (pc) L (st) h nc ns P :=
  Gd.go (fun p e R s m args below meth c A H locs cells slots ls Q hl hV k => lv_lconst A.x A.b hd hv k) g
theorem g_null {X : GX} {M : MI} {pc : Nat} {L : List (Option Value)} {st : List Value} {h : SH} {nc ns : Nat} {P : Out → SH → Prop}  (hd : decode M.2.1 pc = .ok (.aconst_null, 1)) (g : Gd X M (pc + 1) L (.null :: st) h nc ns P) : Gd X M (pc) L (st) h nc ns P :=
  Gd.go (fun p e R s m args below meth c A H locs cells slots ls Q hl hV k => lv_null A.x A.b hd k) g
theorem g_ldc {X : GX} {M : MI} {pc : Nat} {L : List (Option Value)} {st : List Value} {h : SH} {nc ns : Nat} {P : Out → SH → Prop} {idx : Nat} {v : Int32} (hd : decode M.2.1 pc = .ok (.ldc idx, 2)) (hw : KW (Cond.constant M.1.cls idx v)) (g : Gd X M (pc + 2) L (.int v :: st) h nc ns P) : Gd X M (pc) L (st) h nc ns P :=
  Gd.go (fun p e R s m args below meth c A H locs cells slots ls Q hl hV k => lv_ldc A.x A.b A.own (A.word hw _) hd k) g
theorem g_ldc2 {X : GX} {M : MI} {pc : Nat} {L : List (Option Value)} {st : List Value} {h : SH} {nc ns : Nat} {P : Out → SH → Prop} {idx : Nat} {v : Int64} (hd : decode M.2.1 pc = .ok (.ldc2_w idx, 3)) (hw : KW (Cond.constantLong M.1.cls idx v)) (g : Gd X M (pc + 3) L (.long v :: st) h nc ns P) : Gd X M (pc) L (st) h nc ns P :=
  Gd.go (fun p e R s m args below meth c A H locs cells slots ls Q hl hV k => lv_ldc2 A.x A.b A.own (A.word hw _) hd k) g
theorem g_iload {X : GX} {M : MI} {pc : Nat} {L : List (Option Value)} {st : List Value} {h : SH} {nc ns : Nat} {P : Out → SH → Prop} {i : Nat} {x : Int32} (hd : decode M.2.1 pc = .ok (.iload i, 2)) (hi : L[i]? = some (some (.int x))) (g : Gd X M (pc + 2) L (.int x :: st) h nc ns P) : Gd X M (pc) L (st) h nc ns P :=
  Gd.go (fun p e R s m args below meth c A H locs cells slots ls Q hl hV k => lv_iload A.x A.b hd (lvl_at hl hi) k) g
theorem g_iload_n {X : GX} {M : MI} {pc : Nat} {L : List (Option Value)} {st : List Value} {h : SH} {nc ns : Nat} {P : Out → SH → Prop} {j : Fin 4} {x : Int32} (hd : decode M.2.1 pc = .ok (.iload_n j, 1)) (hi : L[(j : Nat)]? = some (some (.int x))) (g : Gd X M (pc + 1) L (.int x :: st) h nc ns P) : Gd X M (pc) L (st) h nc ns P :=
  Gd.go (fun p e R s m args below meth c A H locs cells slots ls Q hl hV k => lv_iload_n A.x A.b hd rfl (lvl_at hl hi) k) g
theorem g_lload {X : GX} {M : MI} {pc : Nat} {L : List (Option Value)} {st : List Value} {h : SH} {nc ns : Nat} {P : Out → SH → Prop} {i : Nat} {x : Int64} (hd : decode M.2.1 pc = .ok (.lload i, 2)) (hi : L[i]? = some (some (.long x))) (g : Gd X M (pc + 2) L (.long x :: st) h nc ns P) : Gd X M (pc) L (st) h nc ns P :=
  Gd.go (fun p e R s m args below meth c A H locs cells slots ls Q hl hV k => lv_lload A.x A.b hd (lvl_at hl hi) k) g
theorem g_lload_n {X : GX} {M : MI} {pc : Nat} {L : List (Option Value)} {st : List Value} {h : SH} {nc ns : Nat} {P : Out → SH → Prop} {j : Fin 4} {x : Int64} (hd : decode M.2.1 pc = .ok (.lload_n j, 1)) (hi : L[(j : Nat)]? = some (some (.long x))) (g : Gd X M (pc + 1) L (.long x :: st) h nc ns P) : Gd X M (pc) L (st) h nc ns P :=
  Gd.go (fun p e R s m args below meth c A H locs cells slots ls Q hl hV k => lv_lload_n A.x A.b hd rfl (lvl_at hl hi) k) g
theorem g_aload {X : GX} {M : MI} {pc : Nat} {L : List (Option Value)} {st : List Value} {h : SH} {nc ns : Nat} {P : Out → SH → Prop} {i a : Nat} (hd : decode M.2.1 pc = .ok (.aload i, 2)) (hi : L[i]? = some (some (.ref a))) (g : Gd X M (pc + 2) L (.ref a :: st) h nc ns P) : Gd X M (pc) L (st) h nc ns P :=
  Gd.go (fun p e R s m args below meth c A H locs cells slots ls Q hl hV k => lv_aload A.x A.b hd (lvl_at hl hi) k) g
theorem g_aload_n {X : GX} {M : MI} {pc : Nat} {L : List (Option Value)} {st : List Value} {h : SH} {nc ns : Nat} {P : Out → SH → Prop} {j : Fin 4} {a : Nat} (hd : decode M.2.1 pc = .ok (.aload_n j, 1)) (hi : L[(j : Nat)]? = some (some (.ref a))) (g : Gd X M (pc + 1) L (.ref a :: st) h nc ns P) : Gd X M (pc) L (st) h nc ns P :=
  Gd.go (fun p e R s m args below meth c A H locs cells slots ls Q hl hV k => lv_aload_n A.x A.b hd rfl (lvl_at hl hi) k) g
theorem g_aloadq {X : GX} {M : MI} {pc : Nat} {L : List (Option Value)} {st : List Value} {h : SH} {nc ns : Nat} {P : Out → SH → Prop} {i : Nat} {r : Option Nat} (hd : decode M.2.1 pc = .ok (.aload i, 2)) (hi : L[i]? = some (some (va_rf r))) (g : Gd X M (pc + 2) L (va_rf r :: st) h nc ns P) : Gd X M (pc) L (st) h nc ns P := by
  cases r with
  | none => exact Gd.go (fun p e R s m args below meth c A H locs cells slots ls Q hl hV k => lv_aloadN A.x A.b hd (lvl_at (v := .null) hl hi) k) g
  | some a => exact g_aload hd hi g
theorem g_aload_nq {X : GX} {M : MI} {pc : Nat} {L : List (Option Value)} {st : List Value} {h : SH} {nc ns : Nat} {P : Out → SH → Prop} {j : Fin 4} {r : Option Nat} (hd : decode M.2.1 pc = .ok (.aload_n j, 1)) (hi : L[(j : Nat)]? = some (some (va_rf r))) (g : Gd X M (pc + 1) L (va_rf r :: st) h nc ns P) : Gd X M (pc) L (st) h nc ns P := by
  cases r with
  | none => exact Gd.go (fun p e R s m args below meth c A H locs cells slots ls Q hl hV k => lv_aload_nN A.x A.b hd rfl (lvl_at (v := .null) hl hi) k) g
  | some a => exact g_aload_n hd hi g
theorem g_iadd {X : GX} {M : MI} {pc : Nat} {L : List (Option Value)} {st : List Value} {h : SH} {nc ns : Nat} {P : Out → SH → Prop} {x y : Int32} (hd : decode M.2.1 pc = .ok (.iadd, 1)) (g : Gd X M (pc + 1) L (.int (x + y) :: st) h nc ns P) : Gd X M (pc) L (.int y :: .int x :: st) h nc ns P :=
  Gd.go (fun p e R s m args below meth c A H locs cells slots ls Q hl hV k => lv_iadd A.x A.b hd k) g
theorem g_isub {X : GX} {M : MI} {pc : Nat} {L : List (Option Value)} {st : List Value} {h : SH} {nc ns : Nat} {P : Out → SH → Prop} {x y : Int32} (hd : decode M.2.1 pc = .ok (.isub, 1)) (g : Gd X M (pc + 1) L (.int (x - y) :: st) h nc ns P) : Gd X M (pc) L (.int y :: .int x :: st) h nc ns P :=
  Gd.go (fun p e R s m args below meth c A H locs cells slots ls Q hl hV k => lv_isub A.x A.b hd k) g
theorem g_imul {X : GX} {M : MI} {pc : Nat} {L : List (Option Value)} {st : List Value} {h : SH} {nc ns : Nat} {P : Out → SH → Prop} {x y : Int32} (hd : decode M.2.1 pc = .ok (.imul, 1)) (g : Gd X M (pc + 1) L (.int (x * y) :: st) h nc ns P) : Gd X M (pc) L (.int y :: .int x :: st) h nc ns P :=
  Gd.go (fun p e R s m args below meth c A H locs cells slots ls Q hl hV k => lv_imul A.x A.b hd k) g
theorem g_iand {X : GX} {M : MI} {pc : Nat} {L : List (Option Value)} {st : List Value} {h : SH} {nc ns : Nat} {P : Out → SH → Prop} {x y : Int32} (hd : decode M.2.1 pc = .ok (.iand, 1)) (g : Gd X M (pc + 1) L (.int (x &&& y) :: st) h nc ns P) : Gd X M (pc) L (.int y :: .int x :: st) h nc ns P :=
  Gd.go (fun p e R s m args below meth c A H locs cells slots ls Q hl hV k => lv_iand A.x A.b hd k) g
theorem g_ishr {X : GX} {M : MI} {pc : Nat} {L : List (Option Value)} {st : List Value} {h : SH} {nc ns : Nat} {P : Out → SH → Prop} {x y : Int32} (hd : decode M.2.1 pc = .ok (.ishr, 1)) (g : Gd X M (pc + 1) L (.int (x >>> (y &&& 31)) :: st) h nc ns P) : Gd X M (pc) L (.int y :: .int x :: st) h nc ns P :=
  Gd.go (fun p e R s m args below meth c A H locs cells slots ls Q hl hV k => lv_ishr A.x A.b hd k) g
theorem g_idiv {X : GX} {M : MI} {pc : Nat} {L : List (Option Value)} {st : List Value} {h : SH} {nc ns : Nat} {P : Out → SH → Prop} {x y : Int32} (hd : decode M.2.1 pc = .ok (.idiv, 1)) (hne : ¬ y = 0) (g : Gd X M (pc + 1) L (.int (x / y) :: st) h nc ns P) : Gd X M (pc) L (.int y :: .int x :: st) h nc ns P :=
  Gd.go (fun p e R s m args below meth c A H locs cells slots ls Q hl hV k => lv_idiv A.x A.b hd hne k) g
theorem g_irem {X : GX} {M : MI} {pc : Nat} {L : List (Option Value)} {st : List Value} {h : SH} {nc ns : Nat} {P : Out → SH → Prop} {x y : Int32} (hd : decode M.2.1 pc = .ok (.irem, 1)) (hne : ¬ y = 0) (g : Gd X M (pc + 1) L (.int (x - x / y * y) :: st) h nc ns P) : Gd X M (pc) L (.int y :: .int x :: st) h nc ns P :=
  Gd.go (fun p e R s m args below meth c A H locs cells slots ls Q hl hV k => lv_irem A.x A.b hd hne k) g
theorem g_ineg {X : GX} {M : MI} {pc : Nat} {L : List (Option Value)} {st : List Value} {h : SH} {nc ns : Nat} {P : Out → SH → Prop} {x : Int32} (hd : decode M.2.1 pc = .ok (.ineg, 1)) (g : Gd X M (pc + 1) L (.int (-x) :: st) h nc ns P) : Gd X M (pc) L (.int x :: st) h nc ns P :=
  Gd.go (fun p e R s m args below meth c A H locs cells slots ls Q hl hV k => lv_ineg A.x A.b hd k) g
theorem g_iushr {X : GX} {M : MI} {pc : Nat} {L : List (Option Value)} {st : List Value} {h : SH} {nc ns : Nat} {P : Out → SH → Prop} {x y : Int32} (hd : decode M.2.1 pc = .ok (.iushr, 1)) (g : Gd X M (pc + 1) L (.int ((x.toUInt32 >>> (y.toUInt32 &&& Int32.toUInt32 31)).toInt32) :: st) h nc ns P) : Gd X M (pc) L (.int y :: .int x :: st) h nc ns P :=
  Gd.go (fun p e R s m args below meth c A H locs cells slots ls Q hl hV k => lv_iushr A.x A.b hd rfl k) g
theorem g_ladd {X : GX} {M : MI} {pc : Nat} {L : List (Option Value)} {st : List Value} {h : SH} {nc ns : Nat} {P : Out → SH → Prop} {x y : Int64} (hd : decode M.2.1 pc = .ok (.ladd, 1)) (g : Gd X M (pc + 1) L (.long (x + y) :: st) h nc ns P) : Gd X M (pc) L (.long y :: .long x :: st) h nc ns P :=
  Gd.go (fun p e R s m args below meth c A H locs cells slots ls Q hl hV k => lv_ladd A.x A.b hd k) g
theorem g_lsub {X : GX} {M : MI} {pc : Nat} {L : List (Option Value)} {st : List Value} {h : SH} {nc ns : Nat} {P : Out → SH → Prop} {x y : Int64} (hd : decode M.2.1 pc = .ok (.lsub, 1)) (g : Gd X M (pc + 1) L (.long (x - y) :: st) h nc ns P) : Gd X M (pc) L (.long y :: .long x :: st) h nc ns P :=
  Gd.go (fun p e R s m args below meth c A H locs cells slots ls Q hl hV k => lv_lsub A.x A.b hd k) g
theorem g_lmul {X : GX} {M : MI} {pc : Nat} {L : List (Option Value)} {st : List Value} {h : SH} {nc ns : Nat} {P : Out → SH → Prop} {x y : Int64} (hd : decode M.2.1 pc = .ok (.lmul, 1)) (g : Gd X M (pc + 1) L (.long (x * y) :: st) h nc ns P) : Gd X M (pc) L (.long y :: .long x :: st) h nc ns P :=
  Gd.go (fun p e R s m args below meth c A H locs cells slots ls Q hl hV k => lv_lmul A.x A.b hd k) g
theorem g_land {X : GX} {M : MI} {pc : Nat} {L : List (Option Value)} {st : List Value} {h : SH} {nc ns : Nat} {P : Out → SH → Prop} {x y : Int64} (hd : decode M.2.1 pc = .ok (.land, 1)) (g : Gd X M (pc + 1) L (.long (x &&& y) :: st) h nc ns P) : Gd X M (pc) L (.long y :: .long x :: st) h nc ns P :=
  Gd.go (fun p e R s m args below meth c A H locs cells slots ls Q hl hV k => lv_land A.x A.b hd k) g
theorem g_lor {X : GX} {M : MI} {pc : Nat} {L : List (Option Value)} {st : List Value} {h : SH} {nc ns : Nat} {P : Out → SH → Prop} {x y : Int64} (hd : decode M.2.1 pc = .ok (.lor, 1)) (g : Gd X M (pc + 1) L (.long (x ||| y) :: st) h nc ns P) : Gd X M (pc) L (.long y :: .long x :: st) h nc ns P :=
  Gd.go (fun p e R s m args below meth c A H locs cells slots ls Q hl hV k => lv_lor A.x A.b hd k) g
theorem g_ldiv {X : GX} {M : MI} {pc : Nat} {L : List (Option Value)} {st : List Value} {h : SH} {nc ns : Nat} {P : Out → SH → Prop} {x y : Int64} (hd : decode M.2.1 pc = .ok (.ldiv, 1)) (hne : ¬ y = 0) (g : Gd X M (pc + 1) L (.long (x / y) :: st) h nc ns P) : Gd X M (pc) L (.long y :: .long x :: st) h nc ns P :=
  Gd.go (fun p e R s m args below meth c A H locs cells slots ls Q hl hV k => lv_ldiv A.x A.b hd hne k) g
theorem g_lrem {X : GX} {M : MI} {pc : Nat} {L : List (Option Value)} {st : List Value} {h : SH} {nc ns : Nat} {P : Out → SH → Prop} {x y : Int64} (hd : decode M.2.1 pc = .ok (.lrem, 1)) (hne : ¬ y = 0) (g : Gd X M (pc + 1) L (.long (x - x / y * y) :: st) h nc ns P) : Gd X M (pc) L (.long y :: .long x :: st) h nc ns P :=
  Gd.go (fun p e R s m args below meth c A H locs cells slots ls Q hl hV k => lv_lrem A.x A.b hd hne k) g
theorem g_lneg {X : GX} {M : MI} {pc : Nat} {L : List (Option Value)} {st : List Value} {h : SH} {nc ns : Nat} {P : Out → SH → Prop} {x : Int64} (hd : decode M.2.1 pc = .ok (.lneg, 1)) (g : Gd X M (pc + 1) L (.long (-x) :: st) h nc ns P) : Gd X M (pc) L (.long x :: st) h nc ns P :=
  Gd.go (fun p e R s m args below meth c A H locs cells slots ls Q hl hV k => lv_lneg A.x A.b hd k) g
theorem g_lshl {X : GX} {M : MI} {pc : Nat} {L : List (Option Value)} {st : List Value} {h : SH} {nc ns : Nat} {P : Out → SH → Prop} {x : Int64} {y : Int32} (hd : decode M.2.1 pc = .ok (.lshl, 1)) (g : Gd X M (pc + 1) L (.long (x <<< (y.toInt64 &&& 63)) :: st) h nc ns P) : Gd X M (pc) L (.int y :: .long x :: st) h nc ns P :=
  Gd.go (fun p e R s m args below meth c A H locs cells slots ls Q hl hV k => lv_lshl A.x A.b hd rfl k) g
theorem g_lshr {X : GX} {M : MI} {pc : Nat} {L : List (Option Value)} {st : List Value} {h : SH} {nc ns : Nat} {P : Out → SH → Prop} {x : Int64} {y : Int32} (hd : decode M.2.1 pc = .ok (.lshr, 1)) (g : Gd X M (pc + 1) L (.long (x >>> (y.toInt64 &&& 63)) :: st) h nc ns P) : Gd X M (pc) L (.int y :: .long x :: st) h nc ns P :=
  Gd.go (fun p e R s m args below meth c A H locs cells slots ls Q hl hV k => lv_lshr A.x A.b hd rfl k) g
theorem g_lushr {X : GX} {M : MI} {pc : Nat} {L : List (Option Value)} {st : List Value} {h : SH} {nc ns : Nat} {P : Out → SH → Prop} {x : Int64} {y : Int32} (hd : decode M.2.1 pc = .ok (.lushr, 1)) (g : Gd X M (pc + 1) L (.long ((x.toUInt64 >>> (y.toInt64.toUInt64 &&& Int64.toUInt64 63)).toInt64) :: st) h nc ns P) : Gd X M (pc) L (.int y :: .long x :: st) h nc ns P :=
  Gd.go (fun p e R s m args below meth c A H locs cells slots ls Q hl hV k => lv_lushr A.x A.b hd rfl k) g
theorem g_i2l {X : GX} {M : MI} {pc : Nat} {L : List (Option Value)} {st : List Value} {h : SH} {nc ns : Nat} {P : Out → SH → Prop} {x : Int32} (hd : decode M.2.1 pc = .ok (.i2l, 1)) (g : Gd X M (pc + 1) L (.long x.toInt64 :: st) h nc ns P) : Gd X M (pc) L (.int x :: st) h nc ns P :=
  Gd.go (fun p e R s m args below meth c A H locs cells slots ls Q hl hV k => lv_i2l A.x A.b hd rfl k) g
theorem g_l2i {X : GX} {M : MI} {pc : Nat} {L : List (Option Value)} {st : List Value} {h : SH} {nc ns : Nat} {P : Out → SH → Prop} {x : Int64} (hd : decode M.2.1 pc = .ok (.l2i, 1)) (g : Gd X M (pc + 1) L (.int x.toInt32 :: st) h nc ns P) : Gd X M (pc) L (.long x :: st) h nc ns P :=
  Gd.go (fun p e R s m args below meth c A H locs cells slots ls Q hl hV k => lv_l2i A.x A.b hd rfl k) g
theorem g_i2b {X : GX} {M : MI} {pc : Nat} {L : List (Option Value)} {st : List Value} {h : SH} {nc ns : Nat} {P : Out → SH → Prop} {x : Int32} (hd : decode M.2.1 pc = .ok (.i2b, 1)) (g : Gd X M (pc + 1) L (.int x.toInt8.toInt32 :: st) h nc ns P) : Gd X M (pc) L (.int x :: st) h nc ns P :=
  Gd.go (fun p e R s m args below meth c A H locs cells slots ls Q hl hV k => lv_i2b A.x A.b hd rfl k) g
theorem g_i2c {X : GX} {M : MI} {pc : Nat} {L : List (Option Value)} {st : List Value} {h : SH} {nc ns : Nat} {P : Out → SH → Prop} {x : Int32} (hd : decode M.2.1 pc = .ok (.i2c, 1)) (g : Gd X M (pc + 1) L (.int (x.toUInt32 % 65536).toInt32 :: st) h nc ns P) : Gd X M (pc) L (.int x :: st) h nc ns P :=
  Gd.go (fun p e R s m args below meth c A H locs cells slots ls Q hl hV k => lv_i2c A.x A.b hd rfl k) g
theorem g_lcmp {X : GX} {M : MI} {pc : Nat} {L : List (Option Value)} {st : List Value} {h : SH} {nc ns : Nat} {P : Out → SH → Prop} {x y : Int64} (hd : decode M.2.1 pc = .ok (.lcmp, 1)) (g : Gd X M (pc + 1) L (.int (lg_cmp x y) :: st) h nc ns P) : Gd X M (pc) L (.long y :: .long x :: st) h nc ns P :=
  Gd.go (fun p e R s m args below meth c A H locs cells slots ls Q hl hV k => W.lcmp A.x A.b hd k) g
theorem g_dup {X : GX} {M : MI} {pc : Nat} {L : List (Option Value)} {st : List Value} {h : SH} {nc ns : Nat} {P : Out → SH → Prop} {v : Value} (hd : decode M.2.1 pc = .ok (.dup, 1)) (hv : v.category = 1) (g : Gd X M (pc + 1) L (v :: v :: st) h nc ns P) : Gd X M (pc) L (v :: st) h nc ns P :=
  Gd.go (fun p e R s m args below meth c A H locs cells slots ls Q hl hV k => lv_dup A.x A.b hd ((mv_cat X v).trans hv) k) g
theorem g_dup2 {X : GX} {M : MI} {pc : Nat} {L : List (Option Value)} {st : List Value} {h : SH} {nc ns : Nat} {P : Out → SH → Prop} {v w : Value} (hd : decode M.2.1 pc = .ok (.dup2, 1)) (hv : v.category = 1) (hw : w.category = 1) (g : Gd X M (pc + 1) L (v :: w :: v :: w :: st) h nc ns P) : Gd X M (pc) L (v :: w :: st) h nc ns P :=
  Gd.go (fun p e R s m args below meth c A H locs cells slots ls Q hl hV k => lv_dup2_11 A.x A.b hd ((mv_cat X v).trans hv) ((mv_cat X w).trans hw) k) g
theorem g_dup2l {X : GX} {M : MI} {pc : Nat} {L : List (Option Value)} {st : List Value} {h : SH} {nc ns : Nat} {P : Out → SH → Prop} {v : Value} (hd : decode M.2.1 pc = .ok (.dup2, 1)) (hv : v.category = 2) (g : Gd X M (pc + 1) L (v :: v :: st) h nc ns P) : Gd X M (pc) L (v :: st) h nc ns P :=
  Gd.go (fun p e R s m args below meth c A H locs cells slots ls Q hl hV k => lv_dup2_2 A.x A.b hd ((mv_cat X v).trans hv) k) g
theorem g_goto {X : GX} {M : MI} {pc : Nat} {L : List (Option Value)} {st : List Value} {h : SH} {nc ns : Nat} {P : Out → SH → Prop} {off : Int} {tgt : Nat} (hd : decode M.2.1 pc = .ok (.goto off, 3)) (ht : (pc : Int) + off = (tgt : Int)) (g : Gd X M (tgt) L (st) h nc ns P) : Gd X M (pc) L (st) h nc ns P :=
  Gd.go (fun p e R s m args below meth c A H locs cells slots ls Q hl hV k => lv_goto A.x A.b hd ht k) g
theorem g_if_eq {X : GX} {M : MI} {pc : Nat} {L : List (Option Value)} {st : List Value} {h : SH} {nc ns : Nat} {P : Out → SH → Prop} {x : Int32} {off : Int} {tgt : Nat} (hd : decode M.2.1 pc = .ok (.ifCond .eq off, 3)) (ht : (pc : Int) + off = (tgt : Int)) (kt : (x = 0) → Gd X M (tgt) L (st) h nc ns P) (kf : ¬ (x = 0) → Gd X M (pc + 3) L (st) h nc ns P) : Gd X M (pc) L (.int x :: st) h nc ns P :=
  fun p e R s m args below meth c A H locs cells slots ls mc ms S => lv_if_eq A.x A.b hd ht (fun q => kt q p e R s m args below meth c A H locs cells slots ls mc ms S) (fun q => kf q p e R s m args below meth c A H locs cells slots ls mc ms S)
theorem g_icmp_eq {X : GX} {M : MI} {pc : Nat} {L : List (Option Value)} {st : List Value} {h : SH} {nc ns : Nat} {P : Out → SH → Prop} {x y : Int32} {off : Int} {tgt : Nat} (hd : decode M.2.1 pc = .ok (.if_icmp .eq off, 3)) (ht : (pc : Int) + off = (tgt : Int)) (kt : (x = y) → Gd X M (tgt) L (st) h nc ns P) (kf : ¬ (x = y) → Gd X M (pc + 3) L (st) h nc ns P) : Gd X M (pc) L (.int y :: .int x :: st) h nc ns P :=
  fun p e R s m args below meth c A H locs cells slots ls mc ms S => lv_icmp_eq A.x A.b hd ht (fun q => kt q p e R s m args below meth c A H locs cells slots ls mc ms S) (fun q => kf q p e R s m args below meth c A H locs cells slots ls mc ms S)
theorem g_if_ne {X : GX} {M : MI} {pc : Nat} {L : List (Option Value)} {st : List Value} {h : SH} {nc ns : Nat} {P : Out → SH → Prop} {x : Int32} {off : Int} {tgt : Nat} (hd : decode M.2.1 pc = .ok (.ifCond .ne off, 3)) (ht : (pc : Int) + off = (tgt : Int)) (kt : (¬ x = 0) → Gd X M (tgt) L (st) h nc ns P) (kf : (x = 0) → Gd X M (pc + 3) L (st) h nc ns P) : Gd X M (pc) L (.int x :: st) h nc ns P :=
  fun p e R s m args below meth c A H locs cells slots ls mc ms S => lv_if_ne A.x A.b hd ht (fun q => kt q p e R s m args below meth c A H locs cells slots ls mc ms S) (fun q => kf q p e R s m args below meth c A H locs cells slots ls mc ms S)
theorem g_icmp_ne {X : GX} {M : MI} {pc : Nat} {L : List (Option Value)} {st : List Value} {h : SH} {nc ns : Nat} {P : Out → SH → Prop} {x y : Int32} {off : Int} {tgt : Nat} (hd : decode M.2.1 pc = .ok (.if_icmp .ne off, 3)) (ht : (pc : Int) + off = (tgt : Int)) (kt : (¬ x = y) → Gd X M (tgt) L (st) h nc ns P) (kf : (x = y) → Gd X M (pc + 3) L (st) h nc ns P) : Gd X M (pc) L (.int y :: .int x :: st) h nc ns P :=
  fun p e R s m args below meth c A H locs cells slots ls mc ms S => lv_icmp_ne A.x A.b hd ht (fun q => kt q p e R s m args below meth c A H locs cells slots ls mc ms S) (fun q => kf q p e R s m args below meth c A H locs cells slots ls mc ms S)
theorem g_if_lt {X : GX} {M : MI} {pc : Nat} {L : List (Option Value)} {st : List Value} {h : SH} {nc ns : Nat} {P : Out → SH → Prop} {x : Int32} {off : Int} {tgt : Nat} (hd : decode M.2.1 pc = .ok (.ifCond .lt off, 3)) (ht : (pc : Int) + off = (tgt : Int)) (kt : (x < 0) → Gd X M (tgt) L (st) h nc ns P) (kf : ¬ (x < 0) → Gd X M (pc + 3) L (st) h nc ns P) : Gd X M (pc) L (.int x :: st) h nc ns P :=
  fun p e R s m args below meth c A H locs cells slots ls mc ms S => lv_if_lt A.x A.b hd ht (fun q => kt q p e R s m args below meth c A H locs cells slots ls mc ms S) (fun q => kf q p e R s m args below meth c A H locs cells slots ls mc ms S)
theorem g_icmp_lt {X : GX} {M : MI} {pc : Nat} {L : List (Option Value)} {st : List Value} {h : SH} {nc ns : Nat} {P : Out → SH → Prop} {x y : Int32} {off : Int} {tgt : Nat} (hd : decode M.2.1 pc = .ok (.if_icmp .lt off, 3)) (ht : (pc : Int) + off = (tgt : Int)) (kt : (x < y) → Gd X M (tgt) L (st) h nc ns P) (kf : ¬ (x < y) → Gd X M (pc + 3) L (st) h nc ns P) : Gd X M (pc) L (.int y :: .int x :: st) h nc ns P :=
  fun p e R s m args below meth c A H locs cells slots ls mc ms S => lv_icmp_lt A.x A.b hd ht (fun q => kt q p e R s m args below meth c A H locs cells slots ls mc ms S) (fun q => kf q p e R s m args below meth c A H locs cells slots ls mc ms S)
theorem g_if_ge {X : GX} {M : MI} {pc : Nat} {L : List (Option Value)} {st : List Value} {h : SH} {nc ns : Nat} {P : Out → SH → Prop} {x : Int32} {off : Int} {tgt : Nat} (hd : decode M.2.1 pc = .ok (.ifCond .ge off, 3)) (ht : (pc : Int) + off = (tgt : Int)) (kt : (0 ≤ x) → Gd X M (tgt) L (st) h nc ns P) (kf : ¬ (0 ≤ x) → Gd X M (pc + 3) L (st) h nc ns P) : Gd X M (pc) L (.int x :: st) h nc ns P :=
  fun p e R s m args below meth c A H locs cells slots ls mc ms S => lv_if_ge A.x A.b hd ht (fun q => kt q p e R s m args below meth c A H locs cells slots ls mc ms S) (fun q => kf q p e R s m args below meth c A H locs cells slots ls mc ms S)
theorem g_icmp_ge {X : GX} {M : MI} {pc : Nat} {L : List (Option Value)} {st : List Value} {h : SH} {nc ns : Nat} {P : Out → SH → Prop} {x y : Int32} {off : Int} {tgt : Nat} (hd : decode M.2.1 pc = .ok (.if_icmp .ge off, 3)) (ht : (pc : Int) + off = (tgt : Int)) (kt : (y ≤ x) → Gd X M (tgt) L (st) h nc ns P) (kf : ¬ (y ≤ x) → Gd X M (pc + 3) L (st) h nc ns P) : Gd X M (pc) L (.int y :: .int x :: st) h nc ns P :=
  fun p e R s m args below meth c A H locs cells slots ls mc ms S => lv_icmp_ge A.x A.b hd ht (fun q => kt q p e R s m args below meth c A H locs cells slots ls mc ms S) (fun q => kf q p e R s m args below meth c A H locs cells slots ls mc ms S)
theorem g_if_gt {X : GX} {M : MI} {pc : Nat} {L : List (Option Value)} {st : List Value} {h : SH} {nc ns : Nat} {P : Out → SH → Prop} {x : Int32} {off : Int} {tgt : Nat} (hd : decode M.2.1 pc = .ok (.ifCond .gt off, 3)) (ht : (pc : Int) + off = (tgt : Int)) (kt : (0 < x) → Gd X M (tgt) L (st) h nc ns P) (kf : ¬ (0 < x) → Gd X M (pc + 3) L (st) h nc ns P) : Gd X M (pc) L (.int x :: st) h nc ns P :=
  fun p e R s m args below meth c A H locs cells slots ls mc ms S => lv_if_gt A.x A.b hd ht (fun q => kt q p e R s m args below meth c A H locs cells slots ls mc ms S) (fun q => kf q p e R s m args below meth c A H locs cells slots ls mc ms S)
theorem g_icmp_gt {X : GX} {M : MI} {pc : Nat} {L : List (Option Value)} {st : List Value} {h : SH} {nc ns : Nat} {P : Out → SH → Prop} {x y : Int32} {off : Int} {tgt : Nat} (hd : decode M.2.1 pc = .ok (.if_icmp .gt off, 3)) (ht : (pc : Int) + off = (tgt : Int)) (kt : (y < x) → Gd X M (tgt) L (st) h nc ns P) (kf : ¬ (y < x) → Gd X M (pc + 3) L (st) h nc ns P) : Gd X M (pc) L (.int y :: .int x :: st) h nc ns P :=
  fun p e R s m args below meth c A H locs cells slots ls mc ms S => lv_icmp_gt A.x A.b hd ht (fun q => kt q p e R s m args below meth c A H locs cells slots ls mc ms S) (fun q => kf q p e R s m args below meth c A H locs cells slots ls mc ms S)
theorem g_if_le {X : GX} {M : MI} {pc : Nat} {L : List (Option Value)} {st : List Value} {h : SH} {nc ns : Nat} {P : Out → SH → Prop} {x : Int32} {off : Int} {tgt : Nat} (hd : decode M.2.1 pc = .ok (.ifCond .le off, 3)) (ht : (pc : Int) + off = (tgt : Int)) (kt : (x ≤ 0) → Gd X M (tgt) L (st) h nc ns P) (kf : ¬ (x ≤ 0) → Gd X M (pc + 3) L (st) h nc ns P) : Gd X M (pc) L (.int x :: st) h nc ns P :=
  fun p e R s m args below meth c A H locs cells slots ls mc ms S => lv_if_le A.x A.b hd ht (fun q => kt q p e R s m args below meth c A H locs cells slots ls mc ms S) (fun q => kf q p e R s m args below meth c A H locs cells slots ls mc ms S)
theorem g_icmp_le {X : GX} {M : MI} {pc : Nat} {L : List (Option Value)} {st : List Value} {h : SH} {nc ns : Nat} {P : Out → SH → Prop} {x y : Int32} {off : Int} {tgt : Nat} (hd : decode M.2.1 pc = .ok (.if_icmp .le off, 3)) (ht : (pc : Int) + off = (tgt : Int)) (kt : (x ≤ y) → Gd X M (tgt) L (st) h nc ns P) (kf : ¬ (x ≤ y) → Gd X M (pc + 3) L (st) h nc ns P) : Gd X M (pc) L (.int y :: .int x :: st) h nc ns P :=
  fun p e R s m args below meth c A H locs cells slots ls mc ms S => lv_icmp_le A.x A.b hd ht (fun q => kt q p e R s m args below meth c A H locs cells slots ls mc ms S) (fun q => kf q p e R s m args below meth c A H locs cells slots ls mc ms S)
theorem g_ifnull {X : GX} {M : MI} {pc : Nat} {L : List (Option Value)} {st : List Value} {h : SH} {nc ns : Nat} {P : Out → SH → Prop} {r : Option Nat} {off : Int} {tgt : Nat} (hd : decode M.2.1 pc = .ok (.ifnull off, 3)) (ht : (pc : Int) + off = (tgt : Int)) (kt : r = none → Gd X M (tgt) L (st) h nc ns P) (kf : ∀ a, r = some a → Gd X M (pc + 3) L (st) h nc ns P) : Gd X M (pc) L (va_rf r :: st) h nc ns P := by
  cases r with
  | none => exact Gd.go (fun p e R s m args below meth c A H locs cells slots ls Q hl hV k => lv_ifnullN A.x A.b hd ht k) (kt rfl)
  | some a => exact Gd.go (fun p e R s m args below meth c A H locs cells slots ls Q hl hV k => lv_ifnull A.x A.b hd k) (kf a rfl)
theorem g_ifnonnull {X : GX} {M : MI} {pc : Nat} {L : List (Option Value)} {st : List Value} {h : SH} {nc ns : Nat} {P : Out → SH → Prop} {r : Option Nat} {off : Int} {tgt : Nat} (hd : decode M.2.1 pc = .ok (.ifnonnull off, 3)) (ht : (pc : Int) + off = (tgt : Int)) (kt : ∀ a, r = some a → Gd X M (tgt) L (st) h nc ns P) (kf : r = none → Gd X M (pc + 3) L (st) h nc ns P) : Gd X M (pc) L (va_rf r :: st) h nc ns P := by
  cases r with
  | none => exact Gd.go (fun p e R s m args below meth c A H locs cells slots ls Q hl hV k => lv_ifnonnullN A.x A.b hd k) (kf rfl)
  | some a => exact Gd.go (fun p e R s m args below meth c A H locs cells slots ls Q hl hV k => lv_ifnonnull A.x A.b hd ht k) (kt a rfl)
theorem ph_map {X : GX} {r t : Option Nat} (hr : ∀ a, r = some a → 8 ≤ a) (ht : ∀ a, t = some a → 8 ≤ a) (h : r.map (ph X) = t.map (ph X)) : r = t := by
  cases r with
  | none => cases t with
    | none => rfl
    | some b => cases h
  | some a => cases t with
    | none => cases h
    | some b => rw [ph_inj (hr a rfl) (ht b rfl) (Option.some.inj h)]
theorem g_acmp_eq {X : GX} {M : MI} {pc : Nat} {L : List (Option Value)} {st : List Value} {h : SH} {nc ns : Nat} {P : Out → SH → Prop} {rx ry : Option Nat} {off : Int} {tgt : Nat} (hd : decode M.2.1 pc = .ok (.if_acmp .eq off, 3)) (ht : (pc : Int) + off = (tgt : Int)) (hx : ∀ a, rx = some a → 8 ≤ a) (hy : ∀ a, ry = some a → 8 ≤ a) (kt : (rx = ry) → Gd X M (tgt) L (st) h nc ns P) (kf : ¬ (rx = ry) → Gd X M (pc + 3) L (st) h nc ns P) : Gd X M (pc) L (va_rf ry :: va_rf rx :: st) h nc ns P := by
  intro p e R s m args below meth c A H locs cells slots ls mc ms S
  have k := lv_acmp_eq (rx := rx.map (ph X)) (ry := ry.map (ph X)) (ls := ls) (rest := st.map (mv X)) (p := p) (l := xl X) (e := e) (R := R) (s := s) (m := m) (args := args) (below := below) (meth := meth) (c := c) (H := H) (locs := locs) (cells := cells) (slots := slots) (Q := vx_MQ below (Qo X P) (Xo X P) args s mc ms (fr X)) A.x A.b hd ht (fun q => kt (ph_map hx hy q) p e R s m args below meth c A H locs cells slots ls mc ms S) (fun q => kf (fun z => q (by rw [z])) p e R s m args below meth c A H locs cells slots ls mc ms S)
  rw [← mv_rf, ← mv_rf] at k
  exact k
theorem g_acmp_ne {X : GX} {M : MI} {pc : Nat} {L : List (Option Value)} {st : List Value} {h : SH} {nc ns : Nat} {P : Out → SH → Prop} {rx ry : Option Nat} {off : Int} {tgt : Nat} (hd : decode M.2.1 pc = .ok (.if_acmp .ne off, 3)) (ht : (pc : Int) + off = (tgt : Int)) (hx : ∀ a, rx = some a → 8 ≤ a) (hy : ∀ a, ry = some a → 8 ≤ a) (kt : (¬ rx = ry) → Gd X M (tgt) L (st) h nc ns P) (kf : rx = ry → Gd X M (pc + 3) L (st) h nc ns P) : Gd X M (pc) L (va_rf ry :: va_rf rx :: st) h nc ns P := by
  intro p e R s m args below meth c A H locs cells slots ls mc ms S
  have k := lv_acmp_ne (rx := rx.map (ph X)) (ry := ry.map (ph X)) (ls := ls) (rest := st.map (mv X)) (p := p) (l := xl X) (e := e) (R := R) (s := s) (m := m) (args := args) (below := below) (meth := meth) (c := c) (H := H) (locs := locs) (cells := cells) (slots := slots) (Q := vx_MQ below (Qo X P) (Xo X P) args s mc ms (fr X)) A.x A.b hd ht (fun q => kt (fun z => q (by rw [z])) p e R s m args below meth c A H locs cells slots ls mc ms S) (fun q => kf (ph_map hx hy q) p e R s m args below meth c A H locs cells slots ls mc ms S)
  rw [← mv_rf, ← mv_rf] at k
  exact k
def cl2 (a : Option Value) : Option Value := match a with
  | some (.long _) => none
  | some (.double _) => none
  | x => x
def st1 : List (Option Value) → Nat → Value → List (Option Value)
  | [], _, _ => []
  | _ :: r, 0, v => some v :: r
  | a :: r, 1, v => cl2 a :: st1 r 0 v
  | a :: r, i + 2, v => a :: st1 r (i + 1) v
def st2 : List (Option Value) → Nat → Value → List (Option Value)
  | [], _, _ => []
  | [_], 0, _ => [none]
  | _ :: _ :: r, 0, v => some v :: none :: r
  | a :: r, 1, v => cl2 a :: st2 r 0 v
  | a :: r, i + 2, v => a :: st2 r (i + 1) v
theorem cl2_of {a : Option Value} {w : Value} (h : cl2 a = some w) : a = some w ∧ ¬ w.category = 2 := by
  cases a with
  | none => simp [cl2] at h
  | some v => cases v <;> simp [cl2] at h <;> subst h <;> exact ⟨rfl, by simp [Value.category]⟩
theorem st1_at {v w : Value} : ∀ {L : List (Option Value)} {i k : Nat}, (st1 L i v)[k]? = some (some w) → (k = i ∧ w = v) ∨ (k ≠ i ∧ L[k]? = some (some w) ∧ ¬ (k + 1 = i ∧ w.category = 2))
  | [], i, k, h => by simp [st1] at h
  | a :: r, 0, 0, h => by simp [st1] at h; exact Or.inl ⟨rfl, h.symm⟩
  | a :: r, 0, k + 1, h => by
    simp [st1] at h
    exact Or.inr ⟨by omega, by simpa using h, fun q => by omega⟩
  | a :: r, 1, 0, h => by
    simp [st1] at h
    obtain ⟨h1, h2⟩ := cl2_of h
    exact Or.inr ⟨by omega, by simp [h1], fun q => h2 q.2⟩
  | a :: r, 1, k + 1, h => by
    have h1 : (st1 r 0 v)[k]? = some (some w) := by simpa [st1] using h
    rcases st1_at h1 with ⟨q1, q2⟩ | ⟨q1, q2, q3⟩
    · exact Or.inl ⟨by omega, q2⟩
    · exact Or.inr ⟨by omega, by simpa using q2, fun q => by omega⟩
  | a :: r, i + 2, 0, h => by
    simp [st1] at h
    exact Or.inr ⟨by omega, by simp [h], fun q => by omega⟩
  | a :: r, i + 2, k + 1, h => by
    have h1 : (st1 r (i + 1) v)[k]? = some (some w) := by simpa [st1] using h
    rcases st1_at h1 with ⟨q1, q2⟩ | ⟨q1, q2, q3⟩
    · exact Or.inl ⟨by omega, q2⟩
    · exact Or.inr ⟨by omega, by simpa using q2, fun q => q3 ⟨by omega, q.2⟩⟩
theorem st2_at {v w : Value} : ∀ {L : List (Option Value)} {i k : Nat}, (st2 L i v)[k]? = some (some w) → (k = i ∧ w = v) ∨ (k ≠ i ∧ k ≠ i + 1 ∧ L[k]? = some (some w) ∧ ¬ (k + 1 = i ∧ w.category = 2))
  | [], i, k, h => by simp [st2] at h
  | [a], 0, k, h => by cases k <;> simp [st2] at h
  | a :: b :: r, 0, 0, h => by simp [st2] at h; exact Or.inl ⟨rfl, h.symm⟩
  | a :: b :: r, 0, 1, h => by simp [st2] at h
  | a :: b :: r, 0, k + 2, h => by
    simp [st2] at h
    exact Or.inr ⟨by omega, by omega, by simpa using h, fun q => by omega⟩
  | a :: r, 1, 0, h => by
    simp [st2] at h
    obtain ⟨h1, h2⟩ := cl2_of h
    exact Or.inr ⟨by omega, by omega, by simp [h1], fun q => h2 q.2⟩
  | a :: r, 1, k + 1, h => by
    have h1 : (st2 r 0 v)[k]? = some (some w) := by simpa [st2] using h
    rcases st2_at h1 with ⟨q1, q2⟩ | ⟨q1, q4, q2, q3⟩
    · exact Or.inl ⟨by omega, q2⟩
    · exact Or.inr ⟨by omega, by omega, by simpa using q2, fun q => by omega⟩
  | a :: r, i + 2, 0, h => by
    simp [st2] at h
    exact Or.inr ⟨by omega, by omega, by simp [h], fun q => by omega⟩
  | a :: r, i + 2, k + 1, h => by
    have h1 : (st2 r (i + 1) v)[k]? = some (some w) := by simpa [st2] using h
    rcases st2_at h1 with ⟨q1, q2⟩ | ⟨q1, q4, q2, q3⟩
    · exact Or.inl ⟨by omega, q2⟩
    · exact Or.inr ⟨by omega, by omega, by simpa using q2, fun q => q3 ⟨by omega, q.2⟩⟩
theorem lv_st1 {X : GX} {ls : Array Slot} {n i : Nat} {L : List (Option Value)} {v : Value} (h : lv_has ls n ((i, mv X v) :: (lvl X 0 L).filter (fun q => !(q.1 == i) && !(q.1 + 1 == i && q.2.category == 2)))) : lv_has ls n (lvl X 0 (st1 L i v)) :=
  lv_le h (fun q hq => by
    obtain ⟨k, w, h1, h2⟩ := lvl_of hq
    rw [h2]
    rcases st1_at h1 with ⟨q1, q2⟩ | ⟨q1, q2, q3⟩
    · subst q1; subst q2; rw [Nat.zero_add]; exact List.mem_cons_self
    · refine List.mem_cons_of_mem _ (List.mem_filter.mpr ⟨lvl_mem q2, ?_⟩)
      simp only [Nat.zero_add, mv_cat]
      by_cases hc : k + 1 = i
      · have : ¬ w.category = 2 := fun z => q3 ⟨hc, z⟩
        simp [q1, this]
      · simp [q1, hc])
theorem lv_st2 {X : GX} {ls : Array Slot} {n i : Nat} {L : List (Option Value)} {v : Value} (h : lv_has ls n ((i, mv X v) :: (lvl X 0 L).filter (fun q => !(q.1 == i) && (!(q.1 == i + 1) && !(q.1 + 1 == i && q.2.category == 2))))) : lv_has ls n (lvl X 0 (st2 L i v)) :=
  lv_le h (fun q hq => by
    obtain ⟨k, w, h1, h2⟩ := lvl_of hq
    rw [h2]
    rcases st2_at h1 with ⟨q1, q2⟩ | ⟨q1, q4, q2, q3⟩
    · subst q1; subst q2; rw [Nat.zero_add]; exact List.mem_cons_self
    · refine List.mem_cons_of_mem _ (List.mem_filter.mpr ⟨lvl_mem q2, ?_⟩)
      simp only [Nat.zero_add, mv_cat]
      by_cases hc : k + 1 = i
      · have : ¬ w.category = 2 := fun z => q3 ⟨hc, z⟩
        simp [q1, q4, this]
      · simp [q1, q4, hc])
theorem St.loc {X : GX} {M : MI} {R : Room} {L L' : List (Option Value)} {h : SH} {nc ns : Nat} {H : Heap} {locs : List Loc} {cells slots : Nat} {ls ls' : Array Slot} {mc ms : Nat} (S : St X M R L h nc ns H locs cells slots ls mc ms) (hl : lv_has ls' M.2.2.1 (lvl X 0 L')) : St X M R L' h nc ns H locs cells slots ls' mc ms := ⟨S.1, hl, S.2.2⟩
theorem g_istore {X : GX} {M : MI} {pc : Nat} {L : List (Option Value)} {st : List Value} {h : SH} {nc ns : Nat} {P : Out → SH → Prop} {i : Nat} {x : Int32} {L' : List (Option Value)} (hd : decode M.2.1 pc = .ok (.istore i, 2)) (hn : i < M.2.2.1) (hs : st1 L i (.int x) = L') (g : Gd X M (pc + 2) L' (st) h nc ns P) : Gd X M (pc) L (.int x :: st) h nc ns P :=
  fun p e R s m args below meth c A H locs cells slots ls mc ms S => lv_istore A.x A.b hd S.2.1 hn rfl (fun ls' hl => g p e R s m args below meth c A H locs cells slots ls' mc ms (S.loc (hs ▸ lv_st1 hl)))
theorem g_istore_n {X : GX} {M : MI} {pc : Nat} {L : List (Option Value)} {st : List Value} {h : SH} {nc ns : Nat} {P : Out → SH → Prop} {j : Fin 4} {x : Int32} {L' : List (Option Value)} (hd : decode M.2.1 pc = .ok (.istore_n j, 1)) (hn : (j : Nat) < M.2.2.1) (hs : st1 L (j : Nat) (.int x) = L') (g : Gd X M (pc + 1) L' (st) h nc ns P) : Gd X M (pc) L (.int x :: st) h nc ns P :=
  fun p e R s m args below meth c A H locs cells slots ls mc ms S => lv_istore_n A.x A.b hd rfl S.2.1 hn rfl (fun ls' hl => g p e R s m args below meth c A H locs cells slots ls' mc ms (S.loc (hs ▸ lv_st1 hl)))
theorem g_lstore {X : GX} {M : MI} {pc : Nat} {L : List (Option Value)} {st : List Value} {h : SH} {nc ns : Nat} {P : Out → SH → Prop} {i : Nat} {x : Int64} {L' : List (Option Value)} (hd : decode M.2.1 pc = .ok (.lstore i, 2)) (hn : i + 1 < M.2.2.1) (hs : st2 L i (.long x) = L') (g : Gd X M (pc + 2) L' (st) h nc ns P) : Gd X M (pc) L (.long x :: st) h nc ns P :=
  fun p e R s m args below meth c A H locs cells slots ls mc ms S => lv_lstore A.x A.b hd S.2.1 hn rfl (fun ls' hl => g p e R s m args below meth c A H locs cells slots ls' mc ms (S.loc (hs ▸ lv_st2 hl)))
theorem g_lstore_n {X : GX} {M : MI} {pc : Nat} {L : List (Option Value)} {st : List Value} {h : SH} {nc ns : Nat} {P : Out → SH → Prop} {j : Fin 4} {x : Int64} {L' : List (Option Value)} (hd : decode M.2.1 pc = .ok (.lstore_n j, 1)) (hn : (j : Nat) + 1 < M.2.2.1) (hs : st2 L (j : Nat) (.long x) = L') (g : Gd X M (pc + 1) L' (st) h nc ns P) : Gd X M (pc) L (.long x :: st) h nc ns P :=
  fun p e R s m args below meth c A H locs cells slots ls mc ms S => lv_lstore_n A.x A.b hd rfl S.2.1 hn rfl (fun ls' hl => g p e R s m args below meth c A H locs cells slots ls' mc ms (S.loc (hs ▸ lv_st2 hl)))
theorem g_astore {X : GX} {M : MI} {pc : Nat} {L : List (Option Value)} {st : List Value} {h : SH} {nc ns : Nat} {P : Out → SH → Prop} {i : Nat} {r : Option Nat} {L' : List (Option Value)} (hd : decode M.2.1 pc = .ok (.astore i, 2)) (hn : i < M.2.2.1) (hs : st1 L i (va_rf r) = L') (g : Gd X M (pc + 2) L' (st) h nc ns P) : Gd X M (pc) L (va_rf r :: st) h nc ns P := by
  cases r with
  | none => exact fun p e R s m args below meth c A H locs cells slots ls mc ms S => lv_astoreN A.x A.b hd S.2.1 hn rfl (fun ls' hl => g p e R s m args below meth c A H locs cells slots ls' mc ms (S.loc (hs ▸ lv_st1 (v := .null) hl)))
  | some a => exact fun p e R s m args below meth c A H locs cells slots ls mc ms S => lv_astore A.x A.b hd S.2.1 hn rfl (fun ls' hl => g p e R s m args below meth c A H locs cells slots ls' mc ms (S.loc (hs ▸ lv_st1 (v := .ref a) hl)))
theorem g_astore_n {X : GX} {M : MI} {pc : Nat} {L : List (Option Value)} {st : List Value} {h : SH} {nc ns : Nat} {P : Out → SH → Prop} {j : Fin 4} {r : Option Nat} {L' : List (Option Value)} (hd : decode M.2.1 pc = .ok (.astore_n j, 1)) (hn : (j : Nat) < M.2.2.1) (hs : st1 L (j : Nat) (va_rf r) = L') (g : Gd X M (pc + 1) L' (st) h nc ns P) : Gd X M (pc) L (va_rf r :: st) h nc ns P := by
  cases r with
  | none => exact fun p e R s m args below meth c A H locs cells slots ls mc ms S => lv_astore_nN A.x A.b hd rfl S.2.1 hn rfl (fun ls' hl => g p e R s m args below meth c A H locs cells slots ls' mc ms (S.loc (hs ▸ lv_st1 (v := .null) hl)))
  | some a => exact fun p e R s m args below meth c A H locs cells slots ls mc ms S => lv_astore_n A.x A.b hd rfl S.2.1 hn rfl (fun ls' hl => g p e R s m args below meth c A H locs cells slots ls' mc ms (S.loc (hs ▸ lv_st1 (v := .ref a) hl)))
theorem g_iinc {X : GX} {M : MI} {pc : Nat} {L : List (Option Value)} {st : List Value} {h : SH} {nc ns : Nat} {P : Out → SH → Prop} {i : Nat} {n : Int} {x v : Int32} {L' : List (Option Value)} (hd : decode M.2.1 pc = .ok (.iinc i n, 3)) (hi : L[i]? = some (some (.int x))) (hv : x + Int32.ofInt n = v) (hn : i < M.2.2.1) (hs : st1 L i (.int v) = L') (g : Gd X M (pc + 3) L' (st) h nc ns P) : Gd X M (pc) L (st) h nc ns P := by
  intro p e R s m args below meth c A H locs cells slots ls mc ms S
  obtain ⟨k, hk⟩ := List.getElem?_of_mem (lvl_mem (X := X) (j := 0) hi)
  rw [Nat.zero_add] at hk
  exact lv_iinc A.x A.b hd S.2.1 hk hv hn rfl (fun ls' hl => g p e R s m args below meth c A H locs cells slots ls' mc ms (S.loc (hs ▸ lv_st1 (v := .int v) hl)))
theorem g_ireturn {X : GX} {M : MI} {pc : Nat} {L : List (Option Value)} {st : List Value} {h : SH} {nc ns : Nat} {P : Out → SH → Prop} {v : Int32} {ty : FieldType} (hd : decode M.2.1 pc = .ok (.ireturn, 1)) (hr : M.2.2.2.1 = some ty) (hn : narrow ty (.int v) = .int v) (hp : P (.inl (some (.int v))) h) : Gd X M (pc) L ([.int v]) h nc ns P :=
  fun p e R s m args below meth c A H locs cells slots ls mc ms S => W.widen (k := mc) (n := ms) (Nat.le_trans (Nat.le_add_right _ _) S.2.2.2.1) (Nat.le_trans (Nat.le_add_right _ _) S.2.2.2.2.1) (vx_ret (W.zret A.x A.b (A.rt.trans hr) hn (fun t ht _ => ⟨some (.int v), h, hp, rfl, by rw [ht]; exact S.1⟩) S.2.2.1 hd A.lk))
theorem g_lreturn {X : GX} {M : MI} {pc : Nat} {L : List (Option Value)} {st : List Value} {h : SH} {nc ns : Nat} {P : Out → SH → Prop} {v : Int64} (hd : decode M.2.1 pc = .ok (.lreturn, 1)) (hr : M.2.2.2.1 = some .long) (hp : P (.inl (some (.long v))) h) : Gd X M (pc) L ([.long v]) h nc ns P :=
  fun p e R s m args below meth c A H locs cells slots ls mc ms S => W.widen (k := mc) (n := ms) (Nat.le_trans (Nat.le_add_right _ _) S.2.2.2.1) (Nat.le_trans (Nat.le_add_right _ _) S.2.2.2.2.1) (vx_ret (W.lret A.x A.b (A.rt.trans hr) (fun t ht _ => ⟨some (.long v), h, hp, rfl, by rw [ht]; exact S.1⟩) S.2.2.1 hd A.lk))
theorem g_return {X : GX} {M : MI} {pc : Nat} {L : List (Option Value)} {st : List Value} {h : SH} {nc ns : Nat} {P : Out → SH → Prop} (hd : decode M.2.1 pc = .ok (.return_, 1)) (hr : M.2.2.2.1 = none) (hp : P (.inl none) h) : Gd X M (pc) L ([]) h nc ns P :=
  fun p e R s m args below meth c A H locs cells slots ls mc ms S => W.widen (k := mc) (n := ms) (Nat.le_trans (Nat.le_add_right _ _) S.2.2.2.1) (Nat.le_trans (Nat.le_add_right _ _) S.2.2.2.2.1) (vx_ret (W.vret A.x A.b (A.rt.trans hr) (fun t ht _ => ⟨none, h, hp, rfl, by rw [ht]; exact S.1⟩) S.2.2.1 hd A.lk))
theorem g_areturn {X : GX} {M : MI} {pc : Nat} {L : List (Option Value)} {st : List Value} {h : SH} {nc ns : Nat} {P : Out → SH → Prop} {r : Option Nat} {rt : FieldType} (hd : decode M.2.1 pc = .ok (.areturn, 1)) (hr : M.2.2.2.1 = some rt) (hrt : (∃ n, rt = .object n) ∨ ∃ t, rt = .array t) (hp : P (.inl (some (va_rf r))) h) : Gd X M (pc) L ([va_rf r]) h nc ns P := by
  intro p e R s m args below meth c A H locs cells slots ls mc ms S
  have k := W.aret (v := mv X (va_rf r)) (p := p) (l := xl X) (e := e) (R := R) (s := s) (m := m) (args := args) (below := below) (meth := meth) (c := c) (H := H) (locs := locs) (cells := mc) (slots := ms) (ls := ls) (Qc := Qo X P) (free := fr X) A.x A.b (A.rt.trans hr) hrt (by rw [mv_rf]; cases r <;> simp [va_rf]) (fun t ht _ => ⟨some (va_rf r), h, hp, rfl, by rw [ht]; exact S.1⟩) S.2.2.1 hd A.lk
  exact W.widen (k := mc) (n := ms) (Nat.le_trans (Nat.le_add_right _ _) S.2.2.2.1) (Nat.le_trans (Nat.le_add_right _ _) S.2.2.2.2.1) (vx_ret k)
end
section
/-! ===== the rules over the heap ===== -/
/-- a is an object of the class c; an array of the kind k with n places -/
def Ob (h : SH) (a c : Nat) : Prop := 8 ≤ a ∧ a < hz h ∧ hK h a = c
def Ar (h : SH) (a k n : Nat) : Prop := 8 ≤ a ∧ a < hz h ∧ hK h a = k ∧ hN h a = n
theorem VR.ob {X : GX} {h : SH} {H : Heap} {a c : Nat} (V : VR X h H) (ho : Ob h a c) (hc : c < 12) : va_at (xD X) ctl (ph X a, .inr (c, fvs X h a c)) H := by
  have := V.2.2.2 a ho.1 ho.2.1 (by rw [ho.2.2]; omega)
  unfold eE at this
  rw [ho.2.2, if_pos hc] at this
  exact this
theorem VR.ar {X : GX} {h : SH} {H : Heap} {a k n : Nat} (V : VR X h H) (ho : Ar h a k n) (hk : 12 ≤ k) (h9 : k ≠ 99) : va_at (xD X) ctl (ph X a, .inl (xac X k, n, arE X h a k)) H := by
  have := V.2.2.2 a ho.1 ho.2.1 (by rw [ho.2.2.1]; omega)
  unfold eE at this
  rw [ho.2.2.1, ho.2.2.2, if_neg (by omega)] at this
  exact this
theorem va_one {D : va_G} {cl : List vw_C} {q : Nat × va_E} {H : Heap} (h : va_at D cl q H) : va_P D cl [q] H := fun k x hx => by
  cases k with
  | zero => cases hx; exact h
  | succ k => simp at hx
theorem ct_lays : ∀ c : Nat, c < 12 → ∀ w ∈ u_ws (ctR c) (ctT c) (ctN c), KW w := by
  have key : ∀ c ∈ List.range 12, ∀ w ∈ u_ws (ctR c) (ctT c) (ctN c), w ∈ lw_tbl ∧ goodWord w = true := by decide +kernel
  intro c hc w hw
  exact key c (List.mem_range.mpr hc) w hw
theorem Act.lays {X : GX} {M : MI} {p : Program} {R : Room} {s : State} {m : MethodId} {meth : Method} {c : Code} (A : Act X M p R s m meth c) {k : Nat} (hk : k < 12) (a : Array Value) : ∀ w ∈ u_ws (ctR k) (ctT k) (ctN k), w.before a s = true := fun w hw => A.word (ct_lays k hk w hw) a
theorem fvs_at {X : GX} {h : SH} {a c k : Nat} (hk : k < ctN c) : (fvs X h a c)[k]? = some (fvT X h a k (ctY c k)) := by
  unfold fvs; rw [List.getElem?_map, List.getElem?_range hk]; rfl
theorem fvs_V {X : GX} {h : SH} {a c k : Nat} (hk : k < ctN c) : vp_V (fvs X h a c) k = fvT X h a k (ctY c k) := by
  unfold vp_V; rw [List.getD_eq_getElem?_getD, fvs_at hk]; rfl
def tI (t : FieldType) : Bool := match t with
  | .int => true | .boolean => true | .byte => true | .char => true | .short => true | _ => false
def tA (t : FieldType) : Bool := match t with
  | .object _ => true | .array _ => true | _ => false
theorem fvT_I {X : GX} {h : SH} {a k : Nat} {t : FieldType} (ht : tI t = true) : fvT X h a k t = .int (hI h a k) := by cases t <;> first | rfl | (simp [tI] at ht)
theorem fvT_A {X : GX} {h : SH} {a k : Nat} {t : FieldType} (ht : tA t = true) : fvT X h a k t = va_rf ((hA h a k).map (ph X)) := by cases t <;> first | rfl | (simp [tA] at ht)
theorem fvT_J {X : GX} {h : SH} {a k : Nat} : fvT X h a k .long = .long (hJ h a k) := rfl
section GR
variable {X : GX} {M : MI} {pc : Nat} {L : List (Option Value)} {st : List Value} {h : SH} {nc ns : Nat} {P : Out → SH → Prop}
theorem g_get {c k idx a : Nat} {v : Value} (hd : decode M.2.1 pc = .ok (.getfield idx, 3)) (hc : c < 12) (hk : k < ctN c) (hw : KW (Cond.fieldLink M.1.cls idx (ctT c k).1 (ctT c k).2.1 (ctT c k).2.2.1)) (ho : Ob h a c) (hv : fvT X h a k (ctY c k) = mv X v)
    (g : Gd X M (pc + 3) L (v :: st) h nc ns P) : Gd X M pc L (.ref a :: st) h nc ns P :=
  Gd.go (fun p e R s m args below meth co A H locs cells slots ls Q hl hV k9 => va_get A.x A.b (A.lays hc args) (fun _ z => z) A.own A.k (va_one (hV.ob ho hc)) 0 rfl (ctl_at c hc) k hk (A.word hw args) (fun _ z => z) ((fvs_at hk).trans (congrArg some hv)) hd k9) g
theorem g_getI {c k idx a : Nat} (hd : decode M.2.1 pc = .ok (.getfield idx, 3)) (hc : c < 12) (hk : k < ctN c) (hw : KW (Cond.fieldLink M.1.cls idx (ctT c k).1 (ctT c k).2.1 (ctT c k).2.2.1)) (ht : tI (ctY c k) = true) (ho : Ob h a c)
    (g : Gd X M (pc + 3) L (.int (hI h a k) :: st) h nc ns P) : Gd X M pc L (.ref a :: st) h nc ns P := g_get hd hc hk hw ho (fvT_I ht) g
theorem g_getJ {c k idx a : Nat} (hd : decode M.2.1 pc = .ok (.getfield idx, 3)) (hc : c < 12) (hk : k < ctN c) (hw : KW (Cond.fieldLink M.1.cls idx (ctT c k).1 (ctT c k).2.1 (ctT c k).2.2.1)) (ht : ctY c k = .long) (ho : Ob h a c)
    (g : Gd X M (pc + 3) L (.long (hJ h a k) :: st) h nc ns P) : Gd X M pc L (.ref a :: st) h nc ns P := g_get hd hc hk hw ho (by rw [ht]; rfl) g
theorem g_getA {c k idx a : Nat} (hd : decode M.2.1 pc = .ok (.getfield idx, 3)) (hc : c < 12) (hk : k < ctN c) (hw : KW (Cond.fieldLink M.1.cls idx (ctT c k).1 (ctT c k).2.1 (ctT c k).2.2.1)) (ht : tA (ctY c k) = true) (ho : Ob h a c)
    (g : Gd X M (pc + 3) L (va_rf (hA h a k) :: st) h nc ns P) : Gd X M pc L (.ref a :: st) h nc ns P := g_get hd hc hk hw ho (by rw [fvT_A ht, mv_rf]) g
/-- a word on a nest mate's member -/
def KN (w : Cond) : Prop := w ∈ lw_tbl
theorem kn_of {w : Cond} (i : Nat) (h : lw_tbl[i]? = some w) : KN w := List.mem_of_getElem? h
theorem Act.nestF {p : Program} {R : Room} {s : State} {m : MethodId} {meth : Method} {c : Code} (A : Act X M p R s m meth c) {own ref n d host : String} {i : Nat} (hw : KN (.fieldLinkNest own i ref n d host)) (a : Array Value) : (Cond.fieldLinkNest own i ref n d host).before a s = true :=
  va_Nw.use rfl (va_Nw.warmF A.w (va_Nw.of rfl (A.1.1 _ hw)))
theorem g_getN {c k idx a : Nat} {v : Value} {host : String} (hd : decode M.2.1 pc = .ok (.getfield idx, 3)) (hc : c < 12) (hk : k < ctN c) (hw : KN (Cond.fieldLinkNest M.1.cls idx (ctT c k).1 (ctT c k).2.1 (ctT c k).2.2.1 host)) (ho : Ob h a c) (hv : fvT X h a k (ctY c k) = mv X v)
    (g : Gd X M (pc + 3) L (v :: st) h nc ns P) : Gd X M pc L (.ref a :: st) h nc ns P :=
  Gd.go (fun p e R s m args below meth co A H locs cells slots ls Q hl hV k9 => va_getN A.x A.b (A.lays hc args) (fun _ z => z) A.own A.k (va_one (hV.ob ho hc)) 0 rfl (ctl_at c hc) k hk (A.nestF hw args) (fun _ z => z) ((fvs_at hk).trans (congrArg some hv)) hd k9) g
theorem g_getNI {c k idx a : Nat} {host : String} (hd : decode M.2.1 pc = .ok (.getfield idx, 3)) (hc : c < 12) (hk : k < ctN c) (hw : KN (Cond.fieldLinkNest M.1.cls idx (ctT c k).1 (ctT c k).2.1 (ctT c k).2.2.1 host)) (ht : tI (ctY c k) = true) (ho : Ob h a c)
    (g : Gd X M (pc + 3) L (.int (hI h a k) :: st) h nc ns P) : Gd X M pc L (.ref a :: st) h nc ns P := g_getN hd hc hk hw ho (fvT_I ht) g
theorem g_getNJ {c k idx a : Nat} {host : String} (hd : decode M.2.1 pc = .ok (.getfield idx, 3)) (hc : c < 12) (hk : k < ctN c) (hw : KN (Cond.fieldLinkNest M.1.cls idx (ctT c k).1 (ctT c k).2.1 (ctT c k).2.2.1 host)) (ht : ctY c k = .long) (ho : Ob h a c)
    (g : Gd X M (pc + 3) L (.long (hJ h a k) :: st) h nc ns P) : Gd X M pc L (.ref a :: st) h nc ns P := g_getN hd hc hk hw ho (by rw [ht]; rfl) g
theorem g_getNA {c k idx a : Nat} {host : String} (hd : decode M.2.1 pc = .ok (.getfield idx, 3)) (hc : c < 12) (hk : k < ctN c) (hw : KN (Cond.fieldLinkNest M.1.cls idx (ctT c k).1 (ctT c k).2.1 (ctT c k).2.2.1 host)) (ht : tA (ctY c k) = true) (ho : Ob h a c)
    (g : Gd X M (pc + 3) L (va_rf (hA h a k) :: st) h nc ns P) : Gd X M pc L (.ref a :: st) h nc ns P := g_getN hd hc hk hw ho (by rw [fvT_A ht, mv_rf]) g
/-- one cell is another, nothing else has changed -/
theorem VR.set {h1 : SH} {H H1 : Heap} {a : Nat} (V : VR X h H) (h8 : 8 ≤ a) (ha : a < hz h) (hz1 : hz h1 = hz h) (hK1 : ∀ b, hK h1 b = hK h b) (he : ∀ b, b ≠ a → eE X h1 b = eE X h b) (hsz : H1.size = H.size) (ho : ∀ q : Nat, q ≠ ph X a → H1[q]? = H[q]?) (hc : va_at (xD X) ctl (ph X a, eE X h1 a) H1) : VR X h1 H1 := by
  refine ⟨by rw [hz1]; exact V.1, by rw [hz1, hsz]; exact V.2.1, fun q hq => ?_, fun b hb8 hb h9 => ?_⟩
  · rw [ho q (by rw [ph_ge h8]; omega)]; exact V.2.2.1 q hq
  · by_cases hba : b = a
    · subst hba; exact hc
    · rw [he b hba]
      rw [hz1] at hb
      exact (V.2.2.2 b hb8 hb (by rw [← hK1]; exact h9)).kept (ho _ (fun z => hba (ph_inj hb8 h8 z)))
theorem hz_sI {a i : Nat} {v : Int32} : hz (sI h a i v) = hz h := rfl
theorem hz_sJ {a i : Nat} {v : Int64} : hz (sJ h a i v) = hz h := rfl
theorem hz_sA {a i : Nat} {v : Option Nat} : hz (sA h a i v) = hz h := rfl
theorem hK_sI {a i : Nat} {v : Int32} : hK (sI h a i v) = hK h := rfl
theorem hK_sJ {a i : Nat} {v : Int64} : hK (sJ h a i v) = hK h := rfl
theorem hK_sA {a i : Nat} {v : Option Nat} : hK (sA h a i v) = hK h := rfl
theorem hN_sI {a i : Nat} {v : Int32} : hN (sI h a i v) = hN h := rfl
theorem hN_sJ {a i : Nat} {v : Int64} : hN (sJ h a i v) = hN h := rfl
theorem hN_sA {a i : Nat} {v : Option Nat} : hN (sA h a i v) = hN h := rfl
theorem hI_sI {a i b j : Nat} {v : Int32} : hI (sI h a i v) b j = if b = a ∧ j = i then v else hI h b j := rfl
theorem hI_sJ {a i : Nat} {v : Int64} : hI (sJ h a i v) = hI h := rfl
theorem hI_sA {a i : Nat} {v : Option Nat} : hI (sA h a i v) = hI h := rfl
theorem hJ_sI {a i : Nat} {v : Int32} : hJ (sI h a i v) = hJ h := rfl
theorem hJ_sJ {a i b j : Nat} {v : Int64} : hJ (sJ h a i v) b j = if b = a ∧ j = i then v else hJ h b j := rfl
theorem hJ_sA {a i : Nat} {v : Option Nat} : hJ (sA h a i v) = hJ h := rfl
theorem hA_sI {a i : Nat} {v : Int32} : hA (sI h a i v) = hA h := rfl
theorem hA_sJ {a i : Nat} {v : Int64} : hA (sJ h a i v) = hA h := rfl
theorem hA_sA {a i b j : Nat} {v : Option Nat} : hA (sA h a i v) b j = if b = a ∧ j = i then v else hA h b j := rfl
theorem eE_ext {h1 : SH} {b : Nat} (h0 : hK h1 b = hK h b) (h2 : hN h1 b = hN h b) (hi : hI h1 b = hI h b) (hj : hJ h1 b = hJ h b) (hr : hA h1 b = hA h b) : eE X h1 b = eE X h b := by
  have hf : ∀ k t, fvT X h1 b k t = fvT X h b k t := by intro k t; unfold fvT; rw [hi, hj, hr]
  unfold eE
  rw [h0, h2]
  have e1 : fvs X h1 b (hK h b) = fvs X h b (hK h b) := by unfold fvs; exact congrArg (fun f => (List.range (ctN (hK h b))).map f) (funext fun k => hf k _)
  have e2 : arE X h1 b (hK h b) = arE X h b (hK h b) := by unfold arE; rw [hi, hj, hr]
  rw [e1, e2]
theorem eE_sI {a i b : Nat} {v : Int32} (hb : b ≠ a) : eE X (sI h a i v) b = eE X h b := eE_ext rfl rfl (funext fun j => by rw [hI_sI, if_neg (fun q => hb q.1)]) rfl rfl
theorem eE_sJ {a i b : Nat} {v : Int64} (hb : b ≠ a) : eE X (sJ h a i v) b = eE X h b := eE_ext rfl rfl rfl (funext fun j => by rw [hJ_sJ, if_neg (fun q => hb q.1)]) rfl
theorem eE_sA {a i b : Nat} {v : Option Nat} (hb : b ≠ a) : eE X (sA h a i v) b = eE X h b := eE_ext rfl rfl rfl rfl (funext fun j => by rw [hA_sA, if_neg (fun q => hb q.1)])
theorem eE_ob {a c : Nat} (hk : hK h a = c) (hc : c < 12) : eE X h a = .inr (c, fvs X h a c) := by unfold eE; rw [hk, if_pos hc]
theorem eE_ar {a k : Nat} (hk : hK h a = k) (hc : 12 ≤ k) : eE X h a = .inl (xac X k, hN h a, arE X h a k) := by unfold eE; rw [hk, if_neg (by omega)]
/-- the picture of an object behind a put -/
def Put (X : GX) (h h1 : SH) (a c k : Nat) (v : Value) : Prop := hz h1 = hz h ∧ (∀ b, hK h1 b = hK h b) ∧ (∀ b, b ≠ a → eE X h1 b = eE X h b) ∧ ∀ j, j < ctN c → fvT X h1 a j (ctY c j) = if j = k then v else fvT X h a j (ctY c j)
theorem Put.I {a c k : Nat} {v : Int32} (ht : tI (ctY c k) = true) : Put X h (sI h a k v) a c k (.int v) :=
  ⟨rfl, fun _ => rfl, fun b hb => eE_sI hb, fun j hj => by
    by_cases q : j = k
    · subst q; rw [if_pos rfl, fvT_I ht, hI_sI, if_pos ⟨rfl, rfl⟩]
    · rw [if_neg q]; unfold fvT; split <;> first | rfl | (rw [hI_sI, if_neg (fun z => q z.2)])⟩
theorem Put.J {a c k : Nat} {v : Int64} (ht : ctY c k = .long) : Put X h (sJ h a k v) a c k (.long v) :=
  ⟨rfl, fun _ => rfl, fun b hb => eE_sJ hb, fun j hj => by
    by_cases q : j = k
    · subst q; rw [if_pos rfl, ht]; show Value.long _ = _; rw [hJ_sJ, if_pos ⟨rfl, rfl⟩]
    · rw [if_neg q]; unfold fvT; split <;> first | rfl | (rw [hJ_sJ, if_neg (fun z => q z.2)])⟩
theorem Put.A {a c k : Nat} {r : Option Nat} (ht : tA (ctY c k) = true) : Put X h (sA h a k r) a c k (mv X (va_rf r)) :=
  ⟨rfl, fun _ => rfl, fun b hb => eE_sA hb, fun j hj => by
    by_cases q : j = k
    · subst q; rw [if_pos rfl, fvT_A ht, hA_sA, if_pos ⟨rfl, rfl⟩, mv_rf]
    · rw [if_neg q]; unfold fvT; split <;> first | rfl | (rw [hA_sA, if_neg (fun z => q z.2)])⟩
theorem Put.vr {h1 : SH} {H H1 : Heap} {a c k : Nat} {v : Value} {cell : Cell} (B : Put X h h1 a c k v) (V : VR X h H) (ho : Ob h a c) (hc : c < 12) (hk : k < ctN c) (hap : ∀ x y, x < ctN c → y < ctN c → x ≠ y → ((xD X).2 c) x ≠ ((xD X).2 c) y)
    (q2 : cell.cls = (xD X).1 c) (q3 : cell.vm = .none) (q4 : ∀ j, j < ctN c → cell.slots[(xD X).2 c j]? = some (vp_V (fvs X h a c) j)) (e1 : H1[ph X a]? = some (cell.setSlot ((xD X).2 c k) v)) (e2 : H1.size = H.size) (e3 : ∀ q : Nat, q ≠ ph X a → H1[q]? = H[q]?) : VR X h1 H1 := by
  refine V.set ho.1 ho.2.1 B.1 B.2.1 B.2.2.1 e2 e3 ?_
  rw [eE_ob ((B.2.1 a).trans ho.2.2) hc]
  refine ⟨_, ctl_at c hc, t_OB.to (V := updV (vp_V (fvs X h a c)) k v) ⟨_, e1, q2, q3, t_set q4 hap hk v⟩ (fun j hj => ?_)⟩
  rw [fvs_V hj, B.2.2.2 j hj]
  unfold updV
  by_cases q : j = k
  · rw [if_pos q, if_pos q]
  · rw [if_neg q, if_neg q, fvs_V hj]
theorem St.heap {R : Room} {h1 : SH} {H H1 : Heap} {locs : List Loc} {a i cells slots : Nat} {ls : Array Slot} {mc ms : Nat} (S : St X M R L h nc ns H locs cells slots ls mc ms) (V : VR X h1 H1) (h8 : 8 ≤ a) : St X M R L h1 nc ns H1 (locs ++ [⟨ph X a, i⟩]) cells slots ls mc ms :=
  ⟨V, S.2.1, fun z hz => by
    rcases List.mem_append.mp hz with q | q
    · exact S.2.2.1 z q
    · rw [List.mem_singleton.mp q]; show _ ≤ ph X a; rw [ph_ge h8]; omega, S.2.2.2⟩
theorem g_put {c k idx a : Nat} {v : Value} {h1 : SH} (hd : decode M.2.1 pc = .ok (.putfield idx, 3)) (hc : c < 12) (hk : k < ctN c) (hw : KW (Cond.fieldLink M.1.cls idx (ctT c k).1 (ctT c k).2.1 (ctT c k).2.2.1)) (hfin : (ctT c k).2.2.2 = false) (ho : Ob h a c)
    (hn : narrow (ctY c k) (mv X v) = mv X v) (hfit : fits (ctY c k) (mv X v) = true) (B : Put X h h1 a c k (mv X v)) (g : Gd X M (pc + 3) L st h1 nc ns P) : Gd X M pc L (v :: .ref a :: st) h nc ns P := by
  intro p e R s m args below meth co A H locs cells slots ls mc ms S
  have hts := A.lays hc args
  have hap := va_apart (own := M.1.cls) (ci := c) hts (fun _ z => z) (ctY c) (ct_ty c hc) (ct_nm c hc) A.k (ctl_at c hc)
  obtain ⟨r, z1, cell, q1, q2, q3, q4⟩ := S.1.ob ho hc
  have hr : r = (ctR c, ctT c, ctN c) := Option.some.inj (z1.symm.trans (ctl_at c hc))
  subst hr
  obtain ⟨hS, hfc, kC, hkC, hkind⟩ := A.k.1 c _ (ctl_at c hc)
  obtain ⟨cf, kf, fi, f, hi, hsl⟩ := hS k hk
  have hlay := hts _ (u_in_lay hk)
  unfold u_lay at hlay
  rw [if_neg (by rw [hfin]; decide)] at hlay
  have hst := (u_facts hfc hkC (u_lays hts (fun _ z => z) hk) hi).1
  have h6 := u_store hfc hkC hkind hlay hi (ct_ty c hc k hk) hn hfit
  refine W.putK A.x A.b (f := f) ⟨A.own, A.word hw args, ⟨_, _, _, hi⟩, hst⟩ (by rw [q2]; exact h6) q1 q3 (by rw [hsl]; exact k2_hasslot (q4 k hk)) rfl rfl hd fun H' e1 e2 e3 => ?_
  rw [hsl] at e1
  exact g p e R s m args below meth co A H' _ cells slots ls mc ms (S.heap (B.vr S.1 ho hc hk hap q2 q3 q4 e1 e2 e3) ho.1)
theorem g_putF {c k idx a : Nat} {v : Value} {h1 : SH} (hd : decode M.2.1 pc = .ok (.putfield idx, 3)) (hc : c < 12) (hk : k < ctN c) (hw : KW (Cond.fieldLink M.1.cls idx (ctT c k).1 (ctT c k).2.1 (ctT c k).2.2.1)) (hfin : (ctT c k).2.2.2 = true) (hin2 : M.1.name = "<init>") (hdecl : (ctT c k).1 = M.1.cls) (ho : Ob h a c)
    (hn : narrow (ctY c k) (mv X v) = mv X v) (hfit : fits (ctY c k) (mv X v) = true) (B : Put X h h1 a c k (mv X v)) (g : Gd X M (pc + 3) L st h1 nc ns P) : Gd X M pc L (v :: .ref a :: st) h nc ns P := by
  intro p e R s m args below meth co A H locs cells slots ls mc ms S
  have hts := A.lays hc args
  have hap := va_apart (own := M.1.cls) (ci := c) hts (fun _ z => z) (ctY c) (ct_ty c hc) (ct_nm c hc) A.k (ctl_at c hc)
  obtain ⟨r, z1, cell, q1, q2, q3, q4⟩ := S.1.ob ho hc
  have hr : r = (ctR c, ctT c, ctN c) := Option.some.inj (z1.symm.trans (ctl_at c hc))
  subst hr
  obtain ⟨hS, hfc, kC, hkC, hkind⟩ := A.k.1 c _ (ctl_at c hc)
  obtain ⟨cf, kf, fi, f, hi, hsl⟩ := hS k hk
  have hlay := hts _ (u_in_lay hk)
  unfold u_lay at hlay
  rw [if_pos hfin] at hlay
  have hst := (u_facts hfc hkC (u_lays hts (fun _ z => z) hk) hi).1
  have hcf : m.cls = cf := by
    obtain ⟨_, _, c', _, _, _, -, -, hf', -, -, -, hown2, -⟩ := Cond.laysFinal_spec hlay
    have e1 : c' = cf := by have := hi.symm.trans hf'; simp at this; exact this.1.symm
    rw [hdecl] at hown2
    rw [← e1]; exact Option.some.inj (A.own.symm.trans hown2)
  have h6 := u_fits hfc hkC hkind (Or.inr hlay) hi (ct_ty c hc k hk) hn hfit
  refine W.putFinK A.x A.b A.own (A.word hw args) hi hst hcf (A.nm.trans hin2) (by rw [q2]; exact h6) q1 q3 (by rw [hsl]; exact k2_hasslot (q4 k hk)) rfl rfl hd fun H' e1 e2 e3 => ?_
  rw [hsl] at e1
  exact g p e R s m args below meth co A H' _ cells slots ls mc ms (S.heap (B.vr S.1 ho hc hk hap q2 q3 q4 e1 e2 e3) ho.1)
theorem g_putN {c k idx a : Nat} {v : Value} {h1 : SH} {host : String} (hd : decode M.2.1 pc = .ok (.putfield idx, 3)) (hc : c < 12) (hk : k < ctN c) (hw : KN (Cond.fieldLinkNest M.1.cls idx (ctT c k).1 (ctT c k).2.1 (ctT c k).2.2.1 host)) (hfin : (ctT c k).2.2.2 = false) (ho : Ob h a c)
    (hn : narrow (ctY c k) (mv X v) = mv X v) (hfit : fits (ctY c k) (mv X v) = true) (B : Put X h h1 a c k (mv X v)) (g : Gd X M (pc + 3) L st h1 nc ns P) : Gd X M pc L (v :: .ref a :: st) h nc ns P := by
  intro p e R s m args below meth co A H locs cells slots ls mc ms S
  have hts := A.lays hc args
  have hap := va_apart (own := M.1.cls) (ci := c) hts (fun _ z => z) (ctY c) (ct_ty c hc) (ct_nm c hc) A.k (ctl_at c hc)
  obtain ⟨r, z1, cell, q1, q2, q3, q4⟩ := S.1.ob ho hc
  have hr : r = (ctR c, ctT c, ctN c) := Option.some.inj (z1.symm.trans (ctl_at c hc))
  subst hr
  obtain ⟨hS, hfc, kC, hkC, hkind⟩ := A.k.1 c _ (ctl_at c hc)
  obtain ⟨cf, kf, fi, f, hi, hsl⟩ := hS k hk
  have hlay := hts _ (u_in_lay hk)
  unfold u_lay at hlay
  rw [if_neg (by rw [hfin]; decide)] at hlay
  have hst := (u_facts hfc hkC (u_lays hts (fun _ z => z) hk) hi).1
  have h6 := u_store hfc hkC hkind hlay hi (ct_ty c hc k hk) hn hfit
  refine va_WputK A.x A.b (f := f) A.own (A.nestF hw args) hi hst (by rw [q2]; exact h6) q1 q3 (by rw [hsl]; exact k2_hasslot (q4 k hk)) rfl rfl hd fun H' e1 e2 e3 => ?_
  rw [hsl] at e1
  exact g p e R s m args below meth co A H' _ cells slots ls mc ms (S.heap (B.vr S.1 ho hc hk hap q2 q3 q4 e1 e2 e3) ho.1)
end GR
end
section
theorem i_vc : Claimed_1_1 ∧ Claimed_1_2 := sorry
end
