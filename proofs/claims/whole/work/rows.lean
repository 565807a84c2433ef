section
-- ===== PART A: goes FIRST, ahead of the names: the tables' words, and 'selects' of the private methods out of them =====
/-- a private method of a class that the tables say can be made, by its rows of tables_1 -/
def lw_okq (q : MethodName × Nat) : Prop := (q.1.cls ≠ "java/lang/invoke/MethodHandle" ∧ q.1.cls ≠ "java/lang/invoke/VarHandle") ∧ Cond.instantiable q.1.cls q.2 ∈ tables_1 ∧ Cond.privateMethod q.1 ∈ tables_1 ∧ Cond.instanceMethod q.1 ∈ tables_1
theorem lw_p0 : lw_okq (⟨"FirstReader$Parser", "skipBlanks", "()V"⟩, 8) := ⟨⟨by decide +kernel, by decide +kernel⟩, List.mem_of_getElem? (i := 31) (by decide +kernel), List.mem_of_getElem? (i := 409) (by decide +kernel), List.mem_of_getElem? (i := 410) (by decide +kernel)⟩
theorem lw_p1 : lw_okq (⟨"FirstReader$Parser", "parseClause", "()V"⟩, 8) := ⟨⟨by decide +kernel, by decide +kernel⟩, List.mem_of_getElem? (i := 31) (by decide +kernel), List.mem_of_getElem? (i := 413) (by decide +kernel), List.mem_of_getElem? (i := 414) (by decide +kernel)⟩
theorem lw_p2 : lw_okq (⟨"FirstReader$Parser", "acceptsWord", "(Ljava/lang/String;)Z"⟩, 8) := ⟨⟨by decide +kernel, by decide +kernel⟩, List.mem_of_getElem? (i := 31) (by decide +kernel), List.mem_of_getElem? (i := 418) (by decide +kernel), List.mem_of_getElem? (i := 419) (by decide +kernel)⟩
theorem lw_p3 : lw_okq (⟨"FirstReader$Parser", "lettersEnd", "()I"⟩, 8) := ⟨⟨by decide +kernel, by decide +kernel⟩, List.mem_of_getElem? (i := 31) (by decide +kernel), List.mem_of_getElem? (i := 422) (by decide +kernel), List.mem_of_getElem? (i := 423) (by decide +kernel)⟩
theorem lw_p4 : lw_okq (⟨"FirstReader$Parser", "parseSign", "(I)V"⟩, 8) := ⟨⟨by decide +kernel, by decide +kernel⟩, List.mem_of_getElem? (i := 31) (by decide +kernel), List.mem_of_getElem? (i := 477) (by decide +kernel), List.mem_of_getElem? (i := 478) (by decide +kernel)⟩
theorem lw_p5 : lw_okq (⟨"FirstReader$Parser", "fail", "(II)V"⟩, 8) := ⟨⟨by decide +kernel, by decide +kernel⟩, List.mem_of_getElem? (i := 31) (by decide +kernel), List.mem_of_getElem? (i := 481) (by decide +kernel), List.mem_of_getElem? (i := 482) (by decide +kernel)⟩
theorem lw_p6 : lw_okq (⟨"FirstReader$Parser", "parseLetters", "([I)I"⟩, 8) := ⟨⟨by decide +kernel, by decide +kernel⟩, List.mem_of_getElem? (i := 31) (by decide +kernel), List.mem_of_getElem? (i := 485) (by decide +kernel), List.mem_of_getElem? (i := 486) (by decide +kernel)⟩
theorem lw_p7 : lw_okq (⟨"FirstReader$Parser", "accepts", "(I)Z"⟩, 8) := ⟨⟨by decide +kernel, by decide +kernel⟩, List.mem_of_getElem? (i := 31) (by decide +kernel), List.mem_of_getElem? (i := 492) (by decide +kernel), List.mem_of_getElem? (i := 493) (by decide +kernel)⟩
theorem lw_p8 : lw_okq (⟨"FirstReader$Parser", "look", "()I"⟩, 8) := ⟨⟨by decide +kernel, by decide +kernel⟩, List.mem_of_getElem? (i := 31) (by decide +kernel), List.mem_of_getElem? (i := 496) (by decide +kernel), List.mem_of_getElem? (i := 497) (by decide +kernel)⟩
theorem lw_p9 : lw_okq (⟨"FirstReader$Parser", "parseNumber", "(I)I"⟩, 8) := ⟨⟨by decide +kernel, by decide +kernel⟩, List.mem_of_getElem? (i := 31) (by decide +kernel), List.mem_of_getElem? (i := 500) (by decide +kernel), List.mem_of_getElem? (i := 501) (by decide +kernel)⟩
theorem lw_p10 : lw_okq (⟨"FirstReader$Parser", "parseWord", "(I)V"⟩, 8) := ⟨⟨by decide +kernel, by decide +kernel⟩, List.mem_of_getElem? (i := 31) (by decide +kernel), List.mem_of_getElem? (i := 510) (by decide +kernel), List.mem_of_getElem? (i := 511) (by decide +kernel)⟩
theorem lw_p11 : lw_okq (⟨"FirstReader$Parser", "wordAhead", "()I"⟩, 8) := ⟨⟨by decide +kernel, by decide +kernel⟩, List.mem_of_getElem? (i := 31) (by decide +kernel), List.mem_of_getElem? (i := 514) (by decide +kernel), List.mem_of_getElem? (i := 515) (by decide +kernel)⟩
theorem lw_p12 : lw_okq (⟨"FirstReader$Parser", "parseSound", "(LFirstReader$Word;)V"⟩, 8) := ⟨⟨by decide +kernel, by decide +kernel⟩, List.mem_of_getElem? (i := 31) (by decide +kernel), List.mem_of_getElem? (i := 518) (by decide +kernel), List.mem_of_getElem? (i := 519) (by decide +kernel)⟩
theorem lw_p13 : lw_okq (⟨"FirstReader$Parser", "parseLesson", "(I)V"⟩, 8) := ⟨⟨by decide +kernel, by decide +kernel⟩, List.mem_of_getElem? (i := 31) (by decide +kernel), List.mem_of_getElem? (i := 523) (by decide +kernel), List.mem_of_getElem? (i := 524) (by decide +kernel)⟩
theorem lw_p14 : lw_okq (⟨"FirstReader$Parser", "parseList", "(I)I"⟩, 8) := ⟨⟨by decide +kernel, by decide +kernel⟩, List.mem_of_getElem? (i := 31) (by decide +kernel), List.mem_of_getElem? (i := 528) (by decide +kernel), List.mem_of_getElem? (i := 529) (by decide +kernel)⟩
theorem lw_p15 : lw_okq (⟨"FirstReader$Parser", "parsePage", "(I)V"⟩, 8) := ⟨⟨by decide +kernel, by decide +kernel⟩, List.mem_of_getElem? (i := 31) (by decide +kernel), List.mem_of_getElem? (i := 535) (by decide +kernel), List.mem_of_getElem? (i := 536) (by decide +kernel)⟩
def lw_privs_1 : List (MethodName × Nat) := [(⟨"FirstReader$Parser", "skipBlanks", "()V"⟩, 8), (⟨"FirstReader$Parser", "parseClause", "()V"⟩, 8), (⟨"FirstReader$Parser", "acceptsWord", "(Ljava/lang/String;)Z"⟩, 8), (⟨"FirstReader$Parser", "lettersEnd", "()I"⟩, 8), (⟨"FirstReader$Parser", "parseSign", "(I)V"⟩, 8), (⟨"FirstReader$Parser", "fail", "(II)V"⟩, 8), (⟨"FirstReader$Parser", "parseLetters", "([I)I"⟩, 8), (⟨"FirstReader$Parser", "accepts", "(I)Z"⟩, 8), (⟨"FirstReader$Parser", "look", "()I"⟩, 8), (⟨"FirstReader$Parser", "parseNumber", "(I)I"⟩, 8), (⟨"FirstReader$Parser", "parseWord", "(I)V"⟩, 8), (⟨"FirstReader$Parser", "wordAhead", "()I"⟩, 8), (⟨"FirstReader$Parser", "parseSound", "(LFirstReader$Word;)V"⟩, 8), (⟨"FirstReader$Parser", "parseLesson", "(I)V"⟩, 8), (⟨"FirstReader$Parser", "parseList", "(I)I"⟩, 8), (⟨"FirstReader$Parser", "parsePage", "(I)V"⟩, 8)]
theorem lw_r1 : ∀ q ∈ lw_privs_1, lw_okq q := List.forall_mem_cons.mpr ⟨lw_p0, List.forall_mem_cons.mpr ⟨lw_p1, List.forall_mem_cons.mpr ⟨lw_p2, List.forall_mem_cons.mpr ⟨lw_p3, List.forall_mem_cons.mpr ⟨lw_p4, List.forall_mem_cons.mpr ⟨lw_p5, List.forall_mem_cons.mpr ⟨lw_p6, List.forall_mem_cons.mpr ⟨lw_p7, List.forall_mem_cons.mpr ⟨lw_p8, List.forall_mem_cons.mpr ⟨lw_p9, List.forall_mem_cons.mpr ⟨lw_p10, List.forall_mem_cons.mpr ⟨lw_p11, List.forall_mem_cons.mpr ⟨lw_p12, List.forall_mem_cons.mpr ⟨lw_p13, List.forall_mem_cons.mpr ⟨lw_p14, List.forall_mem_cons.mpr ⟨lw_p15, fun _ h => absurd h List.not_mem_nil⟩⟩⟩⟩⟩⟩⟩⟩⟩⟩⟩⟩⟩⟩⟩⟩
theorem lw_p16 : lw_okq (⟨"FirstReader$Parser", "parsePageWord", "(I)V"⟩, 8) := ⟨⟨by decide +kernel, by decide +kernel⟩, List.mem_of_getElem? (i := 31) (by decide +kernel), List.mem_of_getElem? (i := 539) (by decide +kernel), List.mem_of_getElem? (i := 540) (by decide +kernel)⟩
theorem lw_p17 : lw_okq (⟨"FirstReader$Primer", "signsStandingAt", "(LFirstReader$Word;I)I"⟩, 14) := ⟨⟨by decide +kernel, by decide +kernel⟩, List.mem_of_getElem? (i := 67) (by decide +kernel), List.mem_of_getElem? (i := 547) (by decide +kernel), List.mem_of_getElem? (i := 548) (by decide +kernel)⟩
theorem lw_p18 : lw_okq (⟨"FirstReader", "isSign", "(I)Z"⟩, 9) := ⟨⟨by decide +kernel, by decide +kernel⟩, List.mem_of_getElem? (i := 23) (by decide +kernel), List.mem_of_getElem? (i := 580) (by decide +kernel), List.mem_of_getElem? (i := 581) (by decide +kernel)⟩
theorem lw_p19 : lw_okq (⟨"FirstReader", "isWord", "(I)Z"⟩, 9) := ⟨⟨by decide +kernel, by decide +kernel⟩, List.mem_of_getElem? (i := 23) (by decide +kernel), List.mem_of_getElem? (i := 591) (by decide +kernel), List.mem_of_getElem? (i := 592) (by decide +kernel)⟩
theorem lw_p20 : lw_okq (⟨"FirstReader", "isLesson", "(I)Z"⟩, 9) := ⟨⟨by decide +kernel, by decide +kernel⟩, List.mem_of_getElem? (i := 23) (by decide +kernel), List.mem_of_getElem? (i := 599) (by decide +kernel), List.mem_of_getElem? (i := 600) (by decide +kernel)⟩
theorem lw_p21 : lw_okq (⟨"FirstReader", "isPage", "(I)Z"⟩, 9) := ⟨⟨by decide +kernel, by decide +kernel⟩, List.mem_of_getElem? (i := 23) (by decide +kernel), List.mem_of_getElem? (i := 607) (by decide +kernel), List.mem_of_getElem? (i := 608) (by decide +kernel)⟩
theorem lw_p22 : lw_okq (⟨"FirstReader", "areSigns", "(I)Z"⟩, 9) := ⟨⟨by decide +kernel, by decide +kernel⟩, List.mem_of_getElem? (i := 23) (by decide +kernel), List.mem_of_getElem? (i := 623) (by decide +kernel), List.mem_of_getElem? (i := 624) (by decide +kernel)⟩
theorem lw_p23 : lw_okq (⟨"FirstReader$Cuts", "waysBehind", "(LFirstReader$Sign;LFirstReader$Word;II)J"⟩, 3) := ⟨⟨by decide +kernel, by decide +kernel⟩, List.mem_of_getElem? (i := 288) (by decide +kernel), List.mem_of_getElem? (i := 635) (by decide +kernel), List.mem_of_getElem? (i := 636) (by decide +kernel)⟩
theorem lw_p24 : lw_okq (⟨"FirstReader$Cuts", "firstThatGoesOn", "(LFirstReader$Primer;LFirstReader$Word;III)I"⟩, 3) := ⟨⟨by decide +kernel, by decide +kernel⟩, List.mem_of_getElem? (i := 288) (by decide +kernel), List.mem_of_getElem? (i := 652) (by decide +kernel), List.mem_of_getElem? (i := 653) (by decide +kernel)⟩
theorem lw_p25 : lw_okq (⟨"FirstReader$Spelling", "append", "(LFirstReader$Sign;)V"⟩, 3) := ⟨⟨by decide +kernel, by decide +kernel⟩, List.mem_of_getElem? (i := 269) (by decide +kernel), List.mem_of_getElem? (i := 687) (by decide +kernel), List.mem_of_getElem? (i := 688) (by decide +kernel)⟩
theorem lw_p26 : lw_okq (⟨"FirstReader", "areLessons", "(I)Z"⟩, 9) := ⟨⟨by decide +kernel, by decide +kernel⟩, List.mem_of_getElem? (i := 23) (by decide +kernel), List.mem_of_getElem? (i := 700) (by decide +kernel), List.mem_of_getElem? (i := 701) (by decide +kernel)⟩
theorem lw_p27 : lw_okq (⟨"FirstReader$Primer", "unionOf", "([II)I"⟩, 14) := ⟨⟨by decide +kernel, by decide +kernel⟩, List.mem_of_getElem? (i := 67) (by decide +kernel), List.mem_of_getElem? (i := 716) (by decide +kernel), List.mem_of_getElem? (i := 717) (by decide +kernel)⟩
theorem lw_p28 : lw_okq (⟨"FirstReader$Course", "arrive", "(III)V"⟩, 10) := ⟨⟨by decide +kernel, by decide +kernel⟩, List.mem_of_getElem? (i := 773) (by decide +kernel), List.mem_of_getElem? (i := 818) (by decide +kernel), List.mem_of_getElem? (i := 819) (by decide +kernel)⟩
theorem lw_p29 : lw_okq (⟨"FirstReader$Course", "goOnFrom", "(I)V"⟩, 10) := ⟨⟨by decide +kernel, by decide +kernel⟩, List.mem_of_getElem? (i := 773) (by decide +kernel), List.mem_of_getElem? (i := 823) (by decide +kernel), List.mem_of_getElem? (i := 824) (by decide +kernel)⟩
theorem lw_p30 : lw_okq (⟨"FirstReader$Course", "metIn", "(I)I"⟩, 10) := ⟨⟨by decide +kernel, by decide +kernel⟩, List.mem_of_getElem? (i := 773) (by decide +kernel), List.mem_of_getElem? (i := 827) (by decide +kernel), List.mem_of_getElem? (i := 828) (by decide +kernel)⟩
theorem lw_p31 : lw_okq (⟨"FirstReader$Course", "isNew", "(I)Z"⟩, 10) := ⟨⟨by decide +kernel, by decide +kernel⟩, List.mem_of_getElem? (i := 773) (by decide +kernel), List.mem_of_getElem? (i := 834) (by decide +kernel), List.mem_of_getElem? (i := 835) (by decide +kernel)⟩
def lw_privs_2 : List (MethodName × Nat) := [(⟨"FirstReader$Parser", "parsePageWord", "(I)V"⟩, 8), (⟨"FirstReader$Primer", "signsStandingAt", "(LFirstReader$Word;I)I"⟩, 14), (⟨"FirstReader", "isSign", "(I)Z"⟩, 9), (⟨"FirstReader", "isWord", "(I)Z"⟩, 9), (⟨"FirstReader", "isLesson", "(I)Z"⟩, 9), (⟨"FirstReader", "isPage", "(I)Z"⟩, 9), (⟨"FirstReader", "areSigns", "(I)Z"⟩, 9), (⟨"FirstReader$Cuts", "waysBehind", "(LFirstReader$Sign;LFirstReader$Word;II)J"⟩, 3), (⟨"FirstReader$Cuts", "firstThatGoesOn", "(LFirstReader$Primer;LFirstReader$Word;III)I"⟩, 3), (⟨"FirstReader$Spelling", "append", "(LFirstReader$Sign;)V"⟩, 3), (⟨"FirstReader", "areLessons", "(I)Z"⟩, 9), (⟨"FirstReader$Primer", "unionOf", "([II)I"⟩, 14), (⟨"FirstReader$Course", "arrive", "(III)V"⟩, 10), (⟨"FirstReader$Course", "goOnFrom", "(I)V"⟩, 10), (⟨"FirstReader$Course", "metIn", "(I)I"⟩, 10), (⟨"FirstReader$Course", "isNew", "(I)Z"⟩, 10)]
theorem lw_r2 : ∀ q ∈ lw_privs_2, lw_okq q := List.forall_mem_cons.mpr ⟨lw_p16, List.forall_mem_cons.mpr ⟨lw_p17, List.forall_mem_cons.mpr ⟨lw_p18, List.forall_mem_cons.mpr ⟨lw_p19, List.forall_mem_cons.mpr ⟨lw_p20, List.forall_mem_cons.mpr ⟨lw_p21, List.forall_mem_cons.mpr ⟨lw_p22, List.forall_mem_cons.mpr ⟨lw_p23, List.forall_mem_cons.mpr ⟨lw_p24, List.forall_mem_cons.mpr ⟨lw_p25, List.forall_mem_cons.mpr ⟨lw_p26, List.forall_mem_cons.mpr ⟨lw_p27, List.forall_mem_cons.mpr ⟨lw_p28, List.forall_mem_cons.mpr ⟨lw_p29, List.forall_mem_cons.mpr ⟨lw_p30, List.forall_mem_cons.mpr ⟨lw_p31, fun _ h => absurd h List.not_mem_nil⟩⟩⟩⟩⟩⟩⟩⟩⟩⟩⟩⟩⟩⟩⟩⟩
theorem lw_p32 : lw_okq (⟨"FirstReader$Course", "writeSteps", "()V"⟩, 10) := ⟨⟨by decide +kernel, by decide +kernel⟩, List.mem_of_getElem? (i := 773) (by decide +kernel), List.mem_of_getElem? (i := 839) (by decide +kernel), List.mem_of_getElem? (i := 840) (by decide +kernel)⟩
theorem lw_p33 : lw_okq (⟨"FirstReader", "missingOf", "(LFirstReader$Pupil;I)I"⟩, 9) := ⟨⟨by decide +kernel, by decide +kernel⟩, List.mem_of_getElem? (i := 23) (by decide +kernel), List.mem_of_getElem? (i := 867) (by decide +kernel), List.mem_of_getElem? (i := 868) (by decide +kernel)⟩
theorem lw_p34 : lw_okq (⟨"FirstReader", "unknownFor", "(LFirstReader$Pupil;I)I"⟩, 9) := ⟨⟨by decide +kernel, by decide +kernel⟩, List.mem_of_getElem? (i := 23) (by decide +kernel), List.mem_of_getElem? (i := 909) (by decide +kernel), List.mem_of_getElem? (i := 910) (by decide +kernel)⟩
theorem lw_p35 : lw_okq (⟨"FirstReader", "lessonToTakeAgain", "(LFirstReader$Pupil;)I"⟩, 9) := ⟨⟨by decide +kernel, by decide +kernel⟩, List.mem_of_getElem? (i := 23) (by decide +kernel), List.mem_of_getElem? (i := 918) (by decide +kernel), List.mem_of_getElem? (i := 919) (by decide +kernel)⟩
theorem lw_p36 : lw_okq (⟨"FirstReader", "pageToRead", "(LFirstReader$Pupil;I)I"⟩, 9) := ⟨⟨by decide +kernel, by decide +kernel⟩, List.mem_of_getElem? (i := 23) (by decide +kernel), List.mem_of_getElem? (i := 922) (by decide +kernel), List.mem_of_getElem? (i := 923) (by decide +kernel)⟩
theorem lw_p37 : lw_okq (⟨"FirstReader", "lessonToTake", "(LFirstReader$Pupil;)I"⟩, 9) := ⟨⟨by decide +kernel, by decide +kernel⟩, List.mem_of_getElem? (i := 23) (by decide +kernel), List.mem_of_getElem? (i := 926) (by decide +kernel), List.mem_of_getElem? (i := 927) (by decide +kernel)⟩
theorem lw_p38 : lw_okq (⟨"FirstReaderModel", "beginPupils", "()V"⟩, 55) := ⟨⟨by decide +kernel, by decide +kernel⟩, List.mem_of_getElem? (i := 960) (by decide +kernel), List.mem_of_getElem? (i := 967) (by decide +kernel), List.mem_of_getElem? (i := 968) (by decide +kernel)⟩
theorem lw_p39 : lw_okq (⟨"FirstReaderModel", "here", "()I"⟩, 55) := ⟨⟨by decide +kernel, by decide +kernel⟩, List.mem_of_getElem? (i := 960) (by decide +kernel), List.mem_of_getElem? (i := 1151) (by decide +kernel), List.mem_of_getElem? (i := 1152) (by decide +kernel)⟩
theorem lw_p40 : lw_okq (⟨"FirstReaderModel", "takeClause", "()I"⟩, 55) := ⟨⟨by decide +kernel, by decide +kernel⟩, List.mem_of_getElem? (i := 960) (by decide +kernel), List.mem_of_getElem? (i := 1155) (by decide +kernel), List.mem_of_getElem? (i := 1156) (by decide +kernel)⟩
theorem lw_p41 : lw_okq (⟨"FirstReaderModel", "readWord", "()V"⟩, 55) := ⟨⟨by decide +kernel, by decide +kernel⟩, List.mem_of_getElem? (i := 960) (by decide +kernel), List.mem_of_getElem? (i := 1159) (by decide +kernel), List.mem_of_getElem? (i := 1160) (by decide +kernel)⟩
theorem lw_p42 : lw_okq (⟨"FirstReaderModel", "fails", "(II)I"⟩, 55) := ⟨⟨by decide +kernel, by decide +kernel⟩, List.mem_of_getElem? (i := 960) (by decide +kernel), List.mem_of_getElem? (i := 1175) (by decide +kernel), List.mem_of_getElem? (i := 1176) (by decide +kernel)⟩
theorem lw_p43 : lw_okq (⟨"FirstReaderModel", "takeSign", "(I)I"⟩, 55) := ⟨⟨by decide +kernel, by decide +kernel⟩, List.mem_of_getElem? (i := 960) (by decide +kernel), List.mem_of_getElem? (i := 1179) (by decide +kernel), List.mem_of_getElem? (i := 1180) (by decide +kernel)⟩
theorem lw_p44 : lw_okq (⟨"FirstReaderModel", "takeNumber", "(I)I"⟩, 55) := ⟨⟨by decide +kernel, by decide +kernel⟩, List.mem_of_getElem? (i := 960) (by decide +kernel), List.mem_of_getElem? (i := 1183) (by decide +kernel), List.mem_of_getElem? (i := 1184) (by decide +kernel)⟩
theorem lw_p45 : lw_okq (⟨"FirstReaderModel", "takeWord", "(I)I"⟩, 55) := ⟨⟨by decide +kernel, by decide +kernel⟩, List.mem_of_getElem? (i := 960) (by decide +kernel), List.mem_of_getElem? (i := 1190) (by decide +kernel), List.mem_of_getElem? (i := 1191) (by decide +kernel)⟩
theorem lw_p46 : lw_okq (⟨"FirstReaderModel", "wordOf", "(II)I"⟩, 55) := ⟨⟨by decide +kernel, by decide +kernel⟩, List.mem_of_getElem? (i := 960) (by decide +kernel), List.mem_of_getElem? (i := 1194) (by decide +kernel), List.mem_of_getElem? (i := 1195) (by decide +kernel)⟩
theorem lw_p47 : lw_okq (⟨"FirstReaderModel", "takeLesson", "(I)I"⟩, 55) := ⟨⟨by decide +kernel, by decide +kernel⟩, List.mem_of_getElem? (i := 960) (by decide +kernel), List.mem_of_getElem? (i := 1198) (by decide +kernel), List.mem_of_getElem? (i := 1199) (by decide +kernel)⟩
def lw_privs_3 : List (MethodName × Nat) := [(⟨"FirstReader$Course", "writeSteps", "()V"⟩, 10), (⟨"FirstReader", "missingOf", "(LFirstReader$Pupil;I)I"⟩, 9), (⟨"FirstReader", "unknownFor", "(LFirstReader$Pupil;I)I"⟩, 9), (⟨"FirstReader", "lessonToTakeAgain", "(LFirstReader$Pupil;)I"⟩, 9), (⟨"FirstReader", "pageToRead", "(LFirstReader$Pupil;I)I"⟩, 9), (⟨"FirstReader", "lessonToTake", "(LFirstReader$Pupil;)I"⟩, 9), (⟨"FirstReaderModel", "beginPupils", "()V"⟩, 55), (⟨"FirstReaderModel", "here", "()I"⟩, 55), (⟨"FirstReaderModel", "takeClause", "()I"⟩, 55), (⟨"FirstReaderModel", "readWord", "()V"⟩, 55), (⟨"FirstReaderModel", "fails", "(II)I"⟩, 55), (⟨"FirstReaderModel", "takeSign", "(I)I"⟩, 55), (⟨"FirstReaderModel", "takeNumber", "(I)I"⟩, 55), (⟨"FirstReaderModel", "takeWord", "(I)I"⟩, 55), (⟨"FirstReaderModel", "wordOf", "(II)I"⟩, 55), (⟨"FirstReaderModel", "takeLesson", "(I)I"⟩, 55)]
theorem lw_r3 : ∀ q ∈ lw_privs_3, lw_okq q := List.forall_mem_cons.mpr ⟨lw_p32, List.forall_mem_cons.mpr ⟨lw_p33, List.forall_mem_cons.mpr ⟨lw_p34, List.forall_mem_cons.mpr ⟨lw_p35, List.forall_mem_cons.mpr ⟨lw_p36, List.forall_mem_cons.mpr ⟨lw_p37, List.forall_mem_cons.mpr ⟨lw_p38, List.forall_mem_cons.mpr ⟨lw_p39, List.forall_mem_cons.mpr ⟨lw_p40, List.forall_mem_cons.mpr ⟨lw_p41, List.forall_mem_cons.mpr ⟨lw_p42, List.forall_mem_cons.mpr ⟨lw_p43, List.forall_mem_cons.mpr ⟨lw_p44, List.forall_mem_cons.mpr ⟨lw_p45, List.forall_mem_cons.mpr ⟨lw_p46, List.forall_mem_cons.mpr ⟨lw_p47, fun _ h => absurd h List.not_mem_nil⟩⟩⟩⟩⟩⟩⟩⟩⟩⟩⟩⟩⟩⟩⟩⟩
theorem lw_p48 : lw_okq (⟨"FirstReaderModel", "takeList", "(I)I"⟩, 55) := ⟨⟨by decide +kernel, by decide +kernel⟩, List.mem_of_getElem? (i := 960) (by decide +kernel), List.mem_of_getElem? (i := 1202) (by decide +kernel), List.mem_of_getElem? (i := 1203) (by decide +kernel)⟩
theorem lw_p49 : lw_okq (⟨"FirstReaderModel", "takePage", "(I)I"⟩, 55) := ⟨⟨by decide +kernel, by decide +kernel⟩, List.mem_of_getElem? (i := 960) (by decide +kernel), List.mem_of_getElem? (i := 1209) (by decide +kernel), List.mem_of_getElem? (i := 1210) (by decide +kernel)⟩
theorem lw_p50 : lw_okq (⟨"FirstReaderModel", "keepPrimer", "()V"⟩, 55) := ⟨⟨by decide +kernel, by decide +kernel⟩, List.mem_of_getElem? (i := 960) (by decide +kernel), List.mem_of_getElem? (i := 1213) (by decide +kernel), List.mem_of_getElem? (i := 1214) (by decide +kernel)⟩
theorem lw_p51 : lw_okq (⟨"FirstReaderModel", "isSign", "(I)Z"⟩, 55) := ⟨⟨by decide +kernel, by decide +kernel⟩, List.mem_of_getElem? (i := 960) (by decide +kernel), List.mem_of_getElem? (i := 1225) (by decide +kernel), List.mem_of_getElem? (i := 1226) (by decide +kernel)⟩
theorem lw_p52 : lw_okq (⟨"FirstReaderModel", "isWord", "(I)Z"⟩, 55) := ⟨⟨by decide +kernel, by decide +kernel⟩, List.mem_of_getElem? (i := 960) (by decide +kernel), List.mem_of_getElem? (i := 1235) (by decide +kernel), List.mem_of_getElem? (i := 1236) (by decide +kernel)⟩
theorem lw_p53 : lw_okq (⟨"FirstReaderModel", "isLesson", "(I)Z"⟩, 55) := ⟨⟨by decide +kernel, by decide +kernel⟩, List.mem_of_getElem? (i := 960) (by decide +kernel), List.mem_of_getElem? (i := 1247) (by decide +kernel), List.mem_of_getElem? (i := 1248) (by decide +kernel)⟩
theorem lw_p54 : lw_okq (⟨"FirstReaderModel", "isPage", "(I)Z"⟩, 55) := ⟨⟨by decide +kernel, by decide +kernel⟩, List.mem_of_getElem? (i := 960) (by decide +kernel), List.mem_of_getElem? (i := 1255) (by decide +kernel), List.mem_of_getElem? (i := 1256) (by decide +kernel)⟩
theorem lw_p55 : lw_okq (⟨"FirstReaderModel", "isFit", "(III)Z"⟩, 55) := ⟨⟨by decide +kernel, by decide +kernel⟩, List.mem_of_getElem? (i := 960) (by decide +kernel), List.mem_of_getElem? (i := 1268) (by decide +kernel), List.mem_of_getElem? (i := 1269) (by decide +kernel)⟩
theorem lw_p56 : lw_okq (⟨"FirstReaderModel", "areSigns", "(I)Z"⟩, 55) := ⟨⟨by decide +kernel, by decide +kernel⟩, List.mem_of_getElem? (i := 960) (by decide +kernel), List.mem_of_getElem? (i := 1276) (by decide +kernel), List.mem_of_getElem? (i := 1277) (by decide +kernel)⟩
theorem lw_p57 : lw_okq (⟨"FirstReaderModel", "findWays", "(II)J"⟩, 55) := ⟨⟨by decide +kernel, by decide +kernel⟩, List.mem_of_getElem? (i := 960) (by decide +kernel), List.mem_of_getElem? (i := 1280) (by decide +kernel), List.mem_of_getElem? (i := 1281) (by decide +kernel)⟩
theorem lw_p58 : lw_okq (⟨"FirstReaderModel", "leads", "(IIIII)I"⟩, 55) := ⟨⟨by decide +kernel, by decide +kernel⟩, List.mem_of_getElem? (i := 960) (by decide +kernel), List.mem_of_getElem? (i := 1284) (by decide +kernel), List.mem_of_getElem? (i := 1285) (by decide +kernel)⟩
theorem lw_p59 : lw_okq (⟨"FirstReaderModel", "speak", "(II)V"⟩, 55) := ⟨⟨by decide +kernel, by decide +kernel⟩, List.mem_of_getElem? (i := 960) (by decide +kernel), List.mem_of_getElem? (i := 1297) (by decide +kernel), List.mem_of_getElem? (i := 1298) (by decide +kernel)⟩
theorem lw_p60 : lw_okq (⟨"FirstReaderModel", "outAt", "(I)I"⟩, 55) := ⟨⟨by decide +kernel, by decide +kernel⟩, List.mem_of_getElem? (i := 960) (by decide +kernel), List.mem_of_getElem? (i := 1301) (by decide +kernel), List.mem_of_getElem? (i := 1302) (by decide +kernel)⟩
theorem lw_p61 : lw_okq (⟨"FirstReaderModel", "isRight", "(II)Z"⟩, 55) := ⟨⟨by decide +kernel, by decide +kernel⟩, List.mem_of_getElem? (i := 960) (by decide +kernel), List.mem_of_getElem? (i := 1309) (by decide +kernel), List.mem_of_getElem? (i := 1310) (by decide +kernel)⟩
theorem lw_p62 : lw_okq (⟨"FirstReaderModel", "areSounds", "(I)Z"⟩, 55) := ⟨⟨by decide +kernel, by decide +kernel⟩, List.mem_of_getElem? (i := 960) (by decide +kernel), List.mem_of_getElem? (i := 1313) (by decide +kernel), List.mem_of_getElem? (i := 1314) (by decide +kernel)⟩
theorem lw_p63 : lw_okq (⟨"FirstReaderModel", "isWell", "(II)Z"⟩, 55) := ⟨⟨by decide +kernel, by decide +kernel⟩, List.mem_of_getElem? (i := 960) (by decide +kernel), List.mem_of_getElem? (i := 1317) (by decide +kernel), List.mem_of_getElem? (i := 1318) (by decide +kernel)⟩
def lw_privs_4 : List (MethodName × Nat) := [(⟨"FirstReaderModel", "takeList", "(I)I"⟩, 55), (⟨"FirstReaderModel", "takePage", "(I)I"⟩, 55), (⟨"FirstReaderModel", "keepPrimer", "()V"⟩, 55), (⟨"FirstReaderModel", "isSign", "(I)Z"⟩, 55), (⟨"FirstReaderModel", "isWord", "(I)Z"⟩, 55), (⟨"FirstReaderModel", "isLesson", "(I)Z"⟩, 55), (⟨"FirstReaderModel", "isPage", "(I)Z"⟩, 55), (⟨"FirstReaderModel", "isFit", "(III)Z"⟩, 55), (⟨"FirstReaderModel", "areSigns", "(I)Z"⟩, 55), (⟨"FirstReaderModel", "findWays", "(II)J"⟩, 55), (⟨"FirstReaderModel", "leads", "(IIIII)I"⟩, 55), (⟨"FirstReaderModel", "speak", "(II)V"⟩, 55), (⟨"FirstReaderModel", "outAt", "(I)I"⟩, 55), (⟨"FirstReaderModel", "isRight", "(II)Z"⟩, 55), (⟨"FirstReaderModel", "areSounds", "(I)Z"⟩, 55), (⟨"FirstReaderModel", "isWell", "(II)Z"⟩, 55)]
theorem lw_r4 : ∀ q ∈ lw_privs_4, lw_okq q := List.forall_mem_cons.mpr ⟨lw_p48, List.forall_mem_cons.mpr ⟨lw_p49, List.forall_mem_cons.mpr ⟨lw_p50, List.forall_mem_cons.mpr ⟨lw_p51, List.forall_mem_cons.mpr ⟨lw_p52, List.forall_mem_cons.mpr ⟨lw_p53, List.forall_mem_cons.mpr ⟨lw_p54, List.forall_mem_cons.mpr ⟨lw_p55, List.forall_mem_cons.mpr ⟨lw_p56, List.forall_mem_cons.mpr ⟨lw_p57, List.forall_mem_cons.mpr ⟨lw_p58, List.forall_mem_cons.mpr ⟨lw_p59, List.forall_mem_cons.mpr ⟨lw_p60, List.forall_mem_cons.mpr ⟨lw_p61, List.forall_mem_cons.mpr ⟨lw_p62, List.forall_mem_cons.mpr ⟨lw_p63, fun _ h => absurd h List.not_mem_nil⟩⟩⟩⟩⟩⟩⟩⟩⟩⟩⟩⟩⟩⟩⟩⟩
theorem lw_p64 : lw_okq (⟨"FirstReaderModel", "spell", "(II)V"⟩, 55) := ⟨⟨by decide +kernel, by decide +kernel⟩, List.mem_of_getElem? (i := 960) (by decide +kernel), List.mem_of_getElem? (i := 1321) (by decide +kernel), List.mem_of_getElem? (i := 1322) (by decide +kernel)⟩
theorem lw_p65 : lw_okq (⟨"FirstReaderModel", "areLessons", "(I)Z"⟩, 55) := ⟨⟨by decide +kernel, by decide +kernel⟩, List.mem_of_getElem? (i := 960) (by decide +kernel), List.mem_of_getElem? (i := 1333) (by decide +kernel), List.mem_of_getElem? (i := 1334) (by decide +kernel)⟩
theorem lw_p66 : lw_okq (⟨"FirstReaderModel", "isClosed", "(I)Z"⟩, 55) := ⟨⟨by decide +kernel, by decide +kernel⟩, List.mem_of_getElem? (i := 960) (by decide +kernel), List.mem_of_getElem? (i := 1337) (by decide +kernel), List.mem_of_getElem? (i := 1338) (by decide +kernel)⟩
theorem lw_p67 : lw_okq (⟨"FirstReaderModel", "teach", "(II)I"⟩, 55) := ⟨⟨by decide +kernel, by decide +kernel⟩, List.mem_of_getElem? (i := 960) (by decide +kernel), List.mem_of_getElem? (i := 1341) (by decide +kernel), List.mem_of_getElem? (i := 1342) (by decide +kernel)⟩
theorem lw_p68 : lw_okq (⟨"FirstReaderModel", "readsOf", "(I)I"⟩, 55) := ⟨⟨by decide +kernel, by decide +kernel⟩, List.mem_of_getElem? (i := 960) (by decide +kernel), List.mem_of_getElem? (i := 1349) (by decide +kernel), List.mem_of_getElem? (i := 1350) (by decide +kernel)⟩
theorem lw_p69 : lw_okq (⟨"FirstReaderModel", "findCourses", "(II)V"⟩, 55) := ⟨⟨by decide +kernel, by decide +kernel⟩, List.mem_of_getElem? (i := 960) (by decide +kernel), List.mem_of_getElem? (i := 1376) (by decide +kernel), List.mem_of_getElem? (i := 1377) (by decide +kernel)⟩
theorem lw_p70 : lw_okq (⟨"FirstReaderModel", "stepTo", "(III)I"⟩, 55) := ⟨⟨by decide +kernel, by decide +kernel⟩, List.mem_of_getElem? (i := 960) (by decide +kernel), List.mem_of_getElem? (i := 1380) (by decide +kernel), List.mem_of_getElem? (i := 1381) (by decide +kernel)⟩
theorem lw_p71 : lw_okq (⟨"FirstReaderModel", "met", "(I)I"⟩, 55) := ⟨⟨by decide +kernel, by decide +kernel⟩, List.mem_of_getElem? (i := 960) (by decide +kernel), List.mem_of_getElem? (i := 1384) (by decide +kernel), List.mem_of_getElem? (i := 1385) (by decide +kernel)⟩
theorem lw_p72 : lw_okq (⟨"FirstReaderModel", "behind", "(I)I"⟩, 55) := ⟨⟨by decide +kernel, by decide +kernel⟩, List.mem_of_getElem? (i := 960) (by decide +kernel), List.mem_of_getElem? (i := 1392) (by decide +kernel), List.mem_of_getElem? (i := 1393) (by decide +kernel)⟩
theorem lw_p73 : lw_okq (⟨"FirstReaderModel", "lacking", "(II)I"⟩, 55) := ⟨⟨by decide +kernel, by decide +kernel⟩, List.mem_of_getElem? (i := 960) (by decide +kernel), List.mem_of_getElem? (i := 1408) (by decide +kernel), List.mem_of_getElem? (i := 1409) (by decide +kernel)⟩
theorem lw_p74 : lw_okq (⟨"FirstReaderModel", "heldSigns", "(I)I"⟩, 55) := ⟨⟨by decide +kernel, by decide +kernel⟩, List.mem_of_getElem? (i := 960) (by decide +kernel), List.mem_of_getElem? (i := 1412) (by decide +kernel), List.mem_of_getElem? (i := 1413) (by decide +kernel)⟩
theorem lw_p75 : lw_okq (⟨"FirstReaderModel", "isHeld", "(II)Z"⟩, 55) := ⟨⟨by decide +kernel, by decide +kernel⟩, List.mem_of_getElem? (i := 960) (by decide +kernel), List.mem_of_getElem? (i := 1416) (by decide +kernel), List.mem_of_getElem? (i := 1417) (by decide +kernel)⟩
theorem lw_p76 : lw_okq (⟨"FirstReaderModel", "heldWords", "(I)I"⟩, 55) := ⟨⟨by decide +kernel, by decide +kernel⟩, List.mem_of_getElem? (i := 960) (by decide +kernel), List.mem_of_getElem? (i := 1420) (by decide +kernel), List.mem_of_getElem? (i := 1421) (by decide +kernel)⟩
theorem lw_p77 : lw_okq (⟨"FirstReaderModel", "useAll", "(III)V"⟩, 55) := ⟨⟨by decide +kernel, by decide +kernel⟩, List.mem_of_getElem? (i := 960) (by decide +kernel), List.mem_of_getElem? (i := 1424) (by decide +kernel), List.mem_of_getElem? (i := 1425) (by decide +kernel)⟩
theorem lw_p78 : lw_okq (⟨"FirstReaderModel", "use", "(II)V"⟩, 55) := ⟨⟨by decide +kernel, by decide +kernel⟩, List.mem_of_getElem? (i := 960) (by decide +kernel), List.mem_of_getElem? (i := 1428) (by decide +kernel), List.mem_of_getElem? (i := 1429) (by decide +kernel)⟩
theorem lw_p79 : lw_okq (⟨"FirstReaderModel", "meetsOf", "(II)I"⟩, 55) := ⟨⟨by decide +kernel, by decide +kernel⟩, List.mem_of_getElem? (i := 960) (by decide +kernel), List.mem_of_getElem? (i := 1436) (by decide +kernel), List.mem_of_getElem? (i := 1437) (by decide +kernel)⟩
def lw_privs_5 : List (MethodName × Nat) := [(⟨"FirstReaderModel", "spell", "(II)V"⟩, 55), (⟨"FirstReaderModel", "areLessons", "(I)Z"⟩, 55), (⟨"FirstReaderModel", "isClosed", "(I)Z"⟩, 55), (⟨"FirstReaderModel", "teach", "(II)I"⟩, 55), (⟨"FirstReaderModel", "readsOf", "(I)I"⟩, 55), (⟨"FirstReaderModel", "findCourses", "(II)V"⟩, 55), (⟨"FirstReaderModel", "stepTo", "(III)I"⟩, 55), (⟨"FirstReaderModel", "met", "(I)I"⟩, 55), (⟨"FirstReaderModel", "behind", "(I)I"⟩, 55), (⟨"FirstReaderModel", "lacking", "(II)I"⟩, 55), (⟨"FirstReaderModel", "heldSigns", "(I)I"⟩, 55), (⟨"FirstReaderModel", "isHeld", "(II)Z"⟩, 55), (⟨"FirstReaderModel", "heldWords", "(I)I"⟩, 55), (⟨"FirstReaderModel", "useAll", "(III)V"⟩, 55), (⟨"FirstReaderModel", "use", "(II)V"⟩, 55), (⟨"FirstReaderModel", "meetsOf", "(II)I"⟩, 55)]
theorem lw_r5 : ∀ q ∈ lw_privs_5, lw_okq q := List.forall_mem_cons.mpr ⟨lw_p64, List.forall_mem_cons.mpr ⟨lw_p65, List.forall_mem_cons.mpr ⟨lw_p66, List.forall_mem_cons.mpr ⟨lw_p67, List.forall_mem_cons.mpr ⟨lw_p68, List.forall_mem_cons.mpr ⟨lw_p69, List.forall_mem_cons.mpr ⟨lw_p70, List.forall_mem_cons.mpr ⟨lw_p71, List.forall_mem_cons.mpr ⟨lw_p72, List.forall_mem_cons.mpr ⟨lw_p73, List.forall_mem_cons.mpr ⟨lw_p74, List.forall_mem_cons.mpr ⟨lw_p75, List.forall_mem_cons.mpr ⟨lw_p76, List.forall_mem_cons.mpr ⟨lw_p77, List.forall_mem_cons.mpr ⟨lw_p78, List.forall_mem_cons.mpr ⟨lw_p79, fun _ h => absurd h List.not_mem_nil⟩⟩⟩⟩⟩⟩⟩⟩⟩⟩⟩⟩⟩⟩⟩⟩
def lw_privs : List (MethodName × Nat) := lw_privs_1 ++ (lw_privs_2 ++ (lw_privs_3 ++ (lw_privs_4 ++ (lw_privs_5))))
def lw_tbl : List Cond := k2_sels lw_privs ++ tables_1
theorem lw_privs_ok : ∀ q ∈ lw_privs, lw_okq q := by
  show ∀ q ∈ lw_privs_1 ++ (lw_privs_2 ++ (lw_privs_3 ++ (lw_privs_4 ++ (lw_privs_5)))), lw_okq q
  exact List.forall_mem_append.mpr ⟨lw_r1, List.forall_mem_append.mpr ⟨lw_r2, List.forall_mem_append.mpr ⟨lw_r3, List.forall_mem_append.mpr ⟨lw_r4, lw_r5⟩⟩⟩⟩
end
section
def RX0 : String := "FirstReader$Course"
def TX0 : u_T := fun k => match k with
  | 0 => ("FirstReader$Course", "states", "[I", true)
  | 1 => ("FirstReader$Course", "cameFrom", "[I", true)
  | 2 => ("FirstReader$Course", "seen", "[J", true)
  | 3 => ("FirstReader$Course", "stateCount", "I", false)
  | 4 => ("FirstReader$Course", "told", "LFirstReader$Primer;", false)
  | 5 => ("FirstReader$Course", "page", "I", false)
  | 6 => ("FirstReader$Course", "mostUnknown", "I", false)
  | 7 => ("FirstReader$Course", "lastState", "I", false)
  | 8 => ("FirstReader$Course", "steps", "[I", true)
  | _ => ("FirstReader$Course", "length", "I", false)
def tyX0 : Nat → FieldType := fun k => match k with
  | 0 => .array .int
  | 1 => .array .int
  | 2 => .array .long
  | 3 => .int
  | 4 => .object "FirstReader$Primer"
  | 5 => .int
  | 6 => .int
  | 7 => .int
  | 8 => .array .int
  | _ => .int
theorem nmX0 : ∀ a, a < 10 → ∀ b, b < 10 → a ≠ b → (TX0 a).2.1 ≠ (TX0 b).2.1 := by decide +kernel
theorem tyX0_ok : ∀ k, k < 10 → parseFieldDescriptor (TX0 k).2.2.1 = some (tyX0 k) := by decide +kernel
abbrev cX0_init : ByteArray := prog_2_method_1_code
def yX0_init : MethodName := ⟨RX0, "<init>", "()V"⟩
abbrev cX0_forget : ByteArray := prog_2_method_2_code
def yX0_forget : MethodName := ⟨RX0, "forget", "()V"⟩
abbrev cX0_find : ByteArray := prog_2_method_3_code
def yX0_find : MethodName := ⟨RX0, "find", "(LFirstReader$Primer;II)V"⟩
abbrev cX0_goOnFrom : ByteArray := prog_2_method_4_code
def yX0_goOnFrom : MethodName := ⟨RX0, "goOnFrom", "(I)V"⟩
abbrev cX0_isNew : ByteArray := prog_2_method_5_code
def yX0_isNew : MethodName := ⟨RX0, "isNew", "(I)Z"⟩
abbrev cX0_arrive : ByteArray := prog_2_method_6_code
def yX0_arrive : MethodName := ⟨RX0, "arrive", "(III)V"⟩
abbrev cX0_writeSteps : ByteArray := prog_2_method_7_code
def yX0_writeSteps : MethodName := ⟨RX0, "writeSteps", "()V"⟩
abbrev cX0_stepOf : ByteArray := prog_2_method_8_code
def yX0_stepOf : MethodName := ⟨RX0, "stepOf", "(I)I"⟩
abbrev cX0_lessonsIn : ByteArray := prog_2_method_9_code
def yX0_lessonsIn : MethodName := ⟨RX0, "lessonsIn", "(I)I"⟩
abbrev cX0_metIn : ByteArray := prog_2_method_10_code
def yX0_metIn : MethodName := ⟨RX0, "metIn", "(I)I"⟩
def RX1 : String := "FirstReader$Cuts"
def TX1 : u_T := fun k => match k with
  | 0 => ("FirstReader$Cuts", "ways", "[J", true)
  | 1 => ("FirstReader$Cuts", "first", "[I", true)
  | _ => ("FirstReader$Cuts", "length", "I", false)
def tyX1 : Nat → FieldType := fun k => match k with
  | 0 => .array .long
  | 1 => .array .int
  | _ => .int
theorem nmX1 : ∀ a, a < 3 → ∀ b, b < 3 → a ≠ b → (TX1 a).2.1 ≠ (TX1 b).2.1 := by decide +kernel
theorem tyX1_ok : ∀ k, k < 3 → parseFieldDescriptor (TX1 k).2.2.1 = some (tyX1 k) := by decide +kernel
abbrev cX1_init : ByteArray := prog_3_method_1_code
def yX1_init : MethodName := ⟨RX1, "<init>", "()V"⟩
abbrev cX1_inAll : ByteArray := prog_3_method_2_code
def yX1_inAll : MethodName := ⟨RX1, "inAll", "()J"⟩
abbrev cX1_countWays : ByteArray := prog_3_method_3_code
def yX1_countWays : MethodName := ⟨RX1, "countWays", "(LFirstReader$Primer;LFirstReader$Word;I)V"⟩
abbrev cX1_waysBehind : ByteArray := prog_3_method_4_code
def yX1_waysBehind : MethodName := ⟨RX1, "waysBehind", "(LFirstReader$Sign;LFirstReader$Word;II)J"⟩
abbrev cX1_findFirst : ByteArray := prog_3_method_5_code
def yX1_findFirst : MethodName := ⟨RX1, "findFirst", "(LFirstReader$Primer;LFirstReader$Word;I)V"⟩
abbrev cX1_firstThatGoesOn : ByteArray := prog_3_method_6_code
def yX1_firstThatGoesOn : MethodName := ⟨RX1, "firstThatGoesOn", "(LFirstReader$Primer;LFirstReader$Word;III)I"⟩
def RX2 : String := "FirstReader$Memory"
def TX2 : u_T := fun k => match k with
  | 0 => ("FirstReader$Memory", "spans", "[I", true)
  | _ => ("FirstReader$Memory", "lastDays", "[I", true)
def tyX2 : Nat → FieldType := fun k => match k with
  | 0 => .array .int
  | _ => .array .int
theorem nmX2 : ∀ a, a < 2 → ∀ b, b < 2 → a ≠ b → (TX2 a).2.1 ≠ (TX2 b).2.1 := by decide +kernel
theorem tyX2_ok : ∀ k, k < 2 → parseFieldDescriptor (TX2 k).2.2.1 = some (tyX2 k) := by decide +kernel
abbrev cX2_init : ByteArray := prog_4_method_1_code
def yX2_init : MethodName := ⟨RX2, "<init>", "(I)V"⟩
abbrev cX2_clear : ByteArray := prog_4_method_2_code
def yX2_clear : MethodName := ⟨RX2, "clear", "()V"⟩
abbrev cX2_becomeLike : ByteArray := prog_4_method_3_code
def yX2_becomeLike : MethodName := ⟨RX2, "becomeLike", "(LFirstReader$Memory;)V"⟩
abbrev cX2_heldOn : ByteArray := prog_4_method_4_code
def yX2_heldOn : MethodName := ⟨RX2, "heldOn", "(I)I"⟩
abbrev cX2_use : ByteArray := prog_4_method_5_code
def yX2_use : MethodName := ⟨RX2, "use", "(III)V"⟩
def RX3 : String := "FirstReader$Parser"
def TX3 : u_T := fun k => match k with
  | 0 => ("FirstReader$Parser", "text", "[B", true)
  | 1 => ("FirstReader$Parser", "length", "I", false)
  | 2 => ("FirstReader$Parser", "at", "I", false)
  | 3 => ("FirstReader$Parser", "numberAt", "I", false)
  | 4 => ("FirstReader$Parser", "draft", "LFirstReader$Primer;", false)
  | 5 => ("FirstReader$Parser", "clauses", "I", false)
  | 6 => ("FirstReader$Parser", "fault", "I", false)
  | _ => ("FirstReader$Parser", "faultAt", "I", false)
def tyX3 : Nat → FieldType := fun k => match k with
  | 0 => .array .byte
  | 1 => .int
  | 2 => .int
  | 3 => .int
  | 4 => .object "FirstReader$Primer"
  | 5 => .int
  | 6 => .int
  | _ => .int
theorem nmX3 : ∀ a, a < 8 → ∀ b, b < 8 → a ≠ b → (TX3 a).2.1 ≠ (TX3 b).2.1 := by decide +kernel
theorem tyX3_ok : ∀ k, k < 8 → parseFieldDescriptor (TX3 k).2.2.1 = some (tyX3 k) := by decide +kernel
abbrev cX3_init : ByteArray := prog_5_method_1_code
def yX3_init : MethodName := ⟨RX3, "<init>", "()V"⟩
abbrev cX3_append : ByteArray := prog_5_method_2_code
def yX3_append : MethodName := ⟨RX3, "append", "(B)V"⟩
abbrev cX3_parse : ByteArray := prog_5_method_3_code
def yX3_parse : MethodName := ⟨RX3, "parse", "(LFirstReader$Primer;)V"⟩
abbrev cX3_parseClause : ByteArray := prog_5_method_4_code
def yX3_parseClause : MethodName := ⟨RX3, "parseClause", "()V"⟩
abbrev cX3_parseSign : ByteArray := prog_5_method_5_code
def yX3_parseSign : MethodName := ⟨RX3, "parseSign", "(I)V"⟩
abbrev cX3_parseWord : ByteArray := prog_5_method_6_code
def yX3_parseWord : MethodName := ⟨RX3, "parseWord", "(I)V"⟩
abbrev cX3_parseSound : ByteArray := prog_5_method_7_code
def yX3_parseSound : MethodName := ⟨RX3, "parseSound", "(LFirstReader$Word;)V"⟩
abbrev cX3_parseLesson : ByteArray := prog_5_method_8_code
def yX3_parseLesson : MethodName := ⟨RX3, "parseLesson", "(I)V"⟩
abbrev cX3_parsePage : ByteArray := prog_5_method_9_code
def yX3_parsePage : MethodName := ⟨RX3, "parsePage", "(I)V"⟩
abbrev cX3_parsePageWord : ByteArray := prog_5_method_10_code
def yX3_parsePageWord : MethodName := ⟨RX3, "parsePageWord", "(I)V"⟩
abbrev cX3_parseList : ByteArray := prog_5_method_11_code
def yX3_parseList : MethodName := ⟨RX3, "parseList", "(I)I"⟩
abbrev cX3_parseNumber : ByteArray := prog_5_method_12_code
def yX3_parseNumber : MethodName := ⟨RX3, "parseNumber", "(I)I"⟩
abbrev cX3_parseLetters : ByteArray := prog_5_method_13_code
def yX3_parseLetters : MethodName := ⟨RX3, "parseLetters", "([I)I"⟩
abbrev cX3_wordAhead : ByteArray := prog_5_method_14_code
def yX3_wordAhead : MethodName := ⟨RX3, "wordAhead", "()I"⟩
abbrev cX3_acceptsWord : ByteArray := prog_5_method_15_code
def yX3_acceptsWord : MethodName := ⟨RX3, "acceptsWord", "(Ljava/lang/String;)Z"⟩
abbrev cX3_accepts : ByteArray := prog_5_method_16_code
def yX3_accepts : MethodName := ⟨RX3, "accepts", "(I)Z"⟩
abbrev cX3_lettersEnd : ByteArray := prog_5_method_17_code
def yX3_lettersEnd : MethodName := ⟨RX3, "lettersEnd", "()I"⟩
abbrev cX3_skipBlanks : ByteArray := prog_5_method_18_code
def yX3_skipBlanks : MethodName := ⟨RX3, "skipBlanks", "()V"⟩
abbrev cX3_look : ByteArray := prog_5_method_19_code
def yX3_look : MethodName := ⟨RX3, "look", "()I"⟩
abbrev cX3_isLetter : ByteArray := prog_5_method_20_code
def yX3_isLetter : MethodName := ⟨RX3, "isLetter", "(I)Z"⟩
abbrev cX3_isFigure : ByteArray := prog_5_method_21_code
def yX3_isFigure : MethodName := ⟨RX3, "isFigure", "(I)Z"⟩
abbrev cX3_fail : ByteArray := prog_5_method_22_code
def yX3_fail : MethodName := ⟨RX3, "fail", "(II)V"⟩
def RX4 : String := "FirstReader$Primer"
def TX4 : u_T := fun k => match k with
  | 0 => ("FirstReader$Primer", "signs", "[LFirstReader$Sign;", true)
  | 1 => ("FirstReader$Primer", "signCount", "I", false)
  | 2 => ("FirstReader$Primer", "words", "[LFirstReader$Word;", true)
  | 3 => ("FirstReader$Primer", "wordCount", "I", false)
  | 4 => ("FirstReader$Primer", "lessonAfter", "[I", true)
  | 5 => ("FirstReader$Primer", "lessonSigns", "[I", true)
  | 6 => ("FirstReader$Primer", "lessonSight", "[I", true)
  | 7 => ("FirstReader$Primer", "lessonCount", "I", false)
  | 8 => ("FirstReader$Primer", "pageWords", "[[I", true)
  | 9 => ("FirstReader$Primer", "pageLength", "[I", true)
  | 10 => ("FirstReader$Primer", "pageSet", "[I", true)
  | 11 => ("FirstReader$Primer", "pageCount", "I", false)
  | 12 => ("FirstReader$Primer", "speech", "LFirstReader$Speech;", true)
  | _ => ("FirstReader$Primer", "readBySet", "[I", true)
def tyX4 : Nat → FieldType := fun k => match k with
  | 0 => .array (.object "FirstReader$Sign")
  | 1 => .int
  | 2 => .array (.object "FirstReader$Word")
  | 3 => .int
  | 4 => .array .int
  | 5 => .array .int
  | 6 => .array .int
  | 7 => .int
  | 8 => .array (.array .int)
  | 9 => .array .int
  | 10 => .array .int
  | 11 => .int
  | 12 => .object "FirstReader$Speech"
  | _ => .array .int
theorem nmX4 : ∀ a, a < 14 → ∀ b, b < 14 → a ≠ b → (TX4 a).2.1 ≠ (TX4 b).2.1 := by decide +kernel
theorem tyX4_ok : ∀ k, k < 14 → parseFieldDescriptor (TX4 k).2.2.1 = some (tyX4 k) := by decide +kernel
abbrev cX4_init : ByteArray := prog_6_method_1_code
def yX4_init : MethodName := ⟨RX4, "<init>", "()V"⟩
abbrev cX4_clear : ByteArray := prog_6_method_2_code
def yX4_clear : MethodName := ⟨RX4, "clear", "()V"⟩
abbrev cX4_settle : ByteArray := prog_6_method_3_code
def yX4_settle : MethodName := ⟨RX4, "settle", "()V"⟩
abbrev cX4_signsStandingAt : ByteArray := prog_6_method_4_code
def yX4_signsStandingAt : MethodName := ⟨RX4, "signsStandingAt", "(LFirstReader$Word;I)I"⟩
abbrev cX4_allLessons : ByteArray := prog_6_method_5_code
def yX4_allLessons : MethodName := ⟨RX4, "allLessons", "()I"⟩
abbrev cX4_mayFollow : ByteArray := prog_6_method_6_code
def yX4_mayFollow : MethodName := ⟨RX4, "mayFollow", "(II)Z"⟩
abbrev cX4_isClosed : ByteArray := prog_6_method_7_code
def yX4_isClosed : MethodName := ⟨RX4, "isClosed", "(I)Z"⟩
abbrev cX4_withAllBehind : ByteArray := prog_6_method_8_code
def yX4_withAllBehind : MethodName := ⟨RX4, "withAllBehind", "(I)I"⟩
abbrev cX4_signsOf : ByteArray := prog_6_method_9_code
def yX4_signsOf : MethodName := ⟨RX4, "signsOf", "(I)I"⟩
abbrev cX4_unionOf : ByteArray := prog_6_method_10_code
def yX4_unionOf : MethodName := ⟨RX4, "unionOf", "([II)I"⟩
abbrev cX4_readBy : ByteArray := prog_6_method_11_code
def yX4_readBy : MethodName := ⟨RX4, "readBy", "(I)I"⟩
abbrev cX4_readAmong : ByteArray := prog_6_method_12_code
def yX4_readAmong : MethodName := ⟨RX4, "readAmong", "(III)I"⟩
abbrev cX4_unknownOn : ByteArray := prog_6_method_13_code
def yX4_unknownOn : MethodName := ⟨RX4, "unknownOn", "(II)I"⟩
abbrev cX4_takenFor : ByteArray := prog_6_method_14_code
def yX4_takenFor : MethodName := ⟨RX4, "takenFor", "(LFirstReader$Word;I)I"⟩
def RX5 : String := "FirstReader$Pupil"
def TX5 : u_T := fun k => match k with
  | 0 => ("FirstReader$Pupil", "day", "I", false)
  | 1 => ("FirstReader$Pupil", "lessons", "I", false)
  | 2 => ("FirstReader$Pupil", "signs", "LFirstReader$Memory;", true)
  | _ => ("FirstReader$Pupil", "words", "LFirstReader$Memory;", true)
def tyX5 : Nat → FieldType := fun k => match k with
  | 0 => .int
  | 1 => .int
  | 2 => .object "FirstReader$Memory"
  | _ => .object "FirstReader$Memory"
theorem nmX5 : ∀ a, a < 4 → ∀ b, b < 4 → a ≠ b → (TX5 a).2.1 ≠ (TX5 b).2.1 := by decide +kernel
theorem tyX5_ok : ∀ k, k < 4 → parseFieldDescriptor (TX5 k).2.2.1 = some (tyX5 k) := by decide +kernel
abbrev cX5_init : ByteArray := prog_7_method_1_code
def yX5_init : MethodName := ⟨RX5, "<init>", "()V"⟩
abbrev cX5_heldSigns : ByteArray := prog_7_method_2_code
def yX5_heldSigns : MethodName := ⟨RX5, "heldSigns", "()I"⟩
abbrev cX5_heldWords : ByteArray := prog_7_method_3_code
def yX5_heldWords : MethodName := ⟨RX5, "heldWords", "()I"⟩
abbrev cX5_beginAnew : ByteArray := prog_7_method_4_code
def yX5_beginAnew : MethodName := ⟨RX5, "beginAnew", "()V"⟩
abbrev cX5_becomeLike : ByteArray := prog_7_method_5_code
def yX5_becomeLike : MethodName := ⟨RX5, "becomeLike", "(LFirstReader$Pupil;)V"⟩
def RX6 : String := "FirstReader$School"
def TX6 : u_T := fun k => match k with
  | 0 => ("FirstReader$School", "pupils", "[LFirstReader$Pupil;", true)
  | _ => ("FirstReader$School", "base", "I", false)
def tyX6 : Nat → FieldType := fun k => match k with
  | 0 => .array (.object "FirstReader$Pupil")
  | _ => .int
theorem nmX6 : ∀ a, a < 2 → ∀ b, b < 2 → a ≠ b → (TX6 a).2.1 ≠ (TX6 b).2.1 := by decide +kernel
theorem tyX6_ok : ∀ k, k < 2 → parseFieldDescriptor (TX6 k).2.2.1 = some (tyX6 k) := by decide +kernel
abbrev cX6_init : ByteArray := prog_8_method_1_code
def yX6_init : MethodName := ⟨RX6, "<init>", "()V"⟩
abbrev cX6_beginAnew : ByteArray := prog_8_method_2_code
def yX6_beginAnew : MethodName := ⟨RX6, "beginAnew", "()V"⟩
abbrev cX6_becomeLike : ByteArray := prog_8_method_3_code
def yX6_becomeLike : MethodName := ⟨RX6, "becomeLike", "(LFirstReader$School;)V"⟩
def RX7 : String := "FirstReader$Sign"
def TX7 : u_T := fun k => match k with
  | 0 => ("FirstReader$Sign", "letters", "[I", true)
  | 1 => ("FirstReader$Sign", "length", "I", false)
  | 2 => ("FirstReader$Sign", "sound", "I", false)
  | _ => ("FirstReader$Sign", "place", "I", false)
def tyX7 : Nat → FieldType := fun k => match k with
  | 0 => .array .int
  | 1 => .int
  | 2 => .int
  | _ => .int
theorem nmX7 : ∀ a, a < 4 → ∀ b, b < 4 → a ≠ b → (TX7 a).2.1 ≠ (TX7 b).2.1 := by decide +kernel
theorem tyX7_ok : ∀ k, k < 4 → parseFieldDescriptor (TX7 k).2.2.1 = some (tyX7 k) := by decide +kernel
abbrev cX7_init : ByteArray := prog_9_method_1_code
def yX7_init : MethodName := ⟨RX7, "<init>", "()V"⟩
abbrev cX7_standsAt : ByteArray := prog_9_method_2_code
def yX7_standsAt : MethodName := ⟨RX7, "standsAt", "(LFirstReader$Word;I)Z"⟩
def RX8 : String := "FirstReader$Speech"
def TX8 : u_T := fun k => match k with
  | 0 => ("FirstReader$Speech", "sounds", "[I", true)
  | 1 => ("FirstReader$Speech", "count", "I", false)
  | 2 => ("FirstReader$Speech", "signs", "I", false)
  | 3 => ("FirstReader$Speech", "cameToEnd", "Z", false)
  | _ => ("FirstReader$Speech", "isRight", "Z", false)
def tyX8 : Nat → FieldType := fun k => match k with
  | 0 => .array .int
  | 1 => .int
  | 2 => .int
  | 3 => .boolean
  | _ => .boolean
theorem nmX8 : ∀ a, a < 5 → ∀ b, b < 5 → a ≠ b → (TX8 a).2.1 ≠ (TX8 b).2.1 := by decide +kernel
theorem tyX8_ok : ∀ k, k < 5 → parseFieldDescriptor (TX8 k).2.2.1 = some (tyX8 k) := by decide +kernel
abbrev cX8_init : ByteArray := prog_10_method_1_code
def yX8_init : MethodName := ⟨RX8, "<init>", "()V"⟩
abbrev cX8_say : ByteArray := prog_10_method_2_code
def yX8_say : MethodName := ⟨RX8, "say", "(LFirstReader$Primer;LFirstReader$Word;I)V"⟩
abbrev cX8_longest : ByteArray := prog_10_method_3_code
def yX8_longest : MethodName := ⟨RX8, "longest", "(LFirstReader$Primer;I)I"⟩
def RX9 : String := "FirstReader$Spelling"
def TX9 : u_T := fun k => match k with
  | 0 => ("FirstReader$Spelling", "letters", "[I", true)
  | 1 => ("FirstReader$Spelling", "count", "I", false)
  | _ => ("FirstReader$Spelling", "isWell", "Z", false)
def tyX9 : Nat → FieldType := fun k => match k with
  | 0 => .array .int
  | 1 => .int
  | _ => .boolean
theorem nmX9 : ∀ a, a < 3 → ∀ b, b < 3 → a ≠ b → (TX9 a).2.1 ≠ (TX9 b).2.1 := by decide +kernel
theorem tyX9_ok : ∀ k, k < 3 → parseFieldDescriptor (TX9 k).2.2.1 = some (tyX9 k) := by decide +kernel
abbrev cX9_init : ByteArray := prog_11_method_1_code
def yX9_init : MethodName := ⟨RX9, "<init>", "()V"⟩
abbrev cX9_spell : ByteArray := prog_11_method_2_code
def yX9_spell : MethodName := ⟨RX9, "spell", "(LFirstReader$Primer;LFirstReader$Word;I)V"⟩
abbrev cX9_firstFor : ByteArray := prog_11_method_3_code
def yX9_firstFor : MethodName := ⟨RX9, "firstFor", "(LFirstReader$Primer;LFirstReader$Word;II)I"⟩
abbrev cX9_append : ByteArray := prog_11_method_4_code
def yX9_append : MethodName := ⟨RX9, "append", "(LFirstReader$Sign;)V"⟩
def RX10 : String := "FirstReader$Word"
def TX10 : u_T := fun k => match k with
  | 0 => ("FirstReader$Word", "letters", "[I", true)
  | 1 => ("FirstReader$Word", "length", "I", false)
  | 2 => ("FirstReader$Word", "sounds", "[I", true)
  | 3 => ("FirstReader$Word", "soundCount", "I", false)
  | _ => ("FirstReader$Word", "fitting", "[I", true)
def tyX10 : Nat → FieldType := fun k => match k with
  | 0 => .array .int
  | 1 => .int
  | 2 => .array .int
  | 3 => .int
  | _ => .array .int
theorem nmX10 : ∀ a, a < 5 → ∀ b, b < 5 → a ≠ b → (TX10 a).2.1 ≠ (TX10 b).2.1 := by decide +kernel
theorem tyX10_ok : ∀ k, k < 5 → parseFieldDescriptor (TX10 k).2.2.1 = some (tyX10 k) := by decide +kernel
abbrev cX10_init : ByteArray := prog_12_method_1_code
def yX10_init : MethodName := ⟨RX10, "<init>", "()V"⟩
def RX11 : String := "FirstReader"
def TX11 : u_T := fun k => match k with
  | 0 => ("FirstReader", "parser", "LFirstReader$Parser;", true)
  | 1 => ("FirstReader", "told", "LFirstReader$Primer;", false)
  | 2 => ("FirstReader", "draft", "LFirstReader$Primer;", false)
  | 3 => ("FirstReader", "spelling", "LFirstReader$Spelling;", true)
  | 4 => ("FirstReader", "cuts", "LFirstReader$Cuts;", true)
  | 5 => ("FirstReader", "school", "LFirstReader$School;", true)
  | 6 => ("FirstReader", "images", "[LFirstReader$School;", true)
  | 7 => ("FirstReader", "imagesKept", "I", false)
  | _ => ("FirstReader", "shortest", "LFirstReader$Course;", false)
def tyX11 : Nat → FieldType := fun k => match k with
  | 0 => .object "FirstReader$Parser"
  | 1 => .object "FirstReader$Primer"
  | 2 => .object "FirstReader$Primer"
  | 3 => .object "FirstReader$Spelling"
  | 4 => .object "FirstReader$Cuts"
  | 5 => .object "FirstReader$School"
  | 6 => .array (.object "FirstReader$School")
  | 7 => .int
  | _ => .object "FirstReader$Course"
theorem nmX11 : ∀ a, a < 9 → ∀ b, b < 9 → a ≠ b → (TX11 a).2.1 ≠ (TX11 b).2.1 := by decide +kernel
theorem tyX11_ok : ∀ k, k < 9 → parseFieldDescriptor (TX11 k).2.2.1 = some (tyX11 k) := by decide +kernel
abbrev cX11_init : ByteArray := prog_1_method_1_code
def yX11_init : MethodName := ⟨RX11, "<init>", "()V"⟩
abbrev cX11_feed : ByteArray := prog_1_method_2_code
def yX11_feed : MethodName := ⟨RX11, "feed", "(IJ)I"⟩
abbrev cX11_primer : ByteArray := prog_1_method_3_code
def yX11_primer : MethodName := ⟨RX11, "primer", "()I"⟩
abbrev cX11_fault : ByteArray := prog_1_method_4_code
def yX11_fault : MethodName := ⟨RX11, "fault", "()I"⟩
abbrev cX11_sign : ByteArray := prog_1_method_5_code
def yX11_sign : MethodName := ⟨RX11, "sign", "(II)I"⟩
abbrev cX11_word : ByteArray := prog_1_method_6_code
def yX11_word : MethodName := ⟨RX11, "word", "(II)I"⟩
abbrev cX11_lesson : ByteArray := prog_1_method_7_code
def yX11_lesson : MethodName := ⟨RX11, "lesson", "(II)I"⟩
abbrev cX11_page : ByteArray := prog_1_method_8_code
def yX11_page : MethodName := ⟨RX11, "page", "(II)I"⟩
abbrev cX11_count : ByteArray := prog_1_method_9_code
def yX11_count : MethodName := ⟨RX11, "count", "(I)I"⟩
abbrev cX11_fits : ByteArray := prog_1_method_10_code
def yX11_fits : MethodName := ⟨RX11, "fits", "(III)I"⟩
abbrev cX11_ways : ByteArray := prog_1_method_11_code
def yX11_ways : MethodName := ⟨RX11, "ways", "(II)J"⟩
abbrev cX11_cut : ByteArray := prog_1_method_12_code
def yX11_cut : MethodName := ⟨RX11, "cut", "(III)I"⟩
abbrev cX11_aloud : ByteArray := prog_1_method_13_code
def yX11_aloud : MethodName := ⟨RX11, "aloud", "(III)I"⟩
abbrev cX11_right : ByteArray := prog_1_method_14_code
def yX11_right : MethodName := ⟨RX11, "right", "(III)I"⟩
abbrev cX11_spelt : ByteArray := prog_1_method_15_code
def yX11_spelt : MethodName := ⟨RX11, "spelt", "(III)I"⟩
abbrev cX11_taught : ByteArray := prog_1_method_16_code
def yX11_taught : MethodName := ⟨RX11, "taught", "(I)I"⟩
abbrev cX11_reads : ByteArray := prog_1_method_17_code
def yX11_reads : MethodName := ⟨RX11, "reads", "(I)I"⟩
abbrev cX11_mixed : ByteArray := prog_1_method_18_code
def yX11_mixed : MethodName := ⟨RX11, "mixed", "(II)I"⟩
abbrev cX11_unknown : ByteArray := prog_1_method_19_code
def yX11_unknown : MethodName := ⟨RX11, "unknown", "(II)I"⟩
abbrev cX11_fewest : ByteArray := prog_1_method_20_code
def yX11_fewest : MethodName := ⟨RX11, "fewest", "(II)I"⟩
abbrev cX11_course : ByteArray := prog_1_method_21_code
def yX11_course : MethodName := ⟨RX11, "course", "(III)I"⟩
abbrev cX11_hangs : ByteArray := prog_1_method_22_code
def yX11_hangs : MethodName := ⟨RX11, "hangs", "(I)I"⟩
abbrev cX11_base : ByteArray := prog_1_method_23_code
def yX11_base : MethodName := ⟨RX11, "base", "(I)I"⟩
abbrev cX11_take : ByteArray := prog_1_method_24_code
def yX11_take : MethodName := ⟨RX11, "take", "(II)I"⟩
abbrev cX11_read : ByteArray := prog_1_method_25_code
def yX11_read : MethodName := ⟨RX11, "read", "(II)I"⟩
abbrev cX11_rest : ByteArray := prog_1_method_26_code
def yX11_rest : MethodName := ⟨RX11, "rest", "(II)I"⟩
abbrev cX11_about : ByteArray := prog_1_method_27_code
def yX11_about : MethodName := ⟨RX11, "about", "(II)I"⟩
abbrev cX11_span : ByteArray := prog_1_method_28_code
def yX11_span : MethodName := ⟨RX11, "span", "(IZI)I"⟩
abbrev cX11_meets : ByteArray := prog_1_method_29_code
def yX11_meets : MethodName := ⟨RX11, "meets", "(II)I"⟩
abbrev cX11_next : ByteArray := prog_1_method_30_code
def yX11_next : MethodName := ⟨RX11, "next", "(II)I"⟩
abbrev cX11_forAll : ByteArray := prog_1_method_31_code
def yX11_forAll : MethodName := ⟨RX11, "forAll", "()I"⟩
abbrev cX11_keep : ByteArray := prog_1_method_32_code
def yX11_keep : MethodName := ⟨RX11, "keep", "(I)I"⟩
abbrev cX11_goBack : ByteArray := prog_1_method_33_code
def yX11_goBack : MethodName := ⟨RX11, "goBack", "(I)I"⟩
abbrev cX11_lessonToTakeAgain : ByteArray := prog_1_method_34_code
def yX11_lessonToTakeAgain : MethodName := ⟨RX11, "lessonToTakeAgain", "(LFirstReader$Pupil;)I"⟩
abbrev cX11_pageToRead : ByteArray := prog_1_method_35_code
def yX11_pageToRead : MethodName := ⟨RX11, "pageToRead", "(LFirstReader$Pupil;I)I"⟩
abbrev cX11_lessonToTake : ByteArray := prog_1_method_36_code
def yX11_lessonToTake : MethodName := ⟨RX11, "lessonToTake", "(LFirstReader$Pupil;)I"⟩
abbrev cX11_missingOf : ByteArray := prog_1_method_37_code
def yX11_missingOf : MethodName := ⟨RX11, "missingOf", "(LFirstReader$Pupil;I)I"⟩
abbrev cX11_unknownFor : ByteArray := prog_1_method_38_code
def yX11_unknownFor : MethodName := ⟨RX11, "unknownFor", "(LFirstReader$Pupil;I)I"⟩
abbrev cX11_isSign : ByteArray := prog_1_method_39_code
def yX11_isSign : MethodName := ⟨RX11, "isSign", "(I)Z"⟩
abbrev cX11_isWord : ByteArray := prog_1_method_40_code
def yX11_isWord : MethodName := ⟨RX11, "isWord", "(I)Z"⟩
abbrev cX11_isLesson : ByteArray := prog_1_method_41_code
def yX11_isLesson : MethodName := ⟨RX11, "isLesson", "(I)Z"⟩
abbrev cX11_isPage : ByteArray := prog_1_method_42_code
def yX11_isPage : MethodName := ⟨RX11, "isPage", "(I)Z"⟩
abbrev cX11_areSigns : ByteArray := prog_1_method_43_code
def yX11_areSigns : MethodName := ⟨RX11, "areSigns", "(I)Z"⟩
abbrev cX11_areLessons : ByteArray := prog_1_method_44_code
def yX11_areLessons : MethodName := ⟨RX11, "areLessons", "(I)Z"⟩
abbrev cX11_isPupil : ByteArray := prog_1_method_45_code
def yX11_isPupil : MethodName := ⟨RX11, "isPupil", "(I)Z"⟩
abbrev cX11_isImage : ByteArray := prog_1_method_46_code
def yX11_isImage : MethodName := ⟨RX11, "isImage", "(I)Z"⟩
abbrev cX11_isOutsideUnknown : ByteArray := prog_1_method_47_code
def yX11_isOutsideUnknown : MethodName := ⟨RX11, "isOutsideUnknown", "(I)Z"⟩
abbrev cX11_at : ByteArray := prog_1_method_48_code
def yX11_at : MethodName := ⟨RX11, "at", "([III)I"⟩
abbrev cX11_bit : ByteArray := prog_1_method_49_code
def yX11_bit : MethodName := ⟨RX11, "bit", "(Z)I"⟩
abbrev cX11_areAlike : ByteArray := prog_1_method_50_code
def yX11_areAlike : MethodName := ⟨RX11, "areAlike", "([II[II)Z"⟩
def RX12 : String := "FirstReaderModel"
def TX12 : u_T := fun k => match k with
  | 0 => ("FirstReaderModel", "signs", "I", false)
  | 1 => ("FirstReaderModel", "signSize", "[I", true)
  | 2 => ("FirstReaderModel", "signLetter", "[I", true)
  | 3 => ("FirstReaderModel", "signSound", "[I", true)
  | 4 => ("FirstReaderModel", "signSide", "[I", true)
  | 5 => ("FirstReaderModel", "words", "I", false)
  | 6 => ("FirstReaderModel", "wordSize", "[I", true)
  | 7 => ("FirstReaderModel", "wordLetter", "[I", true)
  | 8 => ("FirstReaderModel", "wordSounds", "[I", true)
  | 9 => ("FirstReaderModel", "wordSound", "[I", true)
  | 10 => ("FirstReaderModel", "lessons", "I", false)
  | 11 => ("FirstReaderModel", "lessonRow", "[I", true)
  | 12 => ("FirstReaderModel", "pages", "I", false)
  | 13 => ("FirstReaderModel", "pageSize", "[I", true)
  | 14 => ("FirstReaderModel", "pageWord", "[I", true)
  | 15 => ("FirstReaderModel", "pageSet", "[I", true)
  | 16 => ("FirstReaderModel", "text", "[I", true)
  | 17 => ("FirstReaderModel", "texted", "I", false)
  | 18 => ("FirstReaderModel", "faultPlace", "I", false)
  | 19 => ("FirstReaderModel", "at0", "I", false)
  | 20 => ("FirstReaderModel", "said", "J", false)
  | 21 => ("FirstReaderModel", "wordEnd", "I", false)
  | 22 => ("FirstReaderModel", "number", "I", false)
  | 23 => ("FirstReaderModel", "numberAt", "I", false)
  | 24 => ("FirstReaderModel", "readSigns", "I", false)
  | 25 => ("FirstReaderModel", "rSignSize", "[I", true)
  | 26 => ("FirstReaderModel", "rSignLetter", "[I", true)
  | 27 => ("FirstReaderModel", "rSignSound", "[I", true)
  | 28 => ("FirstReaderModel", "rSignSide", "[I", true)
  | 29 => ("FirstReaderModel", "readWords", "I", false)
  | 30 => ("FirstReaderModel", "rWordSize", "[I", true)
  | 31 => ("FirstReaderModel", "rWordLetter", "[I", true)
  | 32 => ("FirstReaderModel", "rWordSounds", "[I", true)
  | 33 => ("FirstReaderModel", "rWordSound", "[I", true)
  | 34 => ("FirstReaderModel", "readLessons", "I", false)
  | 35 => ("FirstReaderModel", "rLesson", "[I", true)
  | 36 => ("FirstReaderModel", "readPages", "I", false)
  | 37 => ("FirstReaderModel", "rPageSize", "[I", true)
  | 38 => ("FirstReaderModel", "rPageWord", "[I", true)
  | 39 => ("FirstReaderModel", "listSet", "I", false)
  | 40 => ("FirstReaderModel", "ons", "[J", true)
  | 41 => ("FirstReaderModel", "out", "[I", true)
  | 42 => ("FirstReaderModel", "outMany", "I", false)
  | 43 => ("FirstReaderModel", "isWhole", "Z", false)
  | 44 => ("FirstReaderModel", "outSigns", "I", false)
  | 45 => ("FirstReaderModel", "toGo", "[I", true)
  | 46 => ("FirstReaderModel", "readBy", "[I", true)
  | 47 => ("FirstReaderModel", "baseSpan", "I", false)
  | 48 => ("FirstReaderModel", "days", "[I", true)
  | 49 => ("FirstReaderModel", "taken", "[I", true)
  | 50 => ("FirstReaderModel", "spans", "[I", true)
  | 51 => ("FirstReaderModel", "lasts", "[I", true)
  | 52 => ("FirstReaderModel", "usedSigns", "I", false)
  | 53 => ("FirstReaderModel", "images", "[I", true)
  | _ => ("FirstReaderModel", "isKept", "[Z", true)
def tyX12 : Nat → FieldType := fun k => match k with
  | 0 => .int
  | 1 => .array .int
  | 2 => .array .int
  | 3 => .array .int
  | 4 => .array .int
  | 5 => .int
  | 6 => .array .int
  | 7 => .array .int
  | 8 => .array .int
  | 9 => .array .int
  | 10 => .int
  | 11 => .array .int
  | 12 => .int
  | 13 => .array .int
  | 14 => .array .int
  | 15 => .array .int
  | 16 => .array .int
  | 17 => .int
  | 18 => .int
  | 19 => .int
  | 20 => .long
  | 21 => .int
  | 22 => .int
  | 23 => .int
  | 24 => .int
  | 25 => .array .int
  | 26 => .array .int
  | 27 => .array .int
  | 28 => .array .int
  | 29 => .int
  | 30 => .array .int
  | 31 => .array .int
  | 32 => .array .int
  | 33 => .array .int
  | 34 => .int
  | 35 => .array .int
  | 36 => .int
  | 37 => .array .int
  | 38 => .array .int
  | 39 => .int
  | 40 => .array .long
  | 41 => .array .int
  | 42 => .int
  | 43 => .boolean
  | 44 => .int
  | 45 => .array .int
  | 46 => .array .int
  | 47 => .int
  | 48 => .array .int
  | 49 => .array .int
  | 50 => .array .int
  | 51 => .array .int
  | 52 => .int
  | 53 => .array .int
  | _ => .array .boolean
theorem nmX12 : ∀ a, a < 55 → ∀ b, b < 55 → a ≠ b → (TX12 a).2.1 ≠ (TX12 b).2.1 := by decide +kernel
theorem tyX12_ok : ∀ k, k < 55 → parseFieldDescriptor (TX12 k).2.2.1 = some (tyX12 k) := by decide +kernel
abbrev cX12_init : ByteArray := prog_14_method_1_code
def yX12_init : MethodName := ⟨RX12, "<init>", "()V"⟩
abbrev cX12_in : ByteArray := prog_14_method_3_code
def yX12_in : MethodName := ⟨RX12, "in", "(JJJ)Z"⟩
abbrev cX12_has : ByteArray := prog_14_method_4_code
def yX12_has : MethodName := ⟨RX12, "has", "(II)Z"⟩
abbrev cX12_bits : ByteArray := prog_14_method_5_code
def yX12_bits : MethodName := ⟨RX12, "bits", "(I)I"⟩
abbrev cX12_feed : ByteArray := prog_14_method_6_code
def yX12_feed : MethodName := ⟨RX12, "feed", "(IJ)I"⟩
abbrev cX12_here : ByteArray := prog_14_method_7_code
def yX12_here : MethodName := ⟨RX12, "here", "()I"⟩
abbrev cX12_fails : ByteArray := prog_14_method_8_code
def yX12_fails : MethodName := ⟨RX12, "fails", "(II)I"⟩
abbrev cX12_readWord : ByteArray := prog_14_method_9_code
def yX12_readWord : MethodName := ⟨RX12, "readWord", "()V"⟩
abbrev cX12_code : ByteArray := prog_14_method_10_code
def yX12_code : MethodName := ⟨RX12, "code", "(IIII)J"⟩
abbrev cX12_longer : ByteArray := prog_14_method_11_code
def yX12_longer : MethodName := ⟨RX12, "longer", "(JI)J"⟩
abbrev cX12_takeNumber : ByteArray := prog_14_method_12_code
def yX12_takeNumber : MethodName := ⟨RX12, "takeNumber", "(I)I"⟩
abbrev cX12_takeSign : ByteArray := prog_14_method_13_code
def yX12_takeSign : MethodName := ⟨RX12, "takeSign", "(I)I"⟩
abbrev cX12_wordOf : ByteArray := prog_14_method_14_code
def yX12_wordOf : MethodName := ⟨RX12, "wordOf", "(II)I"⟩
abbrev cX12_takeWord : ByteArray := prog_14_method_15_code
def yX12_takeWord : MethodName := ⟨RX12, "takeWord", "(I)I"⟩
abbrev cX12_takeList : ByteArray := prog_14_method_16_code
def yX12_takeList : MethodName := ⟨RX12, "takeList", "(I)I"⟩
abbrev cX12_takeLesson : ByteArray := prog_14_method_17_code
def yX12_takeLesson : MethodName := ⟨RX12, "takeLesson", "(I)I"⟩
abbrev cX12_takePage : ByteArray := prog_14_method_18_code
def yX12_takePage : MethodName := ⟨RX12, "takePage", "(I)I"⟩
abbrev cX12_takeClause : ByteArray := prog_14_method_19_code
def yX12_takeClause : MethodName := ⟨RX12, "takeClause", "()I"⟩
abbrev cX12_primer : ByteArray := prog_14_method_20_code
def yX12_primer : MethodName := ⟨RX12, "primer", "()I"⟩
abbrev cX12_keepPrimer : ByteArray := prog_14_method_21_code
def yX12_keepPrimer : MethodName := ⟨RX12, "keepPrimer", "()V"⟩
abbrev cX12_fault : ByteArray := prog_14_method_22_code
def yX12_fault : MethodName := ⟨RX12, "fault", "()I"⟩
abbrev cX12_isSign : ByteArray := prog_14_method_23_code
def yX12_isSign : MethodName := ⟨RX12, "isSign", "(I)Z"⟩
abbrev cX12_areSigns : ByteArray := prog_14_method_24_code
def yX12_areSigns : MethodName := ⟨RX12, "areSigns", "(I)Z"⟩
abbrev cX12_isWord : ByteArray := prog_14_method_25_code
def yX12_isWord : MethodName := ⟨RX12, "isWord", "(I)Z"⟩
abbrev cX12_isLesson : ByteArray := prog_14_method_26_code
def yX12_isLesson : MethodName := ⟨RX12, "isLesson", "(I)Z"⟩
abbrev cX12_isPage : ByteArray := prog_14_method_27_code
def yX12_isPage : MethodName := ⟨RX12, "isPage", "(I)Z"⟩
abbrev cX12_sign : ByteArray := prog_14_method_28_code
def yX12_sign : MethodName := ⟨RX12, "sign", "(II)I"⟩
abbrev cX12_word : ByteArray := prog_14_method_29_code
def yX12_word : MethodName := ⟨RX12, "word", "(II)I"⟩
abbrev cX12_lesson : ByteArray := prog_14_method_30_code
def yX12_lesson : MethodName := ⟨RX12, "lesson", "(II)I"⟩
abbrev cX12_page : ByteArray := prog_14_method_31_code
def yX12_page : MethodName := ⟨RX12, "page", "(II)I"⟩
abbrev cX12_count : ByteArray := prog_14_method_32_code
def yX12_count : MethodName := ⟨RX12, "count", "(I)I"⟩
abbrev cX12_isFit : ByteArray := prog_14_method_33_code
def yX12_isFit : MethodName := ⟨RX12, "isFit", "(III)Z"⟩
abbrev cX12_fits : ByteArray := prog_14_method_34_code
def yX12_fits : MethodName := ⟨RX12, "fits", "(III)I"⟩
abbrev cX12_leads : ByteArray := prog_14_method_35_code
def yX12_leads : MethodName := ⟨RX12, "leads", "(IIIII)I"⟩
abbrev cX12_findWays : ByteArray := prog_14_method_36_code
def yX12_findWays : MethodName := ⟨RX12, "findWays", "(II)J"⟩
abbrev cX12_ways : ByteArray := prog_14_method_37_code
def yX12_ways : MethodName := ⟨RX12, "ways", "(II)J"⟩
abbrev cX12_cut : ByteArray := prog_14_method_38_code
def yX12_cut : MethodName := ⟨RX12, "cut", "(III)I"⟩
abbrev cX12_speak : ByteArray := prog_14_method_39_code
def yX12_speak : MethodName := ⟨RX12, "speak", "(II)V"⟩
abbrev cX12_areSounds : ByteArray := prog_14_method_40_code
def yX12_areSounds : MethodName := ⟨RX12, "areSounds", "(I)Z"⟩
abbrev cX12_isRight : ByteArray := prog_14_method_41_code
def yX12_isRight : MethodName := ⟨RX12, "isRight", "(II)Z"⟩
abbrev cX12_outAt : ByteArray := prog_14_method_42_code
def yX12_outAt : MethodName := ⟨RX12, "outAt", "(I)I"⟩
abbrev cX12_aloud : ByteArray := prog_14_method_43_code
def yX12_aloud : MethodName := ⟨RX12, "aloud", "(III)I"⟩
abbrev cX12_spell : ByteArray := prog_14_method_44_code
def yX12_spell : MethodName := ⟨RX12, "spell", "(II)V"⟩
abbrev cX12_isWell : ByteArray := prog_14_method_45_code
def yX12_isWell : MethodName := ⟨RX12, "isWell", "(II)Z"⟩
abbrev cX12_right : ByteArray := prog_14_method_46_code
def yX12_right : MethodName := ⟨RX12, "right", "(III)I"⟩
abbrev cX12_spelt : ByteArray := prog_14_method_47_code
def yX12_spelt : MethodName := ⟨RX12, "spelt", "(III)I"⟩
abbrev cX12_areLessons : ByteArray := prog_14_method_48_code
def yX12_areLessons : MethodName := ⟨RX12, "areLessons", "(I)Z"⟩
abbrev cX12_isClosed : ByteArray := prog_14_method_49_code
def yX12_isClosed : MethodName := ⟨RX12, "isClosed", "(I)Z"⟩
abbrev cX12_teach : ByteArray := prog_14_method_50_code
def yX12_teach : MethodName := ⟨RX12, "teach", "(II)I"⟩
abbrev cX12_readsOf : ByteArray := prog_14_method_51_code
def yX12_readsOf : MethodName := ⟨RX12, "readsOf", "(I)I"⟩
abbrev cX12_taught : ByteArray := prog_14_method_52_code
def yX12_taught : MethodName := ⟨RX12, "taught", "(I)I"⟩
abbrev cX12_reads : ByteArray := prog_14_method_53_code
def yX12_reads : MethodName := ⟨RX12, "reads", "(I)I"⟩
abbrev cX12_mixed : ByteArray := prog_14_method_54_code
def yX12_mixed : MethodName := ⟨RX12, "mixed", "(II)I"⟩
abbrev cX12_unknown : ByteArray := prog_14_method_55_code
def yX12_unknown : MethodName := ⟨RX12, "unknown", "(II)I"⟩
abbrev cX12_isFew : ByteArray := prog_14_method_56_code
def yX12_isFew : MethodName := ⟨RX12, "isFew", "(I)Z"⟩
abbrev cX12_fewest : ByteArray := prog_14_method_57_code
def yX12_fewest : MethodName := ⟨RX12, "fewest", "(II)I"⟩
abbrev cX12_met : ByteArray := prog_14_method_58_code
def yX12_met : MethodName := ⟨RX12, "met", "(I)I"⟩
abbrev cX12_stepTo : ByteArray := prog_14_method_59_code
def yX12_stepTo : MethodName := ⟨RX12, "stepTo", "(III)I"⟩
abbrev cX12_findCourses : ByteArray := prog_14_method_60_code
def yX12_findCourses : MethodName := ⟨RX12, "findCourses", "(II)V"⟩
abbrev cX12_course : ByteArray := prog_14_method_61_code
def yX12_course : MethodName := ⟨RX12, "course", "(III)I"⟩
abbrev cX12_behind : ByteArray := prog_14_method_62_code
def yX12_behind : MethodName := ⟨RX12, "behind", "(I)I"⟩
abbrev cX12_hangs : ByteArray := prog_14_method_63_code
def yX12_hangs : MethodName := ⟨RX12, "hangs", "(I)I"⟩
abbrev cX12_beginPupils : ByteArray := prog_14_method_64_code
def yX12_beginPupils : MethodName := ⟨RX12, "beginPupils", "()V"⟩
abbrev cX12_isPupil : ByteArray := prog_14_method_65_code
def yX12_isPupil : MethodName := ⟨RX12, "isPupil", "(I)Z"⟩
abbrev cX12_isHeld : ByteArray := prog_14_method_66_code
def yX12_isHeld : MethodName := ⟨RX12, "isHeld", "(II)Z"⟩
abbrev cX12_heldSigns : ByteArray := prog_14_method_67_code
def yX12_heldSigns : MethodName := ⟨RX12, "heldSigns", "(I)I"⟩
abbrev cX12_heldWords : ByteArray := prog_14_method_68_code
def yX12_heldWords : MethodName := ⟨RX12, "heldWords", "(I)I"⟩
abbrev cX12_use : ByteArray := prog_14_method_69_code
def yX12_use : MethodName := ⟨RX12, "use", "(II)V"⟩
abbrev cX12_useAll : ByteArray := prog_14_method_70_code
def yX12_useAll : MethodName := ⟨RX12, "useAll", "(III)V"⟩
abbrev cX12_base : ByteArray := prog_14_method_71_code
def yX12_base : MethodName := ⟨RX12, "base", "(I)I"⟩
abbrev cX12_lacking : ByteArray := prog_14_method_72_code
def yX12_lacking : MethodName := ⟨RX12, "lacking", "(II)I"⟩
abbrev cX12_take : ByteArray := prog_14_method_73_code
def yX12_take : MethodName := ⟨RX12, "take", "(II)I"⟩
abbrev cX12_meetsOf : ByteArray := prog_14_method_74_code
def yX12_meetsOf : MethodName := ⟨RX12, "meetsOf", "(II)I"⟩
abbrev cX12_read : ByteArray := prog_14_method_75_code
def yX12_read : MethodName := ⟨RX12, "read", "(II)I"⟩
abbrev cX12_rest : ByteArray := prog_14_method_76_code
def yX12_rest : MethodName := ⟨RX12, "rest", "(II)I"⟩
abbrev cX12_about : ByteArray := prog_14_method_77_code
def yX12_about : MethodName := ⟨RX12, "about", "(II)I"⟩
abbrev cX12_span : ByteArray := prog_14_method_78_code
def yX12_span : MethodName := ⟨RX12, "span", "(IZI)I"⟩
abbrev cX12_meets : ByteArray := prog_14_method_79_code
def yX12_meets : MethodName := ⟨RX12, "meets", "(II)I"⟩
abbrev cX12_next : ByteArray := prog_14_method_80_code
def yX12_next : MethodName := ⟨RX12, "next", "(II)I"⟩
abbrev cX12_forAll : ByteArray := prog_14_method_81_code
def yX12_forAll : MethodName := ⟨RX12, "forAll", "()I"⟩
abbrev cX12_keep : ByteArray := prog_14_method_82_code
def yX12_keep : MethodName := ⟨RX12, "keep", "(I)I"⟩
abbrev cX12_goBack : ByteArray := prog_14_method_83_code
def yX12_goBack : MethodName := ⟨RX12, "goBack", "(I)I"⟩
def RJ6 : String := "java/lang/Integer"
def TJ6 : u_T := fun k => match k with
  | _ => ("", "", "", false)
def tyJ6 : Nat → FieldType := fun k => match k with
  | _ => .int
abbrev cJ6_bitCount_0f7a4 : ByteArray := prog_15_method_49_code
def yJ6_bitCount_0f7a4 : MethodName := ⟨RJ6, "bitCount", "(I)I"⟩
def RJ9 : String := "java/lang/Math"
def TJ9 : u_T := fun k => match k with
  | _ => ("", "", "", false)
def tyJ9 : Nat → FieldType := fun k => match k with
  | _ => .int
abbrev cJ9_max_7cf53 : ByteArray := prog_16_method_65_code
def yJ9_max_7cf53 : MethodName := ⟨RJ9, "max", "(II)I"⟩
abbrev cJ9_min_7cf53 : ByteArray := prog_16_method_69_code
def yJ9_min_7cf53 : MethodName := ⟨RJ9, "min", "(II)I"⟩
def RJ7 : String := "java/util/Arrays"
def TJ7 : u_T := fun k => match k with
  | _ => ("", "", "", false)
def tyJ7 : Nat → FieldType := fun k => match k with
  | _ => .int
abbrev cJ7_fill_d0a16 : ByteArray := prog_21_method_101_code
def yJ7_fill_d0a16 : MethodName := ⟨RJ7, "fill", "([JJ)V"⟩
abbrev cJ7_fill_53178 : ByteArray := prog_21_method_103_code
def yJ7_fill_53178 : MethodName := ⟨RJ7, "fill", "([II)V"⟩
def RJ0 : String := "java/lang/String"
def TJ0 : u_T := fun k => match k with
  | _ => ("", "", "", false)
def tyJ0 : Nat → FieldType := fun k => match k with
  | _ => .int
abbrev cJ0_length_8abf5 : ByteArray := prog_17_method_54_code
def yJ0_length_8abf5 : MethodName := ⟨RJ0, "length", "()I"⟩
abbrev cJ0_charAt_5068e : ByteArray := prog_17_method_56_code
def yJ0_charAt_5068e : MethodName := ⟨RJ0, "charAt", "(I)C"⟩
abbrev cJ0_coder_7d493 : ByteArray := prog_17_method_152_code
def yJ0_coder_7d493 : MethodName := ⟨RJ0, "coder", "()B"⟩
abbrev cJ0_isLatin1_aae02 : ByteArray := prog_17_method_154_code
def yJ0_isLatin1_aae02 : MethodName := ⟨RJ0, "isLatin1", "()Z"⟩
abbrev cJ0_checkIndex_df160 : ByteArray := prog_17_method_155_code
def yJ0_checkIndex_df160 : MethodName := ⟨RJ0, "checkIndex", "(II)V"⟩
def RJ1 : String := "java/lang/StringLatin1"
def TJ1 : u_T := fun k => match k with
  | _ => ("", "", "", false)
def tyJ1 : Nat → FieldType := fun k => match k with
  | _ => .int
abbrev cJ1_charAt_3b067 : ByteArray := prog_18_method_2_code
def yJ1_charAt_3b067 : MethodName := ⟨RJ1, "charAt", "([BI)C"⟩
def RJ10 : String := "java/lang/System"
def TJ10 : u_T := fun k => match k with
  | _ => ("", "", "", false)
def tyJ10 : Nat → FieldType := fun k => match k with
  | _ => .int
def RJ3 : String := "jdk/internal/util/Preconditions"
def TJ3 : u_T := fun k => match k with
  | _ => ("", "", "", false)
def tyJ3 : Nat → FieldType := fun k => match k with
  | _ => .int
abbrev cJ3_checkIndex_8e157 : ByteArray := prog_22_method_11_code
def yJ3_checkIndex_8e157 : MethodName := ⟨RJ3, "checkIndex", "(IILjava/util/function/BiFunction;)I"⟩
abbrev vwCl : List vw_C := [(RX0, TX0, 10), (RX1, TX1, 3), (RX2, TX2, 2), (RX3, TX3, 8), (RX4, TX4, 14), (RX5, TX5, 4), (RX6, TX6, 2), (RX7, TX7, 4), (RX8, TX8, 5), (RX9, TX9, 3), (RX10, TX10, 5), (RX11, TX11, 9), (RX12, TX12, 55)]
end
section
/-! the cells by the order in which they are made: what each is, where its references point -/
def kdL : List (Nat × Nat) := [(11, 9), (3, 8), (22, 600), (4, 14), (24, 20), (25, 24), (20, 7), (20, 7), (20, 7), (28, 8), (20, 16), (20, 16), (20, 16), (20, 16), (20, 16), (20, 16), (20, 16), (20, 16), (20, 8), (20, 8), (8, 5), (20, 8), (20, 128), (7, 4), (20, 4), (7, 4), (20, 4), (7, 4), (20, 4), (7, 4), (20, 4), (7, 4), (20, 4), (7, 4), (20, 4), (7, 4), (20, 4), (7, 4), (20, 4), (7, 4), (20, 4), (7, 4), (20, 4), (7, 4), (20, 4), (7, 4), (20, 4), (7, 4), (20, 4), (7, 4), (20, 4), (7, 4), (20, 4), (7, 4), (20, 4), (7, 4), (20, 4), (7, 4), (20, 4), (7, 4), (20, 4), (7, 4), (20, 4), (10, 5), (20, 8), (20, 8), (20, 8), (10, 5), (20, 8), (20, 8), (20, 8), (10, 5), (20, 8), (20, 8), (20, 8), (10, 5), (20, 8), (20, 8), (20, 8), (10, 5), (20, 8), (20, 8), (20, 8), (10, 5), (20, 8), (20, 8), (20, 8), (10, 5), (20, 8), (20, 8), (20, 8), (10, 5), (20, 8), (20, 8), (20, 8), (10, 5), (20, 8), (20, 8), (20, 8), (10, 5), (20, 8), (20, 8), (20, 8), (10, 5), (20, 8), (20, 8), (20, 8), (10, 5), (20, 8), (20, 8), (20, 8), (10, 5), (20, 8), (20, 8), (20, 8), (10, 5), (20, 8), (20, 8), (20, 8), (10, 5), (20, 8), (20, 8), (20, 8), (10, 5), (20, 8), (20, 8), (20, 8), (10, 5), (20, 8), (20, 8), (20, 8), (10, 5), (20, 8), (20, 8), (20, 8), (10, 5), (20, 8), (20, 8), (20, 8), (10, 5), (20, 8), (20, 8), (20, 8), (10, 5), (20, 8), (20, 8), (20, 8), (10, 5), (20, 8), (20, 8), (20, 8), (10, 5), (20, 8), (20, 8), (20, 8), (10, 5), (20, 8), (20, 8), (20, 8), (4, 14), (24, 20), (25, 24), (20, 7), (20, 7), (20, 7), (28, 8), (20, 16), (20, 16), (20, 16), (20, 16), (20, 16), (20, 16), (20, 16), (20, 16), (20, 8), (20, 8), (8, 5), (20, 8), (20, 128), (7, 4), (20, 4), (7, 4), (20, 4), (7, 4), (20, 4), (7, 4), (20, 4), (7, 4), (20, 4), (7, 4), (20, 4), (7, 4), (20, 4), (7, 4), (20, 4), (7, 4), (20, 4), (7, 4), (20, 4), (7, 4), (20, 4), (7, 4), (20, 4), (7, 4), (20, 4), (7, 4), (20, 4), (7, 4), (20, 4), (7, 4), (20, 4), (7, 4), (20, 4), (7, 4), (20, 4), (7, 4), (20, 4), (7, 4), (20, 4), (10, 5), (20, 8), (20, 8), (20, 8), (10, 5), (20, 8), (20, 8), (20, 8), (10, 5), (20, 8), (20, 8), (20, 8), (10, 5), (20, 8), (20, 8), (20, 8), (10, 5), (20, 8), (20, 8), (20, 8), (10, 5), (20, 8), (20, 8), (20, 8), (10, 5), (20, 8), (20, 8), (20, 8), (10, 5), (20, 8), (20, 8), (20, 8), (10, 5), (20, 8), (20, 8), (20, 8), (10, 5), (20, 8), (20, 8), (20, 8), (10, 5), (20, 8), (20, 8), (20, 8), (10, 5), (20, 8), (20, 8), (20, 8), (10, 5), (20, 8), (20, 8), (20, 8), (10, 5), (20, 8), (20, 8), (20, 8), (10, 5), (20, 8), (20, 8), (20, 8), (10, 5), (20, 8), (20, 8), (20, 8), (10, 5), (20, 8), (20, 8), (20, 8), (10, 5), (20, 8), (20, 8), (20, 8), (10, 5), (20, 8), (20, 8), (20, 8), (10, 5), (20, 8), (20, 8), (20, 8), (10, 5), (20, 8), (20, 8), (20, 8), (10, 5), (20, 8), (20, 8), (20, 8), (10, 5), (20, 8), (20, 8), (20, 8), (10, 5), (20, 8), (20, 8), (20, 8), (9, 3), (20, 32), (1, 3), (21, 81), (20, 8), (6, 2), (26, 3), (5, 4), (2, 2), (20, 20), (20, 20), (2, 2), (20, 24), (20, 24), (5, 4), (2, 2), (20, 20), (20, 20), (2, 2), (20, 24), (20, 24), (5, 4), (2, 2), (20, 20), (20, 20), (2, 2), (20, 24), (20, 24), (27, 2), (6, 2), (26, 3), (5, 4), (2, 2), (20, 20), (20, 20), (2, 2), (20, 24), (20, 24), (5, 4), (2, 2), (20, 20), (20, 20), (2, 2), (20, 24), (20, 24), (5, 4), (2, 2), (20, 20), (20, 20), (2, 2), (20, 24), (20, 24), (6, 2), (26, 3), (5, 4), (2, 2), (20, 20), (20, 20), (2, 2), (20, 24), (20, 24), (5, 4), (2, 2), (20, 20), (20, 20), (2, 2), (20, 24), (20, 24), (5, 4), (2, 2), (20, 20), (20, 20), (2, 2), (20, 24), (20, 24), (12, 55), (20, 20), (20, 80), (20, 20), (20, 20), (20, 24), (20, 192), (20, 24), (20, 192), (20, 21), (20, 8), (20, 128), (20, 8), (20, 600), (20, 20), (20, 80), (20, 20), (20, 20), (20, 24), (20, 192), (20, 24), (20, 192), (20, 21), (20, 8), (20, 128), (21, 81), (20, 32), (20, 32768), (20, 128), (20, 3), (20, 3), (20, 132), (20, 132), (20, 560), (23, 2), (0, 10), (20, 16384), (20, 16384), (21, 512), (20, 15)]
def kd (i : Nat) : Nat × Nat := kdL.getD i (99, 0)
/-- the kind of a field: 0 int, 1 long, 2 a reference that is final, 3 one that is not, 4 boolean -/
def fkL : List (List Nat) := [[2, 2, 2, 0, 3, 0, 0, 0, 2, 0], [2, 2, 0], [2, 2], [2, 0, 0, 0, 3, 0, 0, 0], [2, 0, 2, 0, 2, 2, 2, 0, 2, 2, 2, 0, 2, 2], [0, 0, 2, 2], [2, 0], [2, 0, 0, 0], [2, 0, 0, 4, 4], [2, 0, 4], [2, 0, 2, 0, 2], [2, 3, 3, 2, 2, 2, 2, 0, 3], [0, 2, 2, 2, 2, 0, 2, 2, 2, 2, 0, 2, 0, 2, 2, 2, 2, 0, 0, 0, 1, 0, 0, 0, 0, 2, 2, 2, 2, 0, 2, 2, 2, 2, 0, 2, 0, 2, 2, 0, 2, 2, 0, 4, 0, 2, 2, 0, 2, 2, 2, 2, 0, 2, 2]]
def fk (t k : Nat) : Nat := (fkL.getD t []).getD k 9
def rfL : List (List Nat) := [[1, 0, 0, 315, 317, 320, 343], [2], [], [4, 0, 5, 0, 6, 7, 8, 0, 9, 18, 19, 0, 20, 22], [23, 25, 27, 29, 31, 33, 35, 37, 39, 41, 43, 45, 47, 49, 51, 53, 55, 57, 59, 61], [63, 67, 71, 75, 79, 83, 87, 91, 95, 99, 103, 107, 111, 115, 119, 123, 127, 131, 135, 139, 143, 147, 151, 155], [], [], [], [10, 11, 12, 13, 14, 15, 16, 17], [], [], [], [], [], [], [], [], [], [], [21], [], [], [24], [], [26], [], [28], [], [30], [], [32], [], [34], [], [36], [], [38], [], [40], [], [42], [], [44], [], [46], [], [48], [], [50], [], [52], [], [54], [], [56], [], [58], [], [60], [], [62], [], [64, 0, 65, 0, 66], [], [], [], [68, 0, 69, 0, 70], [], [], [], [72, 0, 73, 0, 74], [], [], [], [76, 0, 77, 0, 78], [], [], [], [80, 0, 81, 0, 82], [], [], [], [84, 0, 85, 0, 86], [], [], [], [88, 0, 89, 0, 90], [], [], [], [92, 0, 93, 0, 94], [], [], [], [96, 0, 97, 0, 98], [], [], [], [100, 0, 101, 0, 102], [], [], [], [104, 0, 105, 0, 106], [], [], [], [108, 0, 109, 0, 110], [], [], [], [112, 0, 113, 0, 114], [], [], [], [116, 0, 117, 0, 118], [], [], [], [120, 0, 121, 0, 122], [], [], [], [124, 0, 125, 0, 126], [], [], [], [128, 0, 129, 0, 130], [], [], [], [132, 0, 133, 0, 134], [], [], [], [136, 0, 137, 0, 138], [], [], [], [140, 0, 141, 0, 142], [], [], [], [144, 0, 145, 0, 146], [], [], [], [148, 0, 149, 0, 150], [], [], [], [152, 0, 153, 0, 154], [], [], [], [156, 0, 157, 0, 158], [], [], [], [160, 0, 161, 0, 162, 163, 164, 0, 165, 174, 175, 0, 176, 178], [179, 181, 183, 185, 187, 189, 191, 193, 195, 197, 199, 201, 203, 205, 207, 209, 211, 213, 215, 217], [219, 223, 227, 231, 235, 239, 243, 247, 251, 255, 259, 263, 267, 271, 275, 279, 283, 287, 291, 295, 299, 303, 307, 311], [], [], [], [166, 167, 168, 169, 170, 171, 172, 173], [], [], [], [], [], [], [], [], [], [], [177], [], [], [180], [], [182], [], [184], [], [186], [], [188], [], [190], [], [192], [], [194], [], [196], [], [198], [], [200], [], [202], [], [204], [], [206], [], [208], [], [210], [], [212], [], [214], [], [216], [], [218], [], [220, 0, 221, 0, 222], [], [], [], [224, 0, 225, 0, 226], [], [], [], [228, 0, 229, 0, 230], [], [], [], [232, 0, 233, 0, 234], [], [], [], [236, 0, 237, 0, 238], [], [], [], [240, 0, 241, 0, 242], [], [], [], [244, 0, 245, 0, 246], [], [], [], [248, 0, 249, 0, 250], [], [], [], [252, 0, 253, 0, 254], [], [], [], [256, 0, 257, 0, 258], [], [], [], [260, 0, 261, 0, 262], [], [], [], [264, 0, 265, 0, 266], [], [], [], [268, 0, 269, 0, 270], [], [], [], [272, 0, 273, 0, 274], [], [], [], [276, 0, 277, 0, 278], [], [], [], [280, 0, 281, 0, 282], [], [], [], [284, 0, 285, 0, 286], [], [], [], [288, 0, 289, 0, 290], [], [], [], [292, 0, 293, 0, 294], [], [], [], [296, 0, 297, 0, 298], [], [], [], [300, 0, 301, 0, 302], [], [], [], [304, 0, 305, 0, 306], [], [], [], [308, 0, 309, 0, 310], [], [], [], [312, 0, 313, 0, 314], [], [], [], [316], [], [318, 319], [], [], [321], [322, 329, 336], [0, 0, 323, 326], [324, 325], [], [], [327, 328], [], [], [0, 0, 330, 333], [331, 332], [], [], [334, 335], [], [], [0, 0, 337, 340], [338, 339], [], [], [341, 342], [], [], [344, 367], [345], [346, 353, 360], [0, 0, 347, 350], [348, 349], [], [], [351, 352], [], [], [0, 0, 354, 357], [355, 356], [], [], [358, 359], [], [], [0, 0, 361, 364], [362, 363], [], [], [365, 366], [], [], [368], [369, 376, 383], [0, 0, 370, 373], [371, 372], [], [], [374, 375], [], [], [0, 0, 377, 380], [378, 379], [], [], [381, 382], [], [], [0, 0, 384, 387], [385, 386], [], [], [388, 389], [], [], [0, 391, 392, 393, 394, 0, 395, 396, 397, 398, 0, 399, 0, 400, 401, 402, 403, 0, 0, 0, 0, 0, 0, 0, 0, 404, 405, 406, 407, 0, 408, 409, 410, 411, 0, 412, 0, 413, 414, 0, 415, 416, 0, 0, 0, 417, 418, 0, 419, 420, 421, 422, 0, 423, 424], [], [], [], [], [], [], [], [], [], [], [], [], [], [], [], [], [], [], [], [], [], [], [], [], [], [], [], [], [], [], [], [], [], [], [426, 427, 428, 0, 0, 0, 0, 0, 429], [], [], [], []]
def rf (i k : Nat) : Nat := (rfL.getD i []).getD k 0
end
section
/-! THE ENGINE. The heap from the law's start on is read as numbered cells: what a cell is stands in kd (fixed), what it holds in a state St:
ints, longs, references that change; references that don't change stand in the world Wd. A value that names a cell bears the cell's number; a value
'retAddr k' stands for an object that was there before (0: the script; from 1 on: the texts). -/
abbrev MD : Type := MethodName × ByteArray × Nat × Option FieldType × Nat × Nat × Nat × Nat × Nat
/-- name, code, locals, answer's type, class of the receiver, number of arguments (receiver apart), cells and slots that it may make, kind of the answer (0 none, 1 int, 2 long, 3 none and it makes cells, 4 int and it makes cells) -/
abbrev mN (μ : MD) : MethodName := μ.1
abbrev mB (μ : MD) : ByteArray := μ.2.1
abbrev mL (μ : MD) : Nat := μ.2.2.1
abbrev mR (μ : MD) : Option FieldType := μ.2.2.2.1
abbrev mO (μ : MD) : Nat := μ.2.2.2.2.1
abbrev mA (μ : MD) : Nat := μ.2.2.2.2.2.1
abbrev mC (μ : MD) : Nat := μ.2.2.2.2.2.2.1
abbrev mS (μ : MD) : Nat := μ.2.2.2.2.2.2.2.1
abbrev mK (μ : MD) : Nat := μ.2.2.2.2.2.2.2.2
abbrev St : Type := (Nat → Nat → Int32) × (Nat → Nat → Int64) × (Nat → Nat → Option Nat)
abbrev Wd : Type := Nat × (Nat → Nat → Option Nat)
abbrev Lv : Type := List (Nat × Value)
def gI (σ : St) (o k : Nat) : Int32 := σ.1 o k
def gJ (σ : St) (o k : Nat) : Int64 := σ.2.1 o k
def gR (σ : St) (o k : Nat) : Option Nat := σ.2.2 o k
def up2 {α : Type} (f : Nat → Nat → α) (o k : Nat) (v : α) : Nat → Nat → α := fun a b => if a = o ∧ b = k then v else f a b
def uI (σ : St) (o k : Nat) (v : Int32) : St := (up2 σ.1 o k v, σ.2.1, σ.2.2)
def uJ (σ : St) (o k : Nat) (v : Int64) : St := (σ.1, up2 σ.2.1 o k v, σ.2.2)
def uR (σ : St) (o k : Nat) (v : Option Nat) : St := (σ.1, σ.2.1, up2 σ.2.2 o k v)
/-- a new cell: all 0 -/
def zS (σ : St) (o : Nat) : St := (fun a b => if a = o then 0 else σ.1 a b, fun a b => if a = o then 0 else σ.2.1 a b, fun a b => if a = o then none else σ.2.2 a b)
def zW (w : Wd) : Wd := (w.1 + 1, fun a b => if a = w.1 then none else w.2 a b)
def uW (w : Wd) (o k : Nat) (v : Option Nat) : Wd := (w.1, up2 w.2 o k v)
/-- many new cells; an array of rows -/
def zM (σ : St) (o n : Nat) : St := (fun a b => if o ≤ a ∧ a < o + n then 0 else σ.1 a b, fun a b => if o ≤ a ∧ a < o + n then 0 else σ.2.1 a b, fun a b => if o ≤ a ∧ a < o + n then none else σ.2.2 a b)
def gM (w : Wd) (n : Nat) : Wd := (w.1 + 1 + n, fun a b => if a = w.1 then (if b < n then some (w.1 + 1 + b) else none) else if w.1 ≤ a ∧ a < w.1 + 1 + n then none else w.2 a b)
/-- a row's places copied -/
def cS (σ : St) (a b sp dp n : Nat) : St := (fun x j => if x = b then va_cpy (σ.1 a) (σ.1 b) sp dp n j else σ.1 x j, σ.2.1, σ.2.2)
theorem gI_uI (σ : St) (o k a b : Nat) (v : Int32) : gI (uI σ o k v) a b = if a = o ∧ b = k then v else gI σ a b := rfl
theorem gI_uJ (σ : St) (o k a b : Nat) (v : Int64) : gI (uJ σ o k v) a b = gI σ a b := rfl
theorem gI_uR (σ : St) (o k a b : Nat) (v : Option Nat) : gI (uR σ o k v) a b = gI σ a b := rfl
theorem gJ_uI (σ : St) (o k a b : Nat) (v : Int32) : gJ (uI σ o k v) a b = gJ σ a b := rfl
theorem gJ_uJ (σ : St) (o k a b : Nat) (v : Int64) : gJ (uJ σ o k v) a b = if a = o ∧ b = k then v else gJ σ a b := rfl
theorem gJ_uR (σ : St) (o k a b : Nat) (v : Option Nat) : gJ (uR σ o k v) a b = gJ σ a b := rfl
theorem gR_uI (σ : St) (o k a b : Nat) (v : Int32) : gR (uI σ o k v) a b = gR σ a b := rfl
theorem gR_uJ (σ : St) (o k a b : Nat) (v : Int64) : gR (uJ σ o k v) a b = gR σ a b := rfl
theorem gR_uR (σ : St) (o k a b : Nat) (v : Option Nat) : gR (uR σ o k v) a b = if a = o ∧ b = k then v else gR σ a b := rfl
theorem gI_zS (σ : St) (o a b : Nat) : gI (zS σ o) a b = if a = o then 0 else gI σ a b := rfl
theorem gJ_zS (σ : St) (o a b : Nat) : gJ (zS σ o) a b = if a = o then 0 else gJ σ a b := rfl
theorem gR_zS (σ : St) (o a b : Nat) : gR (zS σ o) a b = if a = o then none else gR σ a b := rfl
/-- what stays the same through the whole run: the launch, the heap at the start, the classes' numbers, the arrays' classes, where the older objects lie, the script -/
abbrev Gx : Type := Launch × Heap × va_G × (Nat → ClassId) × (Nat → Nat) × (Nat → Int32) × Nat
abbrev xH (Γ : Gx) : Heap := Γ.2.1
abbrev xD (Γ : Gx) : va_G := Γ.2.2.1
abbrev xA (Γ : Gx) : Nat → ClassId := Γ.2.2.2.1
abbrev xE (Γ : Gx) : Nat → Nat := Γ.2.2.2.2.1
abbrev xS (Γ : Gx) : Nat → Int32 := Γ.2.2.2.2.2.1
abbrev xN (Γ : Gx) : Nat := Γ.2.2.2.2.2.2
def gz (Γ : Gx) : Nat := (xH Γ).size
def cv (Γ : Gx) : Value → Value
  | .ref i => .ref (gz Γ + i)
  | .retAddr k => .ref (xE Γ k)
  | v => v
def cL (Γ : Gx) (L : Lv) : Lv := L.map (fun q => (q.1, cv Γ q.2))
theorem cv_cat (Γ : Gx) (v : Value) : (cv Γ v).category = v.category := by cases v <;> rfl
def rv (Γ : Gx) (r : Option Nat) : Value := va_rf (r.map (gz Γ + ·))
/-- what a field holds -/
def fv (Γ : Gx) (σ : St) (ρ : Nat → Nat → Option Nat) (t i k : Nat) : Value :=
  match fk t k with
  | 1 => .long (gJ σ i k)
  | 2 => rv Γ (ρ i k)
  | 3 => rv Γ (gR σ i k)
  | _ => .int (gI σ i k)
/-- what a place of an array holds -/
def av (Γ : Gx) (σ : St) (ρ : Nat → Nat → Option Nat) (t i j : Nat) : Value :=
  if t = 21 then .long (gJ σ i j) else if t < 24 then .int (gI σ i j) else rv Γ (ρ i j)
def atC (Γ : Gx) (σ : St) (ρ : Nat → Nat → Option Nat) (i : Nat) (H : Heap) : Prop :=
  ((kd i).1 < 20 → t_OB (gz Γ + i) ((xD Γ).1 (kd i).1) (kd i).2 ((xD Γ).2 (kd i).1) H (fv Γ σ ρ (kd i).1 i)) ∧
  (20 ≤ (kd i).1 → H[gz Γ + i]? = some (arrV (xA Γ ((kd i).1 - 20)) (kd i).2 (av Γ σ ρ (kd i).1 i)))
def HR (Γ : Gx) (σ : St) (w : Wd) (H : Heap) : Prop := H.size = gz Γ + w.1 ∧ (∀ q, q < gz Γ → H[q]? = (xH Γ)[q]?) ∧ ∀ i, i < w.1 → atC Γ σ w.2 i H
/-- the types of the arrays' components, by their numbers -/
def aty (t : Nat) : FieldType := match t with
  | 0 => .int
  | 1 => .long
  | 2 => .byte
  | 3 => .boolean
  | 4 => .object RX7
  | 5 => .object RX10
  | 6 => .object RX5
  | 7 => .object RX6
  | _ => .array .int
/-- the words that a call of a nest mate's constructor needs -/
def nests : List Cond := tables_1.filter (fun w => match w with | .methodLinkNest _ _ _ _ => true | _ => false)
/-- the texts: place in the Parser's pool, text, bytes -/
def txK : List (Nat × String × List Int32) := [(46, "sign", [115, 105, 103, 110]), (107, "start", [115, 116, 97, 114, 116]), (109, "end", [101, 110, 100]), (56, "word", [119, 111, 114, 100]), (61, "lesson", [108, 101, 115, 115, 111, 110]), (151, "after", [97, 102, 116, 101, 114]), (159, "signs", [115, 105, 103, 110, 115]), (163, "sight", [115, 105, 103, 104, 116]), (66, "page", [112, 97, 103, 101])]
abbrev txI (i : Nat) : Nat := (txK.getD i (0, "", [])).1
abbrev txT (i : Nat) : String := (txK.getD i (0, "", [])).2.1
def txB : List (List Int32) := txK.map (fun q => q.2.2)
def txL : List Nat := txB.map List.length
/-- what the start says of the texts -/
def GT (Γ : Gx) (s : State) : Prop := vk_S 9 txL txB (fun i => xE Γ (1 + i)) (fun i => xE Γ (20 + i)) (fun q => gz Γ ≤ q) s (xH Γ) ∧ (∀ i, i < 9 → vk_R RX3 (txI i) (txT i) (xE Γ (1 + i)) s) ∧ va_Z "java/lang/String" "COMPACT_STRINGS" "Z" (.int 1) (fun q => gz Γ ≤ q) s (xH Γ) ∧
  (va_Z "jdk/internal/util/Preconditions" "SIOOBE_FORMATTER" "Ljava/util/function/BiFunction;" .null (fun q => gz Γ ≤ q) s (xH Γ) ∨ va_Z "jdk/internal/util/Preconditions" "SIOOBE_FORMATTER" "Ljava/util/function/BiFunction;" (.ref (xE Γ 40)) (fun q => gz Γ ≤ q) s (xH Γ))
def va_AOA (ty : FieldType) (U : State) : Prop := (Cond.arrayOver (.array ty)).before #[] U = true
/-- what holds of every state of the run -/
def GK (Γ : Gx) (s : State) : Prop := (∀ w ∈ lw_tbl, goodWord w = true → ∀ a : Array Value, w.before a s = true) ∧ (∀ w ∈ nests, va_Nw w s) ∧ va_K (xD Γ) vwCl ((List.range 9).map (fun t => (xA Γ t, aty t))) s ∧ va_X (xE Γ 0) (xN Γ) (xS Γ) s (xH Γ) ∧ GT Γ s ∧ (va_AO RX7 s ∧ va_AO RX10 s ∧ va_AO RX5 s ∧ va_AO RX6 s ∧ va_AOA .int s)
/-- one frame of a method: its machine's part -/
def Fx (Γ : Gx) (μ : MD) (p : Program) (l : Launch) (s : State) (m : MethodId) (meth : Method) (c : Code) : Prop :=
  p.tables.exec = Jvm.exec ∧ c.code = mB μ ∧ c.maxLocals = mL μ ∧ meth.sig.returnType = mR μ ∧ meth.locks = false ∧ s.vm.findClass (mN μ).cls = some m.cls ∧ meth.name = (mN μ).name ∧ l = Γ.1 ∧ GK Γ s
def rmOf (d mc ms : Nat) : Room := { frames := d, cells := mc, slots := ms, locals := 36 * d }
def lcs (Γ : Gx) (locs : List Loc) : Prop := ∀ q ∈ locs, gz Γ ≤ q.base
/-- what the end of a method must give to whoever waits -/
def RetOK (Γ : Gx) (d : Nat) (μ : MD) (Q : Option Value → St → Wd → Prop) (p : Program) (l : Launch) (e : Env) (s : State) (m : MethodId) (args : Array Value) (below : List Frame) (meth : Method) (c : Code) (Z : State → Prop) : Prop :=
  ∀ (v : Option Value) (σ : St) (w : Wd) (H : Heap) (locs : List Loc) (pc : Nat) (ls : Array Slot), Q v σ w → HR Γ σ w H → lcs Γ locs →
    ((v = none ∧ decode (mB μ) pc = .ok (.return_, 1) ∧ mR μ = none) ∨ (∃ x ty, v = some (.int x) ∧ decode (mB μ) pc = .ok (.ireturn, 1) ∧ mR μ = some ty ∧ narrow ty (.int x) = .int x) ∨ (∃ x, v = some (.long x) ∧ decode (mB μ) pc = .ok (.lreturn, 1) ∧ mR μ = some .long)) →
    W p l e (rmOf d (mC μ) (mS μ)) s m args below meth c H locs (mC μ) (mS μ) Z (F0 m pc ls (v.toList.map (cv Γ)))
/-- from this frame on the method comes to its end, with Q -/
def AW (Γ : Gx) (d : Nat) (μ : MD) (Q : Option Value → St → Wd → Prop) (pc : Nat) (L : Lv) (S : List Value) (σ : St) (w : Wd) (cc zz : Nat) : Prop :=
  ∀ (p : Program) (l : Launch) (e : Env) (s : State) (m : MethodId) (args : Array Value) (below : List Frame) (meth : Method) (c : Code) (Z : State → Prop),
    Fx Γ μ p l s m meth c → RetOK Γ d μ Q p l e s m args below meth c Z → ∀ (H : Heap) (locs : List Loc) (ls : Array Slot), HR Γ σ w H → lcs Γ locs → lv_has ls (mL μ) (cL Γ L) → cc ≤ mC μ → zz ≤ mS μ →
    W p l e (rmOf d (mC μ) (mS μ)) s m args below meth c H locs cc zz Z (F0 m pc ls (S.map (cv Γ)))
/-- a method's contract: called so, it comes back, with Q -/
def Sp (Γ : Gx) (d : Nat) (μ : MD) (A : List Value) (σ : St) (w : Wd) (Q : Option Value → St → Wd → Prop) : Prop :=
  Met Γ.1 (mN μ) [Cond.code (mN μ) (mB μ) (mL μ) (mR μ)] (rmOf d (mC μ) (mS μ)) (fun args s => args = (A.map (cv Γ)).toArray ∧ HR Γ σ w s.heap ∧ GK Γ s)
    (fun _ _ o t => ∃ v σ' w', o = .returned (v.map (cv Γ)) ∧ HR Γ σ' w' t.heap ∧ Q v σ' w') (mC μ) (mS μ) (fun q => gz Γ ≤ q)
def SpI (Γ : Gx) (d : Nat) (μ : MD) (A : List Value) (σ : St) (w : Wd) (Q : Int32 → St → Prop) : Prop := Sp Γ d μ A σ w (fun v σ' w' => w' = w ∧ ∃ x, v = some (.int x) ∧ Q x σ')
def SpJ (Γ : Gx) (d : Nat) (μ : MD) (A : List Value) (σ : St) (w : Wd) (Q : Int64 → St → Prop) : Prop := Sp Γ d μ A σ w (fun v σ' w' => w' = w ∧ ∃ x, v = some (.long x) ∧ Q x σ')
def SpV (Γ : Gx) (d : Nat) (μ : MD) (A : List Value) (σ : St) (w : Wd) (Q : St → Prop) : Prop := Sp Γ d μ A σ w (fun v σ' w' => w' = w ∧ v = none ∧ Q σ')
def SpC (Γ : Gx) (d : Nat) (μ : MD) (A : List Value) (σ : St) (w : Wd) (Q : St → Wd → Prop) : Prop := Sp Γ d μ A σ w (fun v σ' w' => v = none ∧ Q σ' w')
def SpN (Γ : Gx) (d : Nat) (μ : MD) (A : List Value) (σ : St) (w : Wd) (Q : Int32 → St → Wd → Prop) : Prop := Sp Γ d μ A σ w (fun v σ' w' => ∃ x, v = some (.int x) ∧ Q x σ' w')
/-- the tables of a class: fields (class, place, kind), calls (0 virtual, 1 static, 2 special, 3 special to a nest mate), constants, classes to make, Object's constructor, arraycopy -/
abbrev Tb : Type := List (Nat × Nat × Nat × Nat) × List (Nat × Nat × MD) × List (Nat × Value) × List (Nat × Nat) × List Nat × List Nat
/-- a method's instructions: place, instruction, length, the constant that it bears, the place that it goes to, the place behind it -/
abbrev Is : Type := List (Nat × Instr × Nat × Int32 × Nat × Nat)
/-- its switches: place, cases, default; its cuts: place, locals that are kept there -/
abbrev Sw : Type := List (Nat × List (Int32 × Nat) × Nat)
abbrev Cu : Type := List (Nat × List Nat)
def okO (w : Wd) (o c : Nat) : Prop := o < w.1 ∧ (kd o).1 = c
def catS (S : List Value) : Nat := (S.map Value.category).sum
def putL1 (L : Lv) (i : Nat) (v : Value) : Lv := (i, v) :: L.filter (fun q => !(q.1 == i) && !(q.1 + 1 == i && q.2.category == 2))
def putL2 (L : Lv) (i : Nat) (v : Value) : Lv := (i, v) :: L.filter (fun q => !(q.1 == i) && (!(q.1 == i + 1) && !(q.1 + 1 == i && q.2.category == 2)))
/-- keep these locals alone, in this order -/
def pickL (ks : List Nat) (L : Lv) : Lv := ks.filterMap (fun k => (L.lookup k).map (fun v => (k, v)))
/-- instructions that work on the stack alone -/
def sop (i : Instr) (S : List Value) : Option (List Value) :=
  match i, S with
  | .lconst n, S => some (.long (if n.val = 0 then 0 else 1) :: S)
  | .iadd, .int y :: .int x :: S => some (.int (x + y) :: S)
  | .isub, .int y :: .int x :: S => some (.int (x - y) :: S)
  | .imul, .int y :: .int x :: S => some (.int (x * y) :: S)
  | .iand, .int y :: .int x :: S => some (.int (x &&& y) :: S)
  | .ior, .int y :: .int x :: S => some (.int (x ||| y) :: S)
  | .ixor, .int y :: .int x :: S => some (.int (x ^^^ y) :: S)
  | .ishl, .int y :: .int x :: S => some (.int (x <<< (y &&& 31)) :: S)
  | .ishr, .int y :: .int x :: S => some (.int (x >>> (y &&& 31)) :: S)
  | .iushr, .int y :: .int x :: S => some (.int (x.toUInt32 >>> (y.toUInt32 &&& Int32.toUInt32 31)).toInt32 :: S)
  | .ladd, .long y :: .long x :: S => some (.long (x + y) :: S)
  | .lsub, .long y :: .long x :: S => some (.long (x - y) :: S)
  | .lmul, .long y :: .long x :: S => some (.long (x * y) :: S)
  | .land, .long y :: .long x :: S => some (.long (x &&& y) :: S)
  | .lor, .long y :: .long x :: S => some (.long (x ||| y) :: S)
  | .lshl, .int y :: .long x :: S => some (.long (x <<< (y.toInt64 &&& 63)) :: S)
  | .lshr, .int y :: .long x :: S => some (.long (x >>> (y.toInt64 &&& 63)) :: S)
  | .lushr, .int y :: .long x :: S => some (.long (x.toUInt64 >>> (y.toInt64.toUInt64 &&& Int64.toUInt64 63)).toInt64 :: S)
  | .lcmp, .long y :: .long x :: S => some (.int (lg_cmp x y) :: S)
  | .i2l, .int x :: S => some (.long x.toInt64 :: S)
  | .l2i, .long x :: S => some (.int x.toInt32 :: S)
  | .i2b, .int x :: S => some (.int x.toInt8.toInt32 :: S)
  | .i2c, .int x :: S => some (.int (x.toUInt32 % 65536).toInt32 :: S)
  | .pop, .int _ :: S => some S
  | .dup, .int x :: S => some (.int x :: .int x :: S)
  | .dup, .ref x :: S => some (.ref x :: .ref x :: S)
  | .dup_x1, .int x :: .ref y :: S => some (.int x :: .ref y :: .int x :: S)
  | .dup2, .int x :: .ref y :: S => some (.int x :: .ref y :: .int x :: .ref y :: S)
  | _, _ => none
/-- a branch: taken A, else B -/
def bra (cn : ClassFile.Cond) (x y : Int32) (A B : Prop) : Prop :=
  match cn with
  | .eq => (x = y → A) ∧ (¬ x = y → B)
  | .ne => (¬ x = y → A) ∧ (x = y → B)
  | .lt => (x < y → A) ∧ (¬ x < y → B)
  | .ge => (y ≤ x → A) ∧ (¬ y ≤ x → B)
  | .gt => (y < x → A) ∧ (¬ y < x → B)
  | .le => (x ≤ y → A) ∧ (¬ x ≤ y → B)
def swP (x : Int32) (k : Nat → Prop) (dflt : Nat) : List (Int32 × Nat) → Prop
  | [] => k dflt
  | (v, t) :: r => (x = v → k t) ∧ (¬ x = v → swP x k dflt r)
/-- one step: what must hold for the frame behind it -/
def stp (Γ : Gx) (d : Nat) (μ : MD) (Q : Option Value → St → Wd → Prop) (T : Tb) (sw : Sw) (i : Instr) (cst : Int32) (tgt nx : Nat) (pc : Nat) (L : Lv) (S : List Value) (σ : St) (w : Wd) (cc zz : Nat) (k : Nat → Lv → List Value → St → Wd → Nat → Nat → Prop) : Prop :=
  match sop i S with
  | some S' => k nx L S' σ w cc zz
  | none =>
  match i, S with
  | .iconst _, S => k nx L (.int cst :: S) σ w cc zz
  | .bipush _, S => k nx L (.int cst :: S) σ w cc zz
  | .sipush _, S => k nx L (.int cst :: S) σ w cc zz
  | .iload n, S => match L.lookup n with
    | some (.int x) => k nx L (.int x :: S) σ w cc zz
    | _ => False
  | .iload_n n, S => match L.lookup n.val with
    | some (.int x) => k nx L (.int x :: S) σ w cc zz
    | _ => False
  | .lload n, S => match L.lookup n with
    | some (.long x) => k nx L (.long x :: S) σ w cc zz
    | _ => False
  | .lload_n n, S => match L.lookup n.val with
    | some (.long x) => k nx L (.long x :: S) σ w cc zz
    | _ => False
  | .aload n, S => match L.lookup n with
    | some (.ref x) => k nx L (.ref x :: S) σ w cc zz
    | some (.retAddr x) => k nx L (.retAddr x :: S) σ w cc zz
    | _ => False
  | .aload_n n, S => match L.lookup n.val with
    | some (.ref x) => k nx L (.ref x :: S) σ w cc zz
    | some (.retAddr x) => k nx L (.retAddr x :: S) σ w cc zz
    | _ => False
  | .istore n, .int x :: S => if n < mL μ then k nx (putL1 L n (.int x)) S σ w cc zz else False
  | .istore_n n, .int x :: S => if n.val < mL μ then k nx (putL1 L n.val (.int x)) S σ w cc zz else False
  | .astore n, .ref x :: S => if n < mL μ then k nx (putL1 L n (.ref x)) S σ w cc zz else False
  | .astore_n n, .ref x :: S => if n.val < mL μ then k nx (putL1 L n.val (.ref x)) S σ w cc zz else False
  | .lstore n, .long x :: S => if n + 1 < mL μ then k nx (putL2 L n (.long x)) S σ w cc zz else False
  | .lstore_n n, .long x :: S => if n.val + 1 < mL μ then k nx (putL2 L n.val (.long x)) S σ w cc zz else False
  | .iinc n _, S => match L.lookup n with
    | some (.int x) => if n < mL μ then k nx (putL1 L n (.int (x + cst))) S σ w cc zz else False
    | _ => False
  | .idiv, .int y :: .int x :: S => ¬ y = 0 ∧ k nx L (.int (x / y) :: S) σ w cc zz
  | .irem, .int y :: .int x :: S => ¬ y = 0 ∧ k nx L (.int (x - x / y * y) :: S) σ w cc zz
  | .goto _, S => k tgt L S σ w cc zz
  | .ifCond cn _, .int x :: S => bra cn x 0 (k tgt L S σ w cc zz) (k nx L S σ w cc zz)
  | .if_icmp cn _, .int y :: .int x :: S => bra cn x y (k tgt L S σ w cc zz) (k nx L S σ w cc zz)
  | .ifnull _, .ref _ :: S => k nx L S σ w cc zz
  | .ifnull _, .null :: S => k tgt L S σ w cc zz
  | .ifnonnull _, .ref _ :: S => k tgt L S σ w cc zz
  | .ifnonnull _, .null :: S => k nx L S σ w cc zz
  | .tableswitch _ _ _ _, .int x :: S => match sw.lookup pc with
    | some (cs, df) => swP x (fun t => k t L S σ w cc zz) df cs
    | none => False
  | .ldc n, S => match T.2.2.1.lookup n with
    | some (.int x) => k nx L (.int x :: S) σ w cc zz
    | some (.retAddr x) => k nx L (.retAddr x :: S) σ w cc zz
    | _ => False
  | .ldc_w n, S => match T.2.2.1.lookup n with
    | some (.int x) => k nx L (.int x :: S) σ w cc zz
    | _ => False
  | .ldc2_w n, S => match T.2.2.1.lookup n with
    | some (.long x) => k nx L (.long x :: S) σ w cc zz
    | _ => False
  | .getfield n, .ref o :: S => match T.1.lookup n with
    | some (ci, f, 1) => okO w o ci ∧ k nx L (.long (gJ σ o f) :: S) σ w cc zz
    | some (ci, f, 2) => okO w o ci ∧ ∃ r, w.2 o f = some r ∧ k nx L (.ref r :: S) σ w cc zz
    | some (ci, f, 3) => okO w o ci ∧ (∀ r, gR σ o f = some r → k nx L (.ref r :: S) σ w cc zz) ∧ (gR σ o f = none → k nx L (.null :: S) σ w cc zz)
    | some (ci, f, 0) => okO w o ci ∧ k nx L (.int (gI σ o f) :: S) σ w cc zz
    | some (ci, f, 4) => okO w o ci ∧ k nx L (.int (gI σ o f) :: S) σ w cc zz
    | _ => False
  | .getfield n, .retAddr x :: S => match T.1.lookup n with
    | some (_, _, 7) => 1 ≤ x ∧ x ≤ 9 ∧ k nx L (.retAddr (x + 19) :: S) σ w cc zz
    | some (_, _, 8) => 1 ≤ x ∧ x ≤ 9 ∧ k nx L (.int 0 :: S) σ w cc zz
    | _ => False
  | .getstatic n, S => match T.1.lookup n with
    | some (_, _, 9) => k nx L (.int 1 :: S) σ w cc zz
    | some (_, _, 10) => k nx L (.null :: S) σ w cc zz ∧ k nx L (.retAddr 40 :: S) σ w cc zz
    | _ => False
  | .putfield n, .int v :: .ref o :: S => match T.1.lookup n with
    | some (ci, f, 0) => okO w o ci ∧ k nx L S (uI σ o f v) w cc zz
    | some (ci, f, 4) => okO w o ci ∧ (v = 0 ∨ v = 1) ∧ k nx L S (uI σ o f v) w cc zz
    | _ => False
  | .putfield n, .long v :: .ref o :: S => match T.1.lookup n with
    | some (ci, f, 1) => okO w o ci ∧ k nx L S (uJ σ o f v) w cc zz
    | _ => False
  | .putfield n, .ref r :: .ref o :: S => match T.1.lookup n with
    | some (ci, f, 2) => okO w o ci ∧ ((mN μ).name = "<init>" ∧ vwCl[ci]?.map (fun q => q.1) = some (mN μ).cls) ∧ k nx L S σ (uW w o f (some r)) cc zz
    | some (ci, f, 3) => okO w o ci ∧ k nx L S (uR σ o f (some r)) w cc zz
    | _ => False
  | .iaload, .int j :: .ref a :: S => okO w a 20 ∧ vp_in j (kd a).2 ∧ k nx L (.int (gI σ a j.toNatClampNeg) :: S) σ w cc zz
  | .iaload, .int j :: .retAddr 0 :: S => vp_in j (xN Γ) ∧ k nx L (.int (xS Γ j.toNatClampNeg) :: S) σ w cc zz
  | .laload, .int j :: .ref a :: S => okO w a 21 ∧ vp_in j (kd a).2 ∧ k nx L (.long (gJ σ a j.toNatClampNeg) :: S) σ w cc zz
  | .baload, .int j :: .ref a :: S => a < w.1 ∧ ((kd a).1 = 22 ∨ (kd a).1 = 23) ∧ vp_in j (kd a).2 ∧ k nx L (.int (gI σ a j.toNatClampNeg) :: S) σ w cc zz
  | .aaload, .int j :: .ref a :: S => a < w.1 ∧ 24 ≤ (kd a).1 ∧ (kd a).1 ≤ 28 ∧ vp_in j (kd a).2 ∧ ∃ r, w.2 a j.toNatClampNeg = some r ∧ k nx L (.ref r :: S) σ w cc zz
  | .iastore, .int v :: .int j :: .ref a :: S => okO w a 20 ∧ vp_in j (kd a).2 ∧ k nx L S (uI σ a j.toNatClampNeg v) w cc zz
  | .lastore, .long v :: .int j :: .ref a :: S => okO w a 21 ∧ vp_in j (kd a).2 ∧ k nx L S (uJ σ a j.toNatClampNeg v) w cc zz
  | .bastore, .int v :: .int j :: .ref a :: S => a < w.1 ∧ (((kd a).1 = 22 ∧ v.toInt8.toInt32 = v) ∨ ((kd a).1 = 23 ∧ v &&& 1 = v)) ∧ vp_in j (kd a).2 ∧ k nx L S (uI σ a j.toNatClampNeg v) w cc zz
  | .aastore, .ref r :: .int j :: .ref a :: S => a < w.1 ∧ r < w.1 ∧ (((kd a).1 = 24 ∧ (kd r).1 = 7) ∨ ((kd a).1 = 25 ∧ (kd r).1 = 10) ∨ ((kd a).1 = 26 ∧ (kd r).1 = 5) ∨ ((kd a).1 = 27 ∧ (kd r).1 = 6)) ∧ vp_in j (kd a).2 ∧ k nx L S σ (uW w a j.toNatClampNeg (some r)) cc zz
  | .arraylength, .ref a :: S => a < w.1 ∧ 20 ≤ (kd a).1 ∧ (kd a).1 ≤ 28 ∧ k nx L (.int (nI (kd a).2) :: S) σ w cc zz
  | .arraylength, .retAddr 0 :: S => k nx L (.int (nI (xN Γ)) :: S) σ w cc zz
  | .arraylength, .retAddr y :: S => 20 ≤ y ∧ y ≤ 28 ∧ k nx L (.int (nI (txL.getD (y - 20) 0)) :: S) σ w cc zz
  | .baload, .int j :: .retAddr y :: S => 20 ≤ y ∧ y ≤ 28 ∧ vp_in j (txL.getD (y - 20) 0) ∧ k nx L (.int ((txB.getD (y - 20) []).getD j.toNatClampNeg 0) :: S) σ w cc zz
  | .new n, S => match T.2.2.2.1.lookup n with
    | some ci => ((kd w.1).1 = ci ∧ ci < 20) ∧ cc + 1 ≤ mC μ ∧ zz + (kd w.1).2 ≤ mS μ ∧ k nx L (.ref w.1 :: S) (zS σ w.1) (zW w) (cc + 1) (zz + (kd w.1).2)
    | none => False
  | .newarray ty, .int n :: S => ((kd w.1).1 = 20 ∧ ty = .int ∨ (kd w.1).1 = 21 ∧ ty = .long ∨ (kd w.1).1 = 22 ∧ ty = .byte ∨ (kd w.1).1 = 23 ∧ ty = .boolean) ∧ ¬ n < 0 ∧ (kd w.1).2 = n.toNatClampNeg ∧ cc + 1 ≤ mC μ ∧ zz + (kd w.1).2 ≤ mS μ ∧ k nx L (.ref w.1 :: S) (zS σ w.1) (zW w) (cc + 1) (zz + (kd w.1).2)
  | .anewarray n, .int j :: S => match T.2.2.2.1.lookup (n + 100000) with
    | some t => (kd w.1).1 = t ∧ 24 ≤ t ∧ t ≤ 27 ∧ ¬ j < 0 ∧ (kd w.1).2 = j.toNatClampNeg ∧ cc + 1 ≤ mC μ ∧ zz + (kd w.1).2 ≤ mS μ ∧ k nx L (.ref w.1 :: S) (zS σ w.1) (zW w) (cc + 1) (zz + (kd w.1).2)
    | none => False
  | .multianewarray n 2, .int b :: .int a :: S => match T.2.2.2.1.lookup n with
    | some 28 => kd w.1 = (28, a.toNatClampNeg) ∧ (∀ i, i < a.toNatClampNeg → kd (w.1 + 1 + i) = (20, b.toNatClampNeg)) ∧ ¬ a < 0 ∧ ¬ b < 0 ∧ a.toNatClampNeg ≤ 1000 ∧ b.toNatClampNeg ≤ 1000 ∧ cc + (1 + a.toNatClampNeg) ≤ mC μ ∧ zz + (a.toNatClampNeg + a.toNatClampNeg * b.toNatClampNeg) ≤ mS μ ∧
      k nx L (.ref w.1 :: S) (zM σ w.1 (1 + a.toNatClampNeg)) (gM w a.toNatClampNeg) (cc + 1 + a.toNatClampNeg) (zz + a.toNatClampNeg + a.toNatClampNeg * b.toNatClampNeg)
    | _ => False
  | .invokespecial n, .ref o :: S => if T.2.2.2.2.1.contains n then 1 ≤ d ∧ catS S ≤ 8 ∧ k nx L S σ w cc zz else
    match T.2.1.lookup n, d with
    | some (2, ν), d + 1 => mA ν = 0 ∧ catS S ≤ 8 ∧ cc + mC ν ≤ mC μ ∧ zz + mS ν ≤ mS μ ∧ SpC Γ d ν [.ref o] σ w (fun σ' w' => k nx L S σ' w' (cc + mC ν) (zz + mS ν))
    | some (3, ν), d + 1 => mA ν = 0 ∧ catS S ≤ 8 ∧ cc + mC ν ≤ mC μ ∧ zz + mS ν ≤ mS μ ∧ SpC Γ d ν [.ref o] σ w (fun σ' w' => k nx L S σ' w' (cc + mC ν) (zz + mS ν))
    | _, _ => False
  | .invokespecial n, .int x :: .ref o :: S => match T.2.1.lookup n, d with
    | some (2, ν), d + 1 => mA ν = 1 ∧ catS S ≤ 8 ∧ cc + mC ν ≤ mC μ ∧ zz + mS ν ≤ mS μ ∧ SpC Γ d ν [.ref o, .int x] σ w (fun σ' w' => k nx L S σ' w' (cc + mC ν) (zz + mS ν))
    | _, _ => False
  | .invokestatic n, S => match T.2.1.lookup n, d with
    | some (4, _), d + 1 => (match S with
      | .int n :: .int dp :: .ref b :: .int sp :: .ref a :: S => okO w a 20 ∧ okO w b 20 ∧ ¬ sp < 0 ∧ ¬ dp < 0 ∧ ¬ n < 0 ∧ sp.toNatClampNeg + n.toNatClampNeg ≤ (kd a).2 ∧ dp.toNatClampNeg + n.toNatClampNeg ≤ (kd b).2 ∧ catS S ≤ 8 ∧
        k nx L S (cS σ a b sp.toNatClampNeg dp.toNatClampNeg n.toNatClampNeg) w cc zz
      | _ => False)
    | some (1, ν), d + 1 => mA ν ≤ S.length ∧ catS (S.drop (mA ν)) ≤ 8 ∧ (match mK ν with
      | 0 => SpV Γ d ν (S.take (mA ν)).reverse σ w (fun σ' => k nx L (S.drop (mA ν)) σ' w cc zz)
      | 1 => SpI Γ d ν (S.take (mA ν)).reverse σ w (fun x σ' => k nx L (.int x :: S.drop (mA ν)) σ' w cc zz)
      | 2 => SpJ Γ d ν (S.take (mA ν)).reverse σ w (fun x σ' => k nx L (.long x :: S.drop (mA ν)) σ' w cc zz)
      | _ => False)
    | some (6, ν), d + 1 => mA ν ≤ S.length ∧ catS (S.drop (mA ν)) ≤ 8 ∧ (match mK ν with
      | 0 => SpV Γ d ν (S.take (mA ν)).reverse σ w (fun σ' => k nx L (S.drop (mA ν)) σ' w cc zz)
      | 1 => SpI Γ d ν (S.take (mA ν)).reverse σ w (fun x σ' => k nx L (.int x :: S.drop (mA ν)) σ' w cc zz)
      | 2 => SpJ Γ d ν (S.take (mA ν)).reverse σ w (fun x σ' => k nx L (.long x :: S.drop (mA ν)) σ' w cc zz)
      | _ => False)
    | _, _ => False
  | .invokevirtual n, S => match T.2.1.lookup n, d with
    | some (0, ν), d + 1 => (match S.drop (mA ν) with
      | .ref o :: R => okO w o (mO ν) ∧ catS R ≤ 8 ∧ (match mK ν with
        | 0 => SpV Γ d ν (.ref o :: (S.take (mA ν)).reverse) σ w (fun σ' => k nx L R σ' w cc zz)
        | 1 => SpI Γ d ν (.ref o :: (S.take (mA ν)).reverse) σ w (fun x σ' => k nx L (.int x :: R) σ' w cc zz)
        | 2 => SpJ Γ d ν (.ref o :: (S.take (mA ν)).reverse) σ w (fun x σ' => k nx L (.long x :: R) σ' w cc zz)
        | 4 => cc + mC ν ≤ mC μ ∧ zz + mS ν ≤ mS μ ∧ SpN Γ d ν (.ref o :: (S.take (mA ν)).reverse) σ w (fun x σ' w' => k nx L (.int x :: R) σ' w' (cc + mC ν) (zz + mS ν))
        | _ => False)
      | _ => False)
    | some (5, ν), d + 1 => (match S.drop (mA ν) with
      | .retAddr x :: R => 1 ≤ x ∧ x ≤ 9 ∧ catS R ≤ 8 ∧ (match mK ν with
        | 1 => SpI Γ d ν (.retAddr x :: (S.take (mA ν)).reverse) σ w (fun x σ' => k nx L (.int x :: R) σ' w cc zz)
        | _ => False)
      | _ => False)
    | _, _ => False
  | .ireturn, .int x :: [] => (match mR μ with
    | some ty => narrow ty (.int x) = .int x ∧ Q (some (.int x)) σ w
    | none => False)
  | .lreturn, .long x :: [] => mR μ = some .long ∧ Q (some (.long x)) σ w
  | .return_, [] => mR μ = none ∧ Q none σ w
  | _, _ => False
/-- n steps; where a cut is met, or the steps are used up, the frame itself is asked for -/
def wp (Γ : Gx) (d : Nat) (μ : MD) (Q : Option Value → St → Wd → Prop) (T : Tb) (is : Is) (sw : Sw) (cu : Cu) : Nat → Nat → Lv → List Value → St → Wd → Nat → Nat → Prop
  | 0, pc, L, S, σ, w, cc, zz => AW Γ d μ Q pc L S σ w cc zz
  | n + 1, pc, L, S, σ, w, cc, zz => match is.lookup pc with
    | none => False
    | some (i, _, cst, tgt, nx) => stp Γ d μ Q T sw i cst tgt nx pc L S σ w cc zz (fun pc' L' S' σ' w' cc' zz' => match cu.lookup pc' with
      | some ks => AW Γ d μ Q pc' (pickL ks L') S' σ' w' cc' zz'
      | none => wp Γ d μ Q T is sw cu n pc' L' S' σ' w' cc' zz')
end
section
/-! the engine's rows: one for each kind of instruction -/
theorem lk_mem {L : Lv} {n : Nat} {v : Value} (h : L.lookup n = some v) : (n, v) ∈ L := by
  induction L with
  | nil => simp [List.lookup] at h
  | cons q r ih =>
    obtain ⟨a, b⟩ := q
    by_cases e : n = a
    · subst e
      simp [List.lookup] at h
      subst h
      exact List.mem_cons_self
    · have : (n == a) = false := by simp [e]
      simp [List.lookup, this] at h
      exact List.mem_cons_of_mem _ (ih h)
theorem lk_at {Γ : Gx} {ls : Array Slot} {nL n : Nat} {L : Lv} {v : Value} (hl : lv_has ls nL (cL Γ L)) (h : L.lookup n = some v) : ls[n]? = some (.val (cv Γ v)) :=
  hl.2.2 (n, cv Γ v) (List.mem_map.mpr ⟨(n, v), lk_mem h, rfl⟩)
theorem lk_pick {Γ : Gx} {ls : Array Slot} {nL : Nat} {L : Lv} (ks : List Nat) (hl : lv_has ls nL (cL Γ L)) : lv_has ls nL (cL Γ (pickL ks L)) := by
  refine ⟨hl.1, hl.2.1, fun q hq => ?_⟩
  obtain ⟨q', h1, rfl⟩ := List.mem_map.mp hq
  obtain ⟨k, -, h2⟩ := List.mem_filterMap.mp h1
  cases h3 : L.lookup k with
  | none => rw [h3] at h2; cases h2
  | some v =>
    rw [h3] at h2
    cases h2
    exact lk_at hl h3
theorem cL_put1 (Γ : Gx) (L : Lv) (i : Nat) (v : Value) : (i, cv Γ v) :: (cL Γ L).filter (fun q => !(q.1 == i) && !(q.1 + 1 == i && q.2.category == 2)) = cL Γ (putL1 L i v) := by
  unfold putL1 cL
  rw [List.map_cons, List.filter_map]
  congr 2
  apply List.filter_congr
  intro q _
  simp [Function.comp, cv_cat]
theorem cL_put2 (Γ : Gx) (L : Lv) (i : Nat) (v : Value) : (i, cv Γ v) :: (cL Γ L).filter (fun q => !(q.1 == i) && (!(q.1 == i + 1) && !(q.1 + 1 == i && q.2.category == 2))) = cL Γ (putL2 L i v) := by
  unfold putL2 cL
  rw [List.map_cons, List.filter_map]
  congr 2
  apply List.filter_congr
  intro q _
  simp [Function.comp, cv_cat]
theorem AW.pick {Γ : Gx} {d : Nat} {μ : MD} {Q : Option Value → St → Wd → Prop} {pc : Nat} {L : Lv} {S : List Value} {σ : St} {w : Wd} {cc zz : Nat} (ks : List Nat) (h : AW Γ d μ Q pc (pickL ks L) S σ w cc zz) : AW Γ d μ Q pc L S σ w cc zz :=
  fun p l e s m args below meth c Z hF hR H locs ls hH hlo hl hc hz => h p l e s m args below meth c Z hF hR H locs ls hH hlo (lk_pick ks hl) hc hz
/-- a field's type, its kind -/
def ftk (t : Option FieldType) (kn : Nat) : Bool := match t, kn with
  | some .int, 0 => true
  | some .long, 1 => true
  | some (.object _), 2 => true
  | some (.array _), 2 => true
  | some (.object _), 3 => true
  | some .boolean, 4 => true
  | _, _ => false
/-- the words of a table: its check by program -/
def fCk (C : String) (q : Nat × Nat × Nat × Nat) (wi : Nat) : Bool := match vwCl[q.2.1]? with
  | some (R, T, N) => decide (q.2.2.1 < N) && decide (lw_tbl[wi]? = some (.fieldLink C q.1 R (T q.2.2.1).2.1 (T q.2.2.1).2.2.1)) && decide ((T q.2.2.1).1 = R) && decide (fk q.2.1 q.2.2.1 = q.2.2.2) && ((T q.2.2.1).2.2.2 == decide (q.2.2.2 = 2)) &&
    ftk (parseFieldDescriptor (T q.2.2.1).2.2.1) q.2.2.2
  | none => false
/-- of a row of instructions -/
def iCk (bs : ByteArray) (q : Nat × Instr × Nat × Int32 × Nat × Nat) : Bool := decide (decode bs q.1 = .ok (q.2.1, q.2.2.1)) && decide (q.1 + q.2.2.1 = q.2.2.2.2.2) && (match q.2.1 with
  | .iconst n => decide (Int32.ofInt n = q.2.2.2.1) && decide (q.2.2.1 = 1)
  | .bipush n => decide ((Int8.ofInt n).toInt32 = q.2.2.2.1) && decide (q.2.2.1 = 2)
  | .sipush n => decide ((Int16.ofInt n).toInt32 = q.2.2.2.1) && decide (q.2.2.1 = 3)
  | .iinc _ n => decide (Int32.ofInt n = q.2.2.2.1) && decide (q.2.2.1 = 3)
  | .goto o => decide ((q.1 : Int) + o = (q.2.2.2.2.1 : Int)) && decide (q.2.2.1 = 3)
  | .ifCond _ o => decide ((q.1 : Int) + o = (q.2.2.2.2.1 : Int)) && decide (q.2.2.1 = 3)
  | .if_icmp _ o => decide ((q.1 : Int) + o = (q.2.2.2.2.1 : Int)) && decide (q.2.2.1 = 3)
  | .ifnull o => decide ((q.1 : Int) + o = (q.2.2.2.2.1 : Int)) && decide (q.2.2.1 = 3)
  | .ifnonnull o => decide ((q.1 : Int) + o = (q.2.2.2.2.1 : Int)) && decide (q.2.2.1 = 3)
  | .iload _ => decide (q.2.2.1 = 2)
  | .lload _ => decide (q.2.2.1 = 2)
  | .aload _ => decide (q.2.2.1 = 2)
  | .istore _ => decide (q.2.2.1 = 2)
  | .lstore _ => decide (q.2.2.1 = 2)
  | .astore _ => decide (q.2.2.1 = 2)
  | .getfield _ => decide (q.2.2.1 = 3)
  | .getstatic _ => decide (q.2.2.1 = 3)
  | .putfield _ => decide (q.2.2.1 = 3)
  | .invokespecial _ => decide (q.2.2.1 = 3)
  | .invokestatic _ => decide (q.2.2.1 = 3)
  | .invokevirtual _ => decide (q.2.2.1 = 3)
  | .new _ => decide (q.2.2.1 = 3)
  | .anewarray _ => decide (q.2.2.1 = 3)
  | .newarray _ => decide (q.2.2.1 = 2)
  | .multianewarray _ _ => decide (q.2.2.1 = 4)
  | .ldc _ => decide (q.2.2.1 = 2)
  | .ldc_w _ => decide (q.2.2.1 = 3)
  | .ldc2_w _ => decide (q.2.2.1 = 3)
  | .tableswitch _ _ _ _ => true
  | _ => decide (q.2.2.1 = 1))
theorem lc2 : ∀ n : Fin 2, Int64.ofNat (n : Nat) = if n.val = 0 then 0 else 1 := by decide
section Rows
variable {Γ : Gx} {d : Nat} {μ : MD} {Q : Option Value → St → Wd → Prop} {pc : Nat} {L : Lv} {S : List Value} {σ : St} {w : Wd} {cc zz : Nat}
set_option maxHeartbeats 1000000 in
theorem aw_sop {i : Instr} {S S' : List Value} (hd : decode (mB μ) pc = .ok (i, 1)) (h : sop i S = some S') (k : AW Γ d μ Q (pc + 1) L S' σ w cc zz) : AW Γ d μ Q pc L S σ w cc zz := by
  intro p l e s m args below meth c Z hF hR H locs ls hH hlo hl hc hz
  have kk := k p l e s m args below meth c Z hF hR H locs ls hH hlo hl hc hz
  obtain ⟨hx, hb, -⟩ := hF
  unfold sop at h
  split at h <;> first | (cases h; done) | (injection h with h; subst h)
  · exact lv_lconst (n := _) hx hb hd (lc2 _) kk
  · exact lv_iadd hx hb hd kk
  · exact lv_isub hx hb hd kk
  · exact lv_imul hx hb hd kk
  · exact lv_iand hx hb hd kk
  · exact lv_ior hx hb hd kk
  · exact lv_ixor hx hb hd kk
  · exact lv_ishl hx hb hd kk
  · exact lv_ishr hx hb hd kk
  · exact lv_iushr hx hb hd rfl kk
  · exact lv_ladd hx hb hd kk
  · exact lv_lsub hx hb hd kk
  · exact lv_lmul hx hb hd kk
  · exact lv_land hx hb hd kk
  · exact lv_lor hx hb hd kk
  · exact lv_lshl hx hb hd rfl kk
  · exact lv_lshr hx hb hd rfl kk
  · exact lv_lushr hx hb hd rfl kk
  · exact W.lcmp hx hb hd kk
  · exact lv_i2l hx hb hd rfl kk
  · exact lv_l2i hx hb hd rfl kk
  · exact lv_i2b hx hb hd rfl kk
  · exact lv_i2c hx hb hd rfl kk
  · exact lv_pop hx hb hd rfl kk
  · exact lv_dup hx hb hd rfl kk
  · exact lv_dup hx hb hd rfl kk
  · exact lv_dup_x1 hx hb hd rfl rfl kk
  · exact lv_dup2_11 hx hb hd rfl rfl kk
theorem aw_cst {i : Instr} {len : Nat} {v : Int32} (hd : decode (mB μ) pc = .ok (i, len)) (h : (∃ n, i = .iconst n ∧ Int32.ofInt n = v ∧ len = 1) ∨ (∃ n, i = .bipush n ∧ (Int8.ofInt n).toInt32 = v ∧ len = 2) ∨ (∃ n, i = .sipush n ∧ (Int16.ofInt n).toInt32 = v ∧ len = 3)) (k : AW Γ d μ Q (pc + len) L (.int v :: S) σ w cc zz) : AW Γ d μ Q pc L S σ w cc zz := by
  intro p l e s m args below meth c Z hF hR H locs ls hH hlo hl hc hz
  have kk := k p l e s m args below meth c Z hF hR H locs ls hH hlo hl hc hz
  obtain ⟨hx, hb, -⟩ := hF
  rcases h with ⟨n, rfl, hv, rfl⟩ | ⟨n, rfl, hv, rfl⟩ | ⟨n, rfl, hv, rfl⟩
  · exact lv_iconst hx hb hd hv kk
  · exact lv_bipush hx hb hd hv kk
  · exact lv_sipush hx hb hd hv kk
theorem aw_load {i : Instr} {len n : Nat} {v : Value} (hd : decode (mB μ) pc = .ok (i, len)) (hv : L.lookup n = some v)
    (h : (∃ x, v = .int x ∧ ((i = .iload n ∧ len = 2) ∨ ∃ q : Fin 4, q.val = n ∧ i = .iload_n q ∧ len = 1)) ∨ (∃ x, v = .long x ∧ ((i = .lload n ∧ len = 2) ∨ ∃ q : Fin 4, q.val = n ∧ i = .lload_n q ∧ len = 1)) ∨ ((∃ x, v = .ref x ∨ v = .retAddr x) ∧ ((i = .aload n ∧ len = 2) ∨ ∃ q : Fin 4, q.val = n ∧ i = .aload_n q ∧ len = 1)))
    (k : AW Γ d μ Q (pc + len) L (v :: S) σ w cc zz) : AW Γ d μ Q pc L S σ w cc zz := by
  intro p l e s m args below meth c Z hF hR H locs ls hH hlo hl hc hz
  have kk := k p l e s m args below meth c Z hF hR H locs ls hH hlo hl hc hz
  obtain ⟨hx, hb, -⟩ := hF
  have ha := lk_at hl hv
  rcases h with ⟨x, rfl, ⟨rfl, rfl⟩ | ⟨q, hq, rfl, rfl⟩⟩ | ⟨x, rfl, ⟨rfl, rfl⟩ | ⟨q, hq, rfl, rfl⟩⟩ | ⟨⟨x, rfl | rfl⟩, ⟨rfl, rfl⟩ | ⟨q, hq, rfl, rfl⟩⟩
  · exact lv_iload hx hb hd ha kk
  · exact lv_iload_n hx hb hd hq ha kk
  · exact lv_lload hx hb hd ha kk
  · exact lv_lload_n hx hb hd hq ha kk
  · exact lv_aload hx hb hd ha kk
  · exact lv_aload_n hx hb hd hq ha kk
  · exact lv_aload hx hb hd ha kk
  · exact lv_aload_n hx hb hd hq ha kk
theorem aw_store1 {i : Instr} {len n : Nat} {v : Value} (hd : decode (mB μ) pc = .ok (i, len)) (hn : n < mL μ)
    (h : (∃ x, v = .int x ∧ ((i = .istore n ∧ len = 2) ∨ ∃ q : Fin 4, q.val = n ∧ i = .istore_n q ∧ len = 1)) ∨ (∃ x, v = .ref x ∧ ((i = .astore n ∧ len = 2) ∨ ∃ q : Fin 4, q.val = n ∧ i = .astore_n q ∧ len = 1)))
    (k : AW Γ d μ Q (pc + len) (putL1 L n v) S σ w cc zz) : AW Γ d μ Q pc L (v :: S) σ w cc zz := by
  intro p l e s m args below meth c Z hF hR H locs ls hH hlo hl hc hz
  have kk := fun ls hl => k p l e s m args below meth c Z hF hR H locs ls hH hlo hl hc hz
  obtain ⟨hx, hb, -⟩ := hF
  have e := cL_put1 Γ L n v
  rcases h with ⟨x, rfl, ⟨rfl, rfl⟩ | ⟨q, hq, rfl, rfl⟩⟩ | ⟨x, rfl, ⟨rfl, rfl⟩ | ⟨q, hq, rfl, rfl⟩⟩
  · exact lv_istore hx hb hd hl hn e kk
  · exact lv_istore_n hx hb hd hq hl hn e kk
  · exact lv_astore hx hb hd hl hn e kk
  · exact lv_astore_n hx hb hd hq hl hn e kk
theorem aw_store2 {i : Instr} {len n : Nat} {x : Int64} (hd : decode (mB μ) pc = .ok (i, len)) (hn : n + 1 < mL μ)
    (h : (i = .lstore n ∧ len = 2) ∨ ∃ q : Fin 4, q.val = n ∧ i = .lstore_n q ∧ len = 1)
    (k : AW Γ d μ Q (pc + len) (putL2 L n (.long x)) S σ w cc zz) : AW Γ d μ Q pc L (.long x :: S) σ w cc zz := by
  intro p l e s m args below meth c Z hF hR H locs ls hH hlo hl hc hz
  have kk := fun ls hl => k p l e s m args below meth c Z hF hR H locs ls hH hlo hl hc hz
  obtain ⟨hx, hb, -⟩ := hF
  have e := cL_put2 Γ L n (.long x)
  rcases h with ⟨rfl, rfl⟩ | ⟨q, hq, rfl, rfl⟩
  · exact lv_lstore hx hb hd hl hn e kk
  · exact lv_lstore_n hx hb hd hq hl hn e kk
theorem lk_place {L : Lv} {n : Nat} {v : Value} (h : L.lookup n = some v) : ∃ j : Nat, L[j]? = some (n, v) := List.getElem?_of_mem (lk_mem h)
theorem aw_iinc {n : Nat} {a : Int} {x v : Int32} (hd : decode (mB μ) pc = .ok (.iinc n a, 3)) (hn : n < mL μ) (hx0 : L.lookup n = some (.int x)) (hv : Int32.ofInt a = v) (k : AW Γ d μ Q (pc + 3) (putL1 L n (.int (x + v))) S σ w cc zz) : AW Γ d μ Q pc L S σ w cc zz := by
  intro p l e s m args below meth c Z hF hR H locs ls hH hlo hl hc hz
  have kk := fun ls hl => k p l e s m args below meth c Z hF hR H locs ls hH hlo hl hc hz
  obtain ⟨hx, hb, -⟩ := hF
  obtain ⟨j, hj⟩ := lk_place hx0
  have hj' : (cL Γ L)[j]? = some (n, .int x) := by unfold cL; rw [List.getElem?_map, hj]; rfl
  exact lv_iinc (k := j) hx hb hd hl hj' (by rw [hv]) hn (cL_put1 Γ L n (.int (x + v))) kk
theorem aw_goto {o : Int} {t : Nat} (hd : decode (mB μ) pc = .ok (.goto o, 3)) (ht : (pc : Int) + o = (t : Int)) (k : AW Γ d μ Q t L S σ w cc zz) : AW Γ d μ Q pc L S σ w cc zz := by
  intro p l e s m args below meth c Z hF hR H locs ls hH hlo hl hc hz
  have kk := k p l e s m args below meth c Z hF hR H locs ls hH hlo hl hc hz
  exact lv_goto hF.1 hF.2.1 hd ht kk
theorem aw_icmp {cn : ClassFile.Cond} {o : Int} {t : Nat} {x y : Int32} (hd : decode (mB μ) pc = .ok (.if_icmp cn o, 3)) (ht : (pc : Int) + o = (t : Int)) (k : bra cn x y (AW Γ d μ Q t L S σ w cc zz) (AW Γ d μ Q (pc + 3) L S σ w cc zz)) : AW Γ d μ Q pc L (.int y :: .int x :: S) σ w cc zz := by
  intro p l e s m args below meth c Z hF hR H locs ls hH hlo hl hc hz
  have go : ∀ {pc : Nat}, AW Γ d μ Q pc L S σ w cc zz → W p l e (rmOf d (mC μ) (mS μ)) s m args below meth c H locs cc zz Z (F0 m pc ls (S.map (cv Γ))) := fun k => k p l e s m args below meth c Z hF hR H locs ls hH hlo hl hc hz
  obtain ⟨hx, hb, -⟩ := hF
  cases cn
  · exact lv_icmp_eq hx hb hd ht (fun q => go (k.1 q)) (fun q => go (k.2 q))
  · exact lv_icmp_ne hx hb hd ht (fun q => go (k.1 q)) (fun q => go (k.2 q))
  · exact lv_icmp_lt hx hb hd ht (fun q => go (k.1 q)) (fun q => go (k.2 q))
  · exact lv_icmp_ge hx hb hd ht (fun q => go (k.1 q)) (fun q => go (k.2 q))
  · exact lv_icmp_gt hx hb hd ht (fun q => go (k.1 q)) (fun q => go (k.2 q))
  · exact lv_icmp_le hx hb hd ht (fun q => go (k.1 q)) (fun q => go (k.2 q))
theorem aw_if {cn : ClassFile.Cond} {o : Int} {t : Nat} {x : Int32} (hd : decode (mB μ) pc = .ok (.ifCond cn o, 3)) (ht : (pc : Int) + o = (t : Int)) (k : bra cn x 0 (AW Γ d μ Q t L S σ w cc zz) (AW Γ d μ Q (pc + 3) L S σ w cc zz)) : AW Γ d μ Q pc L (.int x :: S) σ w cc zz := by
  intro p l e s m args below meth c Z hF hR H locs ls hH hlo hl hc hz
  have go : ∀ {pc : Nat}, AW Γ d μ Q pc L S σ w cc zz → W p l e (rmOf d (mC μ) (mS μ)) s m args below meth c H locs cc zz Z (F0 m pc ls (S.map (cv Γ))) := fun k => k p l e s m args below meth c Z hF hR H locs ls hH hlo hl hc hz
  obtain ⟨hx, hb, -⟩ := hF
  cases cn
  · exact lv_if_eq hx hb hd ht (fun q => go (k.1 q)) (fun q => go (k.2 q))
  · exact lv_if_ne hx hb hd ht (fun q => go (k.1 q)) (fun q => go (k.2 q))
  · exact lv_if_lt hx hb hd ht (fun q => go (k.1 q)) (fun q => go (k.2 q))
  · exact lv_if_ge hx hb hd ht (fun q => go (k.1 q)) (fun q => go (k.2 q))
  · exact lv_if_gt hx hb hd ht (fun q => go (k.1 q)) (fun q => go (k.2 q))
  · exact lv_if_le hx hb hd ht (fun q => go (k.1 q)) (fun q => go (k.2 q))
theorem aw_ifnull {o : Int} {t x : Nat} (ht : (pc : Int) + o = (t : Int)) :
    (decode (mB μ) pc = .ok (.ifnull o, 3) → AW Γ d μ Q (pc + 3) L S σ w cc zz → AW Γ d μ Q pc L (.ref x :: S) σ w cc zz) ∧ (decode (mB μ) pc = .ok (.ifnull o, 3) → AW Γ d μ Q t L S σ w cc zz → AW Γ d μ Q pc L (.null :: S) σ w cc zz) ∧
    (decode (mB μ) pc = .ok (.ifnonnull o, 3) → AW Γ d μ Q t L S σ w cc zz → AW Γ d μ Q pc L (.ref x :: S) σ w cc zz) ∧ (decode (mB μ) pc = .ok (.ifnonnull o, 3) → AW Γ d μ Q (pc + 3) L S σ w cc zz → AW Γ d μ Q pc L (.null :: S) σ w cc zz) := by
  refine ⟨fun hd k => ?_, fun hd k => ?_, fun hd k => ?_, fun hd k => ?_⟩ <;> intro p l e s m args below meth c Z hF hR H locs ls hH hlo hl hc hz <;> have kk := k p l e s m args below meth c Z hF hR H locs ls hH hlo hl hc hz
  · exact lv_ifnull hF.1 hF.2.1 hd kk
  · exact lv_ifnullN hF.1 hF.2.1 hd ht kk
  · exact lv_ifnonnull hF.1 hF.2.1 hd ht kk
  · exact lv_ifnonnullN hF.1 hF.2.1 hd kk
theorem aw_div {x y : Int32} (hy : ¬ y = 0) : (decode (mB μ) pc = .ok (.idiv, 1) → AW Γ d μ Q (pc + 1) L (.int (x / y) :: S) σ w cc zz → AW Γ d μ Q pc L (.int y :: .int x :: S) σ w cc zz) ∧ (decode (mB μ) pc = .ok (.irem, 1) → AW Γ d μ Q (pc + 1) L (.int (x - x / y * y) :: S) σ w cc zz → AW Γ d μ Q pc L (.int y :: .int x :: S) σ w cc zz) := by
  refine ⟨fun hd k => ?_, fun hd k => ?_⟩ <;> intro p l e s m args below meth c Z hF hR H locs ls hH hlo hl hc hz <;> have kk := k p l e s m args below meth c Z hF hR H locs ls hH hlo hl hc hz
  · exact lv_idiv hF.1 hF.2.1 hd hy kk
  · exact lv_irem hF.1 hF.2.1 hd hy kk
theorem aw_ret {v : Option Value} (hq : Q v σ w) (h : (v = none ∧ decode (mB μ) pc = .ok (.return_, 1) ∧ mR μ = none) ∨ (∃ x ty, v = some (.int x) ∧ decode (mB μ) pc = .ok (.ireturn, 1) ∧ mR μ = some ty ∧ narrow ty (.int x) = .int x) ∨ (∃ x, v = some (.long x) ∧ decode (mB μ) pc = .ok (.lreturn, 1) ∧ mR μ = some .long)) : AW Γ d μ Q pc L v.toList σ w cc zz := by
  intro p l e s m args below meth c Z hF hR H locs ls hH hlo hl hc hz
  exact W.widen hc hz (hR v σ w H locs pc ls hq hH hlo h)
end Rows
end
section
/-! the engine's rows on the heap -/
/-- a class's table: its number of fields, by kd -/
theorem kd_N : ∀ i, i < 430 → (kd i).1 < 20 → (vwCl[(kd i).1]?.map (fun q => q.2.2)) = some (kd i).2 := by decide +kernel
theorem kd_out {i : Nat} (h : ¬ i < 430) : kd i = (99, 0) := by
  have e : kdL.length = 430 := by decide +kernel
  unfold kd
  rw [List.getD_eq_getElem?_getD, List.getElem?_eq_none (by omega)]
  rfl
theorem kd_cl {i : Nat} (h : (kd i).1 < 20) : ∃ q : vw_C, vwCl[(kd i).1]? = some q ∧ q.2.2 = (kd i).2 := by
  by_cases hi : i < 430
  · have e := kd_N i hi h
    cases hq : vwCl[(kd i).1]? with
    | none => rw [hq] at e; cases e
    | some q => rw [hq] at e; exact ⟨q, rfl, Option.some.inj e⟩
  · rw [kd_out hi] at h
    exact absurd h (by decide)
/-- what a program checks of the classes' tables -/
def clCk (q : vw_C) (ty : Nat → FieldType) : Bool := (u_ws q.1 q.2.1 q.2.2).all (fun w => decide (w ∈ lw_tbl) && goodWord w) && (List.range q.2.2).all (fun a => (List.range q.2.2).all (fun b => decide (a = b) || decide ((q.2.1 a).2.1 ≠ (q.2.1 b).2.1))) && (List.range q.2.2).all (fun k => decide (parseFieldDescriptor (q.2.1 k).2.2.1 = some (ty k)))
def tyOf (t : Nat) : Nat → FieldType := match t with
  | 0 => tyX0
  | 1 => tyX1
  | 2 => tyX2
  | 3 => tyX3
  | 4 => tyX4
  | 5 => tyX5
  | 6 => tyX6
  | 7 => tyX7
  | 8 => tyX8
  | 9 => tyX9
  | 10 => tyX10
  | 11 => tyX11
  | _ => tyX12
theorem clCk_0 : clCk (RX0, TX0, 10) tyX0 = true := by decide +kernel
theorem clCk_1 : clCk (RX1, TX1, 3) tyX1 = true := by decide +kernel
theorem clCk_2 : clCk (RX2, TX2, 2) tyX2 = true := by decide +kernel
theorem clCk_3 : clCk (RX3, TX3, 8) tyX3 = true := by decide +kernel
theorem clCk_4 : clCk (RX4, TX4, 14) tyX4 = true := by decide +kernel
theorem clCk_5 : clCk (RX5, TX5, 4) tyX5 = true := by decide +kernel
theorem clCk_6 : clCk (RX6, TX6, 2) tyX6 = true := by decide +kernel
theorem clCk_7 : clCk (RX7, TX7, 4) tyX7 = true := by decide +kernel
theorem clCk_8 : clCk (RX8, TX8, 5) tyX8 = true := by decide +kernel
theorem clCk_9 : clCk (RX9, TX9, 3) tyX9 = true := by decide +kernel
theorem clCk_10 : clCk (RX10, TX10, 5) tyX10 = true := by decide +kernel
theorem clCk_11 : clCk (RX11, TX11, 9) tyX11 = true := by decide +kernel
theorem clCk_12 : clCk (RX12, TX12, 55) tyX12 = true := by decide +kernel
theorem clCk_all {t : Nat} {q : vw_C} (h : vwCl[t]? = some q) : clCk q (tyOf t) = true := by
  match t, h with
  | 0, h => cases h; exact clCk_0
  | 1, h => cases h; exact clCk_1
  | 2, h => cases h; exact clCk_2
  | 3, h => cases h; exact clCk_3
  | 4, h => cases h; exact clCk_4
  | 5, h => cases h; exact clCk_5
  | 6, h => cases h; exact clCk_6
  | 7, h => cases h; exact clCk_7
  | 8, h => cases h; exact clCk_8
  | 9, h => cases h; exact clCk_9
  | 10, h => cases h; exact clCk_10
  | 11, h => cases h; exact clCk_11
  | 12, h => cases h; exact clCk_12
  | t + 13, h => simp [vwCl] at h
theorem cl_facts {t : Nat} {q : vw_C} (h : vwCl[t]? = some q) : (∀ w ∈ u_ws q.1 q.2.1 q.2.2, w ∈ lw_tbl ∧ goodWord w = true) ∧ (∀ a, a < q.2.2 → ∀ b, b < q.2.2 → a ≠ b → (q.2.1 a).2.1 ≠ (q.2.1 b).2.1) ∧ (∀ k, k < q.2.2 → parseFieldDescriptor (q.2.1 k).2.2.1 = some (tyOf t k)) := by
  have e := clCk_all h
  unfold clCk at e
  simp only [Bool.and_eq_true] at e
  obtain ⟨⟨e1, e2⟩, e3⟩ := e
  refine ⟨fun w hw => ?_, fun a ha b hb hab => ?_, fun k hk => ?_⟩
  · have := List.all_eq_true.mp e1 w hw
    simp only [Bool.and_eq_true, decide_eq_true_eq] at this
    exact this
  · have h1 := List.all_eq_true.mp e2 a (List.mem_range.mpr ha)
    have h2 := List.all_eq_true.mp h1 b (List.mem_range.mpr hb)
    simp only [Bool.or_eq_true, decide_eq_true_eq] at h2
    rcases h2 with h2 | h2
    · exact absurd h2 hab
    · exact h2
  · have := List.all_eq_true.mp e3 k (List.mem_range.mpr hk)
    simpa using this
end
section
/-- a state that differs at one cell alone -/
theorem HR.at_one {Γ : Gx} {σ σ' : St} {w w' : Wd} {H H' : Heap} {o : Nat} (h : HR Γ σ w H) (hw : w'.1 = w.1) (ho : o < w.1) (hs : H'.size = H.size) (hq : ∀ q, q ≠ gz Γ + o → H'[q]? = H[q]?) (hc : atC Γ σ' w'.2 o H')
    (hf : ∀ i, i ≠ o → (∀ k, fv Γ σ' w'.2 (kd i).1 i k = fv Γ σ w.2 (kd i).1 i k) ∧ ∀ j, av Γ σ' w'.2 (kd i).1 i j = av Γ σ w.2 (kd i).1 i j) : HR Γ σ' w' H' := by
  obtain ⟨h1, h2, h3⟩ := h
  refine ⟨by rw [hs, h1, hw], fun q hqz => ?_, fun i hi => ?_⟩
  · rw [hq q (by omega)]
    exact h2 q hqz
  · by_cases e : i = o
    · subst e
      exact hc
    · obtain ⟨g1, g2⟩ := h3 i (by rw [← hw]; exact hi)
      have hk : H'[gz Γ + i]? = H[gz Γ + i]? := hq _ (by omega)
      refine ⟨fun ht => ?_, fun ht => ?_⟩
      · exact ((g1 ht).kept hk).to (fun k _ => ((hf i e).1 k).symm)
      · rw [hk, g2 ht]
        congr 2
        funext j
        exact ((hf i e).2 j).symm
theorem fv_uI {Γ : Gx} {σ : St} {ρ : Nat → Nat → Option Nat} {o k : Nat} {v : Int32} {t i j : Nat} (h : i ≠ o) : fv Γ (uI σ o k v) ρ t i j = fv Γ σ ρ t i j := by
  unfold fv
  simp only [gI_uI, gJ_uI, gR_uI, h, false_and, if_false]
theorem av_uI {Γ : Gx} {σ : St} {ρ : Nat → Nat → Option Nat} {o k : Nat} {v : Int32} {t i j : Nat} (h : i ≠ o) : av Γ (uI σ o k v) ρ t i j = av Γ σ ρ t i j := by
  unfold av
  simp only [gI_uI, gJ_uI, h, false_and, if_false]
theorem fv_uJ {Γ : Gx} {σ : St} {ρ : Nat → Nat → Option Nat} {o k : Nat} {v : Int64} {t i j : Nat} (h : i ≠ o) : fv Γ (uJ σ o k v) ρ t i j = fv Γ σ ρ t i j := by
  unfold fv
  simp only [gI_uJ, gJ_uJ, gR_uJ, h, false_and, if_false]
theorem av_uJ {Γ : Gx} {σ : St} {ρ : Nat → Nat → Option Nat} {o k : Nat} {v : Int64} {t i j : Nat} (h : i ≠ o) : av Γ (uJ σ o k v) ρ t i j = av Γ σ ρ t i j := by
  unfold av
  simp only [gI_uJ, gJ_uJ, h, false_and, if_false]
theorem fv_uR {Γ : Gx} {σ : St} {ρ : Nat → Nat → Option Nat} {o k : Nat} {v : Option Nat} {t i j : Nat} (h : i ≠ o) : fv Γ (uR σ o k v) ρ t i j = fv Γ σ ρ t i j := by
  unfold fv
  simp only [gI_uR, gJ_uR, gR_uR, h, false_and, if_false]
theorem av_uR {Γ : Gx} {σ : St} {ρ : Nat → Nat → Option Nat} {o k : Nat} {v : Option Nat} {t i j : Nat} : av Γ (uR σ o k v) ρ t i j = av Γ σ ρ t i j := by
  unfold av
  simp only [gI_uR, gJ_uR]
theorem fv_uW {Γ : Gx} {σ : St} {ρ : Nat → Nat → Option Nat} {o k : Nat} {v : Option Nat} {t i j : Nat} (h : i ≠ o) : fv Γ σ (up2 ρ o k v) t i j = fv Γ σ ρ t i j := by
  unfold fv up2
  simp only [h, false_and, if_false]
theorem av_uW {Γ : Gx} {σ : St} {ρ : Nat → Nat → Option Nat} {o k : Nat} {v : Option Nat} {t i j : Nat} (h : i ≠ o) : av Γ σ (up2 ρ o k v) t i j = av Γ σ ρ t i j := by
  unfold av up2
  simp only [h, false_and, if_false]
/-- a field's facts: its class, its slot -/
theorem fl_facts {Γ : Gx} {s : State} {σ : St} {w : Wd} {H : Heap} {o ci : Nat} (hK : GK Γ s) (hH : HR Γ σ w H) (ho : okO w o ci) (hc : ci < 20) : ∃ q : vw_C, vwCl[ci]? = some q ∧ q.2.2 = (kd o).2 ∧ (∃ cell : Cell, H[gz Γ + o]? = some cell ∧ cell.cls = (xD Γ).1 ci ∧ cell.vm = .none ∧ ∀ k, k < q.2.2 → cell.slots[(xD Γ).2 ci k]? = some (fv Γ σ w.2 ci o k)) ∧ u_Kn s q.1 q.2.1 q.2.2 ((xD Γ).1 ci) ((xD Γ).2 ci) := by
  obtain ⟨h1, rfl⟩ := ho
  obtain ⟨q, hq, hn⟩ := kd_cl hc
  obtain ⟨cell, g1, g2, g3, g4⟩ := (hH.2.2 o h1).1 hc
  exact ⟨q, hq, hn, ⟨cell, g1, g2, g3, fun k hk => g4 k (by rw [← hn]; exact hk)⟩, hK.2.2.1.1 _ q hq⟩
section Heap
variable {Γ : Gx} {d : Nat} {μ : MD} {Q : Option Value → St → Wd → Prop} {pc : Nat} {L : Lv} {S : List Value} {σ : St} {w : Wd} {cc zz : Nat}
theorem fCk_spec {C : String} {q : Nat × Nat × Nat × Nat} {wi : Nat} (h : fCk C q wi = true) : ∃ (R : String) (T : u_T) (N : Nat), vwCl[q.2.1]? = some (R, T, N) ∧ q.2.2.1 < N ∧ lw_tbl[wi]? = some (.fieldLink C q.1 R (T q.2.2.1).2.1 (T q.2.2.1).2.2.1) ∧ (T q.2.2.1).1 = R ∧ fk q.2.1 q.2.2.1 = q.2.2.2 ∧ ((T q.2.2.1).2.2.2 = true ↔ q.2.2.2 = 2) ∧
    ftk (parseFieldDescriptor (T q.2.2.1).2.2.1) q.2.2.2 = true := by
  unfold fCk at h
  split at h
  · rename_i R T N e
    simp only [Bool.and_eq_true, decide_eq_true_eq, beq_iff_eq] at h
    obtain ⟨⟨⟨⟨⟨h1, h2⟩, h3⟩, h4⟩, h5⟩, h6⟩ := h
    exact ⟨R, T, N, e, h1, h2, h3, h4, by rw [h5]; simp, h6⟩
  · cases h
theorem ci_lt {ci : Nat} {q : vw_C} (h : vwCl[ci]? = some q) : ci < 20 := by
  have := (List.getElem?_eq_some_iff.mp h).1
  have e : vwCl.length = 13 := rfl
  omega
theorem aw_get {n ci f kn wi : Nat} {o : Nat} (hd : decode (mB μ) pc = .ok (.getfield n, 3)) (hck : fCk (mN μ).cls (n, ci, f, kn) wi = true) (ho : okO w o ci) {v : Value} (hv : cv Γ v = fv Γ σ w.2 ci o f) (k : AW Γ d μ Q (pc + 3) L (v :: S) σ w cc zz) : AW Γ d μ Q pc L (.ref o :: S) σ w cc zz := by
  intro p l e s m args below meth c Z hF hR H locs ls hH hlo hl hc hz
  have kk := k p l e s m args below meth c Z hF hR H locs ls hH hlo hl hc hz
  obtain ⟨hx, hb, -, -, -, hown, -, -, hK⟩ := hF
  obtain ⟨R, T, N, e1, e2, e3, e4, e5, e6, -⟩ := fCk_spec hck
  dsimp only at e1 e2 e3 e4 e5 e6
  obtain ⟨q, hq, hn, ⟨cell, g1, g2, g3, g4⟩, hKn⟩ := fl_facts hK hH ho (ci_lt e1)
  cases hq.symm.trans e1
  obtain ⟨hS, hfc, kC, hkC, hkind⟩ := hKn
  obtain ⟨cf, kf, fi, ff, hi, hsl⟩ := hS f e2
  have hw0 := (cl_facts e1).1
  have hlink := hK.1 _ (List.mem_of_getElem? e3) rfl args
  refine W.getf hx hb hown hlink (by rw [← e4]; exact hi) (u_facts hfc hkC (u_lays (ws := u_ws R T N) (args := args) (fun w hw => hK.1 w (hw0 w hw).1 (hw0 w hw).2 args) (fun w h => h) e2) hi).1 g1 (by rw [g3]; exact fun h => by cases h) (v := cv Γ v) ?_ rfl rfl hd kk
  rw [hsl, g4 f e2, hv]
theorem putV {o : Nat} {cell : Cell} {N : Nat} {iS : Nat → Nat} {V V' : Nat → Value} (h : ∀ k, k < N → cell.slots[iS k]? = some (V k)) (hap : ∀ a b, a < N → b < N → a ≠ b → iS a ≠ iS b) {k : Nat} (hk : k < N) (v : Value) (hV : ∀ j, j < N → V' j = if j = k then v else V j) : ∀ j, j < N → (cell.setSlot (iS k) v).slots[iS j]? = some (V' j) := by
  intro j hj
  rw [t_set h hap hk v j hj, hV j hj]
  rfl
theorem atC_o {ρ : Nat → Nat → Option Nat} {o : Nat} {H : Heap} (h : (kd o).1 < 20) : atC Γ σ ρ o H ↔ t_OB (gz Γ + o) ((xD Γ).1 (kd o).1) (kd o).2 ((xD Γ).2 (kd o).1) H (fv Γ σ ρ (kd o).1 o) := ⟨fun q => q.1 h, fun q => ⟨fun _ => q, fun q2 => by omega⟩⟩
theorem atC_a {ρ : Nat → Nat → Option Nat} {o : Nat} {H : Heap} (h : 20 ≤ (kd o).1) : atC Γ σ ρ o H ↔ H[gz Γ + o]? = some (arrV (xA Γ ((kd o).1 - 20)) (kd o).2 (av Γ σ ρ (kd o).1 o)) := ⟨fun q => q.2 h, fun q => ⟨fun q2 => by omega, fun _ => q⟩⟩
theorem aw_put {n ci f kn wi : Nat} {o : Nat} {v : Value} {σ' : St} {w' : Wd} (hd : decode (mB μ) pc = .ok (.putfield n, 3)) (hck : fCk (mN μ).cls (n, ci, f, kn) wi = true) (hfin : kn = 2 → (mN μ).name = "<init>" ∧ vwCl[ci]?.map (fun q => q.1) = some (mN μ).cls) (ho : okO w o ci) (hw : w'.1 = w.1)
    (hv : ∀ j, fv Γ σ' w'.2 ci o j = if j = f then cv Γ v else fv Γ σ w.2 ci o j) (hf : ∀ i, i ≠ o → (∀ k, fv Γ σ' w'.2 (kd i).1 i k = fv Γ σ w.2 (kd i).1 i k) ∧ ∀ j, av Γ σ' w'.2 (kd i).1 i j = av Γ σ w.2 (kd i).1 i j)
    (hn : narrow (tyOf ci f) (cv Γ v) = cv Γ v) (hft : fits (tyOf ci f) (cv Γ v) = true) (k : AW Γ d μ Q (pc + 3) L S σ' w' cc zz) : AW Γ d μ Q pc L (v :: .ref o :: S) σ w cc zz := by
  intro p l e s m args below meth c Z hF hR H locs ls hH hlo hl hc hz
  have kk := fun H locs hH hlo => k p l e s m args below meth c Z hF hR H locs ls hH hlo hl hc hz
  obtain ⟨hx, hb, -, -, -, hown, hname, -, hK⟩ := hF
  obtain ⟨R, T, N, e1, e2, e3, e4, e5, e6, -⟩ := fCk_spec hck
  dsimp only at e1 e2 e3 e4 e5 e6
  have hlt := ci_lt e1
  obtain ⟨q, hq, hn0, ⟨cell, g1, g2, g3, g4⟩, hKn⟩ := fl_facts hK hH ho hlt
  cases hq.symm.trans e1
  have hKn' := hKn
  obtain ⟨hS, hfc, kC, hkC, hkind⟩ := hKn
  obtain ⟨cf, kf, fi, ff, hi, hsl⟩ := hS f e2
  obtain ⟨hw0, hnm, hty⟩ := cl_facts e1
  dsimp only at hw0 hnm hty
  have hts : ∀ w ∈ u_ws R T N, w.before args s = true := fun w hw => hK.1 w (hw0 w hw).1 (hw0 w hw).2 args
  have hin : ∀ w ∈ u_ws R T N, w ∈ u_ws R T N := fun w h => h
  have hlink := hK.1 _ (List.mem_of_getElem? e3) rfl args
  have hap := va_apart (own := R) hts hin (tyOf ci) hty hnm hK.2.2.1 e1
  have hst := (u_facts hfc hkC (u_lays hts hin e2) hi).1
  have fin : ∀ H' : Heap, H'[gz Γ + o]? = some (cell.setSlot ff.slot (cv Γ v)) → H'.size = H.size → (∀ q, q ≠ gz Γ + o → H'[q]? = H[q]?) → HR Γ σ' w' H' := by
    intro H' q1 q2 q3
    rw [hsl] at q1
    refine hH.at_one hw ho.1 q2 q3 ?_ hf
    rw [atC_o (by rw [ho.2]; exact hlt), ho.2]
    have hn1 : (kd o).2 = N := hn0.symm
    rw [hn1]
    exact ⟨_, q1, g2, g3, putV (o := o) g4 hap e2 _ (fun j hj => hv j)⟩
  have hlo' : ∀ x : Nat, lcs Γ (locs ++ [⟨gz Γ + o, x⟩]) := by
    intro x q hq
    rcases List.mem_append.mp hq with h | h
    · exact hlo q h
    · rw [List.mem_singleton.mp h]
      exact Nat.le_add_right _ _
  have hlay := hts _ (hin _ (u_in_lay e2))
  unfold u_lay at hlay
  by_cases hf2 : kn = 2
  · rw [if_pos (e6.mpr hf2)] at hlay
    have hcls : (mN μ).cls = R := by
      have := (hfin hf2).2
      rw [e1] at this
      exact (Option.some.inj this).symm
    have hcf : m.cls = cf := by
      obtain ⟨_, _, c', _, _, _, -, -, hf', -, -, -, hown2, -⟩ := Cond.laysFinal_spec hlay
      have e9 : c' = cf := by have := hi.symm.trans hf'; simp at this; exact this.1.symm
      rw [e4] at hown2
      rw [hcls] at hown
      rw [← e9]; exact Option.some.inj (hown.symm.trans hown2)
    have h6 := u_fits hfc hkC hkind (Or.inr hlay) hi (hty f e2) hn hft
    exact W.putFinK hx hb hown hlink (by rw [← e4]; exact hi) hst hcf (by rw [hname]; exact (hfin hf2).1) (by rw [g2]; exact h6) g1 g3 (by rw [hsl]; exact k2_hasslot (g4 f e2)) rfl rfl hd fun H' q1 q2 q3 => kk H' _ (fin H' q1 q2 q3) (hlo' _)
  · rw [if_neg (by rw [e6]; exact hf2)] at hlay
    have h6 := u_store hfc hkC hkind hlay hi (hty f e2) hn hft
    exact W.putK hx hb (f := ff) ⟨hown, hlink, ⟨_, _, _, by rw [← e4]; exact hi⟩, hst⟩ (by rw [g2]; exact h6) g1 g3 (by rw [hsl]; exact k2_hasslot (g4 f e2)) rfl rfl hd fun H' q1 q2 q3 => kk H' _ (fin H' q1 q2 q3) (hlo' _)
end Heap
end
section
/-! the engine's rows on arrays -/
section Arr
variable {Γ : Gx} {d : Nat} {μ : MD} {Q : Option Value → St → Wd → Prop} {pc : Nat} {L : Lv} {S : List Value} {σ : St} {w : Wd} {cc zz : Nat}
/-- what the tables say of an array -/
theorem ar_facts {s : State} {H : Heap} {a t : Nat} (hK : GK Γ s) (hH : HR Γ σ w H) (ha : a < w.1) (ht : (kd a).1 = 20 + t) (ht9 : t < 9) : H[gz Γ + a]? = some (arrV (xA Γ t) (kd a).2 (av Γ σ w.2 (kd a).1 a)) ∧ (∀ n z, s.isArrayOf (arrV (xA Γ t) n z) (aty t)) ∧ va_RA s (xA Γ t) (aty t) := by
  have h1 := (hH.2.2 a ha).2 (by omega)
  rw [show (kd a).1 - 20 = t by omega] at h1
  have h2 := hK.2.2.1.2 t (xA Γ t, aty t) (by rw [List.getElem?_map, List.getElem?_range ht9]; rfl)
  exact ⟨h1, h2.1, h2.2⟩
theorem av_i {ρ : Nat → Nat → Option Nat} {a t : Nat} (h : t = 20 ∨ t = 22 ∨ t = 23) : av Γ σ ρ t a = fun j => .int (gI σ a j) := by
  funext j
  rcases h with rfl | rfl | rfl <;> rfl
theorem av_l {ρ : Nat → Nat → Option Nat} {a : Nat} : av Γ σ ρ 21 a = fun j => .long (gJ σ a j) := by
  funext j
  rfl
theorem av_r {ρ : Nat → Nat → Option Nat} {a t : Nat} (h : 24 ≤ t) : av Γ σ ρ t a = fun j => rv Γ (ρ a j) := by
  funext j
  unfold av
  rw [if_neg (by omega), if_neg (by omega)]
theorem in_sz {j : Int32} {n : Nat} {C : ClassId} {f : Nat → Value} (h : vp_in j n) : ¬ (j < 0 ∨ (arrV C n f).slots.size ≤ j.toNatClampNeg) := by rw [arrV_size]; exact h
theorem in_lt {j : Int32} {n : Nat} (h : vp_in j n) : j.toNatClampNeg < n := Nat.not_le.mp fun q => h (Or.inr q)
theorem in_rd {j : Int32} {n : Nat} {C : ClassId} {f : Nat → Value} (h : vp_in j n) : (arrV C n f).slots[j.toNatClampNeg]? = some (f j.toNatClampNeg) := arrV_read _ _ (in_lt h)
theorem aw_iald {a : Nat} {j : Int32} (hd : decode (mB μ) pc = .ok (.iaload, 1)) (ha : okO w a 20) (hj : vp_in j (kd a).2) (k : AW Γ d μ Q (pc + 1) L (.int (gI σ a j.toNatClampNeg) :: S) σ w cc zz) : AW Γ d μ Q pc L (.int j :: .ref a :: S) σ w cc zz := by
  intro p l e s m args below meth c Z hF hR H locs ls hH hlo hl hc hz
  have kk := k p l e s m args below meth c Z hF hR H locs ls hH hlo hl hc hz
  obtain ⟨hx, hb, -, -, -, -, -, -, hK⟩ := hF
  obtain ⟨h1, h2, -⟩ := ar_facts (t := 0) hK hH ha.1 ha.2 (by decide)
  rw [av_i (Or.inl ha.2)] at h1
  exact W.iald hx hb h1 (h2 _ _) (fun q => by cases q) (in_sz hj) (in_rd hj) rfl rfl hd kk
theorem aw_sld {j : Int32} (hd : decode (mB μ) pc = .ok (.iaload, 1)) (hj : vp_in j (xN Γ)) (k : AW Γ d μ Q (pc + 1) L (.int (xS Γ j.toNatClampNeg) :: S) σ w cc zz) : AW Γ d μ Q pc L (.int j :: .retAddr 0 :: S) σ w cc zz := by
  intro p l e s m args below meth c Z hF hR H locs ls hH hlo hl hc hz
  have kk := k p l e s m args below meth c Z hF hR H locs ls hH hlo hl hc hz
  obtain ⟨hx, hb, -, -, -, -, -, -, hK⟩ := hF
  obtain ⟨scr, h1, h2, h3, h4, h5⟩ := hK.2.2.2.1
  have hlt : xE Γ 0 < gz Γ := (Array.getElem?_eq_some_iff.mp h1).1
  exact W.iald (v := .int (xS Γ j.toNatClampNeg)) hx hb (by rw [hH.2.1 _ hlt]; exact h1) h2 h3 (by rw [h4]; exact hj) (h5 _ (in_lt hj)) rfl rfl hd kk
theorem aw_slen (hd : decode (mB μ) pc = .ok (.arraylength, 1)) (k : AW Γ d μ Q (pc + 1) L (.int (nI (xN Γ)) :: S) σ w cc zz) : AW Γ d μ Q pc L (.retAddr 0 :: S) σ w cc zz := by
  intro p l e s m args below meth c Z hF hR H locs ls hH hlo hl hc hz
  have kk := k p l e s m args below meth c Z hF hR H locs ls hH hlo hl hc hz
  obtain ⟨hx, hb, -, -, -, -, -, -, hK⟩ := hF
  obtain ⟨scr, h1, h2, h3, h4, h5⟩ := hK.2.2.2.1
  have hlt : xE Γ 0 < gz Γ := (Array.getElem?_eq_some_iff.mp h1).1
  exact W.alen (n := nI (xN Γ)) hx hb (by rw [hH.2.1 _ hlt]; exact h1) h2 (by rw [h4]; rfl) rfl rfl hd kk
theorem aw_lald {a : Nat} {j : Int32} (hd : decode (mB μ) pc = .ok (.laload, 1)) (ha : okO w a 21) (hj : vp_in j (kd a).2) (k : AW Γ d μ Q (pc + 1) L (.long (gJ σ a j.toNatClampNeg) :: S) σ w cc zz) : AW Γ d μ Q pc L (.int j :: .ref a :: S) σ w cc zz := by
  intro p l e s m args below meth c Z hF hR H locs ls hH hlo hl hc hz
  have kk := k p l e s m args below meth c Z hF hR H locs ls hH hlo hl hc hz
  obtain ⟨hx, hb, -, -, -, -, -, -, hK⟩ := hF
  obtain ⟨h1, h2, -⟩ := ar_facts (t := 1) hK hH ha.1 ha.2 (by decide)
  rw [ha.2, av_l] at h1
  exact W.lald hx hb h1 (h2 _ _) (fun q => by cases q) (in_sz hj) (in_rd hj) rfl rfl hd kk
theorem aw_bald {a : Nat} {j : Int32} (hd : decode (mB μ) pc = .ok (.baload, 1)) (ha : a < w.1) (ht : (kd a).1 = 22 ∨ (kd a).1 = 23) (hj : vp_in j (kd a).2) (k : AW Γ d μ Q (pc + 1) L (.int (gI σ a j.toNatClampNeg) :: S) σ w cc zz) : AW Γ d μ Q pc L (.int j :: .ref a :: S) σ w cc zz := by
  intro p l e s m args below meth c Z hF hR H locs ls hH hlo hl hc hz
  have kk := k p l e s m args below meth c Z hF hR H locs ls hH hlo hl hc hz
  obtain ⟨hx, hb, -, -, -, -, -, -, hK⟩ := hF
  rcases ht with ht | ht
  · obtain ⟨h1, h2, -⟩ := ar_facts (t := 2) hK hH ha ht (by decide)
    rw [av_i (Or.inr (Or.inl ht))] at h1
    exact W.bald hx hb h1 (h2 _ _) (fun q => by cases q) (in_sz hj) (in_rd hj) rfl rfl hd kk
  · obtain ⟨h1, h2, -⟩ := ar_facts (t := 3) hK hH ha ht (by decide)
    rw [av_i (Or.inr (Or.inr ht))] at h1
    exact W.zald hx hb h1 (h2 _ _) (fun q => by cases q) (in_sz hj) (in_rd hj) rfl rfl hd kk
theorem aw_aald {a r : Nat} {j : Int32} (hd : decode (mB μ) pc = .ok (.aaload, 1)) (ha : a < w.1) (ht : 24 ≤ (kd a).1) (ht2 : (kd a).1 ≤ 28) (hj : vp_in j (kd a).2) (hr : w.2 a j.toNatClampNeg = some r) (k : AW Γ d μ Q (pc + 1) L (.ref r :: S) σ w cc zz) : AW Γ d μ Q pc L (.int j :: .ref a :: S) σ w cc zz := by
  intro p l e s m args below meth c Z hF hR H locs ls hH hlo hl hc hz
  have kk := k p l e s m args below meth c Z hF hR H locs ls hH hlo hl hc hz
  obtain ⟨hx, hb, -, -, -, -, -, -, hK⟩ := hF
  obtain ⟨h1, h2, -⟩ := ar_facts (t := (kd a).1 - 20) hK hH ha (by omega) (by omega)
  rw [av_r ht] at h1
  have hrf : (aty ((kd a).1 - 20)).isReference = true := by
    have : (kd a).1 = 24 ∨ (kd a).1 = 25 ∨ (kd a).1 = 26 ∨ (kd a).1 = 27 ∨ (kd a).1 = 28 := by omega
    rcases this with q | q | q | q | q <;> rw [q] <;> rfl
  exact W.aald hx hb h1 (h2 _ _) hrf (fun q => by cases q) (in_sz hj) (in_rd hj) rfl rfl hd (by rw [hr]; exact kk)
theorem aw_alen {a : Nat} (hd : decode (mB μ) pc = .ok (.arraylength, 1)) (ha : a < w.1) (ht : 20 ≤ (kd a).1) (ht2 : (kd a).1 ≤ 28) (k : AW Γ d μ Q (pc + 1) L (.int (nI (kd a).2) :: S) σ w cc zz) : AW Γ d μ Q pc L (.ref a :: S) σ w cc zz := by
  intro p l e s m args below meth c Z hF hR H locs ls hH hlo hl hc hz
  have kk := k p l e s m args below meth c Z hF hR H locs ls hH hlo hl hc hz
  obtain ⟨hx, hb, -, -, -, -, -, -, hK⟩ := hF
  obtain ⟨h1, h2, -⟩ := ar_facts (t := (kd a).1 - 20) hK hH ha (by omega) (by omega)
  exact W.alen (n := nI (kd a).2) hx hb h1 (h2 _ _) (by rw [arrV_size]; rfl) rfl rfl hd kk
theorem lcs_app {locs : List Loc} {a x : Nat} (hlo : lcs Γ locs) : lcs Γ (locs ++ [⟨gz Γ + a, x⟩]) := by
  intro q hq
  rcases List.mem_append.mp hq with h | h
  · exact hlo q h
  · rw [List.mem_singleton.mp h]
    exact Nat.le_add_right _ _
/-- an array of which one place has changed -/
theorem HR.arr {H H' : Heap} {σ' : St} {w' : Wd} {a j : Nat} {v : Value} (h : HR Γ σ w H) (ha : a < w.1) (hw : w'.1 = w.1) (ht : 20 ≤ (kd a).1) (h1 : H[gz Γ + a]? = some (arrV (xA Γ ((kd a).1 - 20)) (kd a).2 (av Γ σ w.2 (kd a).1 a))) (q1 : H'[gz Γ + a]? = some ((arrV (xA Γ ((kd a).1 - 20)) (kd a).2 (av Γ σ w.2 (kd a).1 a)).setSlot j v)) (q2 : H'.size = H.size) (q3 : ∀ q, q ≠ gz Γ + a → H'[q]? = H[q]?)
    (hv : ∀ i, av Γ σ' w'.2 (kd a).1 a i = if i = j then v else av Γ σ w.2 (kd a).1 a i) (hf : ∀ i, i ≠ a → (∀ k, fv Γ σ' w'.2 (kd i).1 i k = fv Γ σ w.2 (kd i).1 i k) ∧ ∀ j, av Γ σ' w'.2 (kd i).1 i j = av Γ σ w.2 (kd i).1 i j) : HR Γ σ' w' H' := by
  refine h.at_one hw ha q2 q3 ?_ hf
  rw [atC_a ht, q1, arrV_store]
  congr 2
  funext i
  rw [hv i]
  rfl
theorem aw_iast {a : Nat} {j v : Int32} (hd : decode (mB μ) pc = .ok (.iastore, 1)) (ha : okO w a 20) (hj : vp_in j (kd a).2) (k : AW Γ d μ Q (pc + 1) L S (uI σ a j.toNatClampNeg v) w cc zz) : AW Γ d μ Q pc L (.int v :: .int j :: .ref a :: S) σ w cc zz := by
  intro p l e s m args below meth c Z hF hR H locs ls hH hlo hl hc hz
  have kk := fun H locs hH hlo => k p l e s m args below meth c Z hF hR H locs ls hH hlo hl hc hz
  obtain ⟨hx, hb, -, -, -, -, -, -, hK⟩ := hF
  obtain ⟨h1, h2, -⟩ := ar_facts (t := 0) hK hH ha.1 ha.2 (by decide)
  refine W.iast hx hb h1 (h2 _ _) (fun q => by cases q) (in_sz hj) rfl rfl hd fun H' q1 q2 q3 => kk H' _ ?_ (lcs_app hlo)
  have e0 : (kd a).1 - 20 = 0 := by rw [ha.2]
  refine hH.arr ha.1 rfl (by rw [ha.2]; decide) (by rw [e0]; exact h1) (by rw [e0]; exact q1) q2 q3 ?_ (fun i hi => ⟨fun k => fv_uI hi, fun j => av_uI hi⟩)
  intro i
  rw [av_i (Or.inl ha.2), av_i (Or.inl ha.2)]
  show Value.int (gI _ _ _) = _
  rw [gI_uI]
  by_cases e : i = j.toNatClampNeg <;> simp [e]
theorem aw_last {a : Nat} {j : Int32} {v : Int64} (hd : decode (mB μ) pc = .ok (.lastore, 1)) (ha : okO w a 21) (hj : vp_in j (kd a).2) (k : AW Γ d μ Q (pc + 1) L S (uJ σ a j.toNatClampNeg v) w cc zz) : AW Γ d μ Q pc L (.long v :: .int j :: .ref a :: S) σ w cc zz := by
  intro p l e s m args below meth c Z hF hR H locs ls hH hlo hl hc hz
  have kk := fun H locs hH hlo => k p l e s m args below meth c Z hF hR H locs ls hH hlo hl hc hz
  obtain ⟨hx, hb, -, -, -, -, -, -, hK⟩ := hF
  obtain ⟨h1, h2, -⟩ := ar_facts (t := 1) hK hH ha.1 ha.2 (by decide)
  refine W.last hx hb h1 (h2 _ _) (fun q => by cases q) (in_sz hj) rfl rfl hd fun H' q1 q2 q3 => kk H' _ ?_ (lcs_app hlo)
  have e0 : (kd a).1 - 20 = 1 := by rw [ha.2]
  refine hH.arr ha.1 rfl (by rw [ha.2]; decide) (by rw [e0]; exact h1) (by rw [e0]; exact q1) q2 q3 ?_ (fun i hi => ⟨fun k => fv_uJ hi, fun j => av_uJ hi⟩)
  intro i
  rw [ha.2, av_l, av_l]
  show Value.long (gJ _ _ _) = _
  rw [gJ_uJ]
  by_cases e : i = j.toNatClampNeg <;> simp [e]
theorem aw_bast {a : Nat} {j v : Int32} (hd : decode (mB μ) pc = .ok (.bastore, 1)) (ha : a < w.1) (ht : ((kd a).1 = 22 ∧ v.toInt8.toInt32 = v) ∨ ((kd a).1 = 23 ∧ v &&& 1 = v)) (hj : vp_in j (kd a).2) (k : AW Γ d μ Q (pc + 1) L S (uI σ a j.toNatClampNeg v) w cc zz) : AW Γ d μ Q pc L (.int v :: .int j :: .ref a :: S) σ w cc zz := by
  intro p l e s m args below meth c Z hF hR H locs ls hH hlo hl hc hz
  have kk := fun H locs hH hlo => k p l e s m args below meth c Z hF hR H locs ls hH hlo hl hc hz
  obtain ⟨hx, hb, -, -, -, -, -, -, hK⟩ := hF
  have fin : ∀ (H' : Heap) (t : Nat), ((kd a).1 = 22 ∨ (kd a).1 = 23) → (kd a).1 - 20 = t → H[gz Γ + a]? = some (arrV (xA Γ t) (kd a).2 (av Γ σ w.2 (kd a).1 a)) → H'[gz Γ + a]? = some ((arrV (xA Γ t) (kd a).2 (av Γ σ w.2 (kd a).1 a)).setSlot j.toNatClampNeg (.int v)) → H'.size = H.size → (∀ q, q ≠ gz Γ + a → H'[q]? = H[q]?) → HR Γ (uI σ a j.toNatClampNeg v) w H' := by
    intro H' t ht e0 h1 q1 q2 q3
    subst e0
    refine hH.arr ha rfl (by omega) h1 q1 q2 q3 ?_ (fun i hi => ⟨fun k => fv_uI hi, fun j => av_uI hi⟩)
    intro i
    rw [av_i (Or.inr ht), av_i (Or.inr ht)]
    show Value.int (gI _ _ _) = _
    rw [gI_uI]
    by_cases e : i = j.toNatClampNeg <;> simp [e]
  rcases ht with ⟨ht, hv⟩ | ⟨ht, hv⟩
  · obtain ⟨h1, h2, -⟩ := ar_facts (t := 2) hK hH ha ht (by decide)
    refine W.bast hx hb h1 (h2 _ _) (fun q => by cases q) (in_sz hj) rfl rfl hd fun H' q1 q2 q3 => kk H' _ ?_ (lcs_app hlo)
    have e2 : narrow .byte (.int v) = .int v := by show Value.int v.toInt8.toInt32 = _; rw [hv]
    rw [e2] at q1
    exact fin H' 2 (Or.inl ht) (by rw [ht]) h1 q1 q2 q3
  · obtain ⟨h1, h2, -⟩ := ar_facts (t := 3) hK hH ha ht (by decide)
    refine W.zast hx hb h1 (h2 _ _) (fun q => by cases q) (in_sz hj) rfl rfl hd fun H' q1 q2 q3 => kk H' _ ?_ (lcs_app hlo)
    have e2 : narrow .boolean (.int v) = .int v := by show Value.int (v &&& 1) = _; rw [hv]
    rw [e2] at q1
    exact fin H' 3 (Or.inr ht) (by rw [ht]) h1 q1 q2 q3
end Arr
end
section
/-! the engine's rows that make cells; references into arrays; copies -/
section Make
variable {Γ : Gx} {d : Nat} {μ : MD} {Q : Option Value → St → Wd → Prop} {pc : Nat} {L : Lv} {S : List Value} {σ : St} {w : Wd} {cc zz : Nat}
/-- which class goes into which array -/
theorem ar_cls {a r : Nat} (h : ((kd a).1 = 24 ∧ (kd r).1 = 7) ∨ ((kd a).1 = 25 ∧ (kd r).1 = 10) ∨ ((kd a).1 = 26 ∧ (kd r).1 = 5) ∨ ((kd a).1 = 27 ∧ (kd r).1 = 6)) : ∃ t q, (kd a).1 = 20 + t ∧ t < 9 ∧ vwCl[(kd r).1]? = some q ∧ aty t = .object q.1 ∧ (kd r).1 < 20 ∧ 24 ≤ (kd a).1 := by
  rcases h with ⟨h1, h2⟩ | ⟨h1, h2⟩ | ⟨h1, h2⟩ | ⟨h1, h2⟩ <;> rw [h1, h2]
  · exact ⟨4, _, rfl, by decide, rfl, rfl, by decide, by decide⟩
  · exact ⟨5, _, rfl, by decide, rfl, rfl, by decide, by decide⟩
  · exact ⟨6, _, rfl, by decide, rfl, rfl, by decide, by decide⟩
  · exact ⟨7, _, rfl, by decide, rfl, rfl, by decide, by decide⟩
theorem aw_aast {a r : Nat} {j : Int32} (hd : decode (mB μ) pc = .ok (.aastore, 1)) (ha : a < w.1) (hr : r < w.1) (ht : ((kd a).1 = 24 ∧ (kd r).1 = 7) ∨ ((kd a).1 = 25 ∧ (kd r).1 = 10) ∨ ((kd a).1 = 26 ∧ (kd r).1 = 5) ∨ ((kd a).1 = 27 ∧ (kd r).1 = 6)) (hj : vp_in j (kd a).2) (k : AW Γ d μ Q (pc + 1) L S σ (uW w a j.toNatClampNeg (some r)) cc zz) : AW Γ d μ Q pc L (.ref r :: .int j :: .ref a :: S) σ w cc zz := by
  intro p l e s m args below meth c Z hF hR H locs ls hH hlo hl hc hz
  have kk := fun H locs hH hlo => k p l e s m args below meth c Z hF hR H locs ls hH hlo hl hc hz
  obtain ⟨hx, hb, -, -, -, -, -, -, hK⟩ := hF
  obtain ⟨t, q, e1, e2, e3, e4, e5, e6⟩ := ar_cls ht
  obtain ⟨h1, h2, h3⟩ := ar_facts (t := t) hK hH ha e1 e2
  obtain ⟨cell, g1, g2, g3, -⟩ := (hH.2.2 r hr).1 e5
  have hcls := (hK.2.2.1.1 _ q e3).2
  rw [e4] at h3
  obtain ⟨kA, comp, k1, k2, k3, -⟩ := h3
  have hcomp : comp = (xD Γ).1 (kd r).1 := Option.some.inj (k3.symm.trans hcls.1)
  subst hcomp
  obtain ⟨kC, hkC, -⟩ := hcls.2
  have h0 : ¬ j < 0 := fun q => hj (Or.inl q)
  refine W.aast hx hb h1 (fun q h => by cases h) (fun h => by cases h) k1 k2 rfl hkC ⟨h0, by rw [arrV_size]; exact in_lt hj⟩ g1 (fun q h => by rw [g3] at h; cases h) (by rw [g2]; exact hkC) (by rw [g2]; exact va_assign hcls) rfl rfl hd fun H' q1 q2 q3 => kk H' _ ?_ (lcs_app hlo)
  have e0 : (kd a).1 - 20 = t := by omega
  refine hH.arr ha rfl (by omega) (by rw [e0]; exact h1) (by rw [e0]; exact q1) q2 q3 ?_ (fun i hi => ⟨fun k => fv_uW hi, fun j => av_uW hi⟩)
  intro i
  rw [av_r e6, av_r e6]
  show rv Γ (up2 _ _ _ _ _ _) = _
  unfold up2
  by_cases e : i = j.toNatClampNeg
  · subst e
    simp
    rfl
  · simp [e]
/-- a heap with new cells behind -/
theorem HR.grow {H H' : Heap} {σ' : St} {w' : Wd} (h : HR Γ σ w H) {n : Nat} (hn : w'.1 = w.1 + n) (hs : H'.size = H.size + n) (hq : ∀ q, q < H.size → H'[q]? = H[q]?) (hf : ∀ i, i < w.1 → (∀ k, fv Γ σ' w'.2 (kd i).1 i k = fv Γ σ w.2 (kd i).1 i k) ∧ ∀ j, av Γ σ' w'.2 (kd i).1 i j = av Γ σ w.2 (kd i).1 i j)
    (hc : ∀ i, w.1 ≤ i → i < w.1 + n → atC Γ σ' w'.2 i H') : HR Γ σ' w' H' := by
  obtain ⟨h1, h2, h3⟩ := h
  refine ⟨by rw [hs, h1, hn]; omega, fun q hqz => ?_, fun i hi => ?_⟩
  · rw [hq q (by omega)]
    exact h2 q hqz
  · by_cases e : i < w.1
    · obtain ⟨g1, g2⟩ := h3 i e
      have hk : H'[gz Γ + i]? = H[gz Γ + i]? := hq _ (by omega)
      refine ⟨fun ht => ?_, fun ht => ?_⟩
      · exact ((g1 ht).kept hk).to (fun k _ => ((hf i e).1 k).symm)
      · rw [hk, g2 ht]
        congr 2
        funext j
        exact ((hf i e).2 j).symm
    · exact hc i (by omega) (by omega)
theorem fv_z {t i j : Nat} (h : i < w.1) : fv Γ (zS σ w.1) (zW w).2 t i j = fv Γ σ w.2 t i j := by
  have : ¬ i = w.1 := by omega
  unfold fv zW
  simp only [gI_zS, gJ_zS, gR_zS, this, if_false]
theorem av_z {t i j : Nat} (h : i < w.1) : av Γ (zS σ w.1) (zW w).2 t i j = av Γ σ w.2 t i j := by
  have : ¬ i = w.1 := by omega
  unfold av zW
  simp only [gI_zS, gJ_zS, this, if_false]
/-- a new object's fields -/
theorem fk_ty : ∀ t, t < 13 → ∀ k, k < ((vwCl[t]?.map (fun q => q.2.2)).getD 0) → (match fk t k with | 1 => Value.long 0 | 2 => .null | 3 => .null | _ => .int 0) = defaultValue (tyOf t k) := by decide +kernel
theorem fv_new {t k : Nat} {q : vw_C} (ht : vwCl[t]? = some q) (hk : k < q.2.2) : fv Γ (zS σ w.1) (zW w).2 t w.1 k = defaultValue (tyOf t k) := by
  have h13 : t < 13 := (List.getElem?_eq_some_iff.mp ht).1
  have h := fk_ty t h13 k (by rw [ht]; exact hk)
  rw [← h]
  unfold fv
  simp only [gI_zS, gJ_zS, gR_zS, zW, rv, va_rf, if_true, Option.map_none]
  rfl
theorem aw_new {n ci wi wj wk : Nat} (hd : decode (mB μ) pc = .ok (.new n, 3)) {q : vw_C} (hq : vwCl[ci]? = some q) (h1 : lw_tbl[wi]? = some (.classLink (mN μ).cls n q.1)) (h2 : lw_tbl[wj]? = some (.instantiable q.1 q.2.2)) (h3 : lw_tbl[wk]? = some (.initialized q.1)) (hk : (kd w.1).1 = ci) (hcc : cc + 1 ≤ mC μ) (hzz : zz + (kd w.1).2 ≤ mS μ)
    (k : AW Γ d μ Q (pc + 3) L (.ref w.1 :: S) (zS σ w.1) (zW w) (cc + 1) (zz + (kd w.1).2)) : AW Γ d μ Q pc L S σ w cc zz := by
  intro p l e s m args below meth c Z hF hR H locs ls hH hlo hl hc hz
  have kk := fun H hH => k p l e s m args below meth c Z hF hR H locs ls hH hlo hl hcc hzz
  obtain ⟨hx, hb, -, -, -, hown, -, -, hK⟩ := hF
  have hlt := ci_lt hq
  have hN : (kd w.1).2 = q.2.2 := by
    obtain ⟨q', g1, g2⟩ := kd_cl (i := w.1) (by rw [hk]; exact hlt)
    rw [hk, hq] at g1
    cases g1
    exact g2.symm
  rw [hN] at kk hzz
  have wd : ∀ {i : Nat} {x : Cond}, lw_tbl[i]? = some x → goodWord x = true → x.before args s = true := fun h g => hK.1 _ (List.mem_of_getElem? h) g args
  have hKn := hK.2.2.1.1 ci q hq
  obtain ⟨hw0, -, hty⟩ := cl_facts hq
  have hsz : H.size = gz Γ + w.1 := hH.1
  refine W.newcK hx hb hown (wd h1 rfl) (wd h2 rfl) (wd h3 rfl) rfl hd hcc hzz hKn.2.1 hsz fun H' kC hkC q1 q2 q3 => kk H' ?_
  refine hH.grow (n := 1) rfl (by rw [q2, hsz]) (fun x hx => q3 x (by omega)) (fun i hi => ⟨fun k => fv_z hi, fun j => av_z hi⟩) ?_
  intro i hi hi2
  have : i = w.1 := by omega
  subst this
  rw [atC_o (by rw [hk]; exact hlt), hk, hN]
  have hts : ∀ x ∈ u_ws q.1 q.2.1 q.2.2, x.before args s = true := fun x hx => hK.1 x (hw0 x hx).1 (hw0 x hx).2 args
  exact (u_born (tyOf ci) hts (fun _ h => h) hKn hkC q1 hty).to (fun k hk => (fv_new hq hk).symm)
/-- a new array -/
theorem av_new {t k : Nat} : av Γ (zS σ w.1) (zW w).2 t w.1 k = if t = 21 then .long 0 else if t < 24 then .int 0 else .null := by
  unfold av
  simp [gI_zS, gJ_zS, zW, rv, va_rf]
theorem HR.newA {H H' : Heap} (hH : HR Γ σ w H) {t N : Nat} {dv : Value} (ht : (kd w.1).1 = 20 + t) (hN : (kd w.1).2 = N) (hdv : (if 20 + t = 21 then Value.long 0 else if 20 + t < 24 then .int 0 else .null) = dv) (q1 : H'[gz Γ + w.1]? = some (arrV (xA Γ t) N (fun _ => dv))) (q2 : H'.size = gz Γ + w.1 + 1) (q3 : ∀ q, q < gz Γ + w.1 → H'[q]? = H[q]?) : HR Γ (zS σ w.1) (zW w) H' := by
  have hsz : H.size = gz Γ + w.1 := hH.1
  refine hH.grow (n := 1) rfl (by rw [q2, hsz]) (fun x hx => q3 x (by omega)) (fun i hi => ⟨fun k => fv_z hi, fun j => av_z hi⟩) ?_
  intro i hi hi2
  have : i = w.1 := by omega
  subst this
  rw [atC_a (by rw [ht]; omega), ht, hN, show 20 + t - 20 = t by omega, q1]
  congr 2
  funext j
  rw [av_new, hdv]
theorem aw_newa {ty : ArrayType} {n : Int32} (hd : decode (mB μ) pc = .ok (.newarray ty, 2)) (ht : (kd w.1).1 = 20 ∧ ty = .int ∨ (kd w.1).1 = 21 ∧ ty = .long ∨ (kd w.1).1 = 22 ∧ ty = .byte ∨ (kd w.1).1 = 23 ∧ ty = .boolean) (hn : ¬ n < 0) (hN : (kd w.1).2 = n.toNatClampNeg) (hcc : cc + 1 ≤ mC μ) (hzz : zz + (kd w.1).2 ≤ mS μ)
    (k : AW Γ d μ Q (pc + 2) L (.ref w.1 :: S) (zS σ w.1) (zW w) (cc + 1) (zz + (kd w.1).2)) : AW Γ d μ Q pc L (.int n :: S) σ w cc zz := by
  intro p l e s m args below meth c Z hF hR H locs ls hH hlo hl hc hz
  have kk := fun H hH => k p l e s m args below meth c Z hF hR H locs ls hH hlo hl hcc hzz
  obtain ⟨hx, hb, -, -, -, hown, -, -, hK⟩ := hF
  rw [hN] at kk hzz
  have hsz : H.size = gz Γ + w.1 := hH.1
  have hbig : n.toNatClampNeg ≤ 40000 := by
    rw [← hN]
    by_cases h : w.1 < 430
    · have : ∀ i, i < 430 → (kd i).2 ≤ 40000 := by decide +kernel
      exact this _ h
    · rw [kd_out h]
      decide
  have go : ∀ (t : Nat) (ty' : FieldType) (dv : Value), t < 9 → (kd w.1).1 = 20 + t → newarray.typeOf ty = ty' → aty t = ty' → (Cond.arrayClass ty').before args s = true → (if 20 + t = 21 then Value.long 0 else if 20 + t < 24 then .int 0 else .null) = dv → defaultValue ty' = dv → componentBytes ty' ≤ 8 → va_RA s (xA Γ t) (aty t) → (∀ cA, s.vm.findClass ("[" ++ ty'.toString) = some cA → va_RA s (xA Γ t) (aty t) → cA = xA Γ t) → W p l e (rmOf d (mC μ) (mS μ)) s m args below meth c H locs cc zz Z (F0 m pc ls ((Value.int n :: S).map (cv Γ))) := by
    intro t ty' dv h9 h1 h2 h3 h4 h5 h6 h7 h8 h10
    subst h2
    refine va_newaK hx hb h4 rfl hd rfl hn rfl (by have : n.toNatClampNeg * componentBytes (newarray.typeOf ty) ≤ 40000 * 8 := Nat.mul_le_mul hbig h7; omega) hcc hzz hsz fun H' cA q1 q2 q3 _ q5 => kk H' ?_
    have e : cA = xA Γ t := h10 cA q5 h8
    subst e
    rw [h6] at q1
    exact hH.newA h1 hN h5 q1 q2 q3
  have hra : ∀ t, t < 9 → va_RA s (xA Γ t) (aty t) := fun t ht => (hK.2.2.1.2 t (xA Γ t, aty t) (by rw [List.getElem?_map, List.getElem?_range ht]; rfl)).2
  have wd : ∀ {i : Nat} {x : Cond}, lw_tbl[i]? = some x → goodWord x = true → x.before args s = true := fun h g => hK.1 _ (List.mem_of_getElem? h) g args
  rcases ht with ⟨h, rfl⟩ | ⟨h, rfl⟩ | ⟨h, rfl⟩ | ⟨h, rfl⟩
  · exact go 0 .int (.int 0) (by decide) h rfl rfl (hK.1 _ (by decide +kernel) rfl args) rfl rfl (by decide) (hra 0 (by decide)) (fun cA q1 q2 => Option.some.inj (q1.symm.trans q2))
  · exact go 1 .long (.long 0) (by decide) h rfl rfl (hK.1 _ (by decide +kernel) rfl args) rfl rfl (by decide) (hra 1 (by decide)) (fun cA q1 q2 => Option.some.inj (q1.symm.trans q2))
  · exact go 2 .byte (.int 0) (by decide) h rfl rfl (hK.1 _ (by decide +kernel) rfl args) rfl rfl (by decide) (hra 2 (by decide)) (fun cA q1 q2 => Option.some.inj (q1.symm.trans q2))
  · exact go 3 .boolean (.int 0) (by decide) h rfl rfl (hK.1 _ (by decide +kernel) rfl args) rfl rfl (by decide) (hra 3 (by decide)) (fun cA q1 q2 => Option.some.inj (q1.symm.trans q2))
theorem aw_anew {n t wi : Nat} {j : Int32} {q : vw_C} {ci : Nat} (hd : decode (mB μ) pc = .ok (.anewarray n, 3)) (hq : vwCl[ci]? = some q) (hct : (t = 24 ∧ ci = 7) ∨ (t = 25 ∧ ci = 10) ∨ (t = 26 ∧ ci = 5) ∨ (t = 27 ∧ ci = 6)) (h1 : lw_tbl[wi]? = some (.classLink (mN μ).cls n q.1)) (hk : (kd w.1).1 = t) (hn : ¬ j < 0) (hN : (kd w.1).2 = j.toNatClampNeg) (hcc : cc + 1 ≤ mC μ) (hzz : zz + (kd w.1).2 ≤ mS μ)
    (k : AW Γ d μ Q (pc + 3) L (.ref w.1 :: S) (zS σ w.1) (zW w) (cc + 1) (zz + (kd w.1).2)) : AW Γ d μ Q pc L (.int j :: S) σ w cc zz := by
  intro p l e s m args below meth c Z hF hR H locs ls hH hlo hl hc hz
  have kk := fun H hH => k p l e s m args below meth c Z hF hR H locs ls hH hlo hl hcc hzz
  obtain ⟨hx, hb, -, -, -, hown, -, -, hK⟩ := hF
  rw [hN] at kk hzz
  have hsz : H.size = gz Γ + w.1 := hH.1
  have hbig : j.toNatClampNeg ≤ 40000 := by
    rw [← hN]
    by_cases h : w.1 < 430
    · have : ∀ i, i < 430 → (kd i).2 ≤ 40000 := by decide +kernel
      exact this _ h
    · rw [kd_out h]
      decide
  have hra : ∀ t, t < 9 → va_RA s (xA Γ t) (aty t) := fun t ht => (hK.2.2.1.2 t (xA Γ t, aty t) (by rw [List.getElem?_map, List.getElem?_range ht]; rfl)).2
  have hlink := hK.1 _ (List.mem_of_getElem? h1) rfl args
  obtain ⟨o1, o2, o3, o4, -⟩ := hK.2.2.2.2.2
  have go : ∀ (t' : Nat), t' < 9 → t = 20 + t' → 4 ≤ t' → aty t' = .object q.1 → va_AO q.1 s → W p l e (rmOf d (mC μ) (mS μ)) s m args below meth c H locs cc zz Z (F0 m pc ls ((Value.int j :: S).map (cv Γ))) := by
    intro t' h9 ht' h4 hty hao
    refine W.anew hx hb hown hlink (va_AO.use hao) rfl hd rfl hn (by omega) hcc hzz fun cA kA comp f1 f2 f3 f4 => ?_
    have hr := hra t' h9
    rw [hty] at hr
    obtain ⟨_, _, -, -, -, hr4⟩ := hr
    have e : cA = xA Γ t' := Option.some.inj (f1.symm.trans hr4)
    subst e
    rw [hsz]
    refine kk _ ?_
    refine hH.newA (t := t') (N := j.toNatClampNeg) (dv := .null) (by rw [hk, ht']) hN (by rw [if_neg (by omega), if_neg (by omega)]) ?_ ?_ ?_
    · rw [← hsz, Array.getElem?_push_size, ← arrV_new]
    · rw [Array.size_push, hsz]
    · intro x hx
      rw [Array.getElem?_push, if_neg (by omega)]
  rcases hct with ⟨rfl, rfl⟩ | ⟨rfl, rfl⟩ | ⟨rfl, rfl⟩ | ⟨rfl, rfl⟩ <;> cases hq
  · exact go 4 (by decide) rfl (by decide) rfl o1
  · exact go 5 (by decide) rfl (by decide) rfl o2
  · exact go 6 (by decide) rfl (by decide) rfl o3
  · exact go 7 (by decide) rfl (by decide) rfl o4
theorem vr_outer (c : ClassId) (N h0 : Nat) : ∀ i : Nat, Jvm.Free.Multi.outerC c N h0 i = arrV c N (fun j => va_rf (if j < i then some (h0 + 1 + j) else none))
  | 0 => by
    show ({ cls := c, slots := Array.replicate N .null, vm := .none } : Cell) = _
    rw [arrV_new]
    refine congrArg (arrV c N) (funext fun j => ?_)
    simp [va_rf]
  | i + 1 => by
    show (Jvm.Free.Multi.outerC c N h0 i).setSlot i (.ref (h0 + 1 + i)) = _
    rw [vr_outer c N h0 i, arrV_store]
    refine congrArg (arrV c N) (funext fun j => ?_)
    by_cases e : j = i
    · subst e
      simp [updV, va_rf]
    · by_cases h : j < i
      · simp [updV, e, h, Nat.lt_succ_of_lt h]
      · simp [updV, e, h, show ¬ j < i + 1 by omega]
theorem aw_multi {n wi : Nat} {a b : Int32} (hd : decode (mB μ) pc = .ok (.multianewarray n 2, 4)) (h1 : lw_tbl[wi]? = some (.classLink (mN μ).cls n "[[I")) (hk : kd w.1 = (28, a.toNatClampNeg)) (hrow : ∀ i, i < a.toNatClampNeg → kd (w.1 + 1 + i) = (20, b.toNatClampNeg)) (ha : ¬ a < 0) (hb0 : ¬ b < 0) (ha1 : a.toNatClampNeg ≤ 1000) (hb1 : b.toNatClampNeg ≤ 1000)
    (hcc : cc + (1 + a.toNatClampNeg) ≤ mC μ) (hzz : zz + (a.toNatClampNeg + a.toNatClampNeg * b.toNatClampNeg) ≤ mS μ)
    (k : AW Γ d μ Q (pc + 4) L (.ref w.1 :: S) (zM σ w.1 (1 + a.toNatClampNeg)) (gM w a.toNatClampNeg) (cc + 1 + a.toNatClampNeg) (zz + a.toNatClampNeg + a.toNatClampNeg * b.toNatClampNeg)) : AW Γ d μ Q pc L (.int b :: .int a :: S) σ w cc zz := by
  intro p l e s m args below meth c Z hF hR H locs ls hH hlo hl hc hz
  have kk := fun H hH => k p l e s m args below meth c Z hF hR H locs ls hH hlo hl (by omega) (by omega)
  obtain ⟨hx, hb, -, -, -, hown, -, -, hK⟩ := hF
  have hsz : H.size = gz Γ + w.1 := hH.1
  have hra : ∀ t, t < 9 → va_RA s (xA Γ t) (aty t) := fun t ht => (hK.2.2.1.2 t (xA Γ t, aty t) (by rw [List.getElem?_map, List.getElem?_range ht]; rfl)).2
  have hlink : (Cond.classLink (mN μ).cls n ("[" ++ (FieldType.array .int).toString)).before args s = true := hK.1 _ (List.mem_of_getElem? h1) rfl args
  have hao : (Cond.arrayOver (.array .int)).before args s = true := hK.2.2.2.2.2.2.2.2.2
  have hac : (Cond.arrayClass .int).before args s = true := hK.1 _ (by decide +kernel) rfl args
  intro T hT Xs
  obtain ⟨vm₁, cA, comp, -, fA, fC, hO, -, X', step⟩ := Xs.multianewarray2F hx hown hlink hao hac (g := F0 m pc ls ((Value.int b :: .int a :: S).map (cv Γ))) rfl (by rw [hb]; exact hd) rfl ha hb0 (by omega) (by show _ * 4 ≤ _; omega) (by omega) rfl rfl hcc hzz
  have e1 : cA = xA Γ 8 := by
    have := hra 8 (by decide)
    exact Option.some.inj (fA.symm.trans this)
  have e2 : comp = xA Γ 0 := by
    have := hra 0 (by decide)
    exact Option.some.inj (fC.symm.trans this)
  subst e1
  subst e2
  have hTh : (T.setVm vm₁).heap = H := hT
  obtain ⟨f1, f2, -, -⟩ := Jvm.Free.Multi.fill_facts (T.setVm vm₁) (xA Γ 8) (xA Γ 0) a.toNatClampNeg b.toNatClampNeg (defaultValue .int) a.toNatClampNeg
  have fo := fun x hx => Jvm.Free.Multi.fill_old (T.setVm vm₁) (xA Γ 8) (xA Γ 0) a.toNatClampNeg b.toNatClampNeg (defaultValue .int) (a := x) hx a.toNatClampNeg
  have fi := Jvm.Free.Multi.fill_inner (T.setVm vm₁) (xA Γ 8) (xA Γ 0) a.toNatClampNeg b.toNatClampNeg (defaultValue .int) a.toNatClampNeg
  generalize Jvm.Free.Multi.fill (T.setVm vm₁) (xA Γ 8) (xA Γ 0) a.toNatClampNeg b.toNatClampNeg (defaultValue .int) a.toNatClampNeg = F at X' step f1 f2 fo fi
  rw [hTh, hsz] at f1 f2 fi
  rw [hTh] at fo
  rw [vr_outer] at f2
  have hHR : HR Γ (zM σ w.1 (1 + a.toNatClampNeg)) (gM w a.toNatClampNeg) F.heap := by
    refine hH.grow (n := 1 + a.toNatClampNeg) (by show w.1 + 1 + a.toNatClampNeg = _; omega) (by rw [f1, hsz]; omega) (fun x hx => fo x hx) (fun i hi => ⟨fun k => ?_, fun j => ?_⟩) ?_
    · have z1 : ¬ (w.1 ≤ i ∧ i < w.1 + (1 + a.toNatClampNeg)) := by omega
      have z2 : ¬ i = w.1 := by omega
      have z3 : ¬ (w.1 ≤ i ∧ i < w.1 + 1 + a.toNatClampNeg) := by omega
      unfold fv gI gJ gR zM gM
      simp only [z1, z2, z3, if_false]
    · have z1 : ¬ (w.1 ≤ i ∧ i < w.1 + (1 + a.toNatClampNeg)) := by omega
      have z2 : ¬ i = w.1 := by omega
      have z3 : ¬ (w.1 ≤ i ∧ i < w.1 + 1 + a.toNatClampNeg) := by omega
      unfold av gI gJ zM gM
      simp only [z1, z2, z3, if_false]
    · intro i hi hi2
      by_cases e : i = w.1
      · subst e
        rw [atC_a (by rw [hk]; show 20 ≤ 28; decide), hk]
        show F.heap[gz Γ + w.1]? = some (arrV (xA Γ 8) _ _)
        rw [f2]
        congr 2
        funext j
        show _ = rv Γ ((gM w a.toNatClampNeg).2 w.1 j)
        unfold gM rv
        simp only [if_true]
        by_cases hj : j < a.toNatClampNeg
        · rw [if_pos hj, if_pos hj]
          show va_rf (some (gz Γ + w.1 + 1 + j)) = va_rf (some (gz Γ + (w.1 + 1 + j)))
          rw [show gz Γ + w.1 + 1 + j = gz Γ + (w.1 + 1 + j) by omega]
        · rw [if_neg hj, if_neg hj]
          rfl
      · have hr := hrow (i - w.1 - 1) (by omega)
        rw [show w.1 + 1 + (i - w.1 - 1) = i by omega] at hr
        rw [atC_a (by rw [hr]; show 20 ≤ 20; decide), hr]
        show F.heap[gz Γ + i]? = some (arrV (xA Γ 0) _ _)
        have := fi (i - w.1 - 1) (by omega)
        rw [show gz Γ + w.1 + 1 + (i - w.1 - 1) = gz Γ + i by omega] at this
        rw [this]
        show some ({ cls := _, slots := Array.replicate _ _, vm := .none } : Cell) = _
        rw [arrV_new]
        congr 2
        funext j
        have z1 : w.1 ≤ i ∧ i < w.1 + (1 + a.toNatClampNeg) := by omega
        unfold av gI zM
        simp only [z1, and_self, if_true]
        rfl
  obtain ⟨t, a1, b1⟩ := kk F.heap hHR F rfl X'
  refine ⟨t, step t ?_, b1⟩
  have e : T.heap.size = gz Γ + w.1 := by rw [hT, hsz]
  rw [e]
  exact a1
theorem aw_obj {n wi wj wk : Nat} {o : Nat} (hd : decode (mB μ) pc = .ok (.invokespecial n, 3)) (h1 : lw_tbl[wi]? = some (.methodLink (mN μ).cls n Lib.objectInit)) (h2 : lw_tbl[wj]? = some (.instanceMethod Lib.objectInit)) (h3 : lw_tbl[wk]? = some (.code Lib.objectInit ⟨#[0xb1]⟩ 1 none)) (h0 : 1 ≤ d) (hS : catS S ≤ 8) (k : AW Γ d μ Q (pc + 3) L S σ w cc zz) : AW Γ d μ Q pc L (.ref o :: S) σ w cc zz := by
  intro p l e s m args below meth c Z hF hR H locs ls hH hlo hl hc hz
  have kk := k p l e s m args below meth c Z hF hR H locs ls hH hlo hl hc hz
  obtain ⟨hx, hb, hml, -, -, hown, -, -, hK⟩ := hF
  have wd : ∀ {i : Nat} {x : Cond}, lw_tbl[i]? = some x → goodWord x = true → x.before args s = true := fun h g => hK.1 _ (List.mem_of_getElem? h) g args
  refine W.objInit hx hb hown (wd h1 rfl) (wd h2 rfl) (wd h3 rfl) rfl (by rw [hml]; exact hl.1) rfl hd h0 ?_ kk
  show 2 * 0 + ((S.map (cv Γ)).map fun v => v.category).sum + 12 ≤ 36 * d
  rw [List.map_map, show (fun v => v.category) ∘ cv Γ = Value.category from funext (fun v => cv_cat Γ v)]
  unfold catS at hS
  omega
end Make
end
section
/-! calls: contracts out of walks, and walks over contracts -/
theorem va_AOA.moved {ty : FieldType} {u U : State} (hvm : u.vm.Alike U.vm) (h : va_AOA ty u) : va_AOA ty U := by
  obtain ⟨comp, c, k, h1, h2, h3, h4, h5⟩ := arrayOverA_spec h
  obtain ⟨k', hk', he⟩ := hvm.2.2 _ _ h3
  have hi : (U.vm.classes.findIdx? fun (x : Class) => match x.kind with | .array component _ => component == comp | _ => false) = some c := by
    have b1 := va_idx_bare U.vm comp
    have b2 := va_idx_bare u.vm comp
    have b3 : U.vm.bare = u.vm.bare := by first | exact hvm.bare_eq | exact hvm.bare_eq.symm
    rw [b3] at b1
    exact b1.symm.trans (b2.trans h2)
  have hkind : k'.kind = .array comp (.array ty) := by rw [he]; exact h4
  have f1 : U.vm.findClass (FieldType.array ty).toString = some comp := by rw [hvm.findClass]; exact h1
  have f2 : U.vm.findClass ("[" ++ (FieldType.array ty).toString) = some c := by rw [hvm.findClass]; exact h5
  unfold va_AOA Cond.before Cond.holds
  simp only [Cond.value]
  rw [f1, Option.bind_some]
  refine (congrArg (fun o : Option Nat => (o.bind (fun c => (U.vm.classes[c]?).map fun (k : Class) => match k.kind with | .array _ t => decide (t = FieldType.array ty) && decide (U.vm.findClass ("[" ++ (FieldType.array ty).toString) = some c) | _ => false) == some true)) hi).trans ?_
  simp [hk', hkind, f2]
theorem GK.warm {Γ : Gx} {s U : State} (hW : s.WarmedH U.vm) (h : GK Γ s) : GK Γ U := by
  obtain ⟨h1, h2, h3, h4, ⟨h5, h6, h7, h7b⟩, h8, h9, h10, h11, h12⟩ := h
  have ha := hW.alike
  refine ⟨fun w hw hg a => word_at hW (good_of_word hg) (h1 w hw hg #[]), fun w hw => ?_, h3.moved ha, h4.moved ha, ⟨h5.moved ha, fun i hi => (h6 i hi).warm hW, h7.moved ha, h7b.elim (fun q => Or.inl (q.moved ha)) (fun q => Or.inr (q.moved ha))⟩, h8.moved ha, h9.moved ha, h10.moved ha, h11.moved ha, h12.moved ha⟩
  have hz := h2 w hw
  obtain ⟨-, hf⟩ := List.mem_filter.mp hw
  revert hf
  split
  · intro _
    exact va_Nw.warmM hW hz
  · intro hf
    cases hf
theorem sum_cv (Γ : Gx) (S : List Value) : ((S.map (cv Γ)).map fun v => v.category).sum = catS S := by
  rw [List.map_map, show (fun v => v.category) ∘ cv Γ = Value.category from funext (fun v => cv_cat Γ v)]
  rfl
/-- what a program checks of a call: the words at these places -/
def cCk (C : String) (n kind : Nat) (ν : MD) (ws : List Nat) : Bool :=
  decide ((mN ν).cls ≠ "java/lang/invoke/MethodHandle" ∧ (mN ν).cls ≠ "java/lang/invoke/VarHandle") && decide ((parseMethodDescriptor (mN ν).desc).map (fun d => d.parameters.length) = some (mA ν)) && decide (mL ν ≤ 17 ∧ (3 ≤ mK ν ∨ (mC ν = 0 ∧ mS ν = 0))) &&
  decide (lw_tbl[ws.getD 0 0]? = some (.code (mN ν) (mB ν) (mL ν) (mR ν))) && decide (lw_tbl[ws.getD 1 0]? = some (.initialized (mN ν).cls)) &&
  (match kind with
  | 0 => decide (lw_tbl[ws.getD 2 0]? = some (.methodLink C n (mN ν))) && decide (lw_tbl[ws.getD 3 0]? = some (.instanceMethod (mN ν))) && decide (lw_tbl[ws.getD 4 0]? = some (.selects (mN ν).cls (mN ν) (mN ν))) && decide (vwCl[mO ν]?.map (fun q => q.1) = some (mN ν).cls)
  | 1 => decide (lw_tbl[ws.getD 2 0]? = some (.methodLink C n (mN ν))) && decide (lw_tbl[ws.getD 3 0]? = some (.static (mN ν)))
  | 2 => decide (lw_tbl[ws.getD 2 0]? = some (.methodLink C n (mN ν))) && decide (lw_tbl[ws.getD 3 0]? = some (.instanceMethod (mN ν))) && decide ((mN ν).name = "<init>") && decide (mR ν = none)
  | 3 => decide (Cond.methodLinkNest C n (mN ν) "FirstReader" ∈ nests) && decide (lw_tbl[ws.getD 3 0]? = some (.instanceMethod (mN ν))) && decide ((mN ν).name = "<init>") && decide (mR ν = none)
  | 6 => decide (Cond.methodLinkNest C n (mN ν) "FirstReader" ∈ nests) && decide (lw_tbl[ws.getD 3 0]? = some (.static (mN ν)))
  | 5 => decide (lw_tbl[ws.getD 2 0]? = some (.methodLink C n (mN ν))) && decide (lw_tbl[ws.getD 3 0]? = some (.instanceMethod (mN ν))) && decide (lw_tbl[ws.getD 4 0]? = some (.selects (mN ν).cls (mN ν) (mN ν))) && decide ((mN ν).cls = "java/lang/String")
  | _ => false)
section Call
variable {Γ : Gx} {d : Nat} {μ : MD} {Q : Option Value → St → Wd → Prop} {pc : Nat} {L : Lv} {S : List Value} {σ : St} {w : Wd} {cc zz : Nat}
theorem aw_back {ν : MD} {S : List Value} {Q' : Option Value → St → Wd → Prop} {p : Program} {l : Launch} {e : Env} {s : State} {m : MethodId} {args : Array Value} {below : List Frame} {meth : Method} {c : Code} {Z : State → Prop} {H : Heap} {locs : List Loc} {ls : Array Slot} {st : List Value}
    (hF : Fx Γ μ p l s m meth c) (hR : RetOK Γ (d + 1) μ Q p l e s m args below meth c Z) (hlo : lcs Γ locs) (hl : lv_has ls (mL μ) (cL Γ L)) (hcc : cc + mC ν ≤ mC μ) (hzz : zz + mS ν ≤ mS μ)
    (run : va_Run p l e (rmOf (d + 1) (mC μ) (mS μ)) s m args below meth c H locs cc zz (mC ν) (mS ν) (F0 m pc ls st) (S.map (cv Γ)) (fun (_ : State) o t => ∃ v σ' w', o = Outcome.returned (v.map (cv Γ)) ∧ HR Γ σ' w' t.heap ∧ Q' v σ' w') (fun q => gz Γ ≤ q))
    (k : ∀ v σ' w', Q' v σ' w' → AW Γ (d + 1) μ Q (pc + 3) L (v.toList ++ S) σ' w' (cc + mC ν) (zz + mS ν)) : W p l e (rmOf (d + 1) (mC μ) (mS μ)) s m args below meth c H locs cc zz Z (F0 m pc ls st) := by
  intro T hT X
  obtain ⟨v, st₀, t, T', L', h0, X', hL, e1, e2, ⟨v', σ', w', hv, hHR, hq⟩, hgo⟩ := run T hT X
  cases hv
  have kk := k v' σ' w' hq p l e s m args below meth c Z hF hR T'.heap (locs ++ L') ls (by rw [e1]; exact hHR) (fun q hq => by
    rcases List.mem_append.mp hq with h | h
    · exact hlo q h
    · exact hL q h) hl hcc hzz
  have es : (v'.map (cv Γ)).toList ++ S.map (cv Γ) = (v'.toList ++ S).map (cv Γ) := by cases v' <;> simp
  obtain ⟨t2, a1, b1⟩ := kk T' rfl X'
  refine ⟨t2, hgo t2 ?_, b1⟩
  rw [es]
  exact a1
theorem pre_blind {A : List Value} : FrameBlind (fun args s => args = (A.map (cv Γ)).toArray ∧ HR Γ σ w s.heap ∧ GK Γ s) := by
  intro a U g mk h
  exact ⟨h.1, h.2.1, h.2.2.warm (U := U.calling g mk a) (State.WarmedH.refl U)⟩
theorem pre_ok {A : List Value} {s : State} {H : Heap} (hH : HR Γ σ w H) (hK : GK Γ s) (U : State) (h1 : U.heap = H) (h2 : s.WarmedH U.vm) : (fun (args : Array Value) (s : State) => args = (A.map (cv Γ)).toArray ∧ HR Γ σ w s.heap ∧ GK Γ s) (A.map (cv Γ)).toArray U := ⟨rfl, by rw [h1]; exact hH, hK.warm h2⟩
theorem cCk_spec {C : String} {n kind : Nat} {ν : MD} {ws : List Nat} (h : cCk C n kind ν ws = true) {s : State} (hK : GK Γ s) (args : Array Value) {R : Room} (hf : d + 1 ≤ R.frames) (hlo : 36 * (d + 1) ≤ R.locals) :
    ((mN ν).cls ≠ "java/lang/invoke/MethodHandle" ∧ (mN ν).cls ≠ "java/lang/invoke/VarHandle") ∧ (∀ sig, parseMethodDescriptor (mN ν).desc = some sig → mA ν = sig.parameters.length) ∧ d + 1 ≤ R.frames ∧ (8 + (mL ν + 11) + 36 * d ≤ R.locals) ∧ (∀ x ∈ [Cond.code (mN ν) (mB ν) (mL ν) (mR ν)], ∀ (a' : Array Value) (U : State), s.WarmedH U.vm → x.before a' U = true) ∧ (Cond.code (mN ν) (mB ν) (mL ν) (mR ν)).before args s = true ∧ (Cond.initialized (mN ν).cls).before args s = true := by
  unfold cCk at h
  simp only [Bool.and_eq_true, decide_eq_true_eq] at h
  obtain ⟨⟨⟨⟨⟨h1, h2⟩, h3⟩, h4⟩, h5⟩, -⟩ := h
  have wd : ∀ {i : Nat} {x : Cond}, lw_tbl[i]? = some x → goodWord x = true → x.before args s = true := fun h g => hK.1 _ (List.mem_of_getElem? h) g args
  refine ⟨h1, fun sig hs => ?_, hf, by omega, ?_, wd h4 rfl, wd h5 rfl⟩
  · rw [hs] at h2
    exact (Option.some.inj h2).symm
  · intro x hx a' U hW
    rw [List.mem_singleton.mp hx]
    exact word_at hW (good_of_word rfl) (hK.1 _ (List.mem_of_getElem? h4) rfl #[])
theorem cCk_z {C : String} {n kind : Nat} {ν : MD} {ws : List Nat} (h : cCk C n kind ν ws = true) (hk : mK ν < 3) : mC ν = 0 ∧ mS ν = 0 := by
  unfold cCk at h
  simp only [Bool.and_eq_true, decide_eq_true_eq] at h
  obtain ⟨⟨⟨⟨⟨h1, h2⟩, h3⟩, h4⟩, h5⟩, -⟩ := h
  rcases h3.2 with q | q
  · omega
  · exact q
theorem aw_callS {ν : MD} {n kind : Nat} (hkd : kind = 1 ∨ kind = 6) {ws : List Nat} {As S : List Value} {Q' : Option Value → St → Wd → Prop} (hd : decode (mB μ) pc = .ok (.invokestatic n, 3)) (hck : cCk (mN μ).cls n kind ν ws = true) (hA : As.length = mA ν) (hS : catS S ≤ 8) (hcc : cc + mC ν ≤ mC μ) (hzz : zz + mS ν ≤ mS μ) (hsp : Sp Γ d ν As σ w Q')
    (k : ∀ v σ' w', Q' v σ' w' → AW Γ (d + 1) μ Q (pc + 3) L (v.toList ++ S) σ' w' (cc + mC ν) (zz + mS ν)) : AW Γ (d + 1) μ Q pc L (As.reverse ++ S) σ w cc zz := by
  intro p l e s m args below meth c Z hF hR H locs ls hH hlo hl hc hz
  have hF' := hF
  obtain ⟨hx, hb, hml, -, -, hown, -, rfl, hK⟩ := hF
  obtain ⟨c1, c2, c3, c4, c5, c6, c7⟩ := cCk_spec hck hK args (R := rmOf (d + 1) (mC μ) (mS μ)) (Nat.le_refl _) (Nat.le_refl _)
  have wd : ∀ {i : Nat} {x : Cond}, lw_tbl[i]? = some x → goodWord x = true → x.before args s = true := fun h g => hK.1 _ (List.mem_of_getElem? h) g args
  have hst : (As.reverse ++ S).map (cv Γ) = (As.map (cv Γ)).reverse ++ S.map (cv Γ) := by rw [List.map_append, List.map_reverse]
  have hW : 2 * 0 + ((S.map (cv Γ)).map fun v => v.category).sum ≤ 8 := by
    rw [sum_cv]
    omega
  rcases hkd with rfl | rfl
  · unfold cCk at hck
    simp only [Bool.and_eq_true, decide_eq_true_eq] at hck
    exact aw_back hF' hR hlo hl hcc hzz (va_runS (As := As.map (cv Γ)) (rest := S.map (cv Γ)) (Ts := []) ⟨hx, hb, hml, hown, fun _ h => absurd h List.not_mem_nil⟩ hsp ⟨⟨rfl, rfl, c3, c4, c5, List.mem_singleton.mpr rfl, c6, c7, c1, c2, wd hck.2.1 rfl⟩, wd hck.2.2 rfl⟩ ⟨pre_blind, fun U h1 h2 => pre_ok hH hK U h1 h2⟩ rfl (by rw [List.length_map]; exact hA) hl.1 hst hW hd ⟨hcc, hzz⟩) k
  · unfold cCk at hck
    simp only [Bool.and_eq_true, decide_eq_true_eq] at hck
    exact aw_back hF' hR hlo hl hcc hzz (va_runSN (host := "FirstReader") (As := As.map (cv Γ)) (rest := S.map (cv Γ)) (Ts := []) ⟨hx, hb, hml, hown, fun _ h => absurd h List.not_mem_nil⟩ hsp ⟨⟨⟨rfl, rfl, c3, c4, c5, List.mem_singleton.mpr rfl⟩, c6, c7, c1, c2, va_Nw.use rfl (hK.2.1 _ hck.2.1)⟩, wd hck.2.2 rfl, trivial⟩ ⟨pre_blind, fun U h1 h2 => pre_ok hH hK U h1 h2⟩ rfl (by rw [List.length_map]; exact hA) hl.1 hst hW hd ⟨hcc, hzz⟩) k
theorem aw_callV {ν : MD} {n : Nat} {ws : List Nat} {o : Nat} {As S : List Value} {Q' : Option Value → St → Wd → Prop} (hd : decode (mB μ) pc = .ok (.invokevirtual n, 3)) (hck : cCk (mN μ).cls n 0 ν ws = true) (ho : okO w o (mO ν)) (hA : As.length = mA ν) (hS : catS S ≤ 8) (hcc : cc + mC ν ≤ mC μ) (hzz : zz + mS ν ≤ mS μ) (hsp : Sp Γ d ν (.ref o :: As) σ w Q')
    (k : ∀ v σ' w', Q' v σ' w' → AW Γ (d + 1) μ Q (pc + 3) L (v.toList ++ S) σ' w' (cc + mC ν) (zz + mS ν)) : AW Γ (d + 1) μ Q pc L (As.reverse ++ .ref o :: S) σ w cc zz := by
  intro p l e s m args below meth c Z hF hR H locs ls hH hlo hl hc hz
  have hF' := hF
  obtain ⟨hx, hb, hml, -, -, hown, -, rfl, hK⟩ := hF
  obtain ⟨c1, c2, c3, c4, c5, c6, c7⟩ := cCk_spec hck hK args (R := rmOf (d + 1) (mC μ) (mS μ)) (Nat.le_refl _) (Nat.le_refl _)
  have wd : ∀ {i : Nat} {x : Cond}, lw_tbl[i]? = some x → goodWord x = true → x.before args s = true := fun h g => hK.1 _ (List.mem_of_getElem? h) g args
  unfold cCk at hck
  simp only [Bool.and_eq_true, decide_eq_true_eq] at hck
  obtain ⟨-, ⟨⟨h1, h2⟩, h3⟩, h4⟩ := hck
  have hcl : ∃ q, vwCl[mO ν]? = some q ∧ q.1 = (mN ν).cls := by
    cases hq : vwCl[mO ν]? with
    | none => rw [hq] at h4; cases h4
    | some q => rw [hq] at h4; exact ⟨q, rfl, Option.some.inj h4⟩
  obtain ⟨q, hq, hqn⟩ := hcl
  have hrecv : ∃ cellB : Cell, H[gz Γ + o]? = some cellB ∧ cellB.vm.isStatics = false ∧ s.vm.findClass (mN ν).cls = some cellB.cls := by
    obtain ⟨q', hq', -, ⟨cell, g1, g2, g3, -⟩, hKn⟩ := fl_facts hK hH ho (ci_lt hq)
    cases hq'.symm.trans hq
    exact ⟨cell, g1, by rw [g3]; rfl, by rw [g2, ← hqn]; exact hKn.2.1⟩
  refine aw_back hF' hR hlo hl hcc hzz (va_runV (C := (mN ν).cls) (b := gz Γ + o) (As := As.map (cv Γ)) (rest := S.map (cv Γ)) (Ts := []) ⟨hx, hb, hml, hown, fun _ h => absurd h List.not_mem_nil⟩ hsp ⟨⟨rfl, rfl, c3, c4, c5, List.mem_singleton.mpr rfl, c6, c7, c1, c2, wd h1 rfl⟩, wd h2 rfl, wd h3 rfl⟩ ⟨pre_blind, hrecv, fun U h1 h2 => pre_ok (A := .ref o :: As) hH hK U h1 h2⟩ rfl (by rw [List.length_map]; exact hA) hl.1 ?_ ?_ hd ⟨hcc, hzz⟩) k
  · show (As.reverse ++ .ref o :: S).map (cv Γ) = _
    rw [List.map_append, List.map_reverse]
    rfl
  · show 2 * 0 + _ ≤ 8
    rw [sum_cv]
    omega
theorem aw_callX {ν : MD} {n : Nat} {ws : List Nat} {x : Nat} {As S : List Value} {Q' : Option Value → St → Wd → Prop} (hd : decode (mB μ) pc = .ok (.invokevirtual n, 3)) (hck : cCk (mN μ).cls n 5 ν ws = true) (hx1 : 1 ≤ x) (hx9 : x ≤ 9) (hA : As.length = mA ν) (hS : catS S ≤ 8) (hcc : cc + mC ν ≤ mC μ) (hzz : zz + mS ν ≤ mS μ) (hsp : Sp Γ d ν (.retAddr x :: As) σ w Q')
    (k : ∀ v σ' w', Q' v σ' w' → AW Γ (d + 1) μ Q (pc + 3) L (v.toList ++ S) σ' w' (cc + mC ν) (zz + mS ν)) : AW Γ (d + 1) μ Q pc L (As.reverse ++ .retAddr x :: S) σ w cc zz := by
  intro p l e s m args below meth c Z hF hR H locs ls hH hlo hl hc hz
  have hF' := hF
  obtain ⟨hx, hb, hml, -, -, hown, -, rfl, hK⟩ := hF
  obtain ⟨c1, c2, c3, c4, c5, c6, c7⟩ := cCk_spec hck hK args (R := rmOf (d + 1) (mC μ) (mS μ)) (Nat.le_refl _) (Nat.le_refl _)
  have wd : ∀ {i : Nat} {x : Cond}, lw_tbl[i]? = some x → goodWord x = true → x.before args s = true := fun h g => hK.1 _ (List.mem_of_getElem? h) g args
  unfold cCk at hck
  simp only [Bool.and_eq_true, decide_eq_true_eq] at hck
  obtain ⟨-, ⟨⟨h1, h2⟩, h3⟩, h4⟩ := hck
  have hrecv : ∃ cellB : Cell, H[xE Γ x]? = some cellB ∧ cellB.vm.isStatics = false ∧ s.vm.findClass (mN ν).cls = some cellB.cls := by
    obtain ⟨cell, g1, g2, g3, g4⟩ := (hK.2.2.2.2.1.1.1 (x - 1) (by omega)).1
    dsimp only at g1 g4
    rw [show 1 + (x - 1) = x by omega] at g1 g4
    exact ⟨cell, by rw [hH.2.1 _ (Nat.not_le.mp g4)]; exact g1, g2, by rw [h4]; exact g3⟩
  refine aw_back hF' hR hlo hl hcc hzz (va_runV (C := (mN ν).cls) (b := xE Γ x) (As := As.map (cv Γ)) (rest := S.map (cv Γ)) (Ts := []) ⟨hx, hb, hml, hown, fun _ h => absurd h List.not_mem_nil⟩ hsp ⟨⟨rfl, rfl, c3, c4, c5, List.mem_singleton.mpr rfl, c6, c7, c1, c2, wd h1 rfl⟩, wd h2 rfl, wd h3 rfl⟩ ⟨pre_blind, hrecv, fun U h1 h2 => pre_ok (A := .retAddr x :: As) hH hK U h1 h2⟩ rfl (by rw [List.length_map]; exact hA) hl.1 ?_ ?_ hd ⟨hcc, hzz⟩) k
  · show (As.reverse ++ .retAddr x :: S).map (cv Γ) = _
    rw [List.map_append, List.map_reverse]
    rfl
  · show 2 * 0 + _ ≤ 8
    rw [sum_cv]
    omega
theorem aw_callI {ν : MD} {n kind : Nat} {ws : List Nat} {o : Nat} {As S : List Value} {Q' : Option Value → St → Wd → Prop} (hd : decode (mB μ) pc = .ok (.invokespecial n, 3)) (hkd : kind = 2 ∨ kind = 3) (hck : cCk (mN μ).cls n kind ν ws = true) (hA : As.length = mA ν) (hS : catS S ≤ 8) (hcc : cc + mC ν ≤ mC μ) (hzz : zz + mS ν ≤ mS μ) (hsp : Sp Γ d ν (.ref o :: As) σ w Q')
    (k : ∀ v σ' w', Q' v σ' w' → AW Γ (d + 1) μ Q (pc + 3) L (v.toList ++ S) σ' w' (cc + mC ν) (zz + mS ν)) : AW Γ (d + 1) μ Q pc L (As.reverse ++ .ref o :: S) σ w cc zz := by
  intro p l e s m args below meth c Z hF hR H locs ls hH hlo hl hc hz
  have hF' := hF
  obtain ⟨hx, hb, hml, -, -, hown, -, rfl, hK⟩ := hF
  obtain ⟨c1, c2, c3, c4, c5, c6, c7⟩ := cCk_spec hck hK args (R := rmOf (d + 1) (mC μ) (mS μ)) (Nat.le_refl _) (Nat.le_refl _)
  have wd : ∀ {i : Nat} {x : Cond}, lw_tbl[i]? = some x → goodWord x = true → x.before args s = true := fun h g => hK.1 _ (List.mem_of_getElem? h) g args
  have hst : (As.reverse ++ .ref o :: S).map (cv Γ) = (As.map (cv Γ)).reverse ++ Value.ref (gz Γ + o) :: S.map (cv Γ) := by
    rw [List.map_append, List.map_reverse]
    rfl
  have hW : 2 * 0 + ((S.map (cv Γ)).map fun v => v.category).sum ≤ 8 := by
    rw [sum_cv]
    omega
  rcases hkd with rfl | rfl
  · unfold cCk at hck
    simp only [Bool.and_eq_true, decide_eq_true_eq] at hck
    obtain ⟨-, ⟨⟨h1, h2⟩, h3⟩, h4⟩ := hck
    rw [h4] at c5 c6
    have hsp' := hsp
    unfold Sp at hsp'
    rw [h4] at hsp'
    exact aw_back hF' hR hlo hl hcc hzz (va_runI (b := gz Γ + o) (As := As.map (cv Γ)) (rest := S.map (cv Γ)) (Ts := []) ⟨hx, hb, hml, hown, fun _ h => absurd h List.not_mem_nil⟩ hsp' ⟨⟨rfl, rfl, c3, c4, c5, List.mem_singleton.mpr rfl, c6, c7, c1, c2, wd h1 rfl⟩, h3, wd h2 rfl⟩ ⟨pre_blind, fun U h1 h2 => pre_ok (A := .ref o :: As) hH hK U h1 h2⟩ rfl (by rw [List.length_map]; exact hA) hl.1 hst hW hd ⟨hcc, hzz⟩) k
  · unfold cCk at hck
    simp only [Bool.and_eq_true, decide_eq_true_eq] at hck
    obtain ⟨-, ⟨⟨h1, h2⟩, h3⟩, h4⟩ := hck
    rw [h4] at c5 c6
    have hsp' := hsp
    unfold Sp at hsp'
    rw [h4] at hsp'
    exact aw_back hF' hR hlo hl hcc hzz (va_runIN (b := gz Γ + o) (host := "FirstReader") (As := As.map (cv Γ)) (rest := S.map (cv Γ)) (Ts := []) ⟨hx, hb, hml, hown, fun _ h => absurd h List.not_mem_nil⟩ hsp' ⟨⟨⟨rfl, rfl, c3, c4, c5, List.mem_singleton.mpr rfl⟩, c6, c7, c1, c2, va_Nw.use rfl (hK.2.1 _ h1)⟩, h3, wd h2 rfl⟩ ⟨pre_blind, fun U h1 h2 => pre_ok (A := .ref o :: As) hH hK U h1 h2⟩ rfl (by rw [List.length_map]; exact hA) hl.1 hst hW hd ⟨hcc, hzz⟩) k
theorem args_cv (A : List Value) : ∀ i, lv_args i (A.map (cv Γ)) = cL Γ (lv_args i A) := by
  induction A with
  | nil => intro i; rfl
  | cons v A ih =>
    intro i
    show (i, cv Γ v) :: lv_args _ (A.map (cv Γ)) = (i, cv Γ v) :: cL Γ (lv_args _ A)
    rw [ih]
    rw [cv_cat]
theorem sl_len (A : List Value) : (lg_sl (A.map (cv Γ))).length = catS A := by
  induction A with
  | nil => rfl
  | cons v A ih =>
    show (lg_sl (cv Γ v :: A.map (cv Γ))).length = _
    unfold lg_sl at ih ⊢
    rw [List.flatMap_cons, List.length_append, ih]
    unfold catS
    rw [List.map_cons, List.sum_cons]
    congr 1
    rw [cv_cat]
    cases v <;> rfl
/-- a contract out of a walk -/
theorem Sp.of {ν : MD} {A : List Value} (hn : plainName (mN ν).cls = true) (hA : catS A ≤ mL ν) (h : AW Γ d ν Q 0 (lv_args 0 A) [] σ w 0 0) : Sp Γ d ν A σ w Q := by
  refine Met.ofW (cc := mB ν) (maxL := mL ν) (ret := mR ν) hn rfl ?_
  intro p e s m args below meth c s₁ B hml hv
  obtain ⟨rfl, hH, hK⟩ := hv
  have hl := lv_entry (A.map (cv Γ)) (n := mL ν) (by rw [sl_len]; exact hA)
  rw [lg_entry_eq]
  rw [args_cv] at hl
  refine h p Γ.1 e s m _ below meth c _ ⟨B.exec, B.bytes, hml, B.returns, B.notSynchronized, findClass_of_methodNamed B.named, (name_of_methodNamed B.named B.method).1, rfl, hK⟩ ?_ s.heap [] _ hH (fun q hq => absurd hq List.not_mem_nil) hl (Nat.zero_le _) (Nat.zero_le _)
  intro v σ' w' H locs pc ls hq hHR hlo hr
  have hb := B.bytes
  have hret := B.returns
  have hlocks := B.notSynchronized
  rcases hr with ⟨rfl, h1, h2⟩ | ⟨x, ty, rfl, h1, h2, h3⟩ | ⟨x, rfl, h1, h2⟩
  · exact W.vret B.exec hb (by rw [hret]; exact h2) (fun t ht _ => ⟨none, σ', w', rfl, by rw [ht]; exact hHR, hq⟩) hlo h1
  · exact W.zret B.exec hb (by rw [hret]; exact h2) h3 (fun t ht _ => ⟨some (.int x), σ', w', rfl, by rw [ht]; exact hHR, hq⟩) hlo h1
  · exact W.lret B.exec hb (by rw [hret]; exact h2) (fun t ht _ => ⟨some (.long x), σ', w', rfl, by rw [ht]; exact hHR, hq⟩) hlo h1
/-- the texts' rows -/
theorem gt_val {s : State} (hK : GK Γ s) {x : Nat} (h1 : 1 ≤ x) (h2 : x ≤ 9) : va_OF "java/lang/String" "value" "[B" (cv Γ (.retAddr (x + 19))) (xE Γ x) (fun q => gz Γ ≤ q) s (xH Γ) := by
  have := (hK.2.2.2.2.1.1.1 (x - 1) (by omega)).2.2.1
  dsimp only at this
  rw [show 1 + (x - 1) = x by omega, show 20 + (x - 1) = x + 19 by omega] at this
  exact this
theorem gt_cod {s : State} (hK : GK Γ s) {x : Nat} (h1 : 1 ≤ x) (h2 : x ≤ 9) : va_OF "java/lang/String" "coder" "B" (cv Γ (.int 0)) (xE Γ x) (fun q => gz Γ ≤ q) s (xH Γ) := by
  have := (hK.2.2.2.2.1.1.1 (x - 1) (by omega)).2.1
  dsimp only at this
  rw [show 1 + (x - 1) = x by omega] at this
  exact this
theorem aw_xget {n x wi : Nat} {nm ds : String} {v : Value} (hd : decode (mB μ) pc = .ok (.getfield n, 3)) (hw : lw_tbl[wi]? = some (.fieldLink (mN μ).cls n "java/lang/String" nm ds)) (hv : ∀ s, GK Γ s → va_OF "java/lang/String" nm ds (cv Γ v) (xE Γ x) (fun q => gz Γ ≤ q) s (xH Γ)) (k : AW Γ d μ Q (pc + 3) L (v :: S) σ w cc zz) : AW Γ d μ Q pc L (.retAddr x :: S) σ w cc zz := by
  intro p l e s m args below meth c Z hF hR H locs ls hH hlo hl hc hz
  have kk := k p l e s m args below meth c Z hF hR H locs ls hH hlo hl hc hz
  obtain ⟨hx, hb, -, -, -, hown, -, -, hK⟩ := hF
  obtain ⟨cf, k, fi, f, cell, h1, h2, h3, h4, h5, h6⟩ := hv s hK
  exact W.getf hx hb hown (hK.1 _ (List.mem_of_getElem? hw) rfl args) h1 h2 (by rw [hH.2.1 _ (Nat.not_le.mp h6)]; exact h3) h4 (v := cv Γ v) h5 rfl rfl hd kk
theorem aw_xgets {n wi : Nat} (hd : decode (mB μ) pc = .ok (.getstatic n, 3)) (hw : lw_tbl[wi]? = some (.fieldLink (mN μ).cls n "java/lang/String" "COMPACT_STRINGS" "Z")) (k : AW Γ d μ Q (pc + 3) L (.int 1 :: S) σ w cc zz) : AW Γ d μ Q pc L S σ w cc zz := by
  intro p l e s m args below meth c Z hF hR H locs ls hH hlo hl hc hz
  have kk := k p l e s m args below meth c Z hF hR H locs ls hH hlo hl hc hz
  obtain ⟨hx, hb, -, -, -, hown, -, -, hK⟩ := hF
  obtain ⟨cf, kf, fi, f, a, cell, h1, h2, h3, h4, h5, h6, h7, h8⟩ := hK.2.2.2.2.1.2.2.1
  exact W.gets hx hb hown (hK.1 _ (List.mem_of_getElem? hw) rfl args) h1 h2 h3 h4 (by rw [hH.2.1 a (Nat.not_le.mp h8)]; exact h5) (fun e => by rw [e] at h6; cases h6) h7 rfl hd kk
theorem aw_xgetq {n wi : Nat} (hd : decode (mB μ) pc = .ok (.getstatic n, 3)) (hw : lw_tbl[wi]? = some (.fieldLink (mN μ).cls n "jdk/internal/util/Preconditions" "SIOOBE_FORMATTER" "Ljava/util/function/BiFunction;")) (k1 : AW Γ d μ Q (pc + 3) L (.null :: S) σ w cc zz) (k2 : AW Γ d μ Q (pc + 3) L (.retAddr 40 :: S) σ w cc zz) : AW Γ d μ Q pc L S σ w cc zz := by
  intro p l e s m args below meth c Z hF hR H locs ls hH hlo hl hc hz
  have kk1 := k1 p l e s m args below meth c Z hF hR H locs ls hH hlo hl hc hz
  have kk2 := k2 p l e s m args below meth c Z hF hR H locs ls hH hlo hl hc hz
  obtain ⟨hx, hb, -, -, -, hown, -, -, hK⟩ := hF
  rcases hK.2.2.2.2.1.2.2.2 with q | q
  · obtain ⟨cf, kf, fi, f, a, cell, h1, h2, h3, h4, h5, h6, h7, h8⟩ := q
    exact W.gets hx hb hown (hK.1 _ (List.mem_of_getElem? hw) rfl args) h1 h2 h3 h4 (by rw [hH.2.1 a (Nat.not_le.mp h8)]; exact h5) (fun e => by rw [e] at h6; cases h6) h7 rfl hd kk1
  · obtain ⟨cf, kf, fi, f, a, cell, h1, h2, h3, h4, h5, h6, h7, h8⟩ := q
    exact W.gets hx hb hown (hK.1 _ (List.mem_of_getElem? hw) rfl args) h1 h2 h3 h4 (by rw [hH.2.1 a (Nat.not_le.mp h8)]; exact h5) (fun e => by rw [e] at h6; cases h6) h7 rfl hd kk2
theorem aw_xlen {y : Nat} (hd : decode (mB μ) pc = .ok (.arraylength, 1)) (h1 : 20 ≤ y) (h2 : y ≤ 28) (k : AW Γ d μ Q (pc + 1) L (.int (nI (txL.getD (y - 20) 0)) :: S) σ w cc zz) : AW Γ d μ Q pc L (.retAddr y :: S) σ w cc zz := by
  intro p l e s m args below meth c Z hF hR H locs ls hH hlo hl hc hz
  have kk := k p l e s m args below meth c Z hF hR H locs ls hH hlo hl hc hz
  obtain ⟨hx, hb, -, -, -, hown, -, -, hK⟩ := hF
  obtain ⟨cell, g1, g2, g3, g4, g5, g6, g7⟩ := (hK.2.2.2.2.1.1.1 (y - 20) (by omega)).2.2.2
  dsimp only at g1 g7
  rw [show 20 + (y - 20) = y by omega] at g1 g7
  exact W.alen hx hb (by rw [hH.2.1 _ (Nat.not_le.mp g7)]; exact g1) g2 g5 rfl rfl hd kk
theorem aw_xbald {y : Nat} {j : Int32} (hd : decode (mB μ) pc = .ok (.baload, 1)) (h1 : 20 ≤ y) (h2 : y ≤ 28) (hj : vp_in j (txL.getD (y - 20) 0)) (k : AW Γ d μ Q (pc + 1) L (.int ((txB.getD (y - 20) []).getD j.toNatClampNeg 0) :: S) σ w cc zz) : AW Γ d μ Q pc L (.int j :: .retAddr y :: S) σ w cc zz := by
  intro p l e s m args below meth c Z hF hR H locs ls hH hlo hl hc hz
  have kk := k p l e s m args below meth c Z hF hR H locs ls hH hlo hl hc hz
  obtain ⟨hx, hb, -, -, -, hown, -, -, hK⟩ := hF
  obtain ⟨cell, g1, g2, g3, g4, g5, g6, g7⟩ := (hK.2.2.2.2.1.1.1 (y - 20) (by omega)).2.2.2
  dsimp only at g1 g7
  rw [show 20 + (y - 20) = y by omega] at g1 g7
  have hlt := in_lt hj
  exact W.bald hx hb (by rw [hH.2.1 _ (Nat.not_le.mp g7)]; exact g1) g2 g3 (fun q => by rcases q with q | q; exact hj (Or.inl q); omega) (g6 _ hlt) rfl rfl hd kk
end Call
end
section
/-! a copy between arrays; the tables' checks -/
section Copy
variable {Γ : Gx} {d : Nat} {μ : MD} {Q : Option Value → St → Wd → Prop} {pc : Nat} {L : Lv} {S : List Value} {σ : St} {w : Wd} {cc zz : Nat}
theorem aw_copy {nn w1 w2 w3 w4 : Nat} {a b : Nat} {n dp sp : Int32} (hd : decode (mB μ) pc = .ok (.invokestatic nn, 3)) (hl1 : lw_tbl[w1]? = some (.methodLink (mN μ).cls nn arraycopyName)) (hl2 : lw_tbl[w2]? = some (.native arraycopyName)) (hl3 : lw_tbl[w3]? = some (.static arraycopyName)) (hl4 : lw_tbl[w4]? = some (.initialized "java/lang/System"))
    (ha : okO w a 20) (hb0 : okO w b 20) (h1 : ¬ sp < 0) (h2 : ¬ dp < 0) (h3 : ¬ n < 0) (h4 : sp.toNatClampNeg + n.toNatClampNeg ≤ (kd a).2) (h5 : dp.toNatClampNeg + n.toNatClampNeg ≤ (kd b).2) (hS : catS S ≤ 8)
    (k : AW Γ (d + 1) μ Q (pc + 3) L S (cS σ a b sp.toNatClampNeg dp.toNatClampNeg n.toNatClampNeg) w cc zz) : AW Γ (d + 1) μ Q pc L (.int n :: .int dp :: .ref b :: .int sp :: .ref a :: S) σ w cc zz := by
  intro p l e s m args below meth c Z hF hR H locs ls hH hlo hl hc hz
  have kk := fun H locs hH hlo => k p l e s m args below meth c Z hF hR H locs ls hH hlo hl hc hz
  obtain ⟨hx, hb, hml, -, -, hown, -, -, hK⟩ := hF
  have wd : ∀ {i : Nat} {x : Cond}, lw_tbl[i]? = some x → goodWord x = true → x.before args s = true := fun h g => hK.1 _ (List.mem_of_getElem? h) g args
  have nn' : ∀ z : Int32, ¬ z < 0 → z.toInt = (z.toNatClampNeg : Int) := by
    intro z hz
    have hz0 : (0 : Int) ≤ z.toInt := by
      have := Int32.not_lt.mp hz
      simpa using Int32.le_iff_toInt_le.mp this
    show z.toInt = ((z.toInt.toNat : Nat) : Int)
    omega
  obtain ⟨c0, i0, -⟩ := ar_facts (t := 0) hK hH ha.1 ha.2 (by decide)
  obtain ⟨c1, i1, -⟩ := ar_facts (t := 0) hK hH hb0.1 hb0.2 (by decide)
  rw [av_i (Or.inl ha.2)] at c0
  rw [av_i (Or.inl hb0.2)] at c1
  intro T hT X
  obtain ⟨-, k0, hk0, cm0, hkk0⟩ := i0 (kd a).2 (fun j => .int (gI σ a j))
  obtain ⟨-, k1, hk1, cm1, hkk1⟩ := i1 (kd b).2 (fun j => .int (gI σ b j))
  obtain ⟨vm', X', step⟩ := X.arraycopy hx hown (wd hl1 rfl) (wd hl2 rfl) (wd hl3 rfl) (wd hl4 rfl) (src := gz Γ + a) (dst := gz Γ + b) (srcPos := sp) (destPos := dp) (n := n) (by rw [hT]; exact c0) (by rw [hT]; exact c1)
    (fun _ h => by cases h) (fun _ h => by cases h) (fun h => by cases h) (fun h => by cases h) hk0 hk1 hkk0 hkk1 (by rfl) h1 h2 h3
    (by rw [nn' sp h1, nn' n h3, arrV_size]; omega)
    (by rw [nn' dp h2, nn' n h3, arrV_size]; omega)
    (fun vm₁ _ i hi => by
      have e : (arrV (xA Γ 0) (kd a).2 (fun j => .int (gI σ a j))).slots.getD (sp.toNatClampNeg + i) .null = .int (gI σ a (sp.toNatClampNeg + i)) := by
        rw [Array.getD_eq_getD_getElem?, arrV_read _ _ (by omega)]
        rfl
      refine ⟨?_, ?_⟩
      · rw [e]
        rfl
      · rw [e]
        exact trivial)
    (g := F0 m pc ls ((Value.int n :: .int dp :: .ref b :: .int sp :: .ref a :: S).map (cv Γ))) rfl (by rw [hml]; exact hl.1) (rest := S.map (cv Γ)) rfl (by rw [hb]; exact hd) (by show 1 ≤ d + 1; omega) (by
      show 2 * 0 + _ + _ ≤ 36 * (d + 1)
      rw [sum_cv]
      have : nativeFrameWords "java/lang/System" "arraycopy" 5 ≤ 8 := by decide +kernel
      omega)
  have e1 : copied (arrV (xA Γ 0) (kd a).2 (fun j => .int (gI σ a j))) (arrV (xA Γ 0) (kd b).2 (fun j => .int (gI σ b j))) sp dp n = arrV (xA Γ 0) (kd b).2 (fun j => .int (va_cpy (gI σ a) (gI σ b) sp.toNatClampNeg dp.toNatClampNeg n.toNatClampNeg j)) := va_copied (fun z => .int z) _ _ _ _ h4
  rw [e1] at X' step
  have hlt : gz Γ + b < H.size := (Array.getElem?_eq_some_iff.mp c1).1
  generalize hC : arrV (xA Γ 0) (kd b).2 (fun j => Value.int (va_cpy (gI σ a) (gI σ b) sp.toNatClampNeg dp.toNatClampNeg n.toNatClampNeg j)) = C at X' step
  have hheap : ((T.setVm vm').setCell (gz Γ + b) C).heap = H.setIfInBounds (gz Γ + b) C := by rw [← hT]; rfl
  have hHR : HR Γ (cS σ a b sp.toNatClampNeg dp.toNatClampNeg n.toNatClampNeg) w (H.setIfInBounds (gz Γ + b) C) := by
    refine hH.at_one rfl hb0.1 (by simp) (fun q hq => by simp [Array.getElem?_setIfInBounds, Ne.symm hq]) ?_ (fun i hi => ⟨fun k => ?_, fun j => ?_⟩)
    · rw [atC_a (by rw [hb0.2]; decide), hb0.2]
      show (H.setIfInBounds (gz Γ + b) C)[gz Γ + b]? = some (arrV (xA Γ 0) _ _)
      rw [av_i (Or.inl rfl)]
      rw [show (H.setIfInBounds (gz Γ + b) C)[gz Γ + b]? = some C by simp [Array.getElem?_setIfInBounds, hlt], ← hC]
      congr 2
      funext j
      show _ = Value.int (if b = b then _ else _)
      rw [if_pos rfl]
      rfl
    · unfold fv gI gJ gR cS
      simp only [hi, if_false]
    · unfold av gI gJ cS
      simp only [hi, if_false]
  obtain ⟨t, a1, b1⟩ := kk _ _ hHR (by
    intro q hq
    rcases List.mem_append.mp hq with h | h
    · exact hlo q h
    · obtain ⟨z, -, hz⟩ := List.mem_map.mp h
      rw [← hz]
      exact Nat.le_add_right _ _) _ hheap X'
  exact ⟨t, step t a1, b1⟩
end Copy
/-- constants -/
def kCk (C : String) (n : Nat) (v : Value) (wi : Nat) : Bool := match v with
  | .int x => decide (lw_tbl[wi]? = some (.constant C n x))
  | .long x => decide (lw_tbl[wi]? = some (.constantLong C n x))
  | .retAddr k => decide (C = RX3) && decide (1 ≤ k) && decide (k ≤ 9) && decide (txI (k - 1) = n)
  | _ => false
/-- classes to make -/
def nCk (C : String) (n t : Nat) (ws : List Nat) : Bool := match vwCl[t]? with
  | some q => decide (lw_tbl[ws.getD 0 0]? = some (.classLink C n q.1)) && decide (lw_tbl[ws.getD 1 0]? = some (.instantiable q.1 q.2.2)) && decide (lw_tbl[ws.getD 2 0]? = some (.initialized q.1))
  | none => match t with
    | 24 => decide (lw_tbl[ws.getD 0 0]? = some (.classLink C (n - 100000) RX7))
    | 25 => decide (lw_tbl[ws.getD 0 0]? = some (.classLink C (n - 100000) RX10))
    | 26 => decide (lw_tbl[ws.getD 0 0]? = some (.classLink C (n - 100000) RX5))
    | 27 => decide (lw_tbl[ws.getD 0 0]? = some (.classLink C (n - 100000) RX6))
    | 28 => decide (lw_tbl[ws.getD 0 0]? = some (.classLink C n "[[I"))
    | _ => false
def oCk (C : String) (n : Nat) (ws : List Nat) : Bool := decide (lw_tbl[ws.getD 0 0]? = some (.methodLink C n Lib.objectInit)) && decide (lw_tbl[ws.getD 1 0]? = some (.instanceMethod Lib.objectInit)) && decide (lw_tbl[ws.getD 2 0]? = some (.code Lib.objectInit ⟨#[0xb1]⟩ 1 none))
def pCk (C : String) (n : Nat) (ws : List Nat) : Bool := decide (lw_tbl[ws.getD 0 0]? = some (.methodLink C n arraycopyName)) && decide (lw_tbl[ws.getD 1 0]? = some (.native arraycopyName)) && decide (lw_tbl[ws.getD 2 0]? = some (.static arraycopyName)) && decide (lw_tbl[ws.getD 3 0]? = some (.initialized "java/lang/System"))
/-- fields, the texts' too -/
def fxCk (C : String) (q : Nat × Nat × Nat × Nat) (wi : Nat) : Bool := match q.2.2.2 with
  | 7 => decide (lw_tbl[wi]? = some (.fieldLink C q.1 "java/lang/String" "value" "[B"))
  | 8 => decide (lw_tbl[wi]? = some (.fieldLink C q.1 "java/lang/String" "coder" "B"))
  | 9 => decide (lw_tbl[wi]? = some (.fieldLink C q.1 "java/lang/String" "COMPACT_STRINGS" "Z"))
  | 10 => decide (lw_tbl[wi]? = some (.fieldLink C q.1 "jdk/internal/util/Preconditions" "SIOOBE_FORMATTER" "Ljava/util/function/BiFunction;"))
  | _ => fCk C q wi
/-- a class's tables are right -/
def tbOK (C : String) (T : Tb) : Prop := (∀ n e, T.1.lookup n = some e → ∃ wi, fxCk C (n, e) wi = true) ∧ (∀ n k ν, T.2.1.lookup n = some (k, ν) → ∃ ws, (if k = 4 then pCk C n ws else cCk C n k ν ws) = true) ∧
  (∀ n v, T.2.2.1.lookup n = some v → ∃ wi, kCk C n v wi = true) ∧ (∀ n t, T.2.2.2.1.lookup n = some t → ∃ ws, nCk C n t ws = true) ∧ (∀ n, T.2.2.2.2.1.contains n = true → ∃ ws, oCk C n ws = true)
theorem al_mem {α : Type} {l : List (Nat × α)} {n : Nat} {v : α} (h : l.lookup n = some v) : (n, v) ∈ l := by
  induction l with
  | nil => simp [List.lookup] at h
  | cons q r ih =>
    obtain ⟨a, b⟩ := q
    by_cases e : n = a
    · subst e
      simp [List.lookup] at h
      subst h
      exact List.mem_cons_self
    · have : (n == a) = false := by simp [e]
      simp [List.lookup, this] at h
      exact List.mem_cons_of_mem _ (ih h)
theorem tbOK_of {C : String} {T : Tb} (h1 : ∀ q ∈ T.1, ∃ wi, fxCk C q wi = true) (h2 : ∀ q ∈ T.2.1, ∃ ws, (if q.2.1 = 4 then pCk C q.1 ws else cCk C q.1 q.2.1 q.2.2 ws) = true) (h3 : ∀ q ∈ T.2.2.1, ∃ wi, kCk C q.1 q.2 wi = true) (h4 : ∀ q ∈ T.2.2.2.1, ∃ ws, nCk C q.1 q.2 ws = true) (h5 : ∀ n ∈ T.2.2.2.2.1, ∃ ws, oCk C n ws = true) : tbOK C T :=
  ⟨fun _ _ he => h1 _ (al_mem he), fun _ _ _ he => h2 _ (al_mem he), fun _ _ he => h3 _ (al_mem he), fun _ _ he => h4 _ (al_mem he), fun n he => h5 n (by simpa using he)⟩
/-- a method's instructions are right -/
def swCk (pc : Nat) (i : Instr) (cs : List (Int32 × Nat)) (df : Nat) : Bool := match i with
  | .tableswitch dflt lo hi offs => decide (hi - lo + 1 = offs.size) && decide (-100 ≤ lo ∧ hi ≤ 100) && decide ((pc : Int) + dflt = (df : Int)) && decide (cs.length = offs.size) && (List.range offs.size).all (fun j => decide (((cs.getD j (0, 0)).1).toInt = lo + j) && decide ((pc : Int) + (offs[j]?).getD 0 = ((cs.getD j (0, 0)).2 : Int)))
  | _ => false
def msOK (μ : MD) (is : Is) (sw : Sw) : Prop := (∀ pc e, is.lookup pc = some e → iCk (mB μ) (pc, e) = true) ∧ ∀ pc i len cst tgt nx cs df, is.lookup pc = some (i, len, cst, tgt, nx) → sw.lookup pc = some (cs, df) → (∃ a b c e, i = .tableswitch a b c e) → swCk pc i cs df = true
def msCk (μ : MD) (is : Is) (sw : Sw) : Bool := is.all (fun q => iCk (mB μ) q) && sw.all (fun q => match is.lookup q.1 with | some e => swCk q.1 e.1 q.2.1 q.2.2 | none => true)
theorem msOK_of {μ : MD} {is : Is} {sw : Sw} (h : msCk μ is sw = true) : msOK μ is sw := by
  unfold msCk at h
  simp only [Bool.and_eq_true] at h
  refine ⟨fun pc e he => List.all_eq_true.mp h.1 _ (al_mem he), fun pc i len cst tgt nx cs df h1 h2 _ => ?_⟩
  have := List.all_eq_true.mp h.2 _ (al_mem h2)
  rw [show (pc, cs, df).1 = pc from rfl, h1] at this
  exact this
end
section
theorem swP_mono {x : Int32} {k k' : Nat → Prop} {df : Nat} (hk : ∀ t, k t → k' t) : ∀ {cs : List (Int32 × Nat)}, swP x k df cs → swP x k' df cs
  | [], h => hk _ h
  | (v, t) :: r, h => ⟨fun q => hk _ (h.1 q), fun q => swP_mono hk (h.2 q)⟩
theorem swP_cases {x : Int32} {k : Nat → Prop} {df : Nat} : ∀ {cs : List (Int32 × Nat)}, swP x k df cs → (∃ (j : Nat) (v : Int32) (t : Nat), cs[j]? = some (v, t) ∧ x = v ∧ k t) ∨ ((∀ (j : Nat) (v : Int32) (t : Nat), cs[j]? = some (v, t) → ¬ x = v) ∧ k df)
  | [], h => Or.inr ⟨fun j v t q => by simp at q, h⟩
  | (v, t) :: r, h => by
    by_cases e : x = v
    · exact Or.inl ⟨0, v, t, rfl, e, h.1 e⟩
    · rcases swP_cases (h.2 e) with ⟨j, v', t', h1, h2, h3⟩ | ⟨h1, h2⟩
      · exact Or.inl ⟨j + 1, v', t', h1, h2, h3⟩
      · refine Or.inr ⟨fun j v' t' q => ?_, h2⟩
        cases j with
        | zero => cases q; exact e
        | succ j => exact h1 j v' t' q
theorem fCk_fk {C : String} {n ci f kn wi : Nat} (h : fCk C (n, ci, f, kn) wi = true) : fk ci f = kn := by
  obtain ⟨R, T, N, e1, e2, e3, e4, e5, e6, -⟩ := fCk_spec h
  exact e5
theorem fCk_ty {C : String} {n ci f kn wi : Nat} (h : fCk C (n, ci, f, kn) wi = true) : ftk (some (tyOf ci f)) kn = true := by
  obtain ⟨R, T, N, e1, e2, e3, e4, e5, e6, e7⟩ := fCk_spec h
  dsimp only at e1 e2 e7
  rw [(cl_facts e1).2.2 f e2] at e7
  exact e7
theorem fCk_n0 {C : String} {n ci f wi : Nat} {Γ : Gx} {v : Int32} (h : fCk C (n, ci, f, 0) wi = true) : narrow (tyOf ci f) (cv Γ (.int v)) = cv Γ (.int v) ∧ fits (tyOf ci f) (cv Γ (.int v)) = true := by
  have := fCk_ty h
  cases e : tyOf ci f <;> rw [e] at this <;> first | exact ⟨rfl, rfl⟩ | cases this
theorem fCk_n4 {C : String} {n ci f wi : Nat} {Γ : Gx} {v : Int32} (h : fCk C (n, ci, f, 4) wi = true) (hv : v = 0 ∨ v = 1) : narrow (tyOf ci f) (cv Γ (.int v)) = cv Γ (.int v) ∧ fits (tyOf ci f) (cv Γ (.int v)) = true := by
  have := fCk_ty h
  cases e : tyOf ci f <;> rw [e] at this <;> first | (rcases hv with rfl | rfl; (show narrow .boolean (.int 0) = .int 0 ∧ fits .boolean (.int 0) = true; decide); (show narrow .boolean (.int 1) = .int 1 ∧ fits .boolean (.int 1) = true; decide)) | cases this
theorem fCk_n1 {C : String} {n ci f wi : Nat} {Γ : Gx} {v : Int64} (h : fCk C (n, ci, f, 1) wi = true) : narrow (tyOf ci f) (cv Γ (.long v)) = cv Γ (.long v) ∧ fits (tyOf ci f) (cv Γ (.long v)) = true := by
  have := fCk_ty h
  cases e : tyOf ci f <;> rw [e] at this <;> first | exact ⟨rfl, rfl⟩ | cases this
theorem fCk_n2 {C : String} {n ci f kn wi : Nat} {Γ : Gx} {r : Nat} (h : fCk C (n, ci, f, kn) wi = true) (hk : kn = 2 ∨ kn = 3) : narrow (tyOf ci f) (cv Γ (.ref r)) = cv Γ (.ref r) ∧ fits (tyOf ci f) (cv Γ (.ref r)) = true := by
  have := fCk_ty h
  rcases hk with rfl | rfl <;> cases e : tyOf ci f <;> rw [e] at this <;> first | exact ⟨rfl, rfl⟩ | cases this
section FV
variable {Γ : Gx} {σ : St} {w : Wd} {ci o f : Nat}
theorem fv_k0 {kn : Nat} (h : fk ci f = kn) (h1 : kn = 1 → False) (h2 : kn = 2 → False) (h3 : kn = 3 → False) : cv Γ (.int (gI σ o f)) = fv Γ σ w.2 ci o f := by
  unfold fv
  rw [h]
  split <;> first | rfl | exact absurd rfl ‹_›
theorem fv_k1 (h : fk ci f = 1) : cv Γ (.long (gJ σ o f)) = fv Γ σ w.2 ci o f := by
  unfold fv
  rw [h]
  rfl
theorem fv_k2 {r : Nat} (h : fk ci f = 2) (hr : w.2 o f = some r) : cv Γ (.ref r) = fv Γ σ w.2 ci o f := by
  unfold fv
  rw [h]
  show _ = rv Γ (w.2 o f)
  rw [hr]
  rfl
theorem fv_k3 {r : Nat} (h : fk ci f = 3) (hr : gR σ o f = some r) : cv Γ (.ref r) = fv Γ σ w.2 ci o f := by
  unfold fv
  rw [h]
  show _ = rv Γ (gR σ o f)
  rw [hr]
  rfl
theorem fv_k3n (h : fk ci f = 3) (hr : gR σ o f = none) : cv Γ .null = fv Γ σ w.2 ci o f := by
  unfold fv
  rw [h]
  show _ = rv Γ (gR σ o f)
  rw [hr]
  rfl
theorem fv_p0 {kn : Nat} {v : Int32} (h : fk ci f = kn) (hk : kn = 0 ∨ kn = 4) : ∀ j, fv Γ (uI σ o f v) w.2 ci o j = if j = f then cv Γ (.int v) else fv Γ σ w.2 ci o j := by
  intro j
  by_cases e : j = f
  · subst e
    rw [if_pos rfl]
    unfold fv
    rw [h]
    rcases hk with rfl | rfl <;> (show Value.int (gI _ _ _) = _; rw [gI_uI]; simp; rfl)
  · rw [if_neg e]
    unfold fv
    simp only [gI_uI, gJ_uI, gR_uI, e, and_false, if_false]
theorem fv_p1 {v : Int64} (h : fk ci f = 1) : ∀ j, fv Γ (uJ σ o f v) w.2 ci o j = if j = f then cv Γ (.long v) else fv Γ σ w.2 ci o j := by
  intro j
  by_cases e : j = f
  · subst e
    rw [if_pos rfl]
    unfold fv
    rw [h]
    show Value.long (gJ _ _ _) = _
    rw [gJ_uJ]
    simp
    rfl
  · rw [if_neg e]
    unfold fv
    simp only [gI_uJ, gJ_uJ, gR_uJ, e, and_false, if_false]
theorem fv_p2 {r : Nat} (h : fk ci f = 2) : ∀ j, fv Γ σ (uW w o f (some r)).2 ci o j = if j = f then cv Γ (.ref r) else fv Γ σ w.2 ci o j := by
  intro j
  by_cases e : j = f
  · subst e
    rw [if_pos rfl]
    unfold fv
    rw [h]
    show rv Γ (up2 _ _ _ _ _ _) = _
    unfold up2
    simp
    rfl
  · rw [if_neg e]
    unfold fv uW up2
    simp only [e, and_false, if_false]
theorem fv_p3 {r : Nat} (h : fk ci f = 3) : ∀ j, fv Γ (uR σ o f (some r)) w.2 ci o j = if j = f then cv Γ (.ref r) else fv Γ σ w.2 ci o j := by
  intro j
  by_cases e : j = f
  · subst e
    rw [if_pos rfl]
    unfold fv
    rw [h]
    show rv Γ (gR _ _ _) = _
    rw [gR_uR]
    simp
    rfl
  · rw [if_neg e]
    unfold fv
    simp only [gI_uR, gJ_uR, gR_uR, e, and_false, if_false]
end FV
section Sound0
variable {Γ : Gx} {d : Nat} {μ : MD} {Q : Option Value → St → Wd → Prop} {pc : Nat} {L : Lv} {S : List Value} {σ : St} {w : Wd} {cc zz : Nat} {k : Nat → Lv → List Value → St → Wd → Nat → Nat → Prop}
theorem aw_table {dflt lo hi : Int} {offs : Array Int} {len df : Nat} {cs : List (Int32 × Nat)} {x : Int32} (hd : decode (mB μ) pc = .ok (.tableswitch dflt lo hi offs, len)) (hs : swCk pc (.tableswitch dflt lo hi offs) cs df = true) (h : swP x (fun t => AW Γ d μ Q t L S σ w cc zz) df cs) : AW Γ d μ Q pc L (.int x :: S) σ w cc zz := by
  unfold swCk at hs
  simp only [Bool.and_eq_true, decide_eq_true_eq] at hs
  obtain ⟨⟨⟨⟨h1, h2⟩, h3⟩, h4⟩, h5⟩ := hs
  have row : ∀ j, j < offs.size → ∃ v t, cs[j]? = some (v, t) ∧ v.toInt = lo + j ∧ (pc : Int) + (offs[j]?).getD 0 = (t : Int) := by
    intro j hj
    have := List.all_eq_true.mp h5 j (List.mem_range.mpr hj)
    simp only [Bool.and_eq_true, decide_eq_true_eq] at this
    have hlt : j < cs.length := by omega
    refine ⟨cs[j].1, cs[j].2, by simp [hlt], ?_, ?_⟩
    · have h := this.1
      simpa [List.getD_eq_getElem?_getD, hlt] using h
    · have h := this.2
      simpa [List.getD_eq_getElem?_getD, hlt] using h
  rcases swP_cases h with ⟨j, v, t, g1, rfl, g3⟩ | ⟨g1, g2⟩
  · have hj : j < offs.size := by rw [← h4]; exact (List.getElem?_eq_some_iff.mp g1).1
    obtain ⟨v', t', e1, e2, e3⟩ := row j hj
    rw [g1] at e1
    cases e1
    intro p l e s m args below meth c Z hF hR H locs ls hH hlo hl hc hz
    have kk := g3 p l e s m args below meth c Z hF hR H locs ls hH hlo hl hc hz
    exact lv_tableIn hF.1 hF.2.1 hd (by omega) (by omega) (off := offs[j]) (by rw [show (x.toInt - lo).toNat = j by omega]; simp [hj]) (by rw [← e3]; simp [hj]) kk
  · intro p l e s m args below meth c Z hF hR H locs ls hH hlo hl hc hz
    have kk := g2 p l e s m args below meth c Z hF hR H locs ls hH hlo hl hc hz
    refine lv_tableOut hF.1 hF.2.1 hd ?_ h3 kk
    rcases Int.lt_or_le x.toInt lo with q | q
    · exact Or.inl q
    · rcases Int.lt_or_le hi x.toInt with q2 | q2
      · exact Or.inr q2
      · exfalso
        obtain ⟨v, t, e1, e2, -⟩ := row (x.toInt - lo).toNat (by omega)
        refine g1 _ v t e1 (Int32.toInt_inj.mp ?_)
        omega
theorem aw_get3 {n ci f wi o : Nat} (hd : decode (mB μ) pc = .ok (.getfield n, 3)) (hw : fCk (mN μ).cls (n, ci, f, 3) wi = true) (ho : okO w o ci) (k1 : ∀ r, gR σ o f = some r → AW Γ d μ Q (pc + 3) L (.ref r :: S) σ w cc zz) (k2 : gR σ o f = none → AW Γ d μ Q (pc + 3) L (.null :: S) σ w cc zz) : AW Γ d μ Q pc L (.ref o :: S) σ w cc zz := by
  cases hr : gR σ o f with
  | none => exact aw_get hd hw ho (fv_k3n (fCk_fk hw) hr) (k2 hr)
  | some r => exact aw_get hd hw ho (fv_k3 (fCk_fk hw) hr) (k1 r hr)
theorem aw_ldcI {i : Instr} {n len wi : Nat} {x : Int32} (hd : decode (mB μ) pc = .ok (i, len)) (hi : (i = .ldc n ∧ len = 2) ∨ (i = .ldc_w n ∧ len = 3)) (hk : kCk (mN μ).cls n (.int x) wi = true) (k : AW Γ d μ Q (pc + len) L (.int x :: S) σ w cc zz) : AW Γ d μ Q pc L S σ w cc zz := by
  intro p l e s m args below meth c Z hF hR H locs ls hH hlo hl hc hz
  have kk := k p l e s m args below meth c Z hF hR H locs ls hH hlo hl hc hz
  obtain ⟨hx, hb, -, -, -, hown, -, -, hK⟩ := hF
  have hw := hK.1 _ (List.mem_of_getElem? (of_decide_eq_true hk)) rfl args
  rcases hi with ⟨rfl, rfl⟩ | ⟨rfl, rfl⟩
  · exact lv_ldc hx hb hown hw hd kk
  · exact lv_ldcw hx hb hown hw hd kk
theorem aw_ldcL {n wi : Nat} {x : Int64} (hd : decode (mB μ) pc = .ok (.ldc2_w n, 3)) (hk : kCk (mN μ).cls n (.long x) wi = true) (k : AW Γ d μ Q (pc + 3) L (.long x :: S) σ w cc zz) : AW Γ d μ Q pc L S σ w cc zz := by
  intro p l e s m args below meth c Z hF hR H locs ls hH hlo hl hc hz
  have kk := k p l e s m args below meth c Z hF hR H locs ls hH hlo hl hc hz
  obtain ⟨hx, hb, -, -, -, hown, -, -, hK⟩ := hF
  exact lv_ldc2 hx hb hown (hK.1 _ (List.mem_of_getElem? (of_decide_eq_true hk)) rfl args) hd kk
theorem aw_ldcT {n wi x : Nat} (hd : decode (mB μ) pc = .ok (.ldc n, 2)) (hk : kCk (mN μ).cls n (.retAddr x) wi = true) (k : AW Γ d μ Q (pc + 2) L (.retAddr x :: S) σ w cc zz) : AW Γ d μ Q pc L S σ w cc zz := by
  intro p l e s m args below meth c Z hF hR H locs ls hH hlo hl hc hz
  have kk := k p l e s m args below meth c Z hF hR H locs ls hH hlo hl hc hz
  obtain ⟨hx, hb, -, -, -, hown, -, -, hK⟩ := hF
  unfold kCk at hk
  simp only [Bool.and_eq_true, decide_eq_true_eq] at hk
  obtain ⟨⟨⟨h1, h2⟩, h3⟩, h4⟩ := hk
  have hz := hK.2.2.2.2.1.2.1 (x - 1) (by omega)
  rw [h4, show 1 + (x - 1) = x by omega] at hz
  rw [h1] at hown
  exact va_ldcS hx hb hown hz hd kk
theorem aw_newN {n ci : Nat} {ws : List Nat} (hd : decode (mB μ) pc = .ok (.new n, 3)) (hw : nCk (mN μ).cls n ci ws = true) (hk : (kd w.1).1 = ci ∧ ci < 20) (hcc : cc + 1 ≤ mC μ) (hzz : zz + (kd w.1).2 ≤ mS μ) (k : AW Γ d μ Q (pc + 3) L (.ref w.1 :: S) (zS σ w.1) (zW w) (cc + 1) (zz + (kd w.1).2)) : AW Γ d μ Q pc L S σ w cc zz := by
  obtain ⟨hk, hlt⟩ := hk
  obtain ⟨q, hq, -⟩ := kd_cl (i := w.1) (by omega)
  rw [hk] at hq
  unfold nCk at hw
  rw [hq] at hw
  simp only [Bool.and_eq_true, decide_eq_true_eq] at hw
  exact aw_new hd hq hw.1.1 hw.1.2 hw.2 hk hcc hzz k
theorem aw_anewN {n t : Nat} {j : Int32} {ws : List Nat} (hd : decode (mB μ) pc = .ok (.anewarray n, 3)) (hw : nCk (mN μ).cls (n + 100000) t ws = true) (hk : (kd w.1).1 = t) (h1 : 24 ≤ t) (h2 : t ≤ 27) (hn : ¬ j < 0) (hN : (kd w.1).2 = j.toNatClampNeg) (hcc : cc + 1 ≤ mC μ) (hzz : zz + (kd w.1).2 ≤ mS μ)
    (k : AW Γ d μ Q (pc + 3) L (.ref w.1 :: S) (zS σ w.1) (zW w) (cc + 1) (zz + (kd w.1).2)) : AW Γ d μ Q pc L (.int j :: S) σ w cc zz := by
  have ht : t = 24 ∨ t = 25 ∨ t = 26 ∨ t = 27 := by omega
  have hn0 : n + 100000 - 100000 = n := Nat.add_sub_cancel _ _
  unfold nCk at hw
  rcases ht with rfl | rfl | rfl | rfl <;> dsimp only [vwCl, List.getElem?_cons_succ, List.getElem?_nil] at hw
  · exact aw_anew (ci := 7) (wi := ws.getD 0 0) hd rfl (Or.inl ⟨rfl, rfl⟩) (by rw [hn0] at hw; exact of_decide_eq_true hw) hk hn hN hcc hzz k
  · exact aw_anew (ci := 10) (wi := ws.getD 0 0) hd rfl (Or.inr (Or.inl ⟨rfl, rfl⟩)) (by rw [hn0] at hw; exact of_decide_eq_true hw) hk hn hN hcc hzz k
  · exact aw_anew (ci := 5) (wi := ws.getD 0 0) hd rfl (Or.inr (Or.inr (Or.inl ⟨rfl, rfl⟩))) (by rw [hn0] at hw; exact of_decide_eq_true hw) hk hn hN hcc hzz k
  · exact aw_anew (ci := 6) (wi := ws.getD 0 0) hd rfl (Or.inr (Or.inr (Or.inr ⟨rfl, rfl⟩))) (by rw [hn0] at hw; exact of_decide_eq_true hw) hk hn hN hcc hzz k
theorem aw_static {n kind : Nat} (hkd : kind = 1 ∨ kind = 6) {ν : MD} {ws : List Nat} (hd : decode (mB μ) pc = .ok (.invokestatic n, 3)) (hw : cCk (mN μ).cls n kind ν ws = true) (h1 : mA ν ≤ S.length) (h2 : catS (S.drop (mA ν)) ≤ 8) (hk : ∀ pc L S σ w cc zz, k pc L S σ w cc zz → AW Γ (d + 1) μ Q pc L S σ w cc zz)
    (h : match mK ν with
      | 0 => SpV Γ d ν (S.take (mA ν)).reverse σ w (fun σ' => k (pc + 3) L (S.drop (mA ν)) σ' w cc zz)
      | 1 => SpI Γ d ν (S.take (mA ν)).reverse σ w (fun x σ' => k (pc + 3) L (.int x :: S.drop (mA ν)) σ' w cc zz)
      | 2 => SpJ Γ d ν (S.take (mA ν)).reverse σ w (fun x σ' => k (pc + 3) L (.long x :: S.drop (mA ν)) σ' w cc zz)
      | _ => False) : AW Γ (d + 1) μ Q pc L S σ w cc zz := by
  have hS : S = ((S.take (mA ν)).reverse).reverse ++ S.drop (mA ν) := by rw [List.reverse_reverse, List.take_append_drop]
  have hl : ((S.take (mA ν)).reverse).length = mA ν := by rw [List.length_reverse, List.length_take]; omega
  generalize (S.take (mA ν)).reverse = As at hS hl h
  generalize S.drop (mA ν) = R at hS h2 h
  subst hS
  intro p l e s m args below meth c Z hF hR H locs ls hH hlo hlv hc hz
  revert p l e s m args below meth c Z hF hR H locs ls hH hlo hlv hc hz
  show AW Γ (d + 1) μ Q pc L (As.reverse ++ R) σ w cc zz
  by_cases hc : cc ≤ mC μ ∧ zz ≤ mS μ
  · obtain ⟨hc, hz⟩ := hc
    split at h
    · rename_i e
      obtain ⟨z1, z2⟩ := cCk_z hw (by omega)
      refine aw_callS hkd hd hw hl h2 (by omega) (by omega) h (fun v σ' w' hq => ?_)
      obtain ⟨rfl, rfl, hq⟩ := hq
      rw [z1, z2]
      exact hk _ _ _ _ _ _ _ hq
    · rename_i e
      obtain ⟨z1, z2⟩ := cCk_z hw (by omega)
      refine aw_callS hkd hd hw hl h2 (by omega) (by omega) h (fun v σ' w' hq => ?_)
      obtain ⟨rfl, x, rfl, hq⟩ := hq
      rw [z1, z2]
      exact hk _ _ _ _ _ _ _ hq
    · rename_i e
      obtain ⟨z1, z2⟩ := cCk_z hw (by omega)
      refine aw_callS hkd hd hw hl h2 (by omega) (by omega) h (fun v σ' w' hq => ?_)
      obtain ⟨rfl, x, rfl, hq⟩ := hq
      rw [z1, z2]
      exact hk _ _ _ _ _ _ _ hq
    · exact h.elim
  · intro p l e s m args below meth c Z hF hR H locs ls hH hlo hlv hc1 hz1
    exact absurd ⟨hc1, hz1⟩ hc
theorem aw_virt {n o : Nat} {ν : MD} {ws : List Nat} {R : List Value} (hd : decode (mB μ) pc = .ok (.invokevirtual n, 3)) (hw : cCk (mN μ).cls n 0 ν ws = true) (hdrop : S.drop (mA ν) = .ref o :: R) (ho : okO w o (mO ν)) (h2 : catS R ≤ 8) (hk : ∀ pc L S σ w cc zz, k pc L S σ w cc zz → AW Γ (d + 1) μ Q pc L S σ w cc zz)
    (h : match mK ν with
        | 0 => SpV Γ d ν (.ref o :: (S.take (mA ν)).reverse) σ w (fun σ' => k (pc + 3) L R σ' w cc zz)
        | 1 => SpI Γ d ν (.ref o :: (S.take (mA ν)).reverse) σ w (fun x σ' => k (pc + 3) L (.int x :: R) σ' w cc zz)
        | 2 => SpJ Γ d ν (.ref o :: (S.take (mA ν)).reverse) σ w (fun x σ' => k (pc + 3) L (.long x :: R) σ' w cc zz)
        | 4 => cc + mC ν ≤ mC μ ∧ zz + mS ν ≤ mS μ ∧ SpN Γ d ν (.ref o :: (S.take (mA ν)).reverse) σ w (fun x σ' w' => k (pc + 3) L (.int x :: R) σ' w' (cc + mC ν) (zz + mS ν))
        | _ => False) : AW Γ (d + 1) μ Q pc L S σ w cc zz := by
  have hlt : mA ν < S.length := by
    rcases Nat.lt_or_ge (mA ν) S.length with q | q
    · exact q
    · rw [List.drop_eq_nil_of_le q] at hdrop
      cases hdrop
  have hS : S = ((S.take (mA ν)).reverse).reverse ++ (.ref o :: R) := by rw [List.reverse_reverse, ← hdrop, List.take_append_drop]
  have hl : ((S.take (mA ν)).reverse).length = mA ν := by rw [List.length_reverse, List.length_take]; omega
  generalize (S.take (mA ν)).reverse = As at hS hl h
  subst hS
  by_cases hc : cc ≤ mC μ ∧ zz ≤ mS μ
  · obtain ⟨hc, hz⟩ := hc
    split at h
    · rename_i e
      obtain ⟨z1, z2⟩ := cCk_z hw (by omega)
      refine aw_callV hd hw ho hl h2 (by omega) (by omega) h (fun v σ' w' hq => ?_)
      obtain ⟨rfl, rfl, hq⟩ := hq
      rw [z1, z2]
      exact hk _ _ _ _ _ _ _ hq
    · rename_i e
      obtain ⟨z1, z2⟩ := cCk_z hw (by omega)
      refine aw_callV hd hw ho hl h2 (by omega) (by omega) h (fun v σ' w' hq => ?_)
      obtain ⟨rfl, x, rfl, hq⟩ := hq
      rw [z1, z2]
      exact hk _ _ _ _ _ _ _ hq
    · rename_i e
      obtain ⟨z1, z2⟩ := cCk_z hw (by omega)
      refine aw_callV hd hw ho hl h2 (by omega) (by omega) h (fun v σ' w' hq => ?_)
      obtain ⟨rfl, x, rfl, hq⟩ := hq
      rw [z1, z2]
      exact hk _ _ _ _ _ _ _ hq
    · obtain ⟨h3, h4, h⟩ := h
      refine aw_callV hd hw ho hl h2 h3 h4 h (fun v σ' w' hq => ?_)
      obtain ⟨x, rfl, hq⟩ := hq
      exact hk _ _ _ _ _ _ _ hq
    · exact h.elim
  · intro p l e s m args below meth c Z hF hR H locs ls hH hlo hlv hc1 hz1
    exact absurd ⟨hc1, hz1⟩ hc
theorem aw_virtX {n x : Nat} {ν : MD} {ws : List Nat} {R : List Value} (hd : decode (mB μ) pc = .ok (.invokevirtual n, 3)) (hw : cCk (mN μ).cls n 5 ν ws = true) (hdrop : S.drop (mA ν) = .retAddr x :: R) (hx1 : 1 ≤ x) (hx9 : x ≤ 9) (h2 : catS R ≤ 8) (hk : ∀ pc L S σ w cc zz, k pc L S σ w cc zz → AW Γ (d + 1) μ Q pc L S σ w cc zz)
    (h : match mK ν with
        | 1 => SpI Γ d ν (.retAddr x :: (S.take (mA ν)).reverse) σ w (fun x σ' => k (pc + 3) L (.int x :: R) σ' w cc zz)
        | _ => False) : AW Γ (d + 1) μ Q pc L S σ w cc zz := by
  have hlt : mA ν < S.length := by
    rcases Nat.lt_or_ge (mA ν) S.length with q | q
    · exact q
    · rw [List.drop_eq_nil_of_le q] at hdrop
      cases hdrop
  have hS : S = ((S.take (mA ν)).reverse).reverse ++ (.retAddr x :: R) := by rw [List.reverse_reverse, ← hdrop, List.take_append_drop]
  have hl : ((S.take (mA ν)).reverse).length = mA ν := by rw [List.length_reverse, List.length_take]; omega
  generalize (S.take (mA ν)).reverse = As at hS hl h
  subst hS
  by_cases hc : cc ≤ mC μ ∧ zz ≤ mS μ
  · obtain ⟨hc, hz⟩ := hc
    split at h
    · rename_i e
      obtain ⟨z1, z2⟩ := cCk_z hw (by omega)
      refine aw_callX hd hw hx1 hx9 hl h2 (by omega) (by omega) h (fun v σ' w' hq => ?_)
      obtain ⟨rfl, x, rfl, hq⟩ := hq
      rw [z1, z2]
      exact hk _ _ _ _ _ _ _ hq
    · exact h.elim
  · intro p l e s m args below meth c Z hF hR H locs ls hH hlo hlv hc1 hz1
    exact absurd ⟨hc1, hz1⟩ hc
end Sound0
section Sound
variable {Γ : Gx} {d : Nat} {μ : MD} {Q : Option Value → St → Wd → Prop} {T : Tb} {sw : Sw} {i : Instr} {len : Nat} {cst : Int32} {tgt nx : Nat} {pc : Nat} {L : Lv} {S : List Value} {σ : St} {w : Wd} {cc zz : Nat} {k : Nat → Lv → List Value → St → Wd → Nat → Nat → Prop}
set_option maxHeartbeats 4000000 in
theorem stp_sound (hT : tbOK (mN μ).cls T) (hi : iCk (mB μ) (pc, i, len, cst, tgt, nx) = true) (hs : ∀ cs df, sw.lookup pc = some (cs, df) → (∃ a b c e, i = .tableswitch a b c e) → swCk pc i cs df = true)
    (hk : ∀ pc L S σ w cc zz, k pc L S σ w cc zz → AW Γ d μ Q pc L S σ w cc zz) (h : stp Γ d μ Q T sw i cst tgt nx pc L S σ w cc zz k) : AW Γ d μ Q pc L S σ w cc zz := by
  unfold iCk at hi
  rw [Bool.and_eq_true, Bool.and_eq_true, decide_eq_true_eq, decide_eq_true_eq] at hi
  obtain ⟨⟨hd, hnx⟩, hi⟩ := hi
  dsimp only at hd hnx hi
  subst hnx
  unfold stp at h
  split at h
  · rename_i S' hS'
    have hl : len = 1 := by
      cases i <;> first | (cases hS'; done) | simpa using hi
    subst hl
    exact aw_sop hd hS' (hk _ _ _ _ _ _ _ h)
  · split at h
    · simp only [Bool.and_eq_true, decide_eq_true_eq] at hi
      exact aw_cst hd (Or.inl ⟨_, rfl, hi.1, hi.2⟩) (hk _ _ _ _ _ _ _ h)
    · simp only [Bool.and_eq_true, decide_eq_true_eq] at hi
      exact aw_cst hd (Or.inr (Or.inl ⟨_, rfl, hi.1, hi.2⟩)) (hk _ _ _ _ _ _ _ h)
    · simp only [Bool.and_eq_true, decide_eq_true_eq] at hi
      exact aw_cst hd (Or.inr (Or.inr ⟨_, rfl, hi.1, hi.2⟩)) (hk _ _ _ _ _ _ _ h)
    · simp only [decide_eq_true_eq] at hi
      split at h
      · rename_i heq
        exact aw_load hd heq (Or.inl ⟨_, rfl, Or.inl ⟨rfl, hi⟩⟩) (hk _ _ _ _ _ _ _ h)
      · exact h.elim
    · simp only [decide_eq_true_eq] at hi
      split at h
      · rename_i heq
        exact aw_load hd heq (Or.inl ⟨_, rfl, Or.inr ⟨_, rfl, rfl, hi⟩⟩) (hk _ _ _ _ _ _ _ h)
      · exact h.elim
    · simp only [decide_eq_true_eq] at hi
      split at h
      · rename_i heq
        exact aw_load hd heq (Or.inr (Or.inl ⟨_, rfl, Or.inl ⟨rfl, hi⟩⟩)) (hk _ _ _ _ _ _ _ h)
      · exact h.elim
    · simp only [decide_eq_true_eq] at hi
      split at h
      · rename_i heq
        exact aw_load hd heq (Or.inr (Or.inl ⟨_, rfl, Or.inr ⟨_, rfl, rfl, hi⟩⟩)) (hk _ _ _ _ _ _ _ h)
      · exact h.elim
    · simp only [decide_eq_true_eq] at hi
      split at h
      · rename_i heq
        exact aw_load hd heq (Or.inr (Or.inr ⟨⟨_, Or.inl rfl⟩, Or.inl ⟨rfl, hi⟩⟩)) (hk _ _ _ _ _ _ _ h)
      · rename_i heq
        exact aw_load hd heq (Or.inr (Or.inr ⟨⟨_, Or.inr rfl⟩, Or.inl ⟨rfl, hi⟩⟩)) (hk _ _ _ _ _ _ _ h)
      · exact h.elim
    · simp only [decide_eq_true_eq] at hi
      split at h
      · rename_i heq
        exact aw_load hd heq (Or.inr (Or.inr ⟨⟨_, Or.inl rfl⟩, Or.inr ⟨_, rfl, rfl, hi⟩⟩)) (hk _ _ _ _ _ _ _ h)
      · rename_i heq
        exact aw_load hd heq (Or.inr (Or.inr ⟨⟨_, Or.inr rfl⟩, Or.inr ⟨_, rfl, rfl, hi⟩⟩)) (hk _ _ _ _ _ _ _ h)
      · exact h.elim
    · simp only [decide_eq_true_eq] at hi
      split at h
      · rename_i hn
        exact aw_store1 hd hn (Or.inl ⟨_, rfl, Or.inl ⟨rfl, hi⟩⟩) (hk _ _ _ _ _ _ _ h)
      · exact h.elim
    · simp only [decide_eq_true_eq] at hi
      split at h
      · rename_i hn
        exact aw_store1 hd hn (Or.inl ⟨_, rfl, Or.inr ⟨_, rfl, rfl, hi⟩⟩) (hk _ _ _ _ _ _ _ h)
      · exact h.elim
    · simp only [decide_eq_true_eq] at hi
      split at h
      · rename_i hn
        exact aw_store1 hd hn (Or.inr ⟨_, rfl, Or.inl ⟨rfl, hi⟩⟩) (hk _ _ _ _ _ _ _ h)
      · exact h.elim
    · simp only [decide_eq_true_eq] at hi
      split at h
      · rename_i hn
        exact aw_store1 hd hn (Or.inr ⟨_, rfl, Or.inr ⟨_, rfl, rfl, hi⟩⟩) (hk _ _ _ _ _ _ _ h)
      · exact h.elim
    · simp only [decide_eq_true_eq] at hi
      split at h
      · rename_i hn
        exact aw_store2 hd hn (Or.inl ⟨rfl, hi⟩) (hk _ _ _ _ _ _ _ h)
      · exact h.elim
    · simp only [decide_eq_true_eq] at hi
      split at h
      · rename_i hn
        exact aw_store2 hd hn (Or.inr ⟨_, rfl, rfl, hi⟩) (hk _ _ _ _ _ _ _ h)
      · exact h.elim
    · simp only [Bool.and_eq_true, decide_eq_true_eq] at hi
      split at h
      · rename_i heq
        split at h
        · rename_i hn
          obtain ⟨hi1, rfl⟩ := hi
          exact aw_iinc hd hn heq hi1 (hk _ _ _ _ _ _ _ h)
        · exact h.elim
      · exact h.elim
    · simp only [decide_eq_true_eq] at hi
      subst hi
      exact (aw_div h.1).1 hd (hk _ _ _ _ _ _ _ h.2)
    · simp only [decide_eq_true_eq] at hi
      subst hi
      exact (aw_div h.1).2 hd (hk _ _ _ _ _ _ _ h.2)
    · simp only [Bool.and_eq_true, decide_eq_true_eq] at hi
      obtain ⟨hi1, rfl⟩ := hi
      exact aw_goto hd hi1 (hk _ _ _ _ _ _ _ h)
    · simp only [Bool.and_eq_true, decide_eq_true_eq] at hi
      obtain ⟨hi1, rfl⟩ := hi
      refine aw_if hd hi1 ?_
      revert h
      unfold bra
      split <;> exact fun h => ⟨fun q => hk _ _ _ _ _ _ _ (h.1 q), fun q => hk _ _ _ _ _ _ _ (h.2 q)⟩
    · simp only [Bool.and_eq_true, decide_eq_true_eq] at hi
      obtain ⟨hi1, rfl⟩ := hi
      refine aw_icmp hd hi1 ?_
      revert h
      unfold bra
      split <;> exact fun h => ⟨fun q => hk _ _ _ _ _ _ _ (h.1 q), fun q => hk _ _ _ _ _ _ _ (h.2 q)⟩
    · simp only [Bool.and_eq_true, decide_eq_true_eq] at hi
      obtain ⟨hi1, rfl⟩ := hi
      exact (aw_ifnull hi1).1 hd (hk _ _ _ _ _ _ _ h)
    · simp only [Bool.and_eq_true, decide_eq_true_eq] at hi
      obtain ⟨hi1, rfl⟩ := hi
      exact (aw_ifnull (x := 0) hi1).2.1 hd (hk _ _ _ _ _ _ _ h)
    · simp only [Bool.and_eq_true, decide_eq_true_eq] at hi
      obtain ⟨hi1, rfl⟩ := hi
      exact (aw_ifnull hi1).2.2.1 hd (hk _ _ _ _ _ _ _ h)
    · simp only [Bool.and_eq_true, decide_eq_true_eq] at hi
      obtain ⟨hi1, rfl⟩ := hi
      exact (aw_ifnull (x := 0) hi1).2.2.2 hd (hk _ _ _ _ _ _ _ h)
    · split at h
      · rename_i heq
        exact aw_table hd (hs _ _ heq ⟨_, _, _, _, rfl⟩) (swP_mono (fun t h => hk _ _ _ _ _ _ _ h) h)
      · exact h.elim
    · simp only [decide_eq_true_eq] at hi
      subst hi
      split at h
      · rename_i heq
        obtain ⟨wi, hw⟩ := hT.2.2.1 _ _ heq
        exact aw_ldcI hd (Or.inl ⟨rfl, rfl⟩) hw (hk _ _ _ _ _ _ _ h)
      · rename_i heq
        obtain ⟨wi, hw⟩ := hT.2.2.1 _ _ heq
        exact aw_ldcT hd hw (hk _ _ _ _ _ _ _ h)
      · exact h.elim
    · simp only [decide_eq_true_eq] at hi
      subst hi
      split at h
      · rename_i heq
        obtain ⟨wi, hw⟩ := hT.2.2.1 _ _ heq
        exact aw_ldcI hd (Or.inr ⟨rfl, rfl⟩) hw (hk _ _ _ _ _ _ _ h)
      · exact h.elim
    · simp only [decide_eq_true_eq] at hi
      subst hi
      split at h
      · rename_i heq
        obtain ⟨wi, hw⟩ := hT.2.2.1 _ _ heq
        exact aw_ldcL hd hw (hk _ _ _ _ _ _ _ h)
      · exact h.elim
    · simp only [decide_eq_true_eq] at hi
      subst hi
      split at h
      · rename_i heq
        obtain ⟨wi, hw⟩ := hT.1 _ _ heq
        exact aw_get hd hw h.1 (fv_k1 (fCk_fk hw)) (hk _ _ _ _ _ _ _ h.2)
      · rename_i heq
        obtain ⟨wi, hw⟩ := hT.1 _ _ heq
        obtain ⟨ho, r, hr, h⟩ := h
        exact aw_get hd hw ho (fv_k2 (fCk_fk hw) hr) (hk _ _ _ _ _ _ _ h)
      · rename_i heq
        obtain ⟨wi, hw⟩ := hT.1 _ _ heq
        obtain ⟨ho, h1, h2⟩ := h
        exact aw_get3 hd hw ho (fun r hr => hk _ _ _ _ _ _ _ (h1 r hr)) (fun hr => hk _ _ _ _ _ _ _ (h2 hr))
      · rename_i heq
        obtain ⟨wi, hw⟩ := hT.1 _ _ heq
        exact aw_get hd hw h.1 (fv_k0 (fCk_fk hw) (by decide) (by decide) (by decide)) (hk _ _ _ _ _ _ _ h.2)
      · rename_i heq
        obtain ⟨wi, hw⟩ := hT.1 _ _ heq
        exact aw_get hd hw h.1 (fv_k0 (fCk_fk hw) (by decide) (by decide) (by decide)) (hk _ _ _ _ _ _ _ h.2)
      · exact h.elim
    · simp only [decide_eq_true_eq] at hi
      subst hi
      split at h
      · rename_i heq
        obtain ⟨wi, hw⟩ := hT.1 _ _ heq
        obtain ⟨h1, h2, h⟩ := h
        exact aw_xget hd (of_decide_eq_true hw) (fun s hK => gt_val hK h1 h2) (hk _ _ _ _ _ _ _ h)
      · rename_i heq
        obtain ⟨wi, hw⟩ := hT.1 _ _ heq
        obtain ⟨h1, h2, h⟩ := h
        exact aw_xget hd (of_decide_eq_true hw) (fun s hK => gt_cod hK h1 h2) (hk _ _ _ _ _ _ _ h)
      · exact h.elim
    · simp only [decide_eq_true_eq] at hi
      subst hi
      split at h
      · rename_i heq
        obtain ⟨wi, hw⟩ := hT.1 _ _ heq
        exact aw_xgets hd (of_decide_eq_true hw) (hk _ _ _ _ _ _ _ h)
      · rename_i heq
        obtain ⟨wi, hw⟩ := hT.1 _ _ heq
        exact aw_xgetq hd (of_decide_eq_true hw) (hk _ _ _ _ _ _ _ h.1) (hk _ _ _ _ _ _ _ h.2)
      · exact h.elim
    · simp only [decide_eq_true_eq] at hi
      subst hi
      split at h
      · rename_i heq
        obtain ⟨wi, hw⟩ := hT.1 _ _ heq
        exact aw_put hd hw (fun q => absurd q (by decide)) h.1 rfl (fv_p0 (fCk_fk hw) (Or.inl rfl)) (fun i hi => ⟨fun k => fv_uI hi, fun j => av_uI hi⟩) (fCk_n0 hw).1 (fCk_n0 hw).2 (hk _ _ _ _ _ _ _ h.2)
      · rename_i heq
        obtain ⟨wi, hw⟩ := hT.1 _ _ heq
        exact aw_put hd hw (fun q => absurd q (by decide)) h.1 rfl (fv_p0 (fCk_fk hw) (Or.inr rfl)) (fun i hi => ⟨fun k => fv_uI hi, fun j => av_uI hi⟩) (fCk_n4 hw h.2.1).1 (fCk_n4 hw h.2.1).2 (hk _ _ _ _ _ _ _ h.2.2)
      · exact h.elim
    · simp only [decide_eq_true_eq] at hi
      subst hi
      split at h
      · rename_i heq
        obtain ⟨wi, hw⟩ := hT.1 _ _ heq
        exact aw_put hd hw (fun q => absurd q (by decide)) h.1 rfl (fv_p1 (fCk_fk hw)) (fun i hi => ⟨fun k => fv_uJ hi, fun j => av_uJ hi⟩) (fCk_n1 hw).1 (fCk_n1 hw).2 (hk _ _ _ _ _ _ _ h.2)
      · exact h.elim
    · simp only [decide_eq_true_eq] at hi
      subst hi
      split at h
      · rename_i heq
        obtain ⟨wi, hw⟩ := hT.1 _ _ heq
        exact aw_put (w' := uW w _ _ _) hd hw (fun _ => h.2.1) h.1 rfl (fv_p2 (fCk_fk hw)) (fun i hi => ⟨fun k => fv_uW hi, fun j => av_uW hi⟩) (fCk_n2 hw (Or.inl rfl)).1 (fCk_n2 hw (Or.inl rfl)).2 (hk _ _ _ _ _ _ _ h.2.2)
      · rename_i heq
        obtain ⟨wi, hw⟩ := hT.1 _ _ heq
        exact aw_put hd hw (fun q => absurd q (by decide)) h.1 rfl (fv_p3 (fCk_fk hw)) (fun i hi => ⟨fun k => fv_uR hi, fun j => av_uR⟩) (fCk_n2 hw (Or.inr rfl)).1 (fCk_n2 hw (Or.inr rfl)).2 (hk _ _ _ _ _ _ _ h.2)
      · exact h.elim
    · simp only [decide_eq_true_eq] at hi
      subst hi
      exact aw_iald hd h.1 h.2.1 (hk _ _ _ _ _ _ _ h.2.2)
    · simp only [decide_eq_true_eq] at hi
      subst hi
      exact aw_sld hd h.1 (hk _ _ _ _ _ _ _ h.2)
    · simp only [decide_eq_true_eq] at hi
      subst hi
      exact aw_lald hd h.1 h.2.1 (hk _ _ _ _ _ _ _ h.2.2)
    · simp only [decide_eq_true_eq] at hi
      subst hi
      exact aw_bald hd h.1 h.2.1 h.2.2.1 (hk _ _ _ _ _ _ _ h.2.2.2)
    · simp only [decide_eq_true_eq] at hi
      subst hi
      obtain ⟨h1, h2, h3, h4, r, h5, h⟩ := h
      exact aw_aald hd h1 h2 h3 h4 h5 (hk _ _ _ _ _ _ _ h)
    · simp only [decide_eq_true_eq] at hi
      subst hi
      exact aw_iast hd h.1 h.2.1 (hk _ _ _ _ _ _ _ h.2.2)
    · simp only [decide_eq_true_eq] at hi
      subst hi
      exact aw_last hd h.1 h.2.1 (hk _ _ _ _ _ _ _ h.2.2)
    · simp only [decide_eq_true_eq] at hi
      subst hi
      exact aw_bast hd h.1 h.2.1 h.2.2.1 (hk _ _ _ _ _ _ _ h.2.2.2)
    · simp only [decide_eq_true_eq] at hi
      subst hi
      exact aw_aast hd h.1 h.2.1 h.2.2.1 h.2.2.2.1 (hk _ _ _ _ _ _ _ h.2.2.2.2)
    · simp only [decide_eq_true_eq] at hi
      subst hi
      exact aw_alen hd h.1 h.2.1 h.2.2.1 (hk _ _ _ _ _ _ _ h.2.2.2)
    · simp only [decide_eq_true_eq] at hi
      subst hi
      exact aw_slen hd (hk _ _ _ _ _ _ _ h)
    · simp only [decide_eq_true_eq] at hi
      subst hi
      exact aw_xlen hd h.1 h.2.1 (hk _ _ _ _ _ _ _ h.2.2)
    · simp only [decide_eq_true_eq] at hi
      subst hi
      exact aw_xbald hd h.1 h.2.1 h.2.2.1 (hk _ _ _ _ _ _ _ h.2.2.2)
    · simp only [decide_eq_true_eq] at hi
      subst hi
      split at h
      · rename_i heq
        obtain ⟨ws, hw⟩ := hT.2.2.2.1 _ _ heq
        exact aw_newN hd hw h.1 h.2.1 h.2.2.1 (hk _ _ _ _ _ _ _ h.2.2.2)
      · exact h.elim
    · simp only [decide_eq_true_eq] at hi
      subst hi
      exact aw_newa hd h.1 h.2.1 h.2.2.1 h.2.2.2.1 h.2.2.2.2.1 (hk _ _ _ _ _ _ _ h.2.2.2.2.2)
    · simp only [decide_eq_true_eq] at hi
      subst hi
      split at h
      · rename_i heq
        obtain ⟨ws, hw⟩ := hT.2.2.2.1 _ _ heq
        obtain ⟨h1, h2, h3, h4, h5, h6, h7, h⟩ := h
        exact aw_anewN hd hw h1 h2 h3 h4 h5 h6 h7 (hk _ _ _ _ _ _ _ h)
      · exact h.elim
    · simp only [decide_eq_true_eq] at hi
      subst hi
      split at h
      · rename_i heq
        obtain ⟨ws, hw⟩ := hT.2.2.2.1 _ _ heq
        obtain ⟨h1, h2, h3, h4, h5, h6, h7, h8, h⟩ := h
        exact aw_multi hd (by have := hw; unfold nCk at this; simpa [vwCl] using this) h1 h2 h3 h4 h5 h6 h7 h8 (hk _ _ _ _ _ _ _ h)
      · exact h.elim
    · simp only [decide_eq_true_eq] at hi
      subst hi
      split at h
      · rename_i hc
        obtain ⟨ws, hw⟩ := hT.2.2.2.2 _ hc
        unfold oCk at hw
        simp only [Bool.and_eq_true, decide_eq_true_eq] at hw
        exact aw_obj hd hw.1.1 hw.1.2 hw.2 h.1 h.2.1 (hk _ _ _ _ _ _ _ h.2.2)
      · split at h
        · rename_i heq
          obtain ⟨ws, hw⟩ := hT.2.1 _ _ _ heq
          rw [if_neg (by decide)] at hw
          obtain ⟨h1, h2, h3, h4, h⟩ := h
          exact aw_callI (As := []) hd (Or.inl rfl) hw h1.symm h2 h3 h4 h (fun v σ' w' hq => by obtain ⟨rfl, hq⟩ := hq; exact hk _ _ _ _ _ _ _ hq)
        · rename_i heq
          obtain ⟨ws, hw⟩ := hT.2.1 _ _ _ heq
          rw [if_neg (by decide)] at hw
          obtain ⟨h1, h2, h3, h4, h⟩ := h
          exact aw_callI (As := []) hd (Or.inr rfl) hw h1.symm h2 h3 h4 h (fun v σ' w' hq => by obtain ⟨rfl, hq⟩ := hq; exact hk _ _ _ _ _ _ _ hq)
        · exact h.elim
    · simp only [decide_eq_true_eq] at hi
      subst hi
      split at h
      · rename_i heq
        obtain ⟨ws, hw⟩ := hT.2.1 _ _ _ heq
        rw [if_neg (by decide)] at hw
        obtain ⟨h1, h2, h3, h4, h⟩ := h
        exact aw_callI (As := [.int _]) hd (Or.inl rfl) hw h1.symm h2 h3 h4 h (fun v σ' w' hq => by obtain ⟨rfl, hq⟩ := hq; exact hk _ _ _ _ _ _ _ hq)
      · exact h.elim
    · simp only [decide_eq_true_eq] at hi
      subst hi
      split at h
      · rename_i heq
        obtain ⟨ws, hw⟩ := hT.2.1 _ _ _ heq
        rw [if_pos rfl] at hw
        unfold pCk at hw
        simp only [Bool.and_eq_true, decide_eq_true_eq] at hw
        split at h
        · obtain ⟨h1, h2, h3, h4, h5, h6, h7, h8, h⟩ := h
          exact aw_copy hd hw.1.1.1 hw.1.1.2 hw.1.2 hw.2 h1 h2 h3 h4 h5 h6 h7 h8 (hk _ _ _ _ _ _ _ h)
        · exact h.elim
      · rename_i heq
        obtain ⟨ws, hw⟩ := hT.2.1 _ _ _ heq
        rw [if_neg (by decide)] at hw
        obtain ⟨h1, h2, h⟩ := h
        exact aw_static (Or.inl rfl) hd hw h1 h2 hk h
      · rename_i heq
        obtain ⟨ws, hw⟩ := hT.2.1 _ _ _ heq
        rw [if_neg (by decide)] at hw
        obtain ⟨h1, h2, h⟩ := h
        exact aw_static (Or.inr rfl) hd hw h1 h2 hk h
      · exact h.elim
    · simp only [decide_eq_true_eq] at hi
      subst hi
      split at h
      · rename_i heq
        obtain ⟨ws, hw⟩ := hT.2.1 _ _ _ heq
        rw [if_neg (by decide)] at hw
        split at h
        · rename_i hdrop
          exact aw_virt hd hw hdrop h.1 h.2.1 hk h.2.2
        · exact h.elim
      · rename_i heq
        obtain ⟨ws, hw⟩ := hT.2.1 _ _ _ heq
        rw [if_neg (by decide)] at hw
        split at h
        · rename_i hdrop
          exact aw_virtX hd hw hdrop h.1 h.2.1 h.2.2.1 hk h.2.2.2
        · exact h.elim
      · exact h.elim
    · simp only [decide_eq_true_eq] at hi
      subst hi
      split at h
      · rename_i hr
        exact aw_ret (v := some (.int _)) h.2 (Or.inr (Or.inl ⟨_, _, rfl, hd, hr, h.1⟩))
      · exact h.elim
    · simp only [decide_eq_true_eq] at hi
      subst hi
      exact aw_ret (v := some (.long _)) h.2 (Or.inr (Or.inr ⟨_, rfl, hd, h.1⟩))
    · simp only [decide_eq_true_eq] at hi
      subst hi
      exact aw_ret (v := none) h.2 (Or.inl ⟨rfl, hd, h.1⟩)
    · exact h.elim
/-- n steps of a method -/
theorem wp_sound {is : Is} {cu : Cu} (hT : tbOK (mN μ).cls T) (hm : msOK μ is sw) : ∀ (n pc : Nat) (L : Lv) (S : List Value) (σ : St) (w : Wd) (cc zz : Nat), wp Γ d μ Q T is sw cu n pc L S σ w cc zz → AW Γ d μ Q pc L S σ w cc zz
  | 0, _, _, _, _, _, _, _, h => h
  | n + 1, pc, L, S, σ, w, cc, zz, h => by
    unfold wp at h
    split at h
    · exact h.elim
    · rename_i i len cst tgt nx heq
      refine stp_sound hT (hm.1 _ _ heq) (fun cs df h1 h2 => hm.2 _ _ _ _ _ _ _ _ heq h1 h2) ?_ h
      intro pc' L' S' σ' w' cc' zz' h'
      split at h'
      · exact AW.pick _ h'
      · exact wp_sound hT hm n _ _ _ _ _ _ _ h'
end Sound
end
section
/-! contracts: weaker ends; the world once all is made -/
section Mono
variable {Γ : Gx} {d : Nat} {μ : MD} {A : List Value} {σ : St} {w : Wd}
theorem Sp.mono {Q Q' : Option Value → St → Wd → Prop} (h : Sp Γ d μ A σ w Q) (hq : ∀ v σ' w', Q v σ' w' → Q' v σ' w') : Sp Γ d μ A σ w Q' := by
  intro p e h1 h2 h3 s m args below h4 h5 h6 h7
  obtain ⟨n, o, g1, g2, g3, ⟨v, σ', w', e1, e2, e3⟩, g4⟩ := h p e h1 h2 h3 s m args below h4 h5 h6 h7
  exact ⟨n, o, g1, g2, g3, ⟨v, σ', w', e1, e2, hq _ _ _ e3⟩, g4⟩
theorem SpI.mono {Q Q' : Int32 → St → Prop} (h : SpI Γ d μ A σ w Q) (hq : ∀ x σ', Q x σ' → Q' x σ') : SpI Γ d μ A σ w Q' := Sp.mono h (fun _ _ _ ⟨a, x, b, c⟩ => ⟨a, x, b, hq _ _ c⟩)
theorem SpJ.mono {Q Q' : Int64 → St → Prop} (h : SpJ Γ d μ A σ w Q) (hq : ∀ x σ', Q x σ' → Q' x σ') : SpJ Γ d μ A σ w Q' := Sp.mono h (fun _ _ _ ⟨a, x, b, c⟩ => ⟨a, x, b, hq _ _ c⟩)
theorem SpV.mono {Q Q' : St → Prop} (h : SpV Γ d μ A σ w Q) (hq : ∀ σ', Q σ' → Q' σ') : SpV Γ d μ A σ w Q' := Sp.mono h (fun _ _ _ ⟨a, b, c⟩ => ⟨a, b, hq _ c⟩)
theorem SpC.mono {Q Q' : St → Wd → Prop} (h : SpC Γ d μ A σ w Q) (hq : ∀ σ' w', Q σ' w' → Q' σ' w') : SpC Γ d μ A σ w Q' := Sp.mono h (fun _ _ _ ⟨a, c⟩ => ⟨a, hq _ _ c⟩)
theorem SpN.mono {Q Q' : Int32 → St → Wd → Prop} (h : SpN Γ d μ A σ w Q) (hq : ∀ x σ' w', Q x σ' w' → Q' x σ' w') : SpN Γ d μ A σ w Q' := Sp.mono h (fun _ _ _ ⟨x, a, c⟩ => ⟨x, a, hq _ _ _ c⟩)
end Mono
/-- the ends of methods that make no cell -/
def qI (w : Wd) (Q : Int32 → St → Prop) : Option Value → St → Wd → Prop := fun v σ' w' => w' = w ∧ ∃ x, v = some (.int x) ∧ Q x σ'
def qJ (w : Wd) (Q : Int64 → St → Prop) : Option Value → St → Wd → Prop := fun v σ' w' => w' = w ∧ ∃ x, v = some (.long x) ∧ Q x σ'
def qV (w : Wd) (Q : St → Prop) : Option Value → St → Wd → Prop := fun v σ' w' => w' = w ∧ v = none ∧ Q σ'
def qC (Q : St → Wd → Prop) : Option Value → St → Wd → Prop := fun v σ' w' => v = none ∧ Q σ' w'
def qN (Q : Int32 → St → Wd → Prop) : Option Value → St → Wd → Prop := fun v σ' w' => ∃ x, v = some (.int x) ∧ Q x σ' w'
/-- a frame with an empty stack, in a method that makes no cell -/
def AI (Γ : Gx) (d : Nat) (μ : MD) (w : Wd) (Q : Int32 → St → Prop) (pc : Nat) (L : Lv) (σ : St) : Prop := AW Γ d μ (qI w Q) pc L [] σ w 0 0
def AJ (Γ : Gx) (d : Nat) (μ : MD) (w : Wd) (Q : Int64 → St → Prop) (pc : Nat) (L : Lv) (σ : St) : Prop := AW Γ d μ (qJ w Q) pc L [] σ w 0 0
def AV (Γ : Gx) (d : Nat) (μ : MD) (w : Wd) (Q : St → Prop) (pc : Nat) (L : Lv) (σ : St) : Prop := AW Γ d μ (qV w Q) pc L [] σ w 0 0
section Of
variable {Γ : Gx} {d : Nat} {μ : MD} {A : List Value} {σ : St} {w : Wd}
theorem SpI.of {Q : Int32 → St → Prop} (hn : plainName (mN μ).cls = true) (hA : catS A ≤ mL μ) (h : AI Γ d μ w Q 0 (lv_args 0 A) σ) : SpI Γ d μ A σ w Q := Sp.of hn hA h
theorem SpJ.of {Q : Int64 → St → Prop} (hn : plainName (mN μ).cls = true) (hA : catS A ≤ mL μ) (h : AJ Γ d μ w Q 0 (lv_args 0 A) σ) : SpJ Γ d μ A σ w Q := Sp.of hn hA h
theorem SpV.of {Q : St → Prop} (hn : plainName (mN μ).cls = true) (hA : catS A ≤ mL μ) (h : AV Γ d μ w Q 0 (lv_args 0 A) σ) : SpV Γ d μ A σ w Q := Sp.of hn hA h
end Of
theorem mR1 {X : Nat → Prop} {a : Option Nat} {P : Nat} (h : a = some P) (k : X P) : ∀ r, a = some r → X r := fun r q => by rw [h] at q; cases q; exact k
theorem mR2 {X : Prop} {a : Option Nat} {P : Nat} (h : a = some P) : a = none → X := fun q => by rw [h] at q; cases q
theorem nb01 {x : Int32} (h : x = 0 ∨ x = 1) : narrow .boolean (.int x) = .int x := by
  rcases h with rfl | rfl <;> decide
theorem nb0 : narrow .boolean (.int 0) = .int 0 := by decide
theorem nb1 : narrow .boolean (.int 1) = .int 1 := by decide
/-- the world once the class, the reference are made (the course's cells may come later) -/
def rfS : Nat → Nat → Option Nat := fun o k => some (rf o k)
def RunW (w : Wd) : Prop := 425 ≤ w.1 ∧ w.2 = rfS
theorem okL {w : Wd} {o c : Nat} (hw : RunW w) (h1 : o < 425) (h2 : (kd o).1 = c) : okO w o c := ⟨Nat.lt_of_lt_of_le h1 hw.1, h2⟩
theorem rfL_ {w : Wd} {o k r : Nat} (hw : RunW w) (h : rf o k = r) : w.2 o k = some r := by rw [hw.2, ← h]; rfl
theorem viL {j : Int32} {a n : Nat} (h : (kd a).2 = n) (hj : vp_in j n) : vp_in j (kd a).2 := by rw [h]; exact hj
/-- the world with the course's cells -/
def RunC (w : Wd) : Prop := 430 ≤ w.1 ∧ w.2 = rfS
theorem RunC.run {w : Wd} (h : RunC w) : RunW w := ⟨Nat.le_trans (by decide) h.1, h.2⟩
theorem okC {w : Wd} {o c : Nat} (hw : RunC w) (h1 : o < 430) (h2 : (kd o).1 = c) : okO w o c := ⟨Nat.lt_of_lt_of_le h1 hw.1, h2⟩
end
section
/-! the methods, the tables of the classes -/
def mX0_init : MD := (yX0_init, cX0_init, 1, none, 0, 0, 4, 33295, 3)
def mX0_forget : MD := (yX0_forget, cX0_forget, 1, none, 0, 0, 0, 0, 0)
def mX0_find : MD := (yX0_find, cX0_find, 5, none, 0, 3, 0, 0, 0)
def mX0_goOnFrom : MD := (yX0_goOnFrom, cX0_goOnFrom, 8, none, 0, 1, 0, 0, 0)
def mX0_isNew : MD := (yX0_isNew, cX0_isNew, 2, (some .boolean), 0, 1, 0, 0, 1)
def mX0_arrive : MD := (yX0_arrive, cX0_arrive, 4, none, 0, 3, 0, 0, 0)
def mX0_writeSteps : MD := (yX0_writeSteps, cX0_writeSteps, 4, none, 0, 0, 0, 0, 0)
def mX0_stepOf : MD := (yX0_stepOf, cX0_stepOf, 2, (some .int), 99, 1, 0, 0, 1)
def mX0_lessonsIn : MD := (yX0_lessonsIn, cX0_lessonsIn, 1, (some .int), 99, 1, 0, 0, 1)
def mX0_metIn : MD := (yX0_metIn, cX0_metIn, 4, (some .int), 0, 1, 0, 0, 1)
def mX1_init : MD := (yX1_init, cX1_init, 1, none, 1, 0, 2, 89, 3)
def mX1_inAll : MD := (yX1_inAll, cX1_inAll, 1, (some .long), 1, 0, 0, 0, 2)
def mX1_countWays : MD := (yX1_countWays, cX1_countWays, 9, none, 1, 3, 0, 0, 0)
def mX1_waysBehind : MD := (yX1_waysBehind, cX1_waysBehind, 6, (some .long), 1, 4, 0, 0, 2)
def mX1_findFirst : MD := (yX1_findFirst, cX1_findFirst, 7, none, 1, 3, 0, 0, 0)
def mX1_firstThatGoesOn : MD := (yX1_firstThatGoesOn, cX1_firstThatGoesOn, 7, (some .int), 1, 5, 0, 0, 1)
def mX2_init : MD := (yX2_init, cX2_init, 2, none, 2, 1, 2, 48, 3)
def mX2_clear : MD := (yX2_clear, cX2_clear, 1, none, 2, 0, 0, 0, 0)
def mX2_becomeLike : MD := (yX2_becomeLike, cX2_becomeLike, 3, none, 2, 1, 0, 0, 0)
def mX2_heldOn : MD := (yX2_heldOn, cX2_heldOn, 4, (some .int), 2, 1, 0, 0, 1)
def mX2_use : MD := (yX2_use, cX2_use, 8, none, 2, 3, 0, 0, 0)
def mX3_init : MD := (yX3_init, cX3_init, 1, none, 3, 0, 1, 600, 3)
def mX3_append : MD := (yX3_append, cX3_append, 2, none, 3, 1, 0, 0, 0)
def mX3_parse : MD := (yX3_parse, cX3_parse, 3, none, 3, 1, 0, 0, 0)
def mX3_parseClause : MD := (yX3_parseClause, cX3_parseClause, 2, none, 3, 0, 0, 0, 0)
def mX3_parseSign : MD := (yX3_parseSign, cX3_parseSign, 3, none, 3, 1, 0, 0, 0)
def mX3_parseWord : MD := (yX3_parseWord, cX3_parseWord, 4, none, 3, 1, 0, 0, 0)
def mX3_parseSound : MD := (yX3_parseSound, cX3_parseSound, 3, none, 3, 1, 0, 0, 0)
def mX3_parseLesson : MD := (yX3_parseLesson, cX3_parseLesson, 3, none, 3, 1, 0, 0, 0)
def mX3_parsePage : MD := (yX3_parsePage, cX3_parsePage, 4, none, 3, 1, 0, 0, 0)
def mX3_parsePageWord : MD := (yX3_parsePageWord, cX3_parsePageWord, 4, none, 3, 1, 0, 0, 0)
def mX3_parseList : MD := (yX3_parseList, cX3_parseList, 6, (some .int), 3, 1, 0, 0, 1)
def mX3_parseNumber : MD := (yX3_parseNumber, cX3_parseNumber, 3, (some .int), 3, 1, 0, 0, 1)
def mX3_parseLetters : MD := (yX3_parseLetters, cX3_parseLetters, 6, (some .int), 3, 1, 0, 0, 1)
def mX3_wordAhead : MD := (yX3_wordAhead, cX3_wordAhead, 6, (some .int), 3, 0, 0, 0, 1)
def mX3_acceptsWord : MD := (yX3_acceptsWord, cX3_acceptsWord, 4, (some .boolean), 3, 1, 0, 0, 1)
def mX3_accepts : MD := (yX3_accepts, cX3_accepts, 2, (some .boolean), 3, 1, 0, 0, 1)
def mX3_lettersEnd : MD := (yX3_lettersEnd, cX3_lettersEnd, 2, (some .int), 3, 0, 0, 0, 1)
def mX3_skipBlanks : MD := (yX3_skipBlanks, cX3_skipBlanks, 1, none, 3, 0, 0, 0, 0)
def mX3_look : MD := (yX3_look, cX3_look, 1, (some .int), 3, 0, 0, 0, 1)
def mX3_isLetter : MD := (yX3_isLetter, cX3_isLetter, 1, (some .boolean), 99, 1, 0, 0, 1)
def mX3_isFigure : MD := (yX3_isFigure, cX3_isFigure, 1, (some .boolean), 99, 1, 0, 0, 1)
def mX3_fail : MD := (yX3_fail, cX3_fail, 3, none, 3, 2, 0, 0, 0)
def mX4_init : MD := (yX4_init, cX4_init, 2, none, 4, 0, 155, 1214, 3)
def mX4_clear : MD := (yX4_clear, cX4_clear, 1, none, 4, 0, 0, 0, 0)
def mX4_settle : MD := (yX4_settle, cX4_settle, 4, none, 4, 0, 0, 0, 0)
def mX4_signsStandingAt : MD := (yX4_signsStandingAt, cX4_signsStandingAt, 5, (some .int), 4, 2, 0, 0, 1)
def mX4_allLessons : MD := (yX4_allLessons, cX4_allLessons, 1, (some .int), 4, 0, 0, 0, 1)
def mX4_mayFollow : MD := (yX4_mayFollow, cX4_mayFollow, 3, (some .boolean), 4, 2, 0, 0, 1)
def mX4_isClosed : MD := (yX4_isClosed, cX4_isClosed, 3, (some .boolean), 4, 1, 0, 0, 1)
def mX4_withAllBehind : MD := (yX4_withAllBehind, cX4_withAllBehind, 4, (some .int), 4, 1, 0, 0, 1)
def mX4_signsOf : MD := (yX4_signsOf, cX4_signsOf, 2, (some .int), 4, 1, 0, 0, 1)
def mX4_unionOf : MD := (yX4_unionOf, cX4_unionOf, 5, (some .int), 4, 2, 0, 0, 1)
def mX4_readBy : MD := (yX4_readBy, cX4_readBy, 3, (some .int), 4, 1, 0, 0, 1)
def mX4_readAmong : MD := (yX4_readAmong, cX4_readAmong, 6, (some .int), 4, 3, 0, 0, 1)
def mX4_unknownOn : MD := (yX4_unknownOn, cX4_unknownOn, 3, (some .int), 4, 2, 0, 0, 1)
def mX4_takenFor : MD := (yX4_takenFor, cX4_takenFor, 5, (some .int), 4, 2, 0, 0, 1)
def mX5_init : MD := (yX5_init, cX5_init, 1, none, 5, 0, 6, 100, 3)
def mX5_heldSigns : MD := (yX5_heldSigns, cX5_heldSigns, 1, (some .int), 5, 0, 0, 0, 1)
def mX5_heldWords : MD := (yX5_heldWords, cX5_heldWords, 1, (some .int), 5, 0, 0, 0, 1)
def mX5_beginAnew : MD := (yX5_beginAnew, cX5_beginAnew, 1, none, 5, 0, 0, 0, 0)
def mX5_becomeLike : MD := (yX5_becomeLike, cX5_becomeLike, 2, none, 5, 1, 0, 0, 0)
def mX6_init : MD := (yX6_init, cX6_init, 1, none, 6, 0, 22, 315, 3)
def mX6_beginAnew : MD := (yX6_beginAnew, cX6_beginAnew, 5, none, 6, 0, 0, 0, 0)
def mX6_becomeLike : MD := (yX6_becomeLike, cX6_becomeLike, 3, none, 6, 1, 0, 0, 0)
def mX7_init : MD := (yX7_init, cX7_init, 1, none, 7, 0, 1, 4, 3)
def mX7_standsAt : MD := (yX7_standsAt, cX7_standsAt, 5, (some .boolean), 7, 2, 0, 0, 1)
def mX8_init : MD := (yX8_init, cX8_init, 1, none, 8, 0, 1, 8, 3)
def mX8_say : MD := (yX8_say, cX8_say, 7, none, 8, 3, 0, 0, 0)
def mX8_longest : MD := (yX8_longest, cX8_longest, 5, (some .int), 99, 2, 0, 0, 1)
def mX9_init : MD := (yX9_init, cX9_init, 1, none, 9, 0, 1, 32, 3)
def mX9_spell : MD := (yX9_spell, cX9_spell, 6, none, 9, 3, 0, 0, 0)
def mX9_firstFor : MD := (yX9_firstFor, cX9_firstFor, 7, (some .int), 99, 4, 0, 0, 1)
def mX9_append : MD := (yX9_append, cX9_append, 3, none, 9, 1, 0, 0, 0)
def mX10_init : MD := (yX10_init, cX10_init, 1, none, 10, 0, 3, 24, 3)
def mX11_init : MD := (yX11_init, cX11_init, 1, none, 11, 0, 389, 4144, 3)
def mX11_feed : MD := (yX11_feed, cX11_feed, 5, (some .int), 11, 2, 0, 0, 1)
def mX11_primer : MD := (yX11_primer, cX11_primer, 2, (some .int), 11, 0, 0, 0, 1)
def mX11_fault : MD := (yX11_fault, cX11_fault, 1, (some .int), 11, 0, 0, 0, 1)
def mX11_sign : MD := (yX11_sign, cX11_sign, 4, (some .int), 11, 2, 0, 0, 1)
def mX11_word : MD := (yX11_word, cX11_word, 4, (some .int), 11, 2, 0, 0, 1)
def mX11_lesson : MD := (yX11_lesson, cX11_lesson, 3, (some .int), 11, 2, 0, 0, 1)
def mX11_page : MD := (yX11_page, cX11_page, 3, (some .int), 11, 2, 0, 0, 1)
def mX11_count : MD := (yX11_count, cX11_count, 2, (some .int), 11, 1, 0, 0, 1)
def mX11_fits : MD := (yX11_fits, cX11_fits, 5, (some .int), 11, 3, 0, 0, 1)
def mX11_ways : MD := (yX11_ways, cX11_ways, 3, (some .long), 11, 2, 0, 0, 2)
def mX11_cut : MD := (yX11_cut, cX11_cut, 4, (some .int), 11, 3, 0, 0, 1)
def mX11_aloud : MD := (yX11_aloud, cX11_aloud, 5, (some .int), 11, 3, 0, 0, 1)
def mX11_right : MD := (yX11_right, cX11_right, 5, (some .int), 11, 3, 0, 0, 1)
def mX11_spelt : MD := (yX11_spelt, cX11_spelt, 4, (some .int), 11, 3, 0, 0, 1)
def mX11_taught : MD := (yX11_taught, cX11_taught, 2, (some .int), 11, 1, 0, 0, 1)
def mX11_reads : MD := (yX11_reads, cX11_reads, 2, (some .int), 11, 1, 0, 0, 1)
def mX11_mixed : MD := (yX11_mixed, cX11_mixed, 3, (some .int), 11, 2, 0, 0, 1)
def mX11_unknown : MD := (yX11_unknown, cX11_unknown, 3, (some .int), 11, 2, 0, 0, 1)
def mX11_fewest : MD := (yX11_fewest, cX11_fewest, 7, (some .int), 11, 2, 0, 0, 1)
def mX11_course : MD := (yX11_course, cX11_course, 4, (some .int), 11, 3, 5, 33305, 4)
def mX11_hangs : MD := (yX11_hangs, cX11_hangs, 5, (some .int), 11, 1, 0, 0, 1)
def mX11_base : MD := (yX11_base, cX11_base, 3, (some .int), 11, 1, 0, 0, 1)
def mX11_take : MD := (yX11_take, cX11_take, 5, (some .int), 11, 2, 0, 0, 1)
def mX11_read : MD := (yX11_read, cX11_read, 9, (some .int), 11, 2, 0, 0, 1)
def mX11_rest : MD := (yX11_rest, cX11_rest, 4, (some .int), 11, 2, 0, 0, 1)
def mX11_about : MD := (yX11_about, cX11_about, 4, (some .int), 11, 2, 0, 0, 1)
def mX11_span : MD := (yX11_span, cX11_span, 5, (some .int), 11, 3, 0, 0, 1)
def mX11_meets : MD := (yX11_meets, cX11_meets, 3, (some .int), 11, 2, 0, 0, 1)
def mX11_next : MD := (yX11_next, cX11_next, 6, (some .int), 11, 2, 0, 0, 1)
def mX11_forAll : MD := (yX11_forAll, cX11_forAll, 9, (some .int), 11, 0, 0, 0, 1)
def mX11_keep : MD := (yX11_keep, cX11_keep, 2, (some .int), 11, 1, 0, 0, 1)
def mX11_goBack : MD := (yX11_goBack, cX11_goBack, 2, (some .int), 11, 1, 0, 0, 1)
def mX11_lessonToTakeAgain : MD := (yX11_lessonToTakeAgain, cX11_lessonToTakeAgain, 3, (some .int), 11, 1, 0, 0, 1)
def mX11_pageToRead : MD := (yX11_pageToRead, cX11_pageToRead, 7, (some .int), 11, 2, 0, 0, 1)
def mX11_lessonToTake : MD := (yX11_lessonToTake, cX11_lessonToTake, 3, (some .int), 11, 1, 0, 0, 1)
def mX11_missingOf : MD := (yX11_missingOf, cX11_missingOf, 3, (some .int), 11, 2, 0, 0, 1)
def mX11_unknownFor : MD := (yX11_unknownFor, cX11_unknownFor, 3, (some .int), 11, 2, 0, 0, 1)
def mX11_isSign : MD := (yX11_isSign, cX11_isSign, 2, (some .boolean), 11, 1, 0, 0, 1)
def mX11_isWord : MD := (yX11_isWord, cX11_isWord, 2, (some .boolean), 11, 1, 0, 0, 1)
def mX11_isLesson : MD := (yX11_isLesson, cX11_isLesson, 2, (some .boolean), 11, 1, 0, 0, 1)
def mX11_isPage : MD := (yX11_isPage, cX11_isPage, 2, (some .boolean), 11, 1, 0, 0, 1)
def mX11_areSigns : MD := (yX11_areSigns, cX11_areSigns, 2, (some .boolean), 11, 1, 0, 0, 1)
def mX11_areLessons : MD := (yX11_areLessons, cX11_areLessons, 2, (some .boolean), 11, 1, 0, 0, 1)
def mX11_isPupil : MD := (yX11_isPupil, cX11_isPupil, 1, (some .boolean), 99, 1, 0, 0, 1)
def mX11_isImage : MD := (yX11_isImage, cX11_isImage, 1, (some .boolean), 99, 1, 0, 0, 1)
def mX11_isOutsideUnknown : MD := (yX11_isOutsideUnknown, cX11_isOutsideUnknown, 1, (some .boolean), 99, 1, 0, 0, 1)
def mX11_at : MD := (yX11_at, cX11_at, 3, (some .int), 99, 3, 0, 0, 1)
def mX11_bit : MD := (yX11_bit, cX11_bit, 1, (some .int), 99, 1, 0, 0, 1)
def mX11_areAlike : MD := (yX11_areAlike, cX11_areAlike, 5, (some .boolean), 99, 4, 0, 0, 1)
def mX12_init : MD := (yX12_init, cX12_init, 1, none, 12, 0, 34, 35907, 3)
def mX12_in : MD := (yX12_in, cX12_in, 6, (some .boolean), 99, 3, 0, 0, 1)
def mX12_has : MD := (yX12_has, cX12_has, 2, (some .boolean), 99, 2, 0, 0, 1)
def mX12_bits : MD := (yX12_bits, cX12_bits, 3, (some .int), 99, 1, 0, 0, 1)
def mX12_feed : MD := (yX12_feed, cX12_feed, 5, (some .int), 12, 2, 0, 0, 1)
def mX12_here : MD := (yX12_here, cX12_here, 1, (some .int), 12, 0, 0, 0, 1)
def mX12_fails : MD := (yX12_fails, cX12_fails, 3, (some .int), 12, 2, 0, 0, 1)
def mX12_readWord : MD := (yX12_readWord, cX12_readWord, 2, none, 12, 0, 0, 0, 0)
def mX12_code : MD := (yX12_code, cX12_code, 4, (some .long), 99, 4, 0, 0, 2)
def mX12_longer : MD := (yX12_longer, cX12_longer, 3, (some .long), 99, 2, 0, 0, 2)
def mX12_takeNumber : MD := (yX12_takeNumber, cX12_takeNumber, 3, (some .int), 12, 1, 0, 0, 1)
def mX12_takeSign : MD := (yX12_takeSign, cX12_takeSign, 7, (some .int), 12, 1, 0, 0, 1)
def mX12_wordOf : MD := (yX12_wordOf, cX12_wordOf, 7, (some .int), 12, 2, 0, 0, 1)
def mX12_takeWord : MD := (yX12_takeWord, cX12_takeWord, 6, (some .int), 12, 1, 0, 0, 1)
def mX12_takeList : MD := (yX12_takeList, cX12_takeList, 4, (some .int), 12, 1, 0, 0, 1)
def mX12_takeLesson : MD := (yX12_takeLesson, cX12_takeLesson, 6, (some .int), 12, 1, 0, 0, 1)
def mX12_takePage : MD := (yX12_takePage, cX12_takePage, 5, (some .int), 12, 1, 0, 0, 1)
def mX12_takeClause : MD := (yX12_takeClause, cX12_takeClause, 4, (some .int), 12, 0, 0, 0, 1)
def mX12_primer : MD := (yX12_primer, cX12_primer, 3, (some .int), 12, 0, 0, 0, 1)
def mX12_keepPrimer : MD := (yX12_keepPrimer, cX12_keepPrimer, 3, none, 12, 0, 0, 0, 0)
def mX12_fault : MD := (yX12_fault, cX12_fault, 1, (some .int), 12, 0, 0, 0, 1)
def mX12_isSign : MD := (yX12_isSign, cX12_isSign, 2, (some .boolean), 12, 1, 0, 0, 1)
def mX12_areSigns : MD := (yX12_areSigns, cX12_areSigns, 2, (some .boolean), 12, 1, 0, 0, 1)
def mX12_isWord : MD := (yX12_isWord, cX12_isWord, 2, (some .boolean), 12, 1, 0, 0, 1)
def mX12_isLesson : MD := (yX12_isLesson, cX12_isLesson, 2, (some .boolean), 12, 1, 0, 0, 1)
def mX12_isPage : MD := (yX12_isPage, cX12_isPage, 2, (some .boolean), 12, 1, 0, 0, 1)
def mX12_sign : MD := (yX12_sign, cX12_sign, 3, (some .int), 12, 2, 0, 0, 1)
def mX12_word : MD := (yX12_word, cX12_word, 3, (some .int), 12, 2, 0, 0, 1)
def mX12_lesson : MD := (yX12_lesson, cX12_lesson, 3, (some .int), 12, 2, 0, 0, 1)
def mX12_page : MD := (yX12_page, cX12_page, 3, (some .int), 12, 2, 0, 0, 1)
def mX12_count : MD := (yX12_count, cX12_count, 2, (some .int), 12, 1, 0, 0, 1)
def mX12_isFit : MD := (yX12_isFit, cX12_isFit, 7, (some .boolean), 12, 3, 0, 0, 1)
def mX12_fits : MD := (yX12_fits, cX12_fits, 4, (some .int), 12, 3, 0, 0, 1)
def mX12_leads : MD := (yX12_leads, cX12_leads, 7, (some .int), 12, 5, 0, 0, 1)
def mX12_findWays : MD := (yX12_findWays, cX12_findWays, 9, (some .long), 12, 2, 0, 0, 2)
def mX12_ways : MD := (yX12_ways, cX12_ways, 3, (some .long), 12, 2, 0, 0, 2)
def mX12_cut : MD := (yX12_cut, cX12_cut, 8, (some .int), 12, 3, 0, 0, 1)
def mX12_speak : MD := (yX12_speak, cX12_speak, 7, none, 12, 2, 0, 0, 0)
def mX12_areSounds : MD := (yX12_areSounds, cX12_areSounds, 4, (some .boolean), 12, 1, 0, 0, 1)
def mX12_isRight : MD := (yX12_isRight, cX12_isRight, 3, (some .boolean), 12, 2, 0, 0, 1)
def mX12_outAt : MD := (yX12_outAt, cX12_outAt, 2, (some .int), 12, 1, 0, 0, 1)
def mX12_aloud : MD := (yX12_aloud, cX12_aloud, 4, (some .int), 12, 3, 0, 0, 1)
def mX12_spell : MD := (yX12_spell, cX12_spell, 7, none, 12, 2, 0, 0, 0)
def mX12_isWell : MD := (yX12_isWell, cX12_isWell, 5, (some .boolean), 12, 2, 0, 0, 1)
def mX12_right : MD := (yX12_right, cX12_right, 4, (some .int), 12, 3, 0, 0, 1)
def mX12_spelt : MD := (yX12_spelt, cX12_spelt, 4, (some .int), 12, 3, 0, 0, 1)
def mX12_areLessons : MD := (yX12_areLessons, cX12_areLessons, 2, (some .boolean), 12, 1, 0, 0, 1)
def mX12_isClosed : MD := (yX12_isClosed, cX12_isClosed, 4, (some .boolean), 12, 1, 0, 0, 1)
def mX12_teach : MD := (yX12_teach, cX12_teach, 5, (some .int), 12, 2, 0, 0, 1)
def mX12_readsOf : MD := (yX12_readsOf, cX12_readsOf, 5, (some .int), 12, 1, 0, 0, 1)
def mX12_taught : MD := (yX12_taught, cX12_taught, 2, (some .int), 12, 1, 0, 0, 1)
def mX12_reads : MD := (yX12_reads, cX12_reads, 2, (some .int), 12, 1, 0, 0, 1)
def mX12_mixed : MD := (yX12_mixed, cX12_mixed, 6, (some .int), 12, 2, 0, 0, 1)
def mX12_unknown : MD := (yX12_unknown, cX12_unknown, 3, (some .int), 12, 2, 0, 0, 1)
def mX12_isFew : MD := (yX12_isFew, cX12_isFew, 1, (some .boolean), 99, 1, 0, 0, 1)
def mX12_fewest : MD := (yX12_fewest, cX12_fewest, 6, (some .int), 12, 2, 0, 0, 1)
def mX12_met : MD := (yX12_met, cX12_met, 4, (some .int), 12, 1, 0, 0, 1)
def mX12_stepTo : MD := (yX12_stepTo, cX12_stepTo, 8, (some .int), 12, 3, 0, 0, 1)
def mX12_findCourses : MD := (yX12_findCourses, cX12_findCourses, 8, none, 12, 2, 0, 0, 0)
def mX12_course : MD := (yX12_course, cX12_course, 8, (some .int), 12, 3, 0, 0, 1)
def mX12_behind : MD := (yX12_behind, cX12_behind, 4, (some .int), 12, 1, 0, 0, 1)
def mX12_hangs : MD := (yX12_hangs, cX12_hangs, 5, (some .int), 12, 1, 0, 0, 1)
def mX12_beginPupils : MD := (yX12_beginPupils, cX12_beginPupils, 2, none, 12, 0, 0, 0, 0)
def mX12_isPupil : MD := (yX12_isPupil, cX12_isPupil, 1, (some .boolean), 99, 1, 0, 0, 1)
def mX12_isHeld : MD := (yX12_isHeld, cX12_isHeld, 4, (some .boolean), 12, 2, 0, 0, 1)
def mX12_heldSigns : MD := (yX12_heldSigns, cX12_heldSigns, 4, (some .int), 12, 1, 0, 0, 1)
def mX12_heldWords : MD := (yX12_heldWords, cX12_heldWords, 4, (some .int), 12, 1, 0, 0, 1)
def mX12_use : MD := (yX12_use, cX12_use, 6, none, 12, 2, 0, 0, 0)
def mX12_useAll : MD := (yX12_useAll, cX12_useAll, 5, none, 12, 3, 0, 0, 0)
def mX12_base : MD := (yX12_base, cX12_base, 3, (some .int), 12, 1, 0, 0, 1)
def mX12_lacking : MD := (yX12_lacking, cX12_lacking, 3, (some .int), 12, 2, 0, 0, 1)
def mX12_take : MD := (yX12_take, cX12_take, 4, (some .int), 12, 2, 0, 0, 1)
def mX12_meetsOf : MD := (yX12_meetsOf, cX12_meetsOf, 8, (some .int), 12, 2, 0, 0, 1)
def mX12_read : MD := (yX12_read, cX12_read, 4, (some .int), 12, 2, 0, 0, 1)
def mX12_rest : MD := (yX12_rest, cX12_rest, 3, (some .int), 12, 2, 0, 0, 1)
def mX12_about : MD := (yX12_about, cX12_about, 3, (some .int), 12, 2, 0, 0, 1)
def mX12_span : MD := (yX12_span, cX12_span, 4, (some .int), 12, 3, 0, 0, 1)
def mX12_meets : MD := (yX12_meets, cX12_meets, 3, (some .int), 12, 2, 0, 0, 1)
def mX12_next : MD := (yX12_next, cX12_next, 7, (some .int), 12, 2, 0, 0, 1)
def mX12_forAll : MD := (yX12_forAll, cX12_forAll, 6, (some .int), 12, 0, 0, 0, 1)
def mX12_keep : MD := (yX12_keep, cX12_keep, 4, (some .int), 12, 1, 0, 0, 1)
def mX12_goBack : MD := (yX12_goBack, cX12_goBack, 4, (some .int), 12, 1, 0, 0, 1)
def mJ6_bitCount_0f7a4 : MD := (yJ6_bitCount_0f7a4, cJ6_bitCount_0f7a4, 1, (some .int), 99, 1, 0, 0, 1)
def mJ9_max_7cf53 : MD := (yJ9_max_7cf53, cJ9_max_7cf53, 2, (some .int), 99, 2, 0, 0, 1)
def mJ9_min_7cf53 : MD := (yJ9_min_7cf53, cJ9_min_7cf53, 2, (some .int), 99, 2, 0, 0, 1)
def mJ0_length_8abf5 : MD := (yJ0_length_8abf5, cJ0_length_8abf5, 1, (some .int), 99, 0, 0, 0, 1)
def mJ0_charAt_5068e : MD := (yJ0_charAt_5068e, cJ0_charAt_5068e, 2, (some .char), 99, 1, 0, 0, 1)
def mJ0_coder_7d493 : MD := (yJ0_coder_7d493, cJ0_coder_7d493, 1, (some .byte), 99, 0, 0, 0, 1)
def mJ0_isLatin1_aae02 : MD := (yJ0_isLatin1_aae02, cJ0_isLatin1_aae02, 1, (some .boolean), 99, 0, 0, 0, 1)
def mJ0_checkIndex_df160 : MD := (yJ0_checkIndex_df160, cJ0_checkIndex_df160, 2, none, 99, 2, 0, 0, 0)
def mJ1_charAt_3b067 : MD := (yJ1_charAt_3b067, cJ1_charAt_3b067, 2, (some .char), 99, 2, 0, 0, 1)
def mJ7_fill_d0a16 : MD := (yJ7_fill_d0a16, cJ7_fill_d0a16, 5, none, 99, 2, 0, 0, 0)
def mJ7_fill_53178 : MD := (yJ7_fill_53178, cJ7_fill_53178, 4, none, 99, 2, 0, 0, 0)
def mJ3_checkIndex_8e157 : MD := (yJ3_checkIndex_8e157, cJ3_checkIndex_8e157, 3, (some .int), 99, 3, 0, 0, 1)
end
section
def tbX12 : Tb := ([(7, 12, 1, 2), (13, 12, 2, 2), (16, 12, 3, 2), (19, 12, 4, 2), (22, 12, 6, 2), (25, 12, 7, 2), (28, 12, 8, 2), (31, 12, 9, 2), (34, 12, 11, 2), (37, 12, 13, 2), (40, 12, 14, 2), (43, 12, 15, 2), (46, 12, 16, 2), (49, 12, 18, 0), (53, 12, 25, 2), (56, 12, 26, 2), (59, 12, 27, 2), (62, 12, 28, 2), (65, 12, 30, 2), (68, 12, 31, 2), (71, 12, 32, 2), (74, 12, 33, 2), (77, 12, 35, 2), (80, 12, 37, 2), (83, 12, 38, 2), (86, 12, 40, 2), (90, 12, 41, 2), (94, 12, 45, 2), (97, 12, 46, 2), (100, 12, 47, 0), (103, 12, 48, 2), (106, 12, 49, 2), (109, 12, 50, 2), (112, 12, 51, 2), (115, 12, 53, 2), (118, 12, 54, 2), (131, 12, 17, 0), (136, 12, 19, 0), (143, 12, 20, 1), (147, 12, 21, 0), (170, 12, 23, 0), (173, 12, 22, 0), (176, 12, 24, 0), (196, 12, 29, 0), (202, 12, 39, 0), (209, 12, 34, 0), (215, 12, 36, 0), (236, 12, 0, 0), (239, 12, 5, 0), (242, 12, 10, 0), (245, 12, 12, 0), (292, 12, 42, 0), (295, 12, 44, 0), (298, 12, 43, 4), (378, 12, 52, 0)], [(122, 0, mX12_beginPupils), (127, 1, mX12_in), (139, 0, mX12_here), (166, 0, mX12_fails), (179, 0, mX12_takeNumber), (183, 0, mX12_readWord), (188, 1, mX12_code), (192, 1, mX12_longer), (199, 0, mX12_wordOf), (205, 1, mX12_has), (212, 0, mX12_takeList), (218, 0, mX12_takeSign), (221, 0, mX12_takeWord), (224, 0, mX12_takeLesson), (227, 0, mX12_takePage), (230, 0, mX12_takeClause), (233, 0, mX12_keepPrimer), (248, 0, mX12_isSign), (256, 0, mX12_isWord), (267, 0, mX12_isLesson), (270, 0, mX12_isPage), (275, 0, mX12_isFit), (279, 0, mX12_leads), (283, 0, mX12_areSigns), (286, 0, mX12_findWays), (302, 0, mX12_speak), (306, 0, mX12_areSounds), (309, 0, mX12_outAt), (312, 0, mX12_spell), (315, 0, mX12_isRight), (318, 0, mX12_isWell), (321, 0, mX12_teach), (324, 0, mX12_areLessons), (327, 0, mX12_isClosed), (330, 0, mX12_readsOf), (333, 1, mX12_bits), (338, 1, mX12_isFew), (341, 0, mX12_met), (344, 0, mX12_stepTo), (348, 0, mX12_findCourses), (351, 0, mX12_behind), (354, 0, mX12_isHeld), (357, 0, mX12_use), (362, 0, mX12_heldSigns), (365, 0, mX12_heldWords), (368, 1, mX12_isPupil), (371, 0, mX12_lacking), (374, 0, mX12_useAll), (381, 0, mX12_meetsOf)], [(93, .int (32768)), (125, .long (8)), (134, .long (255)), (150, .long (97)), (152, .long (122)), (154, .long (1000000000000)), (156, .long (2000000000000)), (158, .long (27)), (160, .long (96)), (162, .long (48)), (164, .long (57)), (186, .long (4027)), (252, .long (3)), (254, .long (6)), (259, .long (2)), (261, .long (9)), (263, .long (10)), (265, .long (17)), (273, .long (15)), (290, .long (-1001)), (336, .long (16)), (360, .long (30)), (384, .long (999))], [], [1], [])
theorem tfX12_7 : ∃ wi, fxCk RX12 (7, 12, 1, 2) wi = true := ⟨1051, by decide +kernel⟩
theorem tfX12_13 : ∃ wi, fxCk RX12 (13, 12, 2, 2) wi = true := ⟨1052, by decide +kernel⟩
theorem tfX12_16 : ∃ wi, fxCk RX12 (16, 12, 3, 2) wi = true := ⟨1053, by decide +kernel⟩
theorem tfX12_19 : ∃ wi, fxCk RX12 (19, 12, 4, 2) wi = true := ⟨1054, by decide +kernel⟩
theorem tfX12_22 : ∃ wi, fxCk RX12 (22, 12, 6, 2) wi = true := ⟨1056, by decide +kernel⟩
theorem tfX12_25 : ∃ wi, fxCk RX12 (25, 12, 7, 2) wi = true := ⟨1057, by decide +kernel⟩
theorem tfX12_28 : ∃ wi, fxCk RX12 (28, 12, 8, 2) wi = true := ⟨1058, by decide +kernel⟩
theorem tfX12_31 : ∃ wi, fxCk RX12 (31, 12, 9, 2) wi = true := ⟨1059, by decide +kernel⟩
theorem tfX12_34 : ∃ wi, fxCk RX12 (34, 12, 11, 2) wi = true := ⟨1061, by decide +kernel⟩
theorem tfX12_37 : ∃ wi, fxCk RX12 (37, 12, 13, 2) wi = true := ⟨1063, by decide +kernel⟩
theorem tfX12_40 : ∃ wi, fxCk RX12 (40, 12, 14, 2) wi = true := ⟨1064, by decide +kernel⟩
theorem tfX12_43 : ∃ wi, fxCk RX12 (43, 12, 15, 2) wi = true := ⟨1065, by decide +kernel⟩
theorem tfX12_46 : ∃ wi, fxCk RX12 (46, 12, 16, 2) wi = true := ⟨1066, by decide +kernel⟩
theorem tfX12_49 : ∃ wi, fxCk RX12 (49, 12, 18, 0) wi = true := ⟨1068, by decide +kernel⟩
theorem tfX12_53 : ∃ wi, fxCk RX12 (53, 12, 25, 2) wi = true := ⟨1075, by decide +kernel⟩
theorem tfX12_56 : ∃ wi, fxCk RX12 (56, 12, 26, 2) wi = true := ⟨1076, by decide +kernel⟩
theorem tfX12_59 : ∃ wi, fxCk RX12 (59, 12, 27, 2) wi = true := ⟨1077, by decide +kernel⟩
theorem tfX12_62 : ∃ wi, fxCk RX12 (62, 12, 28, 2) wi = true := ⟨1078, by decide +kernel⟩
theorem tfX12_65 : ∃ wi, fxCk RX12 (65, 12, 30, 2) wi = true := ⟨1080, by decide +kernel⟩
theorem tfX12_68 : ∃ wi, fxCk RX12 (68, 12, 31, 2) wi = true := ⟨1081, by decide +kernel⟩
theorem tfX12_71 : ∃ wi, fxCk RX12 (71, 12, 32, 2) wi = true := ⟨1082, by decide +kernel⟩
theorem tfX12_74 : ∃ wi, fxCk RX12 (74, 12, 33, 2) wi = true := ⟨1083, by decide +kernel⟩
theorem tfX12_77 : ∃ wi, fxCk RX12 (77, 12, 35, 2) wi = true := ⟨1085, by decide +kernel⟩
theorem tfX12_80 : ∃ wi, fxCk RX12 (80, 12, 37, 2) wi = true := ⟨1087, by decide +kernel⟩
theorem tfX12_83 : ∃ wi, fxCk RX12 (83, 12, 38, 2) wi = true := ⟨1088, by decide +kernel⟩
theorem tfX12_86 : ∃ wi, fxCk RX12 (86, 12, 40, 2) wi = true := ⟨1090, by decide +kernel⟩
theorem tfX12_90 : ∃ wi, fxCk RX12 (90, 12, 41, 2) wi = true := ⟨1091, by decide +kernel⟩
theorem tfX12_94 : ∃ wi, fxCk RX12 (94, 12, 45, 2) wi = true := ⟨1095, by decide +kernel⟩
theorem tfX12_97 : ∃ wi, fxCk RX12 (97, 12, 46, 2) wi = true := ⟨1096, by decide +kernel⟩
theorem tfX12_100 : ∃ wi, fxCk RX12 (100, 12, 47, 0) wi = true := ⟨1097, by decide +kernel⟩
theorem tfX12_103 : ∃ wi, fxCk RX12 (103, 12, 48, 2) wi = true := ⟨1098, by decide +kernel⟩
theorem tfX12_106 : ∃ wi, fxCk RX12 (106, 12, 49, 2) wi = true := ⟨1099, by decide +kernel⟩
theorem tfX12_109 : ∃ wi, fxCk RX12 (109, 12, 50, 2) wi = true := ⟨1100, by decide +kernel⟩
theorem tfX12_112 : ∃ wi, fxCk RX12 (112, 12, 51, 2) wi = true := ⟨1101, by decide +kernel⟩
theorem tfX12_115 : ∃ wi, fxCk RX12 (115, 12, 53, 2) wi = true := ⟨1103, by decide +kernel⟩
theorem tfX12_118 : ∃ wi, fxCk RX12 (118, 12, 54, 2) wi = true := ⟨1104, by decide +kernel⟩
theorem tfX12_131 : ∃ wi, fxCk RX12 (131, 12, 17, 0) wi = true := ⟨1067, by decide +kernel⟩
theorem tfX12_136 : ∃ wi, fxCk RX12 (136, 12, 19, 0) wi = true := ⟨1069, by decide +kernel⟩
theorem tfX12_143 : ∃ wi, fxCk RX12 (143, 12, 20, 1) wi = true := ⟨1070, by decide +kernel⟩
theorem tfX12_147 : ∃ wi, fxCk RX12 (147, 12, 21, 0) wi = true := ⟨1071, by decide +kernel⟩
theorem tfX12_170 : ∃ wi, fxCk RX12 (170, 12, 23, 0) wi = true := ⟨1073, by decide +kernel⟩
theorem tfX12_173 : ∃ wi, fxCk RX12 (173, 12, 22, 0) wi = true := ⟨1072, by decide +kernel⟩
theorem tfX12_176 : ∃ wi, fxCk RX12 (176, 12, 24, 0) wi = true := ⟨1074, by decide +kernel⟩
theorem tfX12_196 : ∃ wi, fxCk RX12 (196, 12, 29, 0) wi = true := ⟨1079, by decide +kernel⟩
theorem tfX12_202 : ∃ wi, fxCk RX12 (202, 12, 39, 0) wi = true := ⟨1089, by decide +kernel⟩
theorem tfX12_209 : ∃ wi, fxCk RX12 (209, 12, 34, 0) wi = true := ⟨1084, by decide +kernel⟩
theorem tfX12_215 : ∃ wi, fxCk RX12 (215, 12, 36, 0) wi = true := ⟨1086, by decide +kernel⟩
theorem tfX12_236 : ∃ wi, fxCk RX12 (236, 12, 0, 0) wi = true := ⟨1050, by decide +kernel⟩
theorem tfX12_239 : ∃ wi, fxCk RX12 (239, 12, 5, 0) wi = true := ⟨1055, by decide +kernel⟩
theorem tfX12_242 : ∃ wi, fxCk RX12 (242, 12, 10, 0) wi = true := ⟨1060, by decide +kernel⟩
theorem tfX12_245 : ∃ wi, fxCk RX12 (245, 12, 12, 0) wi = true := ⟨1062, by decide +kernel⟩
theorem tfX12_292 : ∃ wi, fxCk RX12 (292, 12, 42, 0) wi = true := ⟨1092, by decide +kernel⟩
theorem tfX12_295 : ∃ wi, fxCk RX12 (295, 12, 44, 0) wi = true := ⟨1094, by decide +kernel⟩
theorem tfX12_298 : ∃ wi, fxCk RX12 (298, 12, 43, 4) wi = true := ⟨1093, by decide +kernel⟩
theorem tfX12_378 : ∃ wi, fxCk RX12 (378, 12, 52, 0) wi = true := ⟨1102, by decide +kernel⟩
theorem tcX12_122 : ∃ ws, (if (0 : Nat) = 4 then pCk RX12 122 ws else cCk RX12 122 0 mX12_beginPupils ws) = true := ⟨[1049, 93, 1046, 1048, 38], by rw [if_neg (by decide)]; decide +kernel⟩
theorem tcX12_127 : ∃ ws, (if (1 : Nat) = 4 then pCk RX12 127 ws else cCk RX12 127 1 mX12_in ws) = true := ⟨[1224, 93, 1222, 1223], by rw [if_neg (by decide)]; decide +kernel⟩
theorem tcX12_139 : ∃ ws, (if (0 : Nat) = 4 then pCk RX12 139 ws else cCk RX12 139 0 mX12_here ws) = true := ⟨[1233, 93, 1230, 1232, 39], by rw [if_neg (by decide)]; decide +kernel⟩
theorem tcX12_166 : ∃ ws, (if (0 : Nat) = 4 then pCk RX12 166 ws else cCk RX12 166 0 mX12_fails ws) = true := ⟨[1257, 93, 1254, 1256, 42], by rw [if_neg (by decide)]; decide +kernel⟩
theorem tcX12_179 : ∃ ws, (if (0 : Nat) = 4 then pCk RX12 179 ws else cCk RX12 179 0 mX12_takeNumber ws) = true := ⟨[1265, 93, 1262, 1264, 44], by rw [if_neg (by decide)]; decide +kernel⟩
theorem tcX12_183 : ∃ ws, (if (0 : Nat) = 4 then pCk RX12 183 ws else cCk RX12 183 0 mX12_readWord ws) = true := ⟨[1241, 93, 1238, 1240, 41], by rw [if_neg (by decide)]; decide +kernel⟩
theorem tcX12_188 : ∃ ws, (if (1 : Nat) = 4 then pCk RX12 188 ws else cCk RX12 188 1 mX12_code ws) = true := ⟨[1250, 93, 1248, 1249], by rw [if_neg (by decide)]; decide +kernel⟩
theorem tcX12_192 : ∃ ws, (if (1 : Nat) = 4 then pCk RX12 192 ws else cCk RX12 192 1 mX12_longer ws) = true := ⟨[1253, 93, 1251, 1252], by rw [if_neg (by decide)]; decide +kernel⟩
theorem tcX12_199 : ∃ ws, (if (0 : Nat) = 4 then pCk RX12 199 ws else cCk RX12 199 0 mX12_wordOf ws) = true := ⟨[1276, 93, 1273, 1275, 46], by rw [if_neg (by decide)]; decide +kernel⟩
theorem tcX12_205 : ∃ ws, (if (1 : Nat) = 4 then pCk RX12 205 ws else cCk RX12 205 1 mX12_has ws) = true := ⟨[1287, 93, 1285, 1286], by rw [if_neg (by decide)]; decide +kernel⟩
theorem tcX12_212 : ∃ ws, (if (0 : Nat) = 4 then pCk RX12 212 ws else cCk RX12 212 0 mX12_takeList ws) = true := ⟨[1284, 93, 1281, 1283, 48], by rw [if_neg (by decide)]; decide +kernel⟩
theorem tcX12_218 : ∃ ws, (if (0 : Nat) = 4 then pCk RX12 218 ws else cCk RX12 218 0 mX12_takeSign ws) = true := ⟨[1261, 93, 1258, 1260, 43], by rw [if_neg (by decide)]; decide +kernel⟩
theorem tcX12_221 : ∃ ws, (if (0 : Nat) = 4 then pCk RX12 221 ws else cCk RX12 221 0 mX12_takeWord ws) = true := ⟨[1272, 93, 1269, 1271, 45], by rw [if_neg (by decide)]; decide +kernel⟩
theorem tcX12_224 : ∃ ws, (if (0 : Nat) = 4 then pCk RX12 224 ws else cCk RX12 224 0 mX12_takeLesson ws) = true := ⟨[1280, 93, 1277, 1279, 47], by rw [if_neg (by decide)]; decide +kernel⟩
theorem tcX12_227 : ∃ ws, (if (0 : Nat) = 4 then pCk RX12 227 ws else cCk RX12 227 0 mX12_takePage ws) = true := ⟨[1291, 93, 1288, 1290, 49], by rw [if_neg (by decide)]; decide +kernel⟩
theorem tcX12_230 : ∃ ws, (if (0 : Nat) = 4 then pCk RX12 230 ws else cCk RX12 230 0 mX12_takeClause ws) = true := ⟨[1237, 93, 1234, 1236, 40], by rw [if_neg (by decide)]; decide +kernel⟩
theorem tcX12_233 : ∃ ws, (if (0 : Nat) = 4 then pCk RX12 233 ws else cCk RX12 233 0 mX12_keepPrimer ws) = true := ⟨[1295, 93, 1292, 1294, 50], by rw [if_neg (by decide)]; decide +kernel⟩
theorem tcX12_248 : ∃ ws, (if (0 : Nat) = 4 then pCk RX12 248 ws else cCk RX12 248 0 mX12_isSign ws) = true := ⟨[1307, 93, 1304, 1306, 51], by rw [if_neg (by decide)]; decide +kernel⟩
theorem tcX12_256 : ∃ ws, (if (0 : Nat) = 4 then pCk RX12 256 ws else cCk RX12 256 0 mX12_isWord ws) = true := ⟨[1317, 93, 1314, 1316, 52], by rw [if_neg (by decide)]; decide +kernel⟩
theorem tcX12_267 : ∃ ws, (if (0 : Nat) = 4 then pCk RX12 267 ws else cCk RX12 267 0 mX12_isLesson ws) = true := ⟨[1329, 93, 1326, 1328, 53], by rw [if_neg (by decide)]; decide +kernel⟩
theorem tcX12_270 : ∃ ws, (if (0 : Nat) = 4 then pCk RX12 270 ws else cCk RX12 270 0 mX12_isPage ws) = true := ⟨[1337, 93, 1334, 1336, 54], by rw [if_neg (by decide)]; decide +kernel⟩
theorem tcX12_275 : ∃ ws, (if (0 : Nat) = 4 then pCk RX12 275 ws else cCk RX12 275 0 mX12_isFit ws) = true := ⟨[1350, 93, 1347, 1349, 55], by rw [if_neg (by decide)]; decide +kernel⟩
theorem tcX12_279 : ∃ ws, (if (0 : Nat) = 4 then pCk RX12 279 ws else cCk RX12 279 0 mX12_leads ws) = true := ⟨[1366, 93, 1363, 1365, 58], by rw [if_neg (by decide)]; decide +kernel⟩
theorem tcX12_283 : ∃ ws, (if (0 : Nat) = 4 then pCk RX12 283 ws else cCk RX12 283 0 mX12_areSigns ws) = true := ⟨[1358, 93, 1355, 1357, 56], by rw [if_neg (by decide)]; decide +kernel⟩
theorem tcX12_286 : ∃ ws, (if (0 : Nat) = 4 then pCk RX12 286 ws else cCk RX12 286 0 mX12_findWays ws) = true := ⟨[1362, 93, 1359, 1361, 57], by rw [if_neg (by decide)]; decide +kernel⟩
theorem tcX12_302 : ∃ ws, (if (0 : Nat) = 4 then pCk RX12 302 ws else cCk RX12 302 0 mX12_speak ws) = true := ⟨[1379, 93, 1376, 1378, 59], by rw [if_neg (by decide)]; decide +kernel⟩
theorem tcX12_306 : ∃ ws, (if (0 : Nat) = 4 then pCk RX12 306 ws else cCk RX12 306 0 mX12_areSounds ws) = true := ⟨[1395, 93, 1392, 1394, 62], by rw [if_neg (by decide)]; decide +kernel⟩
theorem tcX12_309 : ∃ ws, (if (0 : Nat) = 4 then pCk RX12 309 ws else cCk RX12 309 0 mX12_outAt ws) = true := ⟨[1383, 93, 1380, 1382, 60], by rw [if_neg (by decide)]; decide +kernel⟩
theorem tcX12_312 : ∃ ws, (if (0 : Nat) = 4 then pCk RX12 312 ws else cCk RX12 312 0 mX12_spell ws) = true := ⟨[1403, 93, 1400, 1402, 64], by rw [if_neg (by decide)]; decide +kernel⟩
theorem tcX12_315 : ∃ ws, (if (0 : Nat) = 4 then pCk RX12 315 ws else cCk RX12 315 0 mX12_isRight ws) = true := ⟨[1391, 93, 1388, 1390, 61], by rw [if_neg (by decide)]; decide +kernel⟩
theorem tcX12_318 : ∃ ws, (if (0 : Nat) = 4 then pCk RX12 318 ws else cCk RX12 318 0 mX12_isWell ws) = true := ⟨[1399, 93, 1396, 1398, 63], by rw [if_neg (by decide)]; decide +kernel⟩
theorem tcX12_321 : ∃ ws, (if (0 : Nat) = 4 then pCk RX12 321 ws else cCk RX12 321 0 mX12_teach ws) = true := ⟨[1423, 93, 1420, 1422, 67], by rw [if_neg (by decide)]; decide +kernel⟩
theorem tcX12_324 : ∃ ws, (if (0 : Nat) = 4 then pCk RX12 324 ws else cCk RX12 324 0 mX12_areLessons ws) = true := ⟨[1415, 93, 1412, 1414, 65], by rw [if_neg (by decide)]; decide +kernel⟩
theorem tcX12_327 : ∃ ws, (if (0 : Nat) = 4 then pCk RX12 327 ws else cCk RX12 327 0 mX12_isClosed ws) = true := ⟨[1419, 93, 1416, 1418, 66], by rw [if_neg (by decide)]; decide +kernel⟩
theorem tcX12_330 : ∃ ws, (if (0 : Nat) = 4 then pCk RX12 330 ws else cCk RX12 330 0 mX12_readsOf ws) = true := ⟨[1431, 93, 1428, 1430, 68], by rw [if_neg (by decide)]; decide +kernel⟩
theorem tcX12_333 : ∃ ws, (if (1 : Nat) = 4 then pCk RX12 333 ws else cCk RX12 333 1 mX12_bits ws) = true := ⟨[1442, 93, 1440, 1441], by rw [if_neg (by decide)]; decide +kernel⟩
theorem tcX12_338 : ∃ ws, (if (1 : Nat) = 4 then pCk RX12 338 ws else cCk RX12 338 1 mX12_isFew ws) = true := ⟨[1449, 93, 1447, 1448], by rw [if_neg (by decide)]; decide +kernel⟩
theorem tcX12_341 : ∃ ws, (if (0 : Nat) = 4 then pCk RX12 341 ws else cCk RX12 341 0 mX12_met ws) = true := ⟨[1466, 93, 1463, 1465, 71], by rw [if_neg (by decide)]; decide +kernel⟩
theorem tcX12_344 : ∃ ws, (if (0 : Nat) = 4 then pCk RX12 344 ws else cCk RX12 344 0 mX12_stepTo ws) = true := ⟨[1462, 93, 1459, 1461, 70], by rw [if_neg (by decide)]; decide +kernel⟩
theorem tcX12_348 : ∃ ws, (if (0 : Nat) = 4 then pCk RX12 348 ws else cCk RX12 348 0 mX12_findCourses ws) = true := ⟨[1458, 93, 1455, 1457, 69], by rw [if_neg (by decide)]; decide +kernel⟩
theorem tcX12_351 : ∃ ws, (if (0 : Nat) = 4 then pCk RX12 351 ws else cCk RX12 351 0 mX12_behind ws) = true := ⟨[1474, 93, 1471, 1473, 72], by rw [if_neg (by decide)]; decide +kernel⟩
theorem tcX12_354 : ∃ ws, (if (0 : Nat) = 4 then pCk RX12 354 ws else cCk RX12 354 0 mX12_isHeld ws) = true := ⟨[1498, 93, 1495, 1497, 75], by rw [if_neg (by decide)]; decide +kernel⟩
theorem tcX12_357 : ∃ ws, (if (0 : Nat) = 4 then pCk RX12 357 ws else cCk RX12 357 0 mX12_use ws) = true := ⟨[1510, 93, 1507, 1509, 78], by rw [if_neg (by decide)]; decide +kernel⟩
theorem tcX12_362 : ∃ ws, (if (0 : Nat) = 4 then pCk RX12 362 ws else cCk RX12 362 0 mX12_heldSigns ws) = true := ⟨[1494, 93, 1491, 1493, 74], by rw [if_neg (by decide)]; decide +kernel⟩
theorem tcX12_365 : ∃ ws, (if (0 : Nat) = 4 then pCk RX12 365 ws else cCk RX12 365 0 mX12_heldWords ws) = true := ⟨[1502, 93, 1499, 1501, 76], by rw [if_neg (by decide)]; decide +kernel⟩
theorem tcX12_368 : ∃ ws, (if (1 : Nat) = 4 then pCk RX12 368 ws else cCk RX12 368 1 mX12_isPupil ws) = true := ⟨[1486, 93, 1484, 1485], by rw [if_neg (by decide)]; decide +kernel⟩
theorem tcX12_371 : ∃ ws, (if (0 : Nat) = 4 then pCk RX12 371 ws else cCk RX12 371 0 mX12_lacking ws) = true := ⟨[1490, 93, 1487, 1489, 73], by rw [if_neg (by decide)]; decide +kernel⟩
theorem tcX12_374 : ∃ ws, (if (0 : Nat) = 4 then pCk RX12 374 ws else cCk RX12 374 0 mX12_useAll ws) = true := ⟨[1506, 93, 1503, 1505, 77], by rw [if_neg (by decide)]; decide +kernel⟩
theorem tcX12_381 : ∃ ws, (if (0 : Nat) = 4 then pCk RX12 381 ws else cCk RX12 381 0 mX12_meetsOf ws) = true := ⟨[1518, 93, 1515, 1517, 79], by rw [if_neg (by decide)]; decide +kernel⟩
theorem tkX12_93 : ∃ wi, kCk RX12 93 (.int (32768)) wi = true := ⟨1045, by decide +kernel⟩
theorem tkX12_125 : ∃ wi, kCk RX12 125 (.long (8)) wi = true := ⟨1221, by decide +kernel⟩
theorem tkX12_134 : ∃ wi, kCk RX12 134 (.long (255)) wi = true := ⟨1225, by decide +kernel⟩
theorem tkX12_150 : ∃ wi, kCk RX12 150 (.long (97)) wi = true := ⟨1242, by decide +kernel⟩
theorem tkX12_152 : ∃ wi, kCk RX12 152 (.long (122)) wi = true := ⟨1243, by decide +kernel⟩
theorem tkX12_154 : ∃ wi, kCk RX12 154 (.long (1000000000000)) wi = true := ⟨1244, by decide +kernel⟩
theorem tkX12_156 : ∃ wi, kCk RX12 156 (.long (2000000000000)) wi = true := ⟨1245, by decide +kernel⟩
theorem tkX12_158 : ∃ wi, kCk RX12 158 (.long (27)) wi = true := ⟨1246, by decide +kernel⟩
theorem tkX12_160 : ∃ wi, kCk RX12 160 (.long (96)) wi = true := ⟨1247, by decide +kernel⟩
theorem tkX12_162 : ∃ wi, kCk RX12 162 (.long (48)) wi = true := ⟨1266, by decide +kernel⟩
theorem tkX12_164 : ∃ wi, kCk RX12 164 (.long (57)) wi = true := ⟨1267, by decide +kernel⟩
theorem tkX12_186 : ∃ wi, kCk RX12 186 (.long (4027)) wi = true := ⟨1268, by decide +kernel⟩
theorem tkX12_252 : ∃ wi, kCk RX12 252 (.long (3)) wi = true := ⟨1308, by decide +kernel⟩
theorem tkX12_254 : ∃ wi, kCk RX12 254 (.long (6)) wi = true := ⟨1309, by decide +kernel⟩
theorem tkX12_259 : ∃ wi, kCk RX12 259 (.long (2)) wi = true := ⟨1318, by decide +kernel⟩
theorem tkX12_261 : ∃ wi, kCk RX12 261 (.long (9)) wi = true := ⟨1319, by decide +kernel⟩
theorem tkX12_263 : ∃ wi, kCk RX12 263 (.long (10)) wi = true := ⟨1320, by decide +kernel⟩
theorem tkX12_265 : ∃ wi, kCk RX12 265 (.long (17)) wi = true := ⟨1321, by decide +kernel⟩
theorem tkX12_273 : ∃ wi, kCk RX12 273 (.long (15)) wi = true := ⟨1338, by decide +kernel⟩
theorem tkX12_290 : ∃ wi, kCk RX12 290 (.long (-1001)) wi = true := ⟨1367, by decide +kernel⟩
theorem tkX12_336 : ∃ wi, kCk RX12 336 (.long (16)) wi = true := ⟨1450, by decide +kernel⟩
theorem tkX12_360 : ∃ wi, kCk RX12 360 (.long (30)) wi = true := ⟨1479, by decide +kernel⟩
theorem tkX12_384 : ∃ wi, kCk RX12 384 (.long (999)) wi = true := ⟨1523, by decide +kernel⟩
theorem toX12_1 : ∃ ws, oCk RX12 1 ws = true := ⟨[1044, 108, 109], by decide +kernel⟩
theorem tbX12_ok : tbOK RX12 tbX12 := tbOK_of (List.forall_mem_cons.mpr ⟨tfX12_7, (List.forall_mem_cons.mpr ⟨tfX12_13, (List.forall_mem_cons.mpr ⟨tfX12_16, (List.forall_mem_cons.mpr ⟨tfX12_19, (List.forall_mem_cons.mpr ⟨tfX12_22, (List.forall_mem_cons.mpr ⟨tfX12_25, (List.forall_mem_cons.mpr ⟨tfX12_28, (List.forall_mem_cons.mpr ⟨tfX12_31, (List.forall_mem_cons.mpr ⟨tfX12_34, (List.forall_mem_cons.mpr ⟨tfX12_37, (List.forall_mem_cons.mpr ⟨tfX12_40, (List.forall_mem_cons.mpr ⟨tfX12_43, (List.forall_mem_cons.mpr ⟨tfX12_46, (List.forall_mem_cons.mpr ⟨tfX12_49, (List.forall_mem_cons.mpr ⟨tfX12_53, (List.forall_mem_cons.mpr ⟨tfX12_56, (List.forall_mem_cons.mpr ⟨tfX12_59, (List.forall_mem_cons.mpr ⟨tfX12_62, (List.forall_mem_cons.mpr ⟨tfX12_65, (List.forall_mem_cons.mpr ⟨tfX12_68, (List.forall_mem_cons.mpr ⟨tfX12_71, (List.forall_mem_cons.mpr ⟨tfX12_74, (List.forall_mem_cons.mpr ⟨tfX12_77, (List.forall_mem_cons.mpr ⟨tfX12_80, (List.forall_mem_cons.mpr ⟨tfX12_83, (List.forall_mem_cons.mpr ⟨tfX12_86, (List.forall_mem_cons.mpr ⟨tfX12_90, (List.forall_mem_cons.mpr ⟨tfX12_94, (List.forall_mem_cons.mpr ⟨tfX12_97, (List.forall_mem_cons.mpr ⟨tfX12_100, (List.forall_mem_cons.mpr ⟨tfX12_103, (List.forall_mem_cons.mpr ⟨tfX12_106, (List.forall_mem_cons.mpr ⟨tfX12_109, (List.forall_mem_cons.mpr ⟨tfX12_112, (List.forall_mem_cons.mpr ⟨tfX12_115, (List.forall_mem_cons.mpr ⟨tfX12_118, (List.forall_mem_cons.mpr ⟨tfX12_131, (List.forall_mem_cons.mpr ⟨tfX12_136, (List.forall_mem_cons.mpr ⟨tfX12_143, (List.forall_mem_cons.mpr ⟨tfX12_147, (List.forall_mem_cons.mpr ⟨tfX12_170, (List.forall_mem_cons.mpr ⟨tfX12_173, (List.forall_mem_cons.mpr ⟨tfX12_176, (List.forall_mem_cons.mpr ⟨tfX12_196, (List.forall_mem_cons.mpr ⟨tfX12_202, (List.forall_mem_cons.mpr ⟨tfX12_209, (List.forall_mem_cons.mpr ⟨tfX12_215, (List.forall_mem_cons.mpr ⟨tfX12_236, (List.forall_mem_cons.mpr ⟨tfX12_239, (List.forall_mem_cons.mpr ⟨tfX12_242, (List.forall_mem_cons.mpr ⟨tfX12_245, (List.forall_mem_cons.mpr ⟨tfX12_292, (List.forall_mem_cons.mpr ⟨tfX12_295, (List.forall_mem_cons.mpr ⟨tfX12_298, (List.forall_mem_cons.mpr ⟨tfX12_378, (fun _ h => absurd h List.not_mem_nil)⟩)⟩)⟩)⟩)⟩)⟩)⟩)⟩)⟩)⟩)⟩)⟩)⟩)⟩)⟩)⟩)⟩)⟩)⟩)⟩)⟩)⟩)⟩)⟩)⟩)⟩)⟩)⟩)⟩)⟩)⟩)⟩)⟩)⟩)⟩)⟩)⟩)⟩)⟩)⟩)⟩)⟩)⟩)⟩)⟩)⟩)⟩)⟩)⟩)⟩)⟩)⟩)⟩)⟩)⟩) (List.forall_mem_cons.mpr ⟨tcX12_122, (List.forall_mem_cons.mpr ⟨tcX12_127, (List.forall_mem_cons.mpr ⟨tcX12_139, (List.forall_mem_cons.mpr ⟨tcX12_166, (List.forall_mem_cons.mpr ⟨tcX12_179, (List.forall_mem_cons.mpr ⟨tcX12_183, (List.forall_mem_cons.mpr ⟨tcX12_188, (List.forall_mem_cons.mpr ⟨tcX12_192, (List.forall_mem_cons.mpr ⟨tcX12_199, (List.forall_mem_cons.mpr ⟨tcX12_205, (List.forall_mem_cons.mpr ⟨tcX12_212, (List.forall_mem_cons.mpr ⟨tcX12_218, (List.forall_mem_cons.mpr ⟨tcX12_221, (List.forall_mem_cons.mpr ⟨tcX12_224, (List.forall_mem_cons.mpr ⟨tcX12_227, (List.forall_mem_cons.mpr ⟨tcX12_230, (List.forall_mem_cons.mpr ⟨tcX12_233, (List.forall_mem_cons.mpr ⟨tcX12_248, (List.forall_mem_cons.mpr ⟨tcX12_256, (List.forall_mem_cons.mpr ⟨tcX12_267, (List.forall_mem_cons.mpr ⟨tcX12_270, (List.forall_mem_cons.mpr ⟨tcX12_275, (List.forall_mem_cons.mpr ⟨tcX12_279, (List.forall_mem_cons.mpr ⟨tcX12_283, (List.forall_mem_cons.mpr ⟨tcX12_286, (List.forall_mem_cons.mpr ⟨tcX12_302, (List.forall_mem_cons.mpr ⟨tcX12_306, (List.forall_mem_cons.mpr ⟨tcX12_309, (List.forall_mem_cons.mpr ⟨tcX12_312, (List.forall_mem_cons.mpr ⟨tcX12_315, (List.forall_mem_cons.mpr ⟨tcX12_318, (List.forall_mem_cons.mpr ⟨tcX12_321, (List.forall_mem_cons.mpr ⟨tcX12_324, (List.forall_mem_cons.mpr ⟨tcX12_327, (List.forall_mem_cons.mpr ⟨tcX12_330, (List.forall_mem_cons.mpr ⟨tcX12_333, (List.forall_mem_cons.mpr ⟨tcX12_338, (List.forall_mem_cons.mpr ⟨tcX12_341, (List.forall_mem_cons.mpr ⟨tcX12_344, (List.forall_mem_cons.mpr ⟨tcX12_348, (List.forall_mem_cons.mpr ⟨tcX12_351, (List.forall_mem_cons.mpr ⟨tcX12_354, (List.forall_mem_cons.mpr ⟨tcX12_357, (List.forall_mem_cons.mpr ⟨tcX12_362, (List.forall_mem_cons.mpr ⟨tcX12_365, (List.forall_mem_cons.mpr ⟨tcX12_368, (List.forall_mem_cons.mpr ⟨tcX12_371, (List.forall_mem_cons.mpr ⟨tcX12_374, (List.forall_mem_cons.mpr ⟨tcX12_381, (fun _ h => absurd h List.not_mem_nil)⟩)⟩)⟩)⟩)⟩)⟩)⟩)⟩)⟩)⟩)⟩)⟩)⟩)⟩)⟩)⟩)⟩)⟩)⟩)⟩)⟩)⟩)⟩)⟩)⟩)⟩)⟩)⟩)⟩)⟩)⟩)⟩)⟩)⟩)⟩)⟩)⟩)⟩)⟩)⟩)⟩)⟩)⟩)⟩)⟩)⟩)⟩)⟩)⟩) (List.forall_mem_cons.mpr ⟨tkX12_93, (List.forall_mem_cons.mpr ⟨tkX12_125, (List.forall_mem_cons.mpr ⟨tkX12_134, (List.forall_mem_cons.mpr ⟨tkX12_150, (List.forall_mem_cons.mpr ⟨tkX12_152, (List.forall_mem_cons.mpr ⟨tkX12_154, (List.forall_mem_cons.mpr ⟨tkX12_156, (List.forall_mem_cons.mpr ⟨tkX12_158, (List.forall_mem_cons.mpr ⟨tkX12_160, (List.forall_mem_cons.mpr ⟨tkX12_162, (List.forall_mem_cons.mpr ⟨tkX12_164, (List.forall_mem_cons.mpr ⟨tkX12_186, (List.forall_mem_cons.mpr ⟨tkX12_252, (List.forall_mem_cons.mpr ⟨tkX12_254, (List.forall_mem_cons.mpr ⟨tkX12_259, (List.forall_mem_cons.mpr ⟨tkX12_261, (List.forall_mem_cons.mpr ⟨tkX12_263, (List.forall_mem_cons.mpr ⟨tkX12_265, (List.forall_mem_cons.mpr ⟨tkX12_273, (List.forall_mem_cons.mpr ⟨tkX12_290, (List.forall_mem_cons.mpr ⟨tkX12_336, (List.forall_mem_cons.mpr ⟨tkX12_360, (List.forall_mem_cons.mpr ⟨tkX12_384, (fun _ h => absurd h List.not_mem_nil)⟩)⟩)⟩)⟩)⟩)⟩)⟩)⟩)⟩)⟩)⟩)⟩)⟩)⟩)⟩)⟩)⟩)⟩)⟩)⟩)⟩)⟩)⟩) (fun _ h => absurd h List.not_mem_nil) (List.forall_mem_cons.mpr ⟨toX12_1, (fun _ h => absurd h List.not_mem_nil)⟩)
end
section
def tbX11 : Tb := ([(10, 11, 0, 2), (19, 11, 1, 3), (23, 11, 2, 3), (29, 11, 3, 2), (36, 11, 4, 2), (43, 11, 5, 2), (47, 11, 6, 2), (51, 3, 1, 0), (63, 3, 6, 0), (72, 11, 7, 0), (75, 11, 8, 3), (84, 3, 5, 0), (87, 3, 7, 0), (94, 4, 0, 2), (98, 7, 1, 0), (101, 7, 2, 0), (104, 7, 3, 0), (107, 7, 0, 2), (118, 4, 2, 2), (122, 10, 1, 0), (125, 10, 3, 0), (128, 10, 0, 2), (129, 10, 2, 2), (135, 4, 4, 2), (138, 4, 5, 2), (141, 4, 6, 2), (147, 4, 10, 2), (150, 4, 8, 2), (154, 4, 9, 2), (157, 4, 1, 0), (160, 4, 3, 0), (163, 4, 7, 0), (166, 4, 11, 0), (169, 6, 1, 0), (172, 10, 4, 2), (191, 1, 2, 0), (192, 1, 1, 2), (195, 4, 12, 2), (204, 8, 1, 0), (207, 8, 0, 2), (208, 8, 4, 4), (219, 9, 2, 4), (222, 9, 1, 0), (223, 9, 0, 2), (262, 0, 9, 0), (263, 0, 8, 2), (272, 6, 0, 2), (276, 5, 1, 0), (289, 5, 2, 2), (292, 5, 0, 0), (301, 5, 3, 2), (309, 8, 2, 0), (311, 2, 0, 2)], [(9, 3, mX3_init), (18, 2, mX4_init), (28, 3, mX9_init), (35, 3, mX1_init), (42, 3, mX6_init), (55, 0, mX3_append), (59, 0, mX3_parse), (66, 0, mX4_settle), (69, 0, mX6_beginAnew), (79, 0, mX0_forget), (90, 0, mX11_isSign), (111, 1, mX11_at), (115, 0, mX11_isWord), (132, 0, mX11_isLesson), (144, 0, mX11_isPage), (175, 0, mX11_areSigns), (180, 0, mX1_countWays), (184, 0, mX1_inAll), (188, 0, mX1_findFirst), (199, 0, mX8_say), (212, 1, mX11_bit), (216, 0, mX9_spell), (224, 0, mX11_areLessons), (227, 0, mX4_isClosed), (230, 0, mX4_signsOf), (234, 0, mX4_readBy), (237, 0, mX4_takenFor), (241, 0, mX4_unknownOn), (245, 1, mX11_isOutsideUnknown), (248, 0, mX4_allLessons), (252, 1, mJ6_bitCount_0f7a4), (257, 3, mX0_init), (258, 0, mX0_find), (266, 0, mX4_withAllBehind), (269, 1, mX11_isPupil), (281, 0, mX4_mayFollow), (285, 0, mX11_missingOf), (295, 0, mX2_use), (303, 0, mX5_heldWords), (306, 0, mX5_heldSigns), (314, 0, mX11_unknownFor), (317, 0, mX11_lessonToTakeAgain), (321, 0, mX11_pageToRead), (324, 0, mX11_lessonToTake), (327, 1, mX11_isImage), (330, 0, mX6_becomeLike), (334, 0, mX4_readAmong)], [(178, .long (-1001))], [(7, 3), (16, 4), (26, 9), (33, 1), (40, 6), (80, 0), (100040, 27)], [1], [])
theorem tfX11_10 : ∃ wi, fxCk RX11 (10, 11, 0, 2) wi = true := ⟨440, by decide +kernel⟩
theorem tfX11_19 : ∃ wi, fxCk RX11 (19, 11, 1, 3) wi = true := ⟨441, by decide +kernel⟩
theorem tfX11_23 : ∃ wi, fxCk RX11 (23, 11, 2, 3) wi = true := ⟨442, by decide +kernel⟩
theorem tfX11_29 : ∃ wi, fxCk RX11 (29, 11, 3, 2) wi = true := ⟨443, by decide +kernel⟩
theorem tfX11_36 : ∃ wi, fxCk RX11 (36, 11, 4, 2) wi = true := ⟨444, by decide +kernel⟩
theorem tfX11_43 : ∃ wi, fxCk RX11 (43, 11, 5, 2) wi = true := ⟨445, by decide +kernel⟩
theorem tfX11_47 : ∃ wi, fxCk RX11 (47, 11, 6, 2) wi = true := ⟨446, by decide +kernel⟩
theorem tfX11_51 : ∃ wi, fxCk RX11 (51, 3, 1, 0) wi = true := ⟨118, by decide +kernel⟩
theorem tfX11_63 : ∃ wi, fxCk RX11 (63, 3, 6, 0) wi = true := ⟨124, by decide +kernel⟩
theorem tfX11_72 : ∃ wi, fxCk RX11 (72, 11, 7, 0) wi = true := ⟨447, by decide +kernel⟩
theorem tfX11_75 : ∃ wi, fxCk RX11 (75, 11, 8, 3) wi = true := ⟨448, by decide +kernel⟩
theorem tfX11_84 : ∃ wi, fxCk RX11 (84, 3, 5, 0) wi = true := ⟨123, by decide +kernel⟩
theorem tfX11_87 : ∃ wi, fxCk RX11 (87, 3, 7, 0) wi = true := ⟨127, by decide +kernel⟩
theorem tfX11_94 : ∃ wi, fxCk RX11 (94, 4, 0, 2) wi = true := ⟨276, by decide +kernel⟩
theorem tfX11_98 : ∃ wi, fxCk RX11 (98, 7, 1, 0) wi = true := ⟨202, by decide +kernel⟩
theorem tfX11_101 : ∃ wi, fxCk RX11 (101, 7, 2, 0) wi = true := ⟨207, by decide +kernel⟩
theorem tfX11_104 : ∃ wi, fxCk RX11 (104, 7, 3, 0) wi = true := ⟨211, by decide +kernel⟩
theorem tfX11_107 : ∃ wi, fxCk RX11 (107, 7, 0, 2) wi = true := ⟨197, by decide +kernel⟩
theorem tfX11_118 : ∃ wi, fxCk RX11 (118, 4, 2, 2) wi = true := ⟨284, by decide +kernel⟩
theorem tfX11_122 : ∃ wi, fxCk RX11 (122, 10, 1, 0) wi = true := ⟨237, by decide +kernel⟩
theorem tfX11_125 : ∃ wi, fxCk RX11 (125, 10, 3, 0) wi = true := ⟨249, by decide +kernel⟩
theorem tfX11_128 : ∃ wi, fxCk RX11 (128, 10, 0, 2) wi = true := ⟨231, by decide +kernel⟩
theorem tfX11_129 : ∃ wi, fxCk RX11 (129, 10, 2, 2) wi = true := ⟨243, by decide +kernel⟩
theorem tfX11_135 : ∃ wi, fxCk RX11 (135, 4, 4, 2) wi = true := ⟨290, by decide +kernel⟩
theorem tfX11_138 : ∃ wi, fxCk RX11 (138, 4, 5, 2) wi = true := ⟨293, by decide +kernel⟩
theorem tfX11_141 : ∃ wi, fxCk RX11 (141, 4, 6, 2) wi = true := ⟨296, by decide +kernel⟩
theorem tfX11_147 : ∃ wi, fxCk RX11 (147, 4, 10, 2) wi = true := ⟨310, by decide +kernel⟩
theorem tfX11_150 : ∃ wi, fxCk RX11 (150, 4, 8, 2) wi = true := ⟨303, by decide +kernel⟩
theorem tfX11_154 : ∃ wi, fxCk RX11 (154, 4, 9, 2) wi = true := ⟨306, by decide +kernel⟩
theorem tfX11_157 : ∃ wi, fxCk RX11 (157, 4, 1, 0) wi = true := ⟨282, by decide +kernel⟩
theorem tfX11_160 : ∃ wi, fxCk RX11 (160, 4, 3, 0) wi = true := ⟨288, by decide +kernel⟩
theorem tfX11_163 : ∃ wi, fxCk RX11 (163, 4, 7, 0) wi = true := ⟨301, by decide +kernel⟩
theorem tfX11_166 : ∃ wi, fxCk RX11 (166, 4, 11, 0) wi = true := ⟨315, by decide +kernel⟩
theorem tfX11_169 : ∃ wi, fxCk RX11 (169, 6, 1, 0) wi = true := ⟨433, by decide +kernel⟩
theorem tfX11_172 : ∃ wi, fxCk RX11 (172, 10, 4, 2) wi = true := ⟨256, by decide +kernel⟩
theorem tfX11_191 : ∃ wi, fxCk RX11 (191, 1, 2, 0) wi = true := ⟨377, by decide +kernel⟩
theorem tfX11_192 : ∃ wi, fxCk RX11 (192, 1, 1, 2) wi = true := ⟨375, by decide +kernel⟩
theorem tfX11_195 : ∃ wi, fxCk RX11 (195, 4, 12, 2) wi = true := ⟨317, by decide +kernel⟩
theorem tfX11_204 : ∃ wi, fxCk RX11 (204, 8, 1, 0) wi = true := ⟨168, by decide +kernel⟩
theorem tfX11_207 : ∃ wi, fxCk RX11 (207, 8, 0, 2) wi = true := ⟨165, by decide +kernel⟩
theorem tfX11_208 : ∃ wi, fxCk RX11 (208, 8, 4, 4) wi = true := ⟨176, by decide +kernel⟩
theorem tfX11_219 : ∃ wi, fxCk RX11 (219, 9, 2, 4) wi = true := ⟨359, by decide +kernel⟩
theorem tfX11_222 : ∃ wi, fxCk RX11 (222, 9, 1, 0) wi = true := ⟨357, by decide +kernel⟩
theorem tfX11_223 : ∃ wi, fxCk RX11 (223, 9, 0, 2) wi = true := ⟨355, by decide +kernel⟩
theorem tfX11_262 : ∃ wi, fxCk RX11 (262, 0, 9, 0) wi = true := ⟨869, by decide +kernel⟩
theorem tfX11_263 : ∃ wi, fxCk RX11 (263, 0, 8, 2) wi = true := ⟨867, by decide +kernel⟩
theorem tfX11_272 : ∃ wi, fxCk RX11 (272, 6, 0, 2) wi = true := ⟨431, by decide +kernel⟩
theorem tfX11_276 : ∃ wi, fxCk RX11 (276, 5, 1, 0) wi = true := ⟨416, by decide +kernel⟩
theorem tfX11_289 : ∃ wi, fxCk RX11 (289, 5, 2, 2) wi = true := ⟨418, by decide +kernel⟩
theorem tfX11_292 : ∃ wi, fxCk RX11 (292, 5, 0, 0) wi = true := ⟨414, by decide +kernel⟩
theorem tfX11_301 : ∃ wi, fxCk RX11 (301, 5, 3, 2) wi = true := ⟨420, by decide +kernel⟩
theorem tfX11_309 : ∃ wi, fxCk RX11 (309, 8, 2, 0) wi = true := ⟨171, by decide +kernel⟩
theorem tfX11_311 : ∃ wi, fxCk RX11 (311, 2, 0, 2) wi = true := ⟨406, by decide +kernel⟩
theorem tcX11_9 : ∃ ws, (if (3 : Nat) = 4 then pCk RX11 9 ws else cCk RX11 9 3 mX3_init ws) = true := ⟨[114, 82, 0, 113], by rw [if_neg (by decide)]; decide +kernel⟩
theorem tcX11_18 : ∃ ws, (if (2 : Nat) = 4 then pCk RX11 18 ws else cCk RX11 18 2 mX4_init ws) = true := ⟨[150, 83, 148, 149], by rw [if_neg (by decide)]; decide +kernel⟩
theorem tcX11_28 : ∃ ws, (if (3 : Nat) = 4 then pCk RX11 28 ws else cCk RX11 28 3 mX9_init ws) = true := ⟨[352, 88, 0, 351], by rw [if_neg (by decide)]; decide +kernel⟩
theorem tcX11_35 : ∃ ws, (if (3 : Nat) = 4 then pCk RX11 35 ws else cCk RX11 35 3 mX1_init ws) = true := ⟨[371, 89, 0, 370], by rw [if_neg (by decide)]; decide +kernel⟩
theorem tcX11_42 : ∃ ws, (if (3 : Nat) = 4 then pCk RX11 42 ws else cCk RX11 42 3 mX6_init ws) = true := ⟨[390, 90, 0, 389], by rw [if_neg (by decide)]; decide +kernel⟩
theorem tcX11_55 : ∃ ws, (if (0 : Nat) = 4 then pCk RX11 55 ws else cCk RX11 55 0 mX3_append ws) = true := ⟨[475, 82, 472, 473, 474], by rw [if_neg (by decide)]; decide +kernel⟩
theorem tcX11_59 : ∃ ws, (if (0 : Nat) = 4 then pCk RX11 59 ws else cCk RX11 59 0 mX3_parse ws) = true := ⟨[483, 82, 480, 481, 482], by rw [if_neg (by decide)]; decide +kernel⟩
theorem tcX11_66 : ∃ ws, (if (0 : Nat) = 4 then pCk RX11 66 ws else cCk RX11 66 0 mX4_settle ws) = true := ⟨[625, 83, 622, 623, 624], by rw [if_neg (by decide)]; decide +kernel⟩
theorem tcX11_69 : ∃ ws, (if (0 : Nat) = 4 then pCk RX11 69 ws else cCk RX11 69 0 mX6_beginAnew ws) = true := ⟨[637, 90, 634, 635, 636], by rw [if_neg (by decide)]; decide +kernel⟩
theorem tcX11_79 : ∃ ws, (if (0 : Nat) = 4 then pCk RX11 79 ws else cCk RX11 79 0 mX0_forget ws) = true := ⟨[650, 100, 647, 648, 649], by rw [if_neg (by decide)]; decide +kernel⟩
theorem tcX11_90 : ∃ ws, (if (0 : Nat) = 4 then pCk RX11 90 ws else cCk RX11 90 0 mX11_isSign ws) = true := ⟨[662, 81, 659, 661, 18], by rw [if_neg (by decide)]; decide +kernel⟩
theorem tcX11_111 : ∃ ws, (if (1 : Nat) = 4 then pCk RX11 111 ws else cCk RX11 111 1 mX11_at ws) = true := ⟨[665, 81, 663, 664], by rw [if_neg (by decide)]; decide +kernel⟩
theorem tcX11_115 : ∃ ws, (if (0 : Nat) = 4 then pCk RX11 115 ws else cCk RX11 115 0 mX11_isWord ws) = true := ⟨[673, 81, 670, 672, 19], by rw [if_neg (by decide)]; decide +kernel⟩
theorem tcX11_132 : ∃ ws, (if (0 : Nat) = 4 then pCk RX11 132 ws else cCk RX11 132 0 mX11_isLesson ws) = true := ⟨[681, 81, 678, 680, 20], by rw [if_neg (by decide)]; decide +kernel⟩
theorem tcX11_144 : ∃ ws, (if (0 : Nat) = 4 then pCk RX11 144 ws else cCk RX11 144 0 mX11_isPage ws) = true := ⟨[689, 81, 686, 688, 21], by rw [if_neg (by decide)]; decide +kernel⟩
theorem tcX11_175 : ∃ ws, (if (0 : Nat) = 4 then pCk RX11 175 ws else cCk RX11 175 0 mX11_areSigns ws) = true := ⟨[705, 81, 702, 704, 22], by rw [if_neg (by decide)]; decide +kernel⟩
theorem tcX11_180 : ∃ ws, (if (0 : Nat) = 4 then pCk RX11 180 ws else cCk RX11 180 0 mX1_countWays ws) = true := ⟨[710, 89, 707, 708, 709], by rw [if_neg (by decide)]; decide +kernel⟩
theorem tcX11_184 : ∃ ws, (if (0 : Nat) = 4 then pCk RX11 184 ws else cCk RX11 184 0 mX1_inAll ws) = true := ⟨[721, 89, 718, 719, 720], by rw [if_neg (by decide)]; decide +kernel⟩
theorem tcX11_188 : ∃ ws, (if (0 : Nat) = 4 then pCk RX11 188 ws else cCk RX11 188 0 mX1_findFirst ws) = true := ⟨[729, 89, 726, 727, 728], by rw [if_neg (by decide)]; decide +kernel⟩
theorem tcX11_199 : ∃ ws, (if (0 : Nat) = 4 then pCk RX11 199 ws else cCk RX11 199 0 mX8_say ws) = true := ⟨[742, 84, 739, 740, 741], by rw [if_neg (by decide)]; decide +kernel⟩
theorem tcX11_212 : ∃ ws, (if (1 : Nat) = 4 then pCk RX11 212 ws else cCk RX11 212 1 mX11_bit ws) = true := ⟨[758, 81, 756, 757], by rw [if_neg (by decide)]; decide +kernel⟩
theorem tcX11_216 : ∃ ws, (if (0 : Nat) = 4 then pCk RX11 216 ws else cCk RX11 216 0 mX9_spell ws) = true := ⟨[762, 88, 759, 760, 761], by rw [if_neg (by decide)]; decide +kernel⟩
theorem tcX11_224 : ∃ ws, (if (0 : Nat) = 4 then pCk RX11 224 ws else cCk RX11 224 0 mX11_areLessons ws) = true := ⟨[782, 81, 779, 781, 26], by rw [if_neg (by decide)]; decide +kernel⟩
theorem tcX11_227 : ∃ ws, (if (0 : Nat) = 4 then pCk RX11 227 ws else cCk RX11 227 0 mX4_isClosed ws) = true := ⟨[786, 83, 783, 784, 785], by rw [if_neg (by decide)]; decide +kernel⟩
theorem tcX11_230 : ∃ ws, (if (0 : Nat) = 4 then pCk RX11 230 ws else cCk RX11 230 0 mX4_signsOf ws) = true := ⟨[794, 83, 791, 792, 793], by rw [if_neg (by decide)]; decide +kernel⟩
theorem tcX11_234 : ∃ ws, (if (0 : Nat) = 4 then pCk RX11 234 ws else cCk RX11 234 0 mX4_readBy ws) = true := ⟨[806, 83, 803, 804, 805], by rw [if_neg (by decide)]; decide +kernel⟩
theorem tcX11_237 : ∃ ws, (if (0 : Nat) = 4 then pCk RX11 237 ws else cCk RX11 237 0 mX4_takenFor ws) = true := ⟨[820, 83, 817, 818, 819], by rw [if_neg (by decide)]; decide +kernel⟩
theorem tcX11_241 : ∃ ws, (if (0 : Nat) = 4 then pCk RX11 241 ws else cCk RX11 241 0 mX4_unknownOn ws) = true := ⟨[829, 83, 826, 827, 828], by rw [if_neg (by decide)]; decide +kernel⟩
theorem tcX11_245 : ∃ ws, (if (1 : Nat) = 4 then pCk RX11 245 ws else cCk RX11 245 1 mX11_isOutsideUnknown ws) = true := ⟨[842, 81, 840, 841], by rw [if_neg (by decide)]; decide +kernel⟩
theorem tcX11_248 : ∃ ws, (if (0 : Nat) = 4 then pCk RX11 248 ws else cCk RX11 248 0 mX4_allLessons ws) = true := ⟨[846, 83, 843, 844, 845], by rw [if_neg (by decide)]; decide +kernel⟩
theorem tcX11_252 : ∃ ws, (if (1 : Nat) = 4 then pCk RX11 252 ws else cCk RX11 252 1 mJ6_bitCount_0f7a4 ws) = true := ⟨[832, 99, 847, 831], by rw [if_neg (by decide)]; decide +kernel⟩
theorem tcX11_257 : ∃ ws, (if (3 : Nat) = 4 then pCk RX11 257 ws else cCk RX11 257 3 mX0_init ws) = true := ⟨[856, 100, 0, 855], by rw [if_neg (by decide)]; decide +kernel⟩
theorem tcX11_258 : ∃ ws, (if (0 : Nat) = 4 then pCk RX11 258 ws else cCk RX11 258 0 mX0_find ws) = true := ⟨[894, 100, 891, 892, 893], by rw [if_neg (by decide)]; decide +kernel⟩
theorem tcX11_266 : ∃ ws, (if (0 : Nat) = 4 then pCk RX11 266 ws else cCk RX11 266 0 mX4_withAllBehind ws) = true := ⟨[933, 83, 930, 931, 932], by rw [if_neg (by decide)]; decide +kernel⟩
theorem tcX11_269 : ∃ ws, (if (1 : Nat) = 4 then pCk RX11 269 ws else cCk RX11 269 1 mX11_isPupil ws) = true := ⟨[944, 81, 942, 943], by rw [if_neg (by decide)]; decide +kernel⟩
theorem tcX11_281 : ∃ ws, (if (0 : Nat) = 4 then pCk RX11 281 ws else cCk RX11 281 0 mX4_mayFollow ws) = true := ⟨[790, 83, 945, 788, 789], by rw [if_neg (by decide)]; decide +kernel⟩
theorem tcX11_285 : ∃ ws, (if (0 : Nat) = 4 then pCk RX11 285 ws else cCk RX11 285 0 mX11_missingOf ws) = true := ⟨[949, 81, 946, 948, 33], by rw [if_neg (by decide)]; decide +kernel⟩
theorem tcX11_295 : ∃ ws, (if (0 : Nat) = 4 then pCk RX11 295 ws else cCk RX11 295 0 mX2_use ws) = true := ⟨[965, 92, 962, 963, 964], by rw [if_neg (by decide)]; decide +kernel⟩
theorem tcX11_303 : ∃ ws, (if (0 : Nat) = 4 then pCk RX11 303 ws else cCk RX11 303 0 mX5_heldWords ws) = true := ⟨[961, 91, 958, 959, 960], by rw [if_neg (by decide)]; decide +kernel⟩
theorem tcX11_306 : ∃ ws, (if (0 : Nat) = 4 then pCk RX11 306 ws else cCk RX11 306 0 mX5_heldSigns ws) = true := ⟨[953, 91, 950, 951, 952], by rw [if_neg (by decide)]; decide +kernel⟩
theorem tcX11_314 : ∃ ws, (if (0 : Nat) = 4 then pCk RX11 314 ws else cCk RX11 314 0 mX11_unknownFor ws) = true := ⟨[991, 81, 988, 990, 34], by rw [if_neg (by decide)]; decide +kernel⟩
theorem tcX11_317 : ∃ ws, (if (0 : Nat) = 4 then pCk RX11 317 ws else cCk RX11 317 0 mX11_lessonToTakeAgain ws) = true := ⟨[1000, 81, 997, 999, 35], by rw [if_neg (by decide)]; decide +kernel⟩
theorem tcX11_321 : ∃ ws, (if (0 : Nat) = 4 then pCk RX11 321 ws else cCk RX11 321 0 mX11_pageToRead ws) = true := ⟨[1004, 81, 1001, 1003, 36], by rw [if_neg (by decide)]; decide +kernel⟩
theorem tcX11_324 : ∃ ws, (if (0 : Nat) = 4 then pCk RX11 324 ws else cCk RX11 324 0 mX11_lessonToTake ws) = true := ⟨[1008, 81, 1005, 1007, 37], by rw [if_neg (by decide)]; decide +kernel⟩
theorem tcX11_327 : ∃ ws, (if (1 : Nat) = 4 then pCk RX11 327 ws else cCk RX11 327 1 mX11_isImage ws) = true := ⟨[1019, 81, 1017, 1018], by rw [if_neg (by decide)]; decide +kernel⟩
theorem tcX11_330 : ∃ ws, (if (0 : Nat) = 4 then pCk RX11 330 ws else cCk RX11 330 0 mX6_becomeLike ws) = true := ⟨[1023, 90, 1020, 1021, 1022], by rw [if_neg (by decide)]; decide +kernel⟩
theorem tcX11_334 : ∃ ws, (if (0 : Nat) = 4 then pCk RX11 334 ws else cCk RX11 334 0 mX4_readAmong ws) = true := ⟨[811, 83, 992, 809, 810], by rw [if_neg (by decide)]; decide +kernel⟩
theorem tkX11_178 : ∃ wi, kCk RX11 178 (.long (-1001)) wi = true := ⟨706, by decide +kernel⟩
theorem tnX11_7 : ∃ ws, nCk RX11 7 3 ws = true := ⟨[110, 111, 82], by decide +kernel⟩
theorem tnX11_16 : ∃ ws, nCk RX11 16 4 ws = true := ⟨[146, 147, 83], by decide +kernel⟩
theorem tnX11_26 : ∃ ws, nCk RX11 26 9 ws = true := ⟨[348, 349, 88], by decide +kernel⟩
theorem tnX11_33 : ∃ ws, nCk RX11 33 1 ws = true := ⟨[367, 368, 89], by decide +kernel⟩
theorem tnX11_40 : ∃ ws, nCk RX11 40 6 ws = true := ⟨[386, 387, 90], by decide +kernel⟩
theorem tnX11_80 : ∃ ws, nCk RX11 80 0 ws = true := ⟨[852, 853, 100], by decide +kernel⟩
theorem tnX11_100040 : ∃ ws, nCk RX11 100040 27 ws = true := ⟨[386], by decide +kernel⟩
theorem toX11_1 : ∃ ws, oCk RX11 1 ws = true := ⟨[107, 108, 109], by decide +kernel⟩
theorem tbX11_ok : tbOK RX11 tbX11 := tbOK_of (List.forall_mem_cons.mpr ⟨tfX11_10, (List.forall_mem_cons.mpr ⟨tfX11_19, (List.forall_mem_cons.mpr ⟨tfX11_23, (List.forall_mem_cons.mpr ⟨tfX11_29, (List.forall_mem_cons.mpr ⟨tfX11_36, (List.forall_mem_cons.mpr ⟨tfX11_43, (List.forall_mem_cons.mpr ⟨tfX11_47, (List.forall_mem_cons.mpr ⟨tfX11_51, (List.forall_mem_cons.mpr ⟨tfX11_63, (List.forall_mem_cons.mpr ⟨tfX11_72, (List.forall_mem_cons.mpr ⟨tfX11_75, (List.forall_mem_cons.mpr ⟨tfX11_84, (List.forall_mem_cons.mpr ⟨tfX11_87, (List.forall_mem_cons.mpr ⟨tfX11_94, (List.forall_mem_cons.mpr ⟨tfX11_98, (List.forall_mem_cons.mpr ⟨tfX11_101, (List.forall_mem_cons.mpr ⟨tfX11_104, (List.forall_mem_cons.mpr ⟨tfX11_107, (List.forall_mem_cons.mpr ⟨tfX11_118, (List.forall_mem_cons.mpr ⟨tfX11_122, (List.forall_mem_cons.mpr ⟨tfX11_125, (List.forall_mem_cons.mpr ⟨tfX11_128, (List.forall_mem_cons.mpr ⟨tfX11_129, (List.forall_mem_cons.mpr ⟨tfX11_135, (List.forall_mem_cons.mpr ⟨tfX11_138, (List.forall_mem_cons.mpr ⟨tfX11_141, (List.forall_mem_cons.mpr ⟨tfX11_147, (List.forall_mem_cons.mpr ⟨tfX11_150, (List.forall_mem_cons.mpr ⟨tfX11_154, (List.forall_mem_cons.mpr ⟨tfX11_157, (List.forall_mem_cons.mpr ⟨tfX11_160, (List.forall_mem_cons.mpr ⟨tfX11_163, (List.forall_mem_cons.mpr ⟨tfX11_166, (List.forall_mem_cons.mpr ⟨tfX11_169, (List.forall_mem_cons.mpr ⟨tfX11_172, (List.forall_mem_cons.mpr ⟨tfX11_191, (List.forall_mem_cons.mpr ⟨tfX11_192, (List.forall_mem_cons.mpr ⟨tfX11_195, (List.forall_mem_cons.mpr ⟨tfX11_204, (List.forall_mem_cons.mpr ⟨tfX11_207, (List.forall_mem_cons.mpr ⟨tfX11_208, (List.forall_mem_cons.mpr ⟨tfX11_219, (List.forall_mem_cons.mpr ⟨tfX11_222, (List.forall_mem_cons.mpr ⟨tfX11_223, (List.forall_mem_cons.mpr ⟨tfX11_262, (List.forall_mem_cons.mpr ⟨tfX11_263, (List.forall_mem_cons.mpr ⟨tfX11_272, (List.forall_mem_cons.mpr ⟨tfX11_276, (List.forall_mem_cons.mpr ⟨tfX11_289, (List.forall_mem_cons.mpr ⟨tfX11_292, (List.forall_mem_cons.mpr ⟨tfX11_301, (List.forall_mem_cons.mpr ⟨tfX11_309, (List.forall_mem_cons.mpr ⟨tfX11_311, (fun _ h => absurd h List.not_mem_nil)⟩)⟩)⟩)⟩)⟩)⟩)⟩)⟩)⟩)⟩)⟩)⟩)⟩)⟩)⟩)⟩)⟩)⟩)⟩)⟩)⟩)⟩)⟩)⟩)⟩)⟩)⟩)⟩)⟩)⟩)⟩)⟩)⟩)⟩)⟩)⟩)⟩)⟩)⟩)⟩)⟩)⟩)⟩)⟩)⟩)⟩)⟩)⟩)⟩)⟩)⟩)⟩)⟩) (List.forall_mem_cons.mpr ⟨tcX11_9, (List.forall_mem_cons.mpr ⟨tcX11_18, (List.forall_mem_cons.mpr ⟨tcX11_28, (List.forall_mem_cons.mpr ⟨tcX11_35, (List.forall_mem_cons.mpr ⟨tcX11_42, (List.forall_mem_cons.mpr ⟨tcX11_55, (List.forall_mem_cons.mpr ⟨tcX11_59, (List.forall_mem_cons.mpr ⟨tcX11_66, (List.forall_mem_cons.mpr ⟨tcX11_69, (List.forall_mem_cons.mpr ⟨tcX11_79, (List.forall_mem_cons.mpr ⟨tcX11_90, (List.forall_mem_cons.mpr ⟨tcX11_111, (List.forall_mem_cons.mpr ⟨tcX11_115, (List.forall_mem_cons.mpr ⟨tcX11_132, (List.forall_mem_cons.mpr ⟨tcX11_144, (List.forall_mem_cons.mpr ⟨tcX11_175, (List.forall_mem_cons.mpr ⟨tcX11_180, (List.forall_mem_cons.mpr ⟨tcX11_184, (List.forall_mem_cons.mpr ⟨tcX11_188, (List.forall_mem_cons.mpr ⟨tcX11_199, (List.forall_mem_cons.mpr ⟨tcX11_212, (List.forall_mem_cons.mpr ⟨tcX11_216, (List.forall_mem_cons.mpr ⟨tcX11_224, (List.forall_mem_cons.mpr ⟨tcX11_227, (List.forall_mem_cons.mpr ⟨tcX11_230, (List.forall_mem_cons.mpr ⟨tcX11_234, (List.forall_mem_cons.mpr ⟨tcX11_237, (List.forall_mem_cons.mpr ⟨tcX11_241, (List.forall_mem_cons.mpr ⟨tcX11_245, (List.forall_mem_cons.mpr ⟨tcX11_248, (List.forall_mem_cons.mpr ⟨tcX11_252, (List.forall_mem_cons.mpr ⟨tcX11_257, (List.forall_mem_cons.mpr ⟨tcX11_258, (List.forall_mem_cons.mpr ⟨tcX11_266, (List.forall_mem_cons.mpr ⟨tcX11_269, (List.forall_mem_cons.mpr ⟨tcX11_281, (List.forall_mem_cons.mpr ⟨tcX11_285, (List.forall_mem_cons.mpr ⟨tcX11_295, (List.forall_mem_cons.mpr ⟨tcX11_303, (List.forall_mem_cons.mpr ⟨tcX11_306, (List.forall_mem_cons.mpr ⟨tcX11_314, (List.forall_mem_cons.mpr ⟨tcX11_317, (List.forall_mem_cons.mpr ⟨tcX11_321, (List.forall_mem_cons.mpr ⟨tcX11_324, (List.forall_mem_cons.mpr ⟨tcX11_327, (List.forall_mem_cons.mpr ⟨tcX11_330, (List.forall_mem_cons.mpr ⟨tcX11_334, (fun _ h => absurd h List.not_mem_nil)⟩)⟩)⟩)⟩)⟩)⟩)⟩)⟩)⟩)⟩)⟩)⟩)⟩)⟩)⟩)⟩)⟩)⟩)⟩)⟩)⟩)⟩)⟩)⟩)⟩)⟩)⟩)⟩)⟩)⟩)⟩)⟩)⟩)⟩)⟩)⟩)⟩)⟩)⟩)⟩)⟩)⟩)⟩)⟩)⟩)⟩)⟩) (List.forall_mem_cons.mpr ⟨tkX11_178, (fun _ h => absurd h List.not_mem_nil)⟩) (List.forall_mem_cons.mpr ⟨tnX11_7, (List.forall_mem_cons.mpr ⟨tnX11_16, (List.forall_mem_cons.mpr ⟨tnX11_26, (List.forall_mem_cons.mpr ⟨tnX11_33, (List.forall_mem_cons.mpr ⟨tnX11_40, (List.forall_mem_cons.mpr ⟨tnX11_80, (List.forall_mem_cons.mpr ⟨tnX11_100040, (fun _ h => absurd h List.not_mem_nil)⟩)⟩)⟩)⟩)⟩)⟩)⟩) (List.forall_mem_cons.mpr ⟨toX11_1, (fun _ h => absurd h List.not_mem_nil)⟩)
end
section
def tbX3 : Tb := ([(9, 3, 0, 2), (15, 3, 7, 0), (19, 3, 1, 0), (22, 3, 4, 3), (31, 3, 2, 0), (34, 3, 5, 0), (37, 3, 6, 0), (79, 4, 1, 0), (82, 4, 0, 2), (86, 7, 0, 2), (96, 7, 1, 0), (101, 7, 2, 0), (104, 7, 3, 0), (111, 4, 3, 0), (118, 4, 2, 2), (122, 10, 0, 2), (125, 10, 1, 0), (126, 10, 3, 0), (139, 10, 2, 2), (142, 3, 3, 0), (145, 4, 7, 0), (148, 4, 4, 2), (156, 4, 5, 2), (160, 4, 6, 2), (165, 4, 11, 0), (168, 4, 9, 2), (171, 4, 10, 2), (180, 4, 8, 2)], [(26, 0, mX4_clear), (40, 0, mX3_skipBlanks), (43, 0, mX3_parseClause), (48, 0, mX3_acceptsWord), (52, 0, mX3_parseSign), (58, 0, mX3_parseWord), (63, 0, mX3_parseLesson), (68, 0, mX3_parsePage), (71, 0, mX3_fail), (75, 0, mX3_accepts), (92, 0, mX3_parseLetters), (97, 0, mX3_parseNumber), (114, 0, mX3_wordAhead), (129, 0, mX3_parseSound), (133, 0, mX3_look), (136, 1, mX3_isFigure), (153, 0, mX3_parseList), (174, 0, mX3_parsePageWord), (177, 1, mX3_isLetter), (184, 0, mX3_lettersEnd), (187, 1, mJ9_min_7cf53), (193, 5, mJ0_length_8abf5), (197, 5, mJ0_charAt_5068e)], [(46, .retAddr 1), (56, .retAddr 4), (61, .retAddr 5), (66, .retAddr 9), (107, .retAddr 2), (109, .retAddr 3), (151, .retAddr 6), (159, .retAddr 7), (163, .retAddr 8)], [], [3], [])
theorem tfX3_9 : ∃ wi, fxCk RX3 (9, 3, 0, 2) wi = true := ⟨116, by decide +kernel⟩
theorem tfX3_15 : ∃ wi, fxCk RX3 (15, 3, 7, 0) wi = true := ⟨126, by decide +kernel⟩
theorem tfX3_19 : ∃ wi, fxCk RX3 (19, 3, 1, 0) wi = true := ⟨117, by decide +kernel⟩
theorem tfX3_22 : ∃ wi, fxCk RX3 (22, 3, 4, 3) wi = true := ⟨121, by decide +kernel⟩
theorem tfX3_31 : ∃ wi, fxCk RX3 (31, 3, 2, 0) wi = true := ⟨119, by decide +kernel⟩
theorem tfX3_34 : ∃ wi, fxCk RX3 (34, 3, 5, 0) wi = true := ⟨122, by decide +kernel⟩
theorem tfX3_37 : ∃ wi, fxCk RX3 (37, 3, 6, 0) wi = true := ⟨125, by decide +kernel⟩
theorem tfX3_79 : ∃ wi, fxCk RX3 (79, 4, 1, 0) wi = true := ⟨281, by decide +kernel⟩
theorem tfX3_82 : ∃ wi, fxCk RX3 (82, 4, 0, 2) wi = true := ⟨275, by decide +kernel⟩
theorem tfX3_86 : ∃ wi, fxCk RX3 (86, 7, 0, 2) wi = true := ⟨196, by decide +kernel⟩
theorem tfX3_96 : ∃ wi, fxCk RX3 (96, 7, 1, 0) wi = true := ⟨203, by decide +kernel⟩
theorem tfX3_101 : ∃ wi, fxCk RX3 (101, 7, 2, 0) wi = true := ⟨208, by decide +kernel⟩
theorem tfX3_104 : ∃ wi, fxCk RX3 (104, 7, 3, 0) wi = true := ⟨212, by decide +kernel⟩
theorem tfX3_111 : ∃ wi, fxCk RX3 (111, 4, 3, 0) wi = true := ⟨287, by decide +kernel⟩
theorem tfX3_118 : ∃ wi, fxCk RX3 (118, 4, 2, 2) wi = true := ⟨285, by decide +kernel⟩
theorem tfX3_122 : ∃ wi, fxCk RX3 (122, 10, 0, 2) wi = true := ⟨230, by decide +kernel⟩
theorem tfX3_125 : ∃ wi, fxCk RX3 (125, 10, 1, 0) wi = true := ⟨238, by decide +kernel⟩
theorem tfX3_126 : ∃ wi, fxCk RX3 (126, 10, 3, 0) wi = true := ⟨250, by decide +kernel⟩
theorem tfX3_139 : ∃ wi, fxCk RX3 (139, 10, 2, 2) wi = true := ⟨244, by decide +kernel⟩
theorem tfX3_142 : ∃ wi, fxCk RX3 (142, 3, 3, 0) wi = true := ⟨120, by decide +kernel⟩
theorem tfX3_145 : ∃ wi, fxCk RX3 (145, 4, 7, 0) wi = true := ⟨300, by decide +kernel⟩
theorem tfX3_148 : ∃ wi, fxCk RX3 (148, 4, 4, 2) wi = true := ⟨291, by decide +kernel⟩
theorem tfX3_156 : ∃ wi, fxCk RX3 (156, 4, 5, 2) wi = true := ⟨294, by decide +kernel⟩
theorem tfX3_160 : ∃ wi, fxCk RX3 (160, 4, 6, 2) wi = true := ⟨297, by decide +kernel⟩
theorem tfX3_165 : ∃ wi, fxCk RX3 (165, 4, 11, 0) wi = true := ⟨314, by decide +kernel⟩
theorem tfX3_168 : ∃ wi, fxCk RX3 (168, 4, 9, 2) wi = true := ⟨307, by decide +kernel⟩
theorem tfX3_171 : ∃ wi, fxCk RX3 (171, 4, 10, 2) wi = true := ⟨311, by decide +kernel⟩
theorem tfX3_180 : ∃ wi, fxCk RX3 (180, 4, 8, 2) wi = true := ⟨304, by decide +kernel⟩
theorem tcX3_26 : ∃ ws, (if (0 : Nat) = 4 then pCk RX3 26 ws else cCk RX3 26 0 mX4_clear ws) = true := ⟨[487, 83, 484, 485, 486], by rw [if_neg (by decide)]; decide +kernel⟩
theorem tcX3_40 : ∃ ws, (if (0 : Nat) = 4 then pCk RX3 40 ws else cCk RX3 40 0 mX3_skipBlanks ws) = true := ⟨[491, 82, 488, 490, 0], by rw [if_neg (by decide)]; decide +kernel⟩
theorem tcX3_43 : ∃ ws, (if (0 : Nat) = 4 then pCk RX3 43 ws else cCk RX3 43 0 mX3_parseClause ws) = true := ⟨[495, 82, 492, 494, 1], by rw [if_neg (by decide)]; decide +kernel⟩
theorem tcX3_48 : ∃ ws, (if (0 : Nat) = 4 then pCk RX3 48 ws else cCk RX3 48 0 mX3_acceptsWord ws) = true := ⟨[500, 82, 497, 499, 2], by rw [if_neg (by decide)]; decide +kernel⟩
theorem tcX3_52 : ∃ ws, (if (0 : Nat) = 4 then pCk RX3 52 ws else cCk RX3 52 0 mX3_parseSign ws) = true := ⟨[559, 82, 556, 558, 4], by rw [if_neg (by decide)]; decide +kernel⟩
theorem tcX3_58 : ∃ ws, (if (0 : Nat) = 4 then pCk RX3 58 ws else cCk RX3 58 0 mX3_parseWord ws) = true := ⟨[592, 82, 589, 591, 10], by rw [if_neg (by decide)]; decide +kernel⟩
theorem tcX3_63 : ∃ ws, (if (0 : Nat) = 4 then pCk RX3 63 ws else cCk RX3 63 0 mX3_parseLesson ws) = true := ⟨[605, 82, 602, 604, 13], by rw [if_neg (by decide)]; decide +kernel⟩
theorem tcX3_68 : ∃ ws, (if (0 : Nat) = 4 then pCk RX3 68 ws else cCk RX3 68 0 mX3_parsePage ws) = true := ⟨[617, 82, 614, 616, 15], by rw [if_neg (by decide)]; decide +kernel⟩
theorem tcX3_71 : ∃ ws, (if (0 : Nat) = 4 then pCk RX3 71 ws else cCk RX3 71 0 mX3_fail ws) = true := ⟨[563, 82, 560, 562, 5], by rw [if_neg (by decide)]; decide +kernel⟩
theorem tcX3_75 : ∃ ws, (if (0 : Nat) = 4 then pCk RX3 75 ws else cCk RX3 75 0 mX3_accepts ws) = true := ⟨[574, 82, 571, 573, 7], by rw [if_neg (by decide)]; decide +kernel⟩
theorem tcX3_92 : ∃ ws, (if (0 : Nat) = 4 then pCk RX3 92 ws else cCk RX3 92 0 mX3_parseLetters ws) = true := ⟨[567, 82, 564, 566, 6], by rw [if_neg (by decide)]; decide +kernel⟩
theorem tcX3_97 : ∃ ws, (if (0 : Nat) = 4 then pCk RX3 97 ws else cCk RX3 97 0 mX3_parseNumber ws) = true := ⟨[582, 82, 579, 581, 9], by rw [if_neg (by decide)]; decide +kernel⟩
theorem tcX3_114 : ∃ ws, (if (0 : Nat) = 4 then pCk RX3 114 ws else cCk RX3 114 0 mX3_wordAhead ws) = true := ⟨[596, 82, 593, 595, 11], by rw [if_neg (by decide)]; decide +kernel⟩
theorem tcX3_129 : ∃ ws, (if (0 : Nat) = 4 then pCk RX3 129 ws else cCk RX3 129 0 mX3_parseSound ws) = true := ⟨[600, 82, 597, 599, 12], by rw [if_neg (by decide)]; decide +kernel⟩
theorem tcX3_133 : ∃ ws, (if (0 : Nat) = 4 then pCk RX3 133 ws else cCk RX3 133 0 mX3_look ws) = true := ⟨[578, 82, 575, 577, 8], by rw [if_neg (by decide)]; decide +kernel⟩
theorem tcX3_136 : ∃ ws, (if (1 : Nat) = 4 then pCk RX3 136 ws else cCk RX3 136 1 mX3_isFigure ws) = true := ⟨[585, 82, 583, 584], by rw [if_neg (by decide)]; decide +kernel⟩
theorem tcX3_153 : ∃ ws, (if (0 : Nat) = 4 then pCk RX3 153 ws else cCk RX3 153 0 mX3_parseList ws) = true := ⟨[610, 82, 607, 609, 14], by rw [if_neg (by decide)]; decide +kernel⟩
theorem tcX3_174 : ∃ ws, (if (0 : Nat) = 4 then pCk RX3 174 ws else cCk RX3 174 0 mX3_parsePageWord ws) = true := ⟨[621, 82, 618, 620, 16], by rw [if_neg (by decide)]; decide +kernel⟩
theorem tcX3_177 : ∃ ws, (if (1 : Nat) = 4 then pCk RX3 177 ws else cCk RX3 177 1 mX3_isLetter ws) = true := ⟨[507, 82, 505, 506], by rw [if_neg (by decide)]; decide +kernel⟩
theorem tcX3_184 : ∃ ws, (if (0 : Nat) = 4 then pCk RX3 184 ws else cCk RX3 184 0 mX3_lettersEnd ws) = true := ⟨[504, 82, 501, 503, 3], by rw [if_neg (by decide)]; decide +kernel⟩
theorem tcX3_187 : ∃ ws, (if (1 : Nat) = 4 then pCk RX3 187 ws else cCk RX3 187 1 mJ9_min_7cf53 ws) = true := ⟨[570, 98, 568, 569], by rw [if_neg (by decide)]; decide +kernel⟩
theorem tcX3_193 : ∃ ws, (if (5 : Nat) = 4 then pCk RX3 193 ws else cCk RX3 193 5 mJ0_length_8abf5 ws) = true := ⟨[511, 94, 508, 509, 510], by rw [if_neg (by decide)]; decide +kernel⟩
theorem tcX3_197 : ∃ ws, (if (5 : Nat) = 4 then pCk RX3 197 ws else cCk RX3 197 5 mJ0_charAt_5068e ws) = true := ⟨[521, 94, 518, 519, 520], by rw [if_neg (by decide)]; decide +kernel⟩
theorem tkX3_46 : ∃ wi, kCk RX3 46 (.retAddr 1) wi = true := ⟨0, by decide +kernel⟩
theorem tkX3_56 : ∃ wi, kCk RX3 56 (.retAddr 4) wi = true := ⟨0, by decide +kernel⟩
theorem tkX3_61 : ∃ wi, kCk RX3 61 (.retAddr 5) wi = true := ⟨0, by decide +kernel⟩
theorem tkX3_66 : ∃ wi, kCk RX3 66 (.retAddr 9) wi = true := ⟨0, by decide +kernel⟩
theorem tkX3_107 : ∃ wi, kCk RX3 107 (.retAddr 2) wi = true := ⟨0, by decide +kernel⟩
theorem tkX3_109 : ∃ wi, kCk RX3 109 (.retAddr 3) wi = true := ⟨0, by decide +kernel⟩
theorem tkX3_151 : ∃ wi, kCk RX3 151 (.retAddr 6) wi = true := ⟨0, by decide +kernel⟩
theorem tkX3_159 : ∃ wi, kCk RX3 159 (.retAddr 7) wi = true := ⟨0, by decide +kernel⟩
theorem tkX3_163 : ∃ wi, kCk RX3 163 (.retAddr 8) wi = true := ⟨0, by decide +kernel⟩
theorem toX3_3 : ∃ ws, oCk RX3 3 ws = true := ⟨[115, 108, 109], by decide +kernel⟩
theorem tbX3_ok : tbOK RX3 tbX3 := tbOK_of (List.forall_mem_cons.mpr ⟨tfX3_9, (List.forall_mem_cons.mpr ⟨tfX3_15, (List.forall_mem_cons.mpr ⟨tfX3_19, (List.forall_mem_cons.mpr ⟨tfX3_22, (List.forall_mem_cons.mpr ⟨tfX3_31, (List.forall_mem_cons.mpr ⟨tfX3_34, (List.forall_mem_cons.mpr ⟨tfX3_37, (List.forall_mem_cons.mpr ⟨tfX3_79, (List.forall_mem_cons.mpr ⟨tfX3_82, (List.forall_mem_cons.mpr ⟨tfX3_86, (List.forall_mem_cons.mpr ⟨tfX3_96, (List.forall_mem_cons.mpr ⟨tfX3_101, (List.forall_mem_cons.mpr ⟨tfX3_104, (List.forall_mem_cons.mpr ⟨tfX3_111, (List.forall_mem_cons.mpr ⟨tfX3_118, (List.forall_mem_cons.mpr ⟨tfX3_122, (List.forall_mem_cons.mpr ⟨tfX3_125, (List.forall_mem_cons.mpr ⟨tfX3_126, (List.forall_mem_cons.mpr ⟨tfX3_139, (List.forall_mem_cons.mpr ⟨tfX3_142, (List.forall_mem_cons.mpr ⟨tfX3_145, (List.forall_mem_cons.mpr ⟨tfX3_148, (List.forall_mem_cons.mpr ⟨tfX3_156, (List.forall_mem_cons.mpr ⟨tfX3_160, (List.forall_mem_cons.mpr ⟨tfX3_165, (List.forall_mem_cons.mpr ⟨tfX3_168, (List.forall_mem_cons.mpr ⟨tfX3_171, (List.forall_mem_cons.mpr ⟨tfX3_180, (fun _ h => absurd h List.not_mem_nil)⟩)⟩)⟩)⟩)⟩)⟩)⟩)⟩)⟩)⟩)⟩)⟩)⟩)⟩)⟩)⟩)⟩)⟩)⟩)⟩)⟩)⟩)⟩)⟩)⟩)⟩)⟩)⟩) (List.forall_mem_cons.mpr ⟨tcX3_26, (List.forall_mem_cons.mpr ⟨tcX3_40, (List.forall_mem_cons.mpr ⟨tcX3_43, (List.forall_mem_cons.mpr ⟨tcX3_48, (List.forall_mem_cons.mpr ⟨tcX3_52, (List.forall_mem_cons.mpr ⟨tcX3_58, (List.forall_mem_cons.mpr ⟨tcX3_63, (List.forall_mem_cons.mpr ⟨tcX3_68, (List.forall_mem_cons.mpr ⟨tcX3_71, (List.forall_mem_cons.mpr ⟨tcX3_75, (List.forall_mem_cons.mpr ⟨tcX3_92, (List.forall_mem_cons.mpr ⟨tcX3_97, (List.forall_mem_cons.mpr ⟨tcX3_114, (List.forall_mem_cons.mpr ⟨tcX3_129, (List.forall_mem_cons.mpr ⟨tcX3_133, (List.forall_mem_cons.mpr ⟨tcX3_136, (List.forall_mem_cons.mpr ⟨tcX3_153, (List.forall_mem_cons.mpr ⟨tcX3_174, (List.forall_mem_cons.mpr ⟨tcX3_177, (List.forall_mem_cons.mpr ⟨tcX3_184, (List.forall_mem_cons.mpr ⟨tcX3_187, (List.forall_mem_cons.mpr ⟨tcX3_193, (List.forall_mem_cons.mpr ⟨tcX3_197, (fun _ h => absurd h List.not_mem_nil)⟩)⟩)⟩)⟩)⟩)⟩)⟩)⟩)⟩)⟩)⟩)⟩)⟩)⟩)⟩)⟩)⟩)⟩)⟩)⟩)⟩)⟩)⟩) (List.forall_mem_cons.mpr ⟨tkX3_46, (List.forall_mem_cons.mpr ⟨tkX3_56, (List.forall_mem_cons.mpr ⟨tkX3_61, (List.forall_mem_cons.mpr ⟨tkX3_66, (List.forall_mem_cons.mpr ⟨tkX3_107, (List.forall_mem_cons.mpr ⟨tkX3_109, (List.forall_mem_cons.mpr ⟨tkX3_151, (List.forall_mem_cons.mpr ⟨tkX3_159, (List.forall_mem_cons.mpr ⟨tkX3_163, (fun _ h => absurd h List.not_mem_nil)⟩)⟩)⟩)⟩)⟩)⟩)⟩)⟩)⟩) (fun _ h => absurd h List.not_mem_nil) (List.forall_mem_cons.mpr ⟨toX3_3, (fun _ h => absurd h List.not_mem_nil)⟩)
def tbX4 : Tb := ([(11, 4, 0, 2), (19, 4, 2, 2), (23, 4, 4, 2), (27, 4, 5, 2), (30, 4, 6, 2), (35, 4, 8, 2), (38, 4, 9, 2), (41, 4, 10, 2), (47, 4, 12, 2), (51, 4, 13, 2), (62, 4, 1, 0), (66, 4, 3, 0), (69, 4, 7, 0), (72, 4, 11, 0), (75, 10, 1, 0), (78, 10, 4, 2), (109, 8, 4, 4), (118, 8, 3, 4), (121, 10, 2, 2), (124, 10, 3, 0), (127, 8, 0, 2), (128, 8, 1, 0)], [(46, 3, mX8_init), (54, 3, mX7_init), (55, 3, mX10_init), (56, 1, mJ7_fill_53178), (81, 0, mX4_signsStandingAt), (85, 0, mX7_standsAt), (89, 0, mX4_mayFollow), (93, 0, mX4_unionOf), (97, 0, mX4_signsOf), (101, 0, mX4_readAmong), (105, 0, mX8_say), (113, 1, mJ6_bitCount_0f7a4), (131, 6, mX11_areAlike)], [], [(9, 7), (17, 10), (33, 28), (44, 8), (100009, 24), (100017, 25)], [3], [])
theorem tfX4_11 : ∃ wi, fxCk RX4 (11, 4, 0, 2) wi = true := ⟨271, by decide +kernel⟩
theorem tfX4_19 : ∃ wi, fxCk RX4 (19, 4, 2, 2) wi = true := ⟨283, by decide +kernel⟩
theorem tfX4_23 : ∃ wi, fxCk RX4 (23, 4, 4, 2) wi = true := ⟨289, by decide +kernel⟩
theorem tfX4_27 : ∃ wi, fxCk RX4 (27, 4, 5, 2) wi = true := ⟨292, by decide +kernel⟩
theorem tfX4_30 : ∃ wi, fxCk RX4 (30, 4, 6, 2) wi = true := ⟨295, by decide +kernel⟩
theorem tfX4_35 : ∃ wi, fxCk RX4 (35, 4, 8, 2) wi = true := ⟨302, by decide +kernel⟩
theorem tfX4_38 : ∃ wi, fxCk RX4 (38, 4, 9, 2) wi = true := ⟨305, by decide +kernel⟩
theorem tfX4_41 : ∃ wi, fxCk RX4 (41, 4, 10, 2) wi = true := ⟨308, by decide +kernel⟩
theorem tfX4_47 : ∃ wi, fxCk RX4 (47, 4, 12, 2) wi = true := ⟨316, by decide +kernel⟩
theorem tfX4_51 : ∃ wi, fxCk RX4 (51, 4, 13, 2) wi = true := ⟨318, by decide +kernel⟩
theorem tfX4_62 : ∃ wi, fxCk RX4 (62, 4, 1, 0) wi = true := ⟨277, by decide +kernel⟩
theorem tfX4_66 : ∃ wi, fxCk RX4 (66, 4, 3, 0) wi = true := ⟨286, by decide +kernel⟩
theorem tfX4_69 : ∃ wi, fxCk RX4 (69, 4, 7, 0) wi = true := ⟨298, by decide +kernel⟩
theorem tfX4_72 : ∃ wi, fxCk RX4 (72, 4, 11, 0) wi = true := ⟨312, by decide +kernel⟩
theorem tfX4_75 : ∃ wi, fxCk RX4 (75, 10, 1, 0) wi = true := ⟨236, by decide +kernel⟩
theorem tfX4_78 : ∃ wi, fxCk RX4 (78, 10, 4, 2) wi = true := ⟨254, by decide +kernel⟩
theorem tfX4_109 : ∃ wi, fxCk RX4 (109, 8, 4, 4) wi = true := ⟨175, by decide +kernel⟩
theorem tfX4_118 : ∃ wi, fxCk RX4 (118, 8, 3, 4) wi = true := ⟨173, by decide +kernel⟩
theorem tfX4_121 : ∃ wi, fxCk RX4 (121, 10, 2, 2) wi = true := ⟨245, by decide +kernel⟩
theorem tfX4_124 : ∃ wi, fxCk RX4 (124, 10, 3, 0) wi = true := ⟨251, by decide +kernel⟩
theorem tfX4_127 : ∃ wi, fxCk RX4 (127, 8, 0, 2) wi = true := ⟨166, by decide +kernel⟩
theorem tfX4_128 : ∃ wi, fxCk RX4 (128, 8, 1, 0) wi = true := ⟨169, by decide +kernel⟩
theorem tcX4_46 : ∃ ws, (if (3 : Nat) = 4 then pCk RX4 46 ws else cCk RX4 46 3 mX8_init ws) = true := ⟨[162, 84, 0, 161], by rw [if_neg (by decide)]; decide +kernel⟩
theorem tcX4_54 : ∃ ws, (if (3 : Nat) = 4 then pCk RX4 54 ws else cCk RX4 54 3 mX7_init ws) = true := ⟨[192, 85, 0, 191], by rw [if_neg (by decide)]; decide +kernel⟩
theorem tcX4_55 : ∃ ws, (if (3 : Nat) = 4 then pCk RX4 55 ws else cCk RX4 55 3 mX10_init ws) = true := ⟨[225, 86, 0, 224], by rw [if_neg (by decide)]; decide +kernel⟩
theorem tcX4_56 : ∃ ws, (if (1 : Nat) = 4 then pCk RX4 56 ws else cCk RX4 56 1 mJ7_fill_53178 ws) = true := ⟨[270, 87, 268, 269], by rw [if_neg (by decide)]; decide +kernel⟩
theorem tcX4_81 : ∃ ws, (if (0 : Nat) = 4 then pCk RX4 81 ws else cCk RX4 81 0 mX4_signsStandingAt ws) = true := ⟨[629, 83, 626, 628, 17], by rw [if_neg (by decide)]; decide +kernel⟩
theorem tcX4_85 : ∃ ws, (if (0 : Nat) = 4 then pCk RX4 85 ws else cCk RX4 85 0 mX7_standsAt ws) = true := ⟨[633, 85, 630, 631, 632], by rw [if_neg (by decide)]; decide +kernel⟩
theorem tcX4_89 : ∃ ws, (if (0 : Nat) = 4 then pCk RX4 89 ws else cCk RX4 89 0 mX4_mayFollow ws) = true := ⟨[790, 83, 787, 788, 789], by rw [if_neg (by decide)]; decide +kernel⟩
theorem tcX4_93 : ∃ ws, (if (0 : Nat) = 4 then pCk RX4 93 ws else cCk RX4 93 0 mX4_unionOf ws) = true := ⟨[798, 83, 795, 797, 27], by rw [if_neg (by decide)]; decide +kernel⟩
theorem tcX4_97 : ∃ ws, (if (0 : Nat) = 4 then pCk RX4 97 ws else cCk RX4 97 0 mX4_signsOf ws) = true := ⟨[794, 83, 807, 792, 793], by rw [if_neg (by decide)]; decide +kernel⟩
theorem tcX4_101 : ∃ ws, (if (0 : Nat) = 4 then pCk RX4 101 ws else cCk RX4 101 0 mX4_readAmong ws) = true := ⟨[811, 83, 808, 809, 810], by rw [if_neg (by decide)]; decide +kernel⟩
theorem tcX4_105 : ∃ ws, (if (0 : Nat) = 4 then pCk RX4 105 ws else cCk RX4 105 0 mX8_say ws) = true := ⟨[742, 84, 812, 740, 741], by rw [if_neg (by decide)]; decide +kernel⟩
theorem tcX4_113 : ∃ ws, (if (1 : Nat) = 4 then pCk RX4 113 ws else cCk RX4 113 1 mJ6_bitCount_0f7a4 ws) = true := ⟨[832, 99, 830, 831], by rw [if_neg (by decide)]; decide +kernel⟩
theorem tcX4_131 : ∃ ws, (if (6 : Nat) = 4 then pCk RX4 131 ws else cCk RX4 131 6 mX11_areAlike ws) = true := ⟨[751, 81, 0, 750], by rw [if_neg (by decide)]; decide +kernel⟩
theorem tnX4_9 : ∃ ws, nCk RX4 9 7 ws = true := ⟨[152, 189, 85], by decide +kernel⟩
theorem tnX4_17 : ∃ ws, nCk RX4 17 10 ws = true := ⟨[154, 222, 86], by decide +kernel⟩
theorem tnX4_33 : ∃ ws, nCk RX4 33 28 ws = true := ⟨[156], by decide +kernel⟩
theorem tnX4_44 : ∃ ws, nCk RX4 44 8 ws = true := ⟨[158, 159, 84], by decide +kernel⟩
theorem tnX4_100009 : ∃ ws, nCk RX4 100009 24 ws = true := ⟨[152], by decide +kernel⟩
theorem tnX4_100017 : ∃ ws, nCk RX4 100017 25 ws = true := ⟨[154], by decide +kernel⟩
theorem toX4_3 : ∃ ws, oCk RX4 3 ws = true := ⟨[151, 108, 109], by decide +kernel⟩
theorem tbX4_ok : tbOK RX4 tbX4 := tbOK_of (List.forall_mem_cons.mpr ⟨tfX4_11, (List.forall_mem_cons.mpr ⟨tfX4_19, (List.forall_mem_cons.mpr ⟨tfX4_23, (List.forall_mem_cons.mpr ⟨tfX4_27, (List.forall_mem_cons.mpr ⟨tfX4_30, (List.forall_mem_cons.mpr ⟨tfX4_35, (List.forall_mem_cons.mpr ⟨tfX4_38, (List.forall_mem_cons.mpr ⟨tfX4_41, (List.forall_mem_cons.mpr ⟨tfX4_47, (List.forall_mem_cons.mpr ⟨tfX4_51, (List.forall_mem_cons.mpr ⟨tfX4_62, (List.forall_mem_cons.mpr ⟨tfX4_66, (List.forall_mem_cons.mpr ⟨tfX4_69, (List.forall_mem_cons.mpr ⟨tfX4_72, (List.forall_mem_cons.mpr ⟨tfX4_75, (List.forall_mem_cons.mpr ⟨tfX4_78, (List.forall_mem_cons.mpr ⟨tfX4_109, (List.forall_mem_cons.mpr ⟨tfX4_118, (List.forall_mem_cons.mpr ⟨tfX4_121, (List.forall_mem_cons.mpr ⟨tfX4_124, (List.forall_mem_cons.mpr ⟨tfX4_127, (List.forall_mem_cons.mpr ⟨tfX4_128, (fun _ h => absurd h List.not_mem_nil)⟩)⟩)⟩)⟩)⟩)⟩)⟩)⟩)⟩)⟩)⟩)⟩)⟩)⟩)⟩)⟩)⟩)⟩)⟩)⟩)⟩)⟩) (List.forall_mem_cons.mpr ⟨tcX4_46, (List.forall_mem_cons.mpr ⟨tcX4_54, (List.forall_mem_cons.mpr ⟨tcX4_55, (List.forall_mem_cons.mpr ⟨tcX4_56, (List.forall_mem_cons.mpr ⟨tcX4_81, (List.forall_mem_cons.mpr ⟨tcX4_85, (List.forall_mem_cons.mpr ⟨tcX4_89, (List.forall_mem_cons.mpr ⟨tcX4_93, (List.forall_mem_cons.mpr ⟨tcX4_97, (List.forall_mem_cons.mpr ⟨tcX4_101, (List.forall_mem_cons.mpr ⟨tcX4_105, (List.forall_mem_cons.mpr ⟨tcX4_113, (List.forall_mem_cons.mpr ⟨tcX4_131, (fun _ h => absurd h List.not_mem_nil)⟩)⟩)⟩)⟩)⟩)⟩)⟩)⟩)⟩)⟩)⟩)⟩)⟩) (fun _ h => absurd h List.not_mem_nil) (List.forall_mem_cons.mpr ⟨tnX4_9, (List.forall_mem_cons.mpr ⟨tnX4_17, (List.forall_mem_cons.mpr ⟨tnX4_33, (List.forall_mem_cons.mpr ⟨tnX4_44, (List.forall_mem_cons.mpr ⟨tnX4_100009, (List.forall_mem_cons.mpr ⟨tnX4_100017, (fun _ h => absurd h List.not_mem_nil)⟩)⟩)⟩)⟩)⟩)⟩) (List.forall_mem_cons.mpr ⟨toX4_3, (fun _ h => absurd h List.not_mem_nil)⟩)
def tbX0 : Tb := ([(11, 0, 0, 2), (15, 0, 1, 2), (18, 0, 2, 2), (22, 0, 5, 0), (26, 0, 8, 2), (29, 0, 6, 0), (32, 0, 4, 3), (36, 0, 3, 0), (39, 0, 7, 0), (71, 4, 7, 0), (82, 4, 11, 0), (85, 4, 10, 2), (92, 0, 9, 0)], [(42, 1, mJ7_fill_d0a16), (48, 0, mX4_readBy), (54, 0, mX0_arrive), (58, 0, mX0_goOnFrom), (62, 0, mX0_writeSteps), (65, 0, mX0_metIn), (68, 1, mX0_lessonsIn), (74, 0, mX0_isNew), (78, 0, mX4_mayFollow), (88, 0, mX4_unknownOn), (95, 1, mJ6_bitCount_0f7a4), (100, 1, mX0_stepOf)], [], [], [3], [])
theorem tfX0_11 : ∃ wi, fxCk RX0 (11, 0, 0, 2) wi = true := ⟨858, by decide +kernel⟩
theorem tfX0_15 : ∃ wi, fxCk RX0 (15, 0, 1, 2) wi = true := ⟨859, by decide +kernel⟩
theorem tfX0_18 : ∃ wi, fxCk RX0 (18, 0, 2, 2) wi = true := ⟨860, by decide +kernel⟩
theorem tfX0_22 : ∃ wi, fxCk RX0 (22, 0, 5, 0) wi = true := ⟨863, by decide +kernel⟩
theorem tfX0_26 : ∃ wi, fxCk RX0 (26, 0, 8, 2) wi = true := ⟨866, by decide +kernel⟩
theorem tfX0_29 : ∃ wi, fxCk RX0 (29, 0, 6, 0) wi = true := ⟨864, by decide +kernel⟩
theorem tfX0_32 : ∃ wi, fxCk RX0 (32, 0, 4, 3) wi = true := ⟨862, by decide +kernel⟩
theorem tfX0_36 : ∃ wi, fxCk RX0 (36, 0, 3, 0) wi = true := ⟨861, by decide +kernel⟩
theorem tfX0_39 : ∃ wi, fxCk RX0 (39, 0, 7, 0) wi = true := ⟨865, by decide +kernel⟩
theorem tfX0_71 : ∃ wi, fxCk RX0 (71, 4, 7, 0) wi = true := ⟨299, by decide +kernel⟩
theorem tfX0_82 : ∃ wi, fxCk RX0 (82, 4, 11, 0) wi = true := ⟨313, by decide +kernel⟩
theorem tfX0_85 : ∃ wi, fxCk RX0 (85, 4, 10, 2) wi = true := ⟨309, by decide +kernel⟩
theorem tfX0_92 : ∃ wi, fxCk RX0 (92, 0, 9, 0) wi = true := ⟨868, by decide +kernel⟩
theorem tcX0_42 : ∃ ws, (if (1 : Nat) = 4 then pCk RX0 42 ws else cCk RX0 42 1 mJ7_fill_d0a16 ws) = true := ⟨[713, 87, 895, 712], by rw [if_neg (by decide)]; decide +kernel⟩
theorem tcX0_48 : ∃ ws, (if (0 : Nat) = 4 then pCk RX0 48 ws else cCk RX0 48 0 mX4_readBy ws) = true := ⟨[806, 83, 896, 804, 805], by rw [if_neg (by decide)]; decide +kernel⟩
theorem tcX0_54 : ∃ ws, (if (0 : Nat) = 4 then pCk RX0 54 ws else cCk RX0 54 0 mX0_arrive ws) = true := ⟨[900, 100, 897, 899, 28], by rw [if_neg (by decide)]; decide +kernel⟩
theorem tcX0_58 : ∃ ws, (if (0 : Nat) = 4 then pCk RX0 58 ws else cCk RX0 58 0 mX0_goOnFrom ws) = true := ⟨[905, 100, 902, 904, 29], by rw [if_neg (by decide)]; decide +kernel⟩
theorem tcX0_62 : ∃ ws, (if (0 : Nat) = 4 then pCk RX0 62 ws else cCk RX0 62 0 mX0_writeSteps ws) = true := ⟨[921, 100, 918, 920, 32], by rw [if_neg (by decide)]; decide +kernel⟩
theorem tcX0_65 : ∃ ws, (if (0 : Nat) = 4 then pCk RX0 65 ws else cCk RX0 65 0 mX0_metIn ws) = true := ⟨[909, 100, 906, 908, 30], by rw [if_neg (by decide)]; decide +kernel⟩
theorem tcX0_68 : ∃ ws, (if (1 : Nat) = 4 then pCk RX0 68 ws else cCk RX0 68 1 mX0_lessonsIn ws) = true := ⟨[912, 100, 910, 911], by rw [if_neg (by decide)]; decide +kernel⟩
theorem tcX0_74 : ∃ ws, (if (0 : Nat) = 4 then pCk RX0 74 ws else cCk RX0 74 0 mX0_isNew ws) = true := ⟨[916, 100, 913, 915, 31], by rw [if_neg (by decide)]; decide +kernel⟩
theorem tcX0_78 : ∃ ws, (if (0 : Nat) = 4 then pCk RX0 78 ws else cCk RX0 78 0 mX4_mayFollow ws) = true := ⟨[790, 83, 917, 788, 789], by rw [if_neg (by decide)]; decide +kernel⟩
theorem tcX0_88 : ∃ ws, (if (0 : Nat) = 4 then pCk RX0 88 ws else cCk RX0 88 0 mX4_unknownOn ws) = true := ⟨[829, 83, 901, 827, 828], by rw [if_neg (by decide)]; decide +kernel⟩
theorem tcX0_95 : ∃ ws, (if (1 : Nat) = 4 then pCk RX0 95 ws else cCk RX0 95 1 mJ6_bitCount_0f7a4 ws) = true := ⟨[832, 99, 922, 831], by rw [if_neg (by decide)]; decide +kernel⟩
theorem tcX0_100 : ∃ ws, (if (1 : Nat) = 4 then pCk RX0 100 ws else cCk RX0 100 1 mX0_stepOf ws) = true := ⟨[925, 100, 923, 924], by rw [if_neg (by decide)]; decide +kernel⟩
theorem toX0_3 : ∃ ws, oCk RX0 3 ws = true := ⟨[857, 108, 109], by decide +kernel⟩
theorem tbX0_ok : tbOK RX0 tbX0 := tbOK_of (List.forall_mem_cons.mpr ⟨tfX0_11, (List.forall_mem_cons.mpr ⟨tfX0_15, (List.forall_mem_cons.mpr ⟨tfX0_18, (List.forall_mem_cons.mpr ⟨tfX0_22, (List.forall_mem_cons.mpr ⟨tfX0_26, (List.forall_mem_cons.mpr ⟨tfX0_29, (List.forall_mem_cons.mpr ⟨tfX0_32, (List.forall_mem_cons.mpr ⟨tfX0_36, (List.forall_mem_cons.mpr ⟨tfX0_39, (List.forall_mem_cons.mpr ⟨tfX0_71, (List.forall_mem_cons.mpr ⟨tfX0_82, (List.forall_mem_cons.mpr ⟨tfX0_85, (List.forall_mem_cons.mpr ⟨tfX0_92, (fun _ h => absurd h List.not_mem_nil)⟩)⟩)⟩)⟩)⟩)⟩)⟩)⟩)⟩)⟩)⟩)⟩)⟩) (List.forall_mem_cons.mpr ⟨tcX0_42, (List.forall_mem_cons.mpr ⟨tcX0_48, (List.forall_mem_cons.mpr ⟨tcX0_54, (List.forall_mem_cons.mpr ⟨tcX0_58, (List.forall_mem_cons.mpr ⟨tcX0_62, (List.forall_mem_cons.mpr ⟨tcX0_65, (List.forall_mem_cons.mpr ⟨tcX0_68, (List.forall_mem_cons.mpr ⟨tcX0_74, (List.forall_mem_cons.mpr ⟨tcX0_78, (List.forall_mem_cons.mpr ⟨tcX0_88, (List.forall_mem_cons.mpr ⟨tcX0_95, (List.forall_mem_cons.mpr ⟨tcX0_100, (fun _ h => absurd h List.not_mem_nil)⟩)⟩)⟩)⟩)⟩)⟩)⟩)⟩)⟩)⟩)⟩)⟩) (fun _ h => absurd h List.not_mem_nil) (fun _ h => absurd h List.not_mem_nil) (List.forall_mem_cons.mpr ⟨toX0_3, (fun _ h => absurd h List.not_mem_nil)⟩)
end
section
def tbX1 : Tb := ([(11, 1, 0, 2), (15, 1, 1, 2), (25, 10, 1, 0), (31, 10, 3, 0), (34, 4, 1, 0), (39, 10, 4, 2), (42, 4, 0, 2), (50, 7, 1, 0), (53, 7, 2, 0), (56, 10, 2, 2), (63, 1, 2, 0)], [(19, 1, mJ7_fill_d0a16), (46, 0, mX1_waysBehind), (59, 0, mX1_inAll), (64, 0, mX1_firstThatGoesOn)], [], [], [3], [])
theorem tfX1_11 : ∃ wi, fxCk RX1 (11, 1, 0, 2) wi = true := ⟨373, by decide +kernel⟩
theorem tfX1_15 : ∃ wi, fxCk RX1 (15, 1, 1, 2) wi = true := ⟨374, by decide +kernel⟩
theorem tfX1_25 : ∃ wi, fxCk RX1 (25, 10, 1, 0) wi = true := ⟨235, by decide +kernel⟩
theorem tfX1_31 : ∃ wi, fxCk RX1 (31, 10, 3, 0) wi = true := ⟨248, by decide +kernel⟩
theorem tfX1_34 : ∃ wi, fxCk RX1 (34, 4, 1, 0) wi = true := ⟨280, by decide +kernel⟩
theorem tfX1_39 : ∃ wi, fxCk RX1 (39, 10, 4, 2) wi = true := ⟨255, by decide +kernel⟩
theorem tfX1_42 : ∃ wi, fxCk RX1 (42, 4, 0, 2) wi = true := ⟨274, by decide +kernel⟩
theorem tfX1_50 : ∃ wi, fxCk RX1 (50, 7, 1, 0) wi = true := ⟨200, by decide +kernel⟩
theorem tfX1_53 : ∃ wi, fxCk RX1 (53, 7, 2, 0) wi = true := ⟨206, by decide +kernel⟩
theorem tfX1_56 : ∃ wi, fxCk RX1 (56, 10, 2, 2) wi = true := ⟨242, by decide +kernel⟩
theorem tfX1_63 : ∃ wi, fxCk RX1 (63, 1, 2, 0) wi = true := ⟨376, by decide +kernel⟩
theorem tcX1_19 : ∃ ws, (if (1 : Nat) = 4 then pCk RX1 19 ws else cCk RX1 19 1 mJ7_fill_d0a16 ws) = true := ⟨[713, 87, 711, 712], by rw [if_neg (by decide)]; decide +kernel⟩
theorem tcX1_46 : ∃ ws, (if (0 : Nat) = 4 then pCk RX1 46 ws else cCk RX1 46 0 mX1_waysBehind ws) = true := ⟨[717, 89, 714, 716, 23], by rw [if_neg (by decide)]; decide +kernel⟩
theorem tcX1_59 : ∃ ws, (if (0 : Nat) = 4 then pCk RX1 59 ws else cCk RX1 59 0 mX1_inAll ws) = true := ⟨[721, 89, 730, 719, 720], by rw [if_neg (by decide)]; decide +kernel⟩
theorem tcX1_64 : ∃ ws, (if (0 : Nat) = 4 then pCk RX1 64 ws else cCk RX1 64 0 mX1_firstThatGoesOn ws) = true := ⟨[734, 89, 731, 733, 24], by rw [if_neg (by decide)]; decide +kernel⟩
theorem toX1_3 : ∃ ws, oCk RX1 3 ws = true := ⟨[372, 108, 109], by decide +kernel⟩
theorem tbX1_ok : tbOK RX1 tbX1 := tbOK_of (List.forall_mem_cons.mpr ⟨tfX1_11, (List.forall_mem_cons.mpr ⟨tfX1_15, (List.forall_mem_cons.mpr ⟨tfX1_25, (List.forall_mem_cons.mpr ⟨tfX1_31, (List.forall_mem_cons.mpr ⟨tfX1_34, (List.forall_mem_cons.mpr ⟨tfX1_39, (List.forall_mem_cons.mpr ⟨tfX1_42, (List.forall_mem_cons.mpr ⟨tfX1_50, (List.forall_mem_cons.mpr ⟨tfX1_53, (List.forall_mem_cons.mpr ⟨tfX1_56, (List.forall_mem_cons.mpr ⟨tfX1_63, (fun _ h => absurd h List.not_mem_nil)⟩)⟩)⟩)⟩)⟩)⟩)⟩)⟩)⟩)⟩)⟩) (List.forall_mem_cons.mpr ⟨tcX1_19, (List.forall_mem_cons.mpr ⟨tcX1_46, (List.forall_mem_cons.mpr ⟨tcX1_59, (List.forall_mem_cons.mpr ⟨tcX1_64, (fun _ h => absurd h List.not_mem_nil)⟩)⟩)⟩)⟩) (fun _ h => absurd h List.not_mem_nil) (fun _ h => absurd h List.not_mem_nil) (List.forall_mem_cons.mpr ⟨toX1_3, (fun _ h => absurd h List.not_mem_nil)⟩)
def tbX2 : Tb := ([(9, 2, 0, 2), (15, 2, 1, 2)], [(18, 1, mJ7_fill_53178), (24, 1, mJ9_min_7cf53), (30, 4, mX0_init), (36, 0, mX2_heldOn)], [], [], [3], [])
theorem tfX2_9 : ∃ wi, fxCk RX2 (9, 2, 0, 2) wi = true := ⟨405, by decide +kernel⟩
theorem tfX2_15 : ∃ wi, fxCk RX2 (15, 2, 1, 2) wi = true := ⟨407, by decide +kernel⟩
theorem tcX2_18 : ∃ ws, (if (1 : Nat) = 4 then pCk RX2 18 ws else cCk RX2 18 1 mJ7_fill_53178 ws) = true := ⟨[270, 87, 646, 269], by rw [if_neg (by decide)]; decide +kernel⟩
theorem tcX2_24 : ∃ ws, (if (1 : Nat) = 4 then pCk RX2 24 ws else cCk RX2 24 1 mJ9_min_7cf53 ws) = true := ⟨[570, 98, 967, 569], by rw [if_neg (by decide)]; decide +kernel⟩
theorem tcX2_30 : ∃ ws, (if (4 : Nat) = 4 then pCk RX2 30 ws else cCk RX2 30 4 mX0_init ws) = true := ⟨[1032, 1034, 1033, 101], by rw [if_pos rfl]; decide +kernel⟩
theorem tcX2_36 : ∃ ws, (if (0 : Nat) = 4 then pCk RX2 36 ws else cCk RX2 36 0 mX2_heldOn ws) = true := ⟨[957, 92, 966, 955, 956], by rw [if_neg (by decide)]; decide +kernel⟩
theorem toX2_3 : ∃ ws, oCk RX2 3 ws = true := ⟨[404, 108, 109], by decide +kernel⟩
theorem tbX2_ok : tbOK RX2 tbX2 := tbOK_of (List.forall_mem_cons.mpr ⟨tfX2_9, (List.forall_mem_cons.mpr ⟨tfX2_15, (fun _ h => absurd h List.not_mem_nil)⟩)⟩) (List.forall_mem_cons.mpr ⟨tcX2_18, (List.forall_mem_cons.mpr ⟨tcX2_24, (List.forall_mem_cons.mpr ⟨tcX2_30, (List.forall_mem_cons.mpr ⟨tcX2_36, (fun _ h => absurd h List.not_mem_nil)⟩)⟩)⟩)⟩) (fun _ h => absurd h List.not_mem_nil) (fun _ h => absurd h List.not_mem_nil) (List.forall_mem_cons.mpr ⟨toX2_3, (fun _ h => absurd h List.not_mem_nil)⟩)
def tbX5 : Tb := ([(14, 5, 2, 2), (20, 5, 3, 2), (23, 5, 0, 0), (31, 5, 1, 0)], [(11, 2, mX2_init), (27, 0, mX2_heldOn), (34, 0, mX2_clear), (37, 0, mX2_becomeLike)], [], [(9, 2)], [3], [])
theorem tfX5_14 : ∃ wi, fxCk RX5 (14, 5, 2, 2) wi = true := ⟨417, by decide +kernel⟩
theorem tfX5_20 : ∃ wi, fxCk RX5 (20, 5, 3, 2) wi = true := ⟨419, by decide +kernel⟩
theorem tfX5_23 : ∃ wi, fxCk RX5 (23, 5, 0, 0) wi = true := ⟨413, by decide +kernel⟩
theorem tfX5_31 : ∃ wi, fxCk RX5 (31, 5, 1, 0) wi = true := ⟨415, by decide +kernel⟩
theorem tcX5_11 : ∃ ws, (if (2 : Nat) = 4 then pCk RX5 11 ws else cCk RX5 11 2 mX2_init ws) = true := ⟨[403, 92, 401, 402], by rw [if_neg (by decide)]; decide +kernel⟩
theorem tcX5_27 : ∃ ws, (if (0 : Nat) = 4 then pCk RX5 27 ws else cCk RX5 27 0 mX2_heldOn ws) = true := ⟨[957, 92, 954, 955, 956], by rw [if_neg (by decide)]; decide +kernel⟩
theorem tcX5_34 : ∃ ws, (if (0 : Nat) = 4 then pCk RX5 34 ws else cCk RX5 34 0 mX2_clear ws) = true := ⟨[645, 92, 642, 643, 644], by rw [if_neg (by decide)]; decide +kernel⟩
theorem tcX5_37 : ∃ ws, (if (0 : Nat) = 4 then pCk RX5 37 ws else cCk RX5 37 0 mX2_becomeLike ws) = true := ⟨[1031, 92, 1028, 1029, 1030], by rw [if_neg (by decide)]; decide +kernel⟩
theorem tnX5_9 : ∃ ws, nCk RX5 9 2 ws = true := ⟨[399, 400, 92], by decide +kernel⟩
theorem toX5_3 : ∃ ws, oCk RX5 3 ws = true := ⟨[398, 108, 109], by decide +kernel⟩
theorem tbX5_ok : tbOK RX5 tbX5 := tbOK_of (List.forall_mem_cons.mpr ⟨tfX5_14, (List.forall_mem_cons.mpr ⟨tfX5_20, (List.forall_mem_cons.mpr ⟨tfX5_23, (List.forall_mem_cons.mpr ⟨tfX5_31, (fun _ h => absurd h List.not_mem_nil)⟩)⟩)⟩)⟩) (List.forall_mem_cons.mpr ⟨tcX5_11, (List.forall_mem_cons.mpr ⟨tcX5_27, (List.forall_mem_cons.mpr ⟨tcX5_34, (List.forall_mem_cons.mpr ⟨tcX5_37, (fun _ h => absurd h List.not_mem_nil)⟩)⟩)⟩)⟩) (fun _ h => absurd h List.not_mem_nil) (List.forall_mem_cons.mpr ⟨tnX5_9, (fun _ h => absurd h List.not_mem_nil)⟩) (List.forall_mem_cons.mpr ⟨toX5_3, (fun _ h => absurd h List.not_mem_nil)⟩)
def tbX6 : Tb := ([(12, 6, 0, 2), (18, 6, 1, 0)], [(11, 3, mX5_init), (22, 0, mX5_beginAnew), (25, 0, mX5_becomeLike)], [], [(9, 5), (100009, 26)], [3], [])
theorem tfX6_12 : ∃ wi, fxCk RX6 (12, 6, 0, 2) wi = true := ⟨430, by decide +kernel⟩
theorem tfX6_18 : ∃ wi, fxCk RX6 (18, 6, 1, 0) wi = true := ⟨432, by decide +kernel⟩
theorem tcX6_11 : ∃ ws, (if (3 : Nat) = 4 then pCk RX6 11 ws else cCk RX6 11 3 mX5_init ws) = true := ⟨[397, 91, 0, 396], by rw [if_neg (by decide)]; decide +kernel⟩
theorem tcX6_22 : ∃ ws, (if (0 : Nat) = 4 then pCk RX6 22 ws else cCk RX6 22 0 mX5_beginAnew ws) = true := ⟨[641, 91, 638, 639, 640], by rw [if_neg (by decide)]; decide +kernel⟩
theorem tcX6_25 : ∃ ws, (if (0 : Nat) = 4 then pCk RX6 25 ws else cCk RX6 25 0 mX5_becomeLike ws) = true := ⟨[1027, 91, 1024, 1025, 1026], by rw [if_neg (by decide)]; decide +kernel⟩
theorem tnX6_9 : ∃ ws, nCk RX6 9 5 ws = true := ⟨[392, 394, 91], by decide +kernel⟩
theorem tnX6_100009 : ∃ ws, nCk RX6 100009 26 ws = true := ⟨[392], by decide +kernel⟩
theorem toX6_3 : ∃ ws, oCk RX6 3 ws = true := ⟨[391, 108, 109], by decide +kernel⟩
theorem tbX6_ok : tbOK RX6 tbX6 := tbOK_of (List.forall_mem_cons.mpr ⟨tfX6_12, (List.forall_mem_cons.mpr ⟨tfX6_18, (fun _ h => absurd h List.not_mem_nil)⟩)⟩) (List.forall_mem_cons.mpr ⟨tcX6_11, (List.forall_mem_cons.mpr ⟨tcX6_22, (List.forall_mem_cons.mpr ⟨tcX6_25, (fun _ h => absurd h List.not_mem_nil)⟩)⟩)⟩) (fun _ h => absurd h List.not_mem_nil) (List.forall_mem_cons.mpr ⟨tnX6_9, (List.forall_mem_cons.mpr ⟨tnX6_100009, (fun _ h => absurd h List.not_mem_nil)⟩)⟩) (List.forall_mem_cons.mpr ⟨toX6_3, (fun _ h => absurd h List.not_mem_nil)⟩)
def tbX7 : Tb := ([(9, 7, 0, 2), (15, 7, 1, 0), (19, 10, 1, 0), (22, 7, 3, 0), (25, 10, 0, 2)], [], [], [], [3], [])
theorem tfX7_9 : ∃ wi, fxCk RX7 (9, 7, 0, 2) wi = true := ⟨194, by decide +kernel⟩
theorem tfX7_15 : ∃ wi, fxCk RX7 (15, 7, 1, 0) wi = true := ⟨198, by decide +kernel⟩
theorem tfX7_19 : ∃ wi, fxCk RX7 (19, 10, 1, 0) wi = true := ⟨232, by decide +kernel⟩
theorem tfX7_22 : ∃ wi, fxCk RX7 (22, 7, 3, 0) wi = true := ⟨209, by decide +kernel⟩
theorem tfX7_25 : ∃ wi, fxCk RX7 (25, 10, 0, 2) wi = true := ⟨228, by decide +kernel⟩
theorem toX7_3 : ∃ ws, oCk RX7 3 ws = true := ⟨[193, 108, 109], by decide +kernel⟩
theorem tbX7_ok : tbOK RX7 tbX7 := tbOK_of (List.forall_mem_cons.mpr ⟨tfX7_9, (List.forall_mem_cons.mpr ⟨tfX7_15, (List.forall_mem_cons.mpr ⟨tfX7_19, (List.forall_mem_cons.mpr ⟨tfX7_22, (List.forall_mem_cons.mpr ⟨tfX7_25, (fun _ h => absurd h List.not_mem_nil)⟩)⟩)⟩)⟩)⟩) (fun _ h => absurd h List.not_mem_nil) (fun _ h => absurd h List.not_mem_nil) (fun _ h => absurd h List.not_mem_nil) (List.forall_mem_cons.mpr ⟨toX7_3, (fun _ h => absurd h List.not_mem_nil)⟩)
def tbX8 : Tb := ([(9, 8, 0, 2), (15, 8, 1, 0), (19, 8, 2, 0), (22, 10, 1, 0), (27, 10, 4, 2), (34, 4, 0, 2), (39, 7, 2, 0), (44, 7, 1, 0), (51, 8, 3, 4), (55, 10, 2, 2), (56, 10, 3, 0), (63, 8, 4, 4), (66, 4, 1, 0)], [(30, 1, mX8_longest), (45, 1, mJ9_max_7cf53), (59, 6, mX11_areAlike)], [], [], [3], [])
theorem tfX8_9 : ∃ wi, fxCk RX8 (9, 8, 0, 2) wi = true := ⟨164, by decide +kernel⟩
theorem tfX8_15 : ∃ wi, fxCk RX8 (15, 8, 1, 0) wi = true := ⟨167, by decide +kernel⟩
theorem tfX8_19 : ∃ wi, fxCk RX8 (19, 8, 2, 0) wi = true := ⟨170, by decide +kernel⟩
theorem tfX8_22 : ∃ wi, fxCk RX8 (22, 10, 1, 0) wi = true := ⟨233, by decide +kernel⟩
theorem tfX8_27 : ∃ wi, fxCk RX8 (27, 10, 4, 2) wi = true := ⟨253, by decide +kernel⟩
theorem tfX8_34 : ∃ wi, fxCk RX8 (34, 4, 0, 2) wi = true := ⟨273, by decide +kernel⟩
theorem tfX8_39 : ∃ wi, fxCk RX8 (39, 7, 2, 0) wi = true := ⟨204, by decide +kernel⟩
theorem tfX8_44 : ∃ wi, fxCk RX8 (44, 7, 1, 0) wi = true := ⟨199, by decide +kernel⟩
theorem tfX8_51 : ∃ wi, fxCk RX8 (51, 8, 3, 4) wi = true := ⟨172, by decide +kernel⟩
theorem tfX8_55 : ∃ wi, fxCk RX8 (55, 10, 2, 2) wi = true := ⟨240, by decide +kernel⟩
theorem tfX8_56 : ∃ wi, fxCk RX8 (56, 10, 3, 0) wi = true := ⟨247, by decide +kernel⟩
theorem tfX8_63 : ∃ wi, fxCk RX8 (63, 8, 4, 4) wi = true := ⟨174, by decide +kernel⟩
theorem tfX8_66 : ∃ wi, fxCk RX8 (66, 4, 1, 0) wi = true := ⟨279, by decide +kernel⟩
theorem tcX8_30 : ∃ ws, (if (1 : Nat) = 4 then pCk RX8 30 ws else cCk RX8 30 1 mX8_longest ws) = true := ⟨[745, 84, 743, 744], by rw [if_neg (by decide)]; decide +kernel⟩
theorem tcX8_45 : ∃ ws, (if (1 : Nat) = 4 then pCk RX8 45 ws else cCk RX8 45 1 mJ9_max_7cf53 ws) = true := ⟨[748, 98, 746, 747], by rw [if_neg (by decide)]; decide +kernel⟩
theorem tcX8_59 : ∃ ws, (if (6 : Nat) = 4 then pCk RX8 59 ws else cCk RX8 59 6 mX11_areAlike ws) = true := ⟨[751, 81, 0, 750], by rw [if_neg (by decide)]; decide +kernel⟩
theorem toX8_3 : ∃ ws, oCk RX8 3 ws = true := ⟨[163, 108, 109], by decide +kernel⟩
theorem tbX8_ok : tbOK RX8 tbX8 := tbOK_of (List.forall_mem_cons.mpr ⟨tfX8_9, (List.forall_mem_cons.mpr ⟨tfX8_15, (List.forall_mem_cons.mpr ⟨tfX8_19, (List.forall_mem_cons.mpr ⟨tfX8_22, (List.forall_mem_cons.mpr ⟨tfX8_27, (List.forall_mem_cons.mpr ⟨tfX8_34, (List.forall_mem_cons.mpr ⟨tfX8_39, (List.forall_mem_cons.mpr ⟨tfX8_44, (List.forall_mem_cons.mpr ⟨tfX8_51, (List.forall_mem_cons.mpr ⟨tfX8_55, (List.forall_mem_cons.mpr ⟨tfX8_56, (List.forall_mem_cons.mpr ⟨tfX8_63, (List.forall_mem_cons.mpr ⟨tfX8_66, (fun _ h => absurd h List.not_mem_nil)⟩)⟩)⟩)⟩)⟩)⟩)⟩)⟩)⟩)⟩)⟩)⟩)⟩) (List.forall_mem_cons.mpr ⟨tcX8_30, (List.forall_mem_cons.mpr ⟨tcX8_45, (List.forall_mem_cons.mpr ⟨tcX8_59, (fun _ h => absurd h List.not_mem_nil)⟩)⟩)⟩) (fun _ h => absurd h List.not_mem_nil) (fun _ h => absurd h List.not_mem_nil) (List.forall_mem_cons.mpr ⟨toX8_3, (fun _ h => absurd h List.not_mem_nil)⟩)
def tbX9 : Tb := ([(9, 9, 0, 2), (15, 9, 1, 0), (19, 9, 2, 4), (23, 10, 3, 0), (32, 4, 0, 2), (42, 10, 0, 2), (43, 10, 1, 0), (50, 4, 1, 0), (53, 7, 3, 0), (58, 7, 2, 0), (61, 10, 2, 2), (64, 7, 1, 0), (65, 7, 0, 2)], [(28, 1, mX9_firstFor), (38, 0, mX9_append), (46, 6, mX11_areAlike)], [], [], [3], [])
theorem tfX9_9 : ∃ wi, fxCk RX9 (9, 9, 0, 2) wi = true := ⟨354, by decide +kernel⟩
theorem tfX9_15 : ∃ wi, fxCk RX9 (15, 9, 1, 0) wi = true := ⟨356, by decide +kernel⟩
theorem tfX9_19 : ∃ wi, fxCk RX9 (19, 9, 2, 4) wi = true := ⟨358, by decide +kernel⟩
theorem tfX9_23 : ∃ wi, fxCk RX9 (23, 10, 3, 0) wi = true := ⟨246, by decide +kernel⟩
theorem tfX9_32 : ∃ wi, fxCk RX9 (32, 4, 0, 2) wi = true := ⟨272, by decide +kernel⟩
theorem tfX9_42 : ∃ wi, fxCk RX9 (42, 10, 0, 2) wi = true := ⟨229, by decide +kernel⟩
theorem tfX9_43 : ∃ wi, fxCk RX9 (43, 10, 1, 0) wi = true := ⟨234, by decide +kernel⟩
theorem tfX9_50 : ∃ wi, fxCk RX9 (50, 4, 1, 0) wi = true := ⟨278, by decide +kernel⟩
theorem tfX9_53 : ∃ wi, fxCk RX9 (53, 7, 3, 0) wi = true := ⟨210, by decide +kernel⟩
theorem tfX9_58 : ∃ wi, fxCk RX9 (58, 7, 2, 0) wi = true := ⟨205, by decide +kernel⟩
theorem tfX9_61 : ∃ wi, fxCk RX9 (61, 10, 2, 2) wi = true := ⟨241, by decide +kernel⟩
theorem tfX9_64 : ∃ wi, fxCk RX9 (64, 7, 1, 0) wi = true := ⟨201, by decide +kernel⟩
theorem tfX9_65 : ∃ wi, fxCk RX9 (65, 7, 0, 2) wi = true := ⟨195, by decide +kernel⟩
theorem tcX9_28 : ∃ ws, (if (1 : Nat) = 4 then pCk RX9 28 ws else cCk RX9 28 1 mX9_firstFor ws) = true := ⟨[765, 88, 763, 764], by rw [if_neg (by decide)]; decide +kernel⟩
theorem tcX9_38 : ∃ ws, (if (0 : Nat) = 4 then pCk RX9 38 ws else cCk RX9 38 0 mX9_append ws) = true := ⟨[769, 88, 766, 768, 25], by rw [if_neg (by decide)]; decide +kernel⟩
theorem tcX9_46 : ∃ ws, (if (6 : Nat) = 4 then pCk RX9 46 ws else cCk RX9 46 6 mX11_areAlike ws) = true := ⟨[751, 81, 0, 750], by rw [if_neg (by decide)]; decide +kernel⟩
theorem toX9_3 : ∃ ws, oCk RX9 3 ws = true := ⟨[353, 108, 109], by decide +kernel⟩
theorem tbX9_ok : tbOK RX9 tbX9 := tbOK_of (List.forall_mem_cons.mpr ⟨tfX9_9, (List.forall_mem_cons.mpr ⟨tfX9_15, (List.forall_mem_cons.mpr ⟨tfX9_19, (List.forall_mem_cons.mpr ⟨tfX9_23, (List.forall_mem_cons.mpr ⟨tfX9_32, (List.forall_mem_cons.mpr ⟨tfX9_42, (List.forall_mem_cons.mpr ⟨tfX9_43, (List.forall_mem_cons.mpr ⟨tfX9_50, (List.forall_mem_cons.mpr ⟨tfX9_53, (List.forall_mem_cons.mpr ⟨tfX9_58, (List.forall_mem_cons.mpr ⟨tfX9_61, (List.forall_mem_cons.mpr ⟨tfX9_64, (List.forall_mem_cons.mpr ⟨tfX9_65, (fun _ h => absurd h List.not_mem_nil)⟩)⟩)⟩)⟩)⟩)⟩)⟩)⟩)⟩)⟩)⟩)⟩)⟩) (List.forall_mem_cons.mpr ⟨tcX9_28, (List.forall_mem_cons.mpr ⟨tcX9_38, (List.forall_mem_cons.mpr ⟨tcX9_46, (fun _ h => absurd h List.not_mem_nil)⟩)⟩)⟩) (fun _ h => absurd h List.not_mem_nil) (fun _ h => absurd h List.not_mem_nil) (List.forall_mem_cons.mpr ⟨toX9_3, (fun _ h => absurd h List.not_mem_nil)⟩)
def tbX10 : Tb := ([(9, 10, 0, 2), (15, 10, 2, 2), (18, 10, 4, 2)], [], [], [], [3], [])
theorem tfX10_9 : ∃ wi, fxCk RX10 (9, 10, 0, 2) wi = true := ⟨227, by decide +kernel⟩
theorem tfX10_15 : ∃ wi, fxCk RX10 (15, 10, 2, 2) wi = true := ⟨239, by decide +kernel⟩
theorem tfX10_18 : ∃ wi, fxCk RX10 (18, 10, 4, 2) wi = true := ⟨252, by decide +kernel⟩
theorem toX10_3 : ∃ ws, oCk RX10 3 ws = true := ⟨[226, 108, 109], by decide +kernel⟩
theorem tbX10_ok : tbOK RX10 tbX10 := tbOK_of (List.forall_mem_cons.mpr ⟨tfX10_9, (List.forall_mem_cons.mpr ⟨tfX10_15, (List.forall_mem_cons.mpr ⟨tfX10_18, (fun _ h => absurd h List.not_mem_nil)⟩)⟩)⟩) (fun _ h => absurd h List.not_mem_nil) (fun _ h => absurd h List.not_mem_nil) (fun _ h => absurd h List.not_mem_nil) (List.forall_mem_cons.mpr ⟨toX10_3, (fun _ h => absurd h List.not_mem_nil)⟩)
def tbJ6 : Tb := ([], [], [(265, .int (1431655765)), (266, .int (858993459)), (267, .int (252645135))], [], [], [])
theorem tkJ6_265 : ∃ wi, kCk RJ6 265 (.int (1431655765)) wi = true := ⟨833, by decide +kernel⟩
theorem tkJ6_266 : ∃ wi, kCk RJ6 266 (.int (858993459)) wi = true := ⟨834, by decide +kernel⟩
theorem tkJ6_267 : ∃ wi, kCk RJ6 267 (.int (252645135)) wi = true := ⟨835, by decide +kernel⟩
theorem tbJ6_ok : tbOK RJ6 tbJ6 := tbOK_of (fun _ h => absurd h List.not_mem_nil) (fun _ h => absurd h List.not_mem_nil) (List.forall_mem_cons.mpr ⟨tkJ6_265, (List.forall_mem_cons.mpr ⟨tkJ6_266, (List.forall_mem_cons.mpr ⟨tkJ6_267, (fun _ h => absurd h List.not_mem_nil)⟩)⟩)⟩) (fun _ h => absurd h List.not_mem_nil) (fun _ h => absurd h List.not_mem_nil)
def tbJ9 : Tb := ([], [], [], [], [], [])
theorem tbJ9_ok : tbOK RJ9 tbJ9 := tbOK_of (fun _ h => absurd h List.not_mem_nil) (fun _ h => absurd h List.not_mem_nil) (fun _ h => absurd h List.not_mem_nil) (fun _ h => absurd h List.not_mem_nil) (fun _ h => absurd h List.not_mem_nil)
def tbJ7 : Tb := ([], [], [], [], [], [])
theorem tbJ7_ok : tbOK RJ7 tbJ7 := tbOK_of (fun _ h => absurd h List.not_mem_nil) (fun _ h => absurd h List.not_mem_nil) (fun _ h => absurd h List.not_mem_nil) (fun _ h => absurd h List.not_mem_nil) (fun _ h => absurd h List.not_mem_nil)
def tbJ0 : Tb := ([(9, 99, 0, 7), (15, 99, 0, 8), (38, 99, 0, 9), (1053, 99, 0, 10)], [(335, 5, mJ0_coder_7d493), (492, 5, mJ0_isLatin1_aae02), (495, 1, mJ1_charAt_3b067), (1059, 1, mJ3_checkIndex_8e157)], [], [], [], [])
theorem tfJ0_9 : ∃ wi, fxCk RJ0 (9, 99, 0, 7) wi = true := ⟨1553, by decide +kernel⟩
theorem tfJ0_15 : ∃ wi, fxCk RJ0 (15, 99, 0, 8) wi = true := ⟨1554, by decide +kernel⟩
theorem tfJ0_38 : ∃ wi, fxCk RJ0 (38, 99, 0, 9) wi = true := ⟨516, by decide +kernel⟩
theorem tfJ0_1053 : ∃ wi, fxCk RJ0 (1053, 99, 0, 10) wi = true := ⟨532, by decide +kernel⟩
theorem tcJ0_335 : ∃ ws, (if (5 : Nat) = 4 then pCk RJ0 335 ws else cCk RJ0 335 5 mJ0_coder_7d493 ws) = true := ⟨[515, 94, 512, 513, 514], by rw [if_neg (by decide)]; decide +kernel⟩
theorem tcJ0_492 : ∃ ws, (if (5 : Nat) = 4 then pCk RJ0 492 ws else cCk RJ0 492 5 mJ0_isLatin1_aae02 ws) = true := ⟨[525, 94, 522, 523, 524], by rw [if_neg (by decide)]; decide +kernel⟩
theorem tcJ0_495 : ∃ ws, (if (1 : Nat) = 4 then pCk RJ0 495 ws else cCk RJ0 495 1 mJ1_charAt_3b067 ws) = true := ⟨[528, 95, 526, 527], by rw [if_neg (by decide)]; decide +kernel⟩
theorem tcJ0_1059 : ∃ ws, (if (1 : Nat) = 4 then pCk RJ0 1059 ws else cCk RJ0 1059 1 mJ3_checkIndex_8e157 ws) = true := ⟨[536, 96, 534, 535], by rw [if_neg (by decide)]; decide +kernel⟩
theorem tbJ0_ok : tbOK RJ0 tbJ0 := tbOK_of (List.forall_mem_cons.mpr ⟨tfJ0_9, (List.forall_mem_cons.mpr ⟨tfJ0_15, (List.forall_mem_cons.mpr ⟨tfJ0_38, (List.forall_mem_cons.mpr ⟨tfJ0_1053, (fun _ h => absurd h List.not_mem_nil)⟩)⟩)⟩)⟩) (List.forall_mem_cons.mpr ⟨tcJ0_335, (List.forall_mem_cons.mpr ⟨tcJ0_492, (List.forall_mem_cons.mpr ⟨tcJ0_495, (List.forall_mem_cons.mpr ⟨tcJ0_1059, (fun _ h => absurd h List.not_mem_nil)⟩)⟩)⟩)⟩) (fun _ h => absurd h List.not_mem_nil) (fun _ h => absurd h List.not_mem_nil) (fun _ h => absurd h List.not_mem_nil)
def tbJ1 : Tb := ([], [(9, 1, mJ0_checkIndex_df160)], [], [], [], [])
theorem tcJ1_9 : ∃ ws, (if (1 : Nat) = 4 then pCk RJ1 9 ws else cCk RJ1 9 1 mJ0_checkIndex_df160 ws) = true := ⟨[531, 94, 529, 530], by rw [if_neg (by decide)]; decide +kernel⟩
theorem tbJ1_ok : tbOK RJ1 tbJ1 := tbOK_of (fun _ h => absurd h List.not_mem_nil) (List.forall_mem_cons.mpr ⟨tcJ1_9, (fun _ h => absurd h List.not_mem_nil)⟩) (fun _ h => absurd h List.not_mem_nil) (fun _ h => absurd h List.not_mem_nil) (fun _ h => absurd h List.not_mem_nil)
def tbJ3 : Tb := ([], [], [], [], [], [])
theorem tbJ3_ok : tbOK RJ3 tbJ3 := tbOK_of (fun _ h => absurd h List.not_mem_nil) (fun _ h => absurd h List.not_mem_nil) (fun _ h => absurd h List.not_mem_nil) (fun _ h => absurd h List.not_mem_nil) (fun _ h => absurd h List.not_mem_nil)
end
section
/-! the reference: instructions, what literal cells are -/
theorem ok_390 {w : Wd} (hw : RunW w) : okO w 390 12 := okL hw (by decide) (by decide +kernel)
theorem ok_391 {w : Wd} (hw : RunW w) : okO w 391 20 := okL hw (by decide) (by decide +kernel)
theorem ok_392 {w : Wd} (hw : RunW w) : okO w 392 20 := okL hw (by decide) (by decide +kernel)
theorem ok_393 {w : Wd} (hw : RunW w) : okO w 393 20 := okL hw (by decide) (by decide +kernel)
theorem ok_394 {w : Wd} (hw : RunW w) : okO w 394 20 := okL hw (by decide) (by decide +kernel)
theorem ok_395 {w : Wd} (hw : RunW w) : okO w 395 20 := okL hw (by decide) (by decide +kernel)
theorem ok_396 {w : Wd} (hw : RunW w) : okO w 396 20 := okL hw (by decide) (by decide +kernel)
theorem ok_397 {w : Wd} (hw : RunW w) : okO w 397 20 := okL hw (by decide) (by decide +kernel)
theorem ok_398 {w : Wd} (hw : RunW w) : okO w 398 20 := okL hw (by decide) (by decide +kernel)
theorem ok_399 {w : Wd} (hw : RunW w) : okO w 399 20 := okL hw (by decide) (by decide +kernel)
theorem ok_400 {w : Wd} (hw : RunW w) : okO w 400 20 := okL hw (by decide) (by decide +kernel)
theorem ok_401 {w : Wd} (hw : RunW w) : okO w 401 20 := okL hw (by decide) (by decide +kernel)
theorem ok_402 {w : Wd} (hw : RunW w) : okO w 402 20 := okL hw (by decide) (by decide +kernel)
theorem ok_403 {w : Wd} (hw : RunW w) : okO w 403 20 := okL hw (by decide) (by decide +kernel)
theorem ok_404 {w : Wd} (hw : RunW w) : okO w 404 20 := okL hw (by decide) (by decide +kernel)
theorem ok_405 {w : Wd} (hw : RunW w) : okO w 405 20 := okL hw (by decide) (by decide +kernel)
theorem ok_406 {w : Wd} (hw : RunW w) : okO w 406 20 := okL hw (by decide) (by decide +kernel)
theorem ok_407 {w : Wd} (hw : RunW w) : okO w 407 20 := okL hw (by decide) (by decide +kernel)
theorem ok_408 {w : Wd} (hw : RunW w) : okO w 408 20 := okL hw (by decide) (by decide +kernel)
theorem ok_409 {w : Wd} (hw : RunW w) : okO w 409 20 := okL hw (by decide) (by decide +kernel)
theorem ok_410 {w : Wd} (hw : RunW w) : okO w 410 20 := okL hw (by decide) (by decide +kernel)
theorem ok_411 {w : Wd} (hw : RunW w) : okO w 411 20 := okL hw (by decide) (by decide +kernel)
theorem ok_412 {w : Wd} (hw : RunW w) : okO w 412 20 := okL hw (by decide) (by decide +kernel)
theorem ok_413 {w : Wd} (hw : RunW w) : okO w 413 20 := okL hw (by decide) (by decide +kernel)
theorem ok_414 {w : Wd} (hw : RunW w) : okO w 414 20 := okL hw (by decide) (by decide +kernel)
theorem ok_415 {w : Wd} (hw : RunW w) : okO w 415 21 := okL hw (by decide) (by decide +kernel)
theorem ok_416 {w : Wd} (hw : RunW w) : okO w 416 20 := okL hw (by decide) (by decide +kernel)
theorem ok_417 {w : Wd} (hw : RunW w) : okO w 417 20 := okL hw (by decide) (by decide +kernel)
theorem ok_418 {w : Wd} (hw : RunW w) : okO w 418 20 := okL hw (by decide) (by decide +kernel)
theorem ok_419 {w : Wd} (hw : RunW w) : okO w 419 20 := okL hw (by decide) (by decide +kernel)
theorem ok_420 {w : Wd} (hw : RunW w) : okO w 420 20 := okL hw (by decide) (by decide +kernel)
theorem ok_421 {w : Wd} (hw : RunW w) : okO w 421 20 := okL hw (by decide) (by decide +kernel)
theorem ok_422 {w : Wd} (hw : RunW w) : okO w 422 20 := okL hw (by decide) (by decide +kernel)
theorem ok_423 {w : Wd} (hw : RunW w) : okO w 423 20 := okL hw (by decide) (by decide +kernel)
theorem ok_424 {w : Wd} (hw : RunW w) : okO w 424 23 := okL hw (by decide) (by decide +kernel)
theorem rf_390_1 {w : Wd} (hw : RunW w) : w.2 390 1 = some 391 := rfL_ hw (by decide +kernel)
theorem rf_390_2 {w : Wd} (hw : RunW w) : w.2 390 2 = some 392 := rfL_ hw (by decide +kernel)
theorem rf_390_3 {w : Wd} (hw : RunW w) : w.2 390 3 = some 393 := rfL_ hw (by decide +kernel)
theorem rf_390_4 {w : Wd} (hw : RunW w) : w.2 390 4 = some 394 := rfL_ hw (by decide +kernel)
theorem rf_390_6 {w : Wd} (hw : RunW w) : w.2 390 6 = some 395 := rfL_ hw (by decide +kernel)
theorem rf_390_7 {w : Wd} (hw : RunW w) : w.2 390 7 = some 396 := rfL_ hw (by decide +kernel)
theorem rf_390_8 {w : Wd} (hw : RunW w) : w.2 390 8 = some 397 := rfL_ hw (by decide +kernel)
theorem rf_390_9 {w : Wd} (hw : RunW w) : w.2 390 9 = some 398 := rfL_ hw (by decide +kernel)
theorem rf_390_11 {w : Wd} (hw : RunW w) : w.2 390 11 = some 399 := rfL_ hw (by decide +kernel)
theorem rf_390_13 {w : Wd} (hw : RunW w) : w.2 390 13 = some 400 := rfL_ hw (by decide +kernel)
theorem rf_390_14 {w : Wd} (hw : RunW w) : w.2 390 14 = some 401 := rfL_ hw (by decide +kernel)
theorem rf_390_15 {w : Wd} (hw : RunW w) : w.2 390 15 = some 402 := rfL_ hw (by decide +kernel)
theorem rf_390_16 {w : Wd} (hw : RunW w) : w.2 390 16 = some 403 := rfL_ hw (by decide +kernel)
theorem rf_390_25 {w : Wd} (hw : RunW w) : w.2 390 25 = some 404 := rfL_ hw (by decide +kernel)
theorem rf_390_26 {w : Wd} (hw : RunW w) : w.2 390 26 = some 405 := rfL_ hw (by decide +kernel)
theorem rf_390_27 {w : Wd} (hw : RunW w) : w.2 390 27 = some 406 := rfL_ hw (by decide +kernel)
theorem rf_390_28 {w : Wd} (hw : RunW w) : w.2 390 28 = some 407 := rfL_ hw (by decide +kernel)
theorem rf_390_30 {w : Wd} (hw : RunW w) : w.2 390 30 = some 408 := rfL_ hw (by decide +kernel)
theorem rf_390_31 {w : Wd} (hw : RunW w) : w.2 390 31 = some 409 := rfL_ hw (by decide +kernel)
theorem rf_390_32 {w : Wd} (hw : RunW w) : w.2 390 32 = some 410 := rfL_ hw (by decide +kernel)
theorem rf_390_33 {w : Wd} (hw : RunW w) : w.2 390 33 = some 411 := rfL_ hw (by decide +kernel)
theorem rf_390_35 {w : Wd} (hw : RunW w) : w.2 390 35 = some 412 := rfL_ hw (by decide +kernel)
theorem rf_390_37 {w : Wd} (hw : RunW w) : w.2 390 37 = some 413 := rfL_ hw (by decide +kernel)
theorem rf_390_38 {w : Wd} (hw : RunW w) : w.2 390 38 = some 414 := rfL_ hw (by decide +kernel)
theorem rf_390_40 {w : Wd} (hw : RunW w) : w.2 390 40 = some 415 := rfL_ hw (by decide +kernel)
theorem rf_390_41 {w : Wd} (hw : RunW w) : w.2 390 41 = some 416 := rfL_ hw (by decide +kernel)
theorem rf_390_45 {w : Wd} (hw : RunW w) : w.2 390 45 = some 417 := rfL_ hw (by decide +kernel)
theorem rf_390_46 {w : Wd} (hw : RunW w) : w.2 390 46 = some 418 := rfL_ hw (by decide +kernel)
theorem rf_390_48 {w : Wd} (hw : RunW w) : w.2 390 48 = some 419 := rfL_ hw (by decide +kernel)
theorem rf_390_49 {w : Wd} (hw : RunW w) : w.2 390 49 = some 420 := rfL_ hw (by decide +kernel)
theorem rf_390_50 {w : Wd} (hw : RunW w) : w.2 390 50 = some 421 := rfL_ hw (by decide +kernel)
theorem rf_390_51 {w : Wd} (hw : RunW w) : w.2 390 51 = some 422 := rfL_ hw (by decide +kernel)
theorem rf_390_53 {w : Wd} (hw : RunW w) : w.2 390 53 = some 423 := rfL_ hw (by decide +kernel)
theorem rf_390_54 {w : Wd} (hw : RunW w) : w.2 390 54 = some 424 := rfL_ hw (by decide +kernel)
theorem vi_391 {j : Int32} (h : vp_in j 20) : vp_in j (kd 391).2 := viL (by decide +kernel) h
theorem vi_392 {j : Int32} (h : vp_in j 80) : vp_in j (kd 392).2 := viL (by decide +kernel) h
theorem vi_393 {j : Int32} (h : vp_in j 20) : vp_in j (kd 393).2 := viL (by decide +kernel) h
theorem vi_394 {j : Int32} (h : vp_in j 20) : vp_in j (kd 394).2 := viL (by decide +kernel) h
theorem vi_395 {j : Int32} (h : vp_in j 24) : vp_in j (kd 395).2 := viL (by decide +kernel) h
theorem vi_396 {j : Int32} (h : vp_in j 192) : vp_in j (kd 396).2 := viL (by decide +kernel) h
theorem vi_397 {j : Int32} (h : vp_in j 24) : vp_in j (kd 397).2 := viL (by decide +kernel) h
theorem vi_398 {j : Int32} (h : vp_in j 192) : vp_in j (kd 398).2 := viL (by decide +kernel) h
theorem vi_399 {j : Int32} (h : vp_in j 21) : vp_in j (kd 399).2 := viL (by decide +kernel) h
theorem vi_400 {j : Int32} (h : vp_in j 8) : vp_in j (kd 400).2 := viL (by decide +kernel) h
theorem vi_401 {j : Int32} (h : vp_in j 128) : vp_in j (kd 401).2 := viL (by decide +kernel) h
theorem vi_402 {j : Int32} (h : vp_in j 8) : vp_in j (kd 402).2 := viL (by decide +kernel) h
theorem vi_403 {j : Int32} (h : vp_in j 600) : vp_in j (kd 403).2 := viL (by decide +kernel) h
theorem vi_404 {j : Int32} (h : vp_in j 20) : vp_in j (kd 404).2 := viL (by decide +kernel) h
theorem vi_405 {j : Int32} (h : vp_in j 80) : vp_in j (kd 405).2 := viL (by decide +kernel) h
theorem vi_406 {j : Int32} (h : vp_in j 20) : vp_in j (kd 406).2 := viL (by decide +kernel) h
theorem vi_407 {j : Int32} (h : vp_in j 20) : vp_in j (kd 407).2 := viL (by decide +kernel) h
theorem vi_408 {j : Int32} (h : vp_in j 24) : vp_in j (kd 408).2 := viL (by decide +kernel) h
theorem vi_409 {j : Int32} (h : vp_in j 192) : vp_in j (kd 409).2 := viL (by decide +kernel) h
theorem vi_410 {j : Int32} (h : vp_in j 24) : vp_in j (kd 410).2 := viL (by decide +kernel) h
theorem vi_411 {j : Int32} (h : vp_in j 192) : vp_in j (kd 411).2 := viL (by decide +kernel) h
theorem vi_412 {j : Int32} (h : vp_in j 21) : vp_in j (kd 412).2 := viL (by decide +kernel) h
theorem vi_413 {j : Int32} (h : vp_in j 8) : vp_in j (kd 413).2 := viL (by decide +kernel) h
theorem vi_414 {j : Int32} (h : vp_in j 128) : vp_in j (kd 414).2 := viL (by decide +kernel) h
theorem vi_415 {j : Int32} (h : vp_in j 81) : vp_in j (kd 415).2 := viL (by decide +kernel) h
theorem vi_416 {j : Int32} (h : vp_in j 32) : vp_in j (kd 416).2 := viL (by decide +kernel) h
theorem vi_417 {j : Int32} (h : vp_in j 32768) : vp_in j (kd 417).2 := viL (by decide +kernel) h
theorem vi_418 {j : Int32} (h : vp_in j 128) : vp_in j (kd 418).2 := viL (by decide +kernel) h
theorem vi_419 {j : Int32} (h : vp_in j 3) : vp_in j (kd 419).2 := viL (by decide +kernel) h
theorem vi_420 {j : Int32} (h : vp_in j 3) : vp_in j (kd 420).2 := viL (by decide +kernel) h
theorem vi_421 {j : Int32} (h : vp_in j 132) : vp_in j (kd 421).2 := viL (by decide +kernel) h
theorem vi_422 {j : Int32} (h : vp_in j 132) : vp_in j (kd 422).2 := viL (by decide +kernel) h
theorem vi_423 {j : Int32} (h : vp_in j 560) : vp_in j (kd 423).2 := viL (by decide +kernel) h
theorem vi_424 {j : Int32} (h : vp_in j 2) : vp_in j (kd 424).2 := viL (by decide +kernel) h
def isX12_in : Is := [(0, .lload_n 0, 1, 0, 0, 1), (1, .lload_n 2, 1, 0, 0, 2), (2, .lcmp, 1, 0, 0, 3), (3, .ifCond .lt 14, 3, 0, 17, 6), (6, .lload_n 0, 1, 0, 0, 7), (7, .lload 4, 2, 0, 0, 9), (9, .lcmp, 1, 0, 0, 10), (10, .ifCond .gt 7, 3, 0, 17, 13), (13, .iconst 1, 1, 1, 0, 14), (14, .goto 4, 3, 0, 18, 17), (17, .iconst 0, 1, 0, 0, 18), (18, .ireturn, 1, 0, 0, 19)]
def swX12_in : Sw := []
def cuX12_in : Cu := []
set_option maxRecDepth 100000 in
theorem msX12_in : msOK mX12_in isX12_in swX12_in := msOK_of (by decide +kernel)
def isX12_has : Is := [(0, .iload_n 0, 1, 0, 0, 1), (1, .iload_n 1, 1, 0, 0, 2), (2, .ishr, 1, 0, 0, 3), (3, .iconst 1, 1, 1, 0, 4), (4, .iand, 1, 0, 0, 5), (5, .iconst 1, 1, 1, 0, 6), (6, .if_icmp .ne 7, 3, 0, 13, 9), (9, .iconst 1, 1, 1, 0, 10), (10, .goto 4, 3, 0, 14, 13), (13, .iconst 0, 1, 0, 0, 14), (14, .ireturn, 1, 0, 0, 15)]
def swX12_has : Sw := []
def cuX12_has : Cu := []
set_option maxRecDepth 100000 in
theorem msX12_has : msOK mX12_has isX12_has swX12_has := msOK_of (by decide +kernel)
def isX12_bits : Is := [(0, .iconst 0, 1, 0, 0, 1), (1, .istore_n 1, 1, 0, 0, 2), (2, .iconst 0, 1, 0, 0, 3), (3, .istore_n 2, 1, 0, 0, 4), (4, .iload_n 2, 1, 0, 0, 5), (5, .bipush 24, 2, 24, 0, 7), (7, .if_icmp .ge 17, 3, 0, 24, 10), (10, .iload_n 1, 1, 0, 0, 11), (11, .iload_n 0, 1, 0, 0, 12), (12, .iload_n 2, 1, 0, 0, 13), (13, .ishr, 1, 0, 0, 14), (14, .iconst 1, 1, 1, 0, 15), (15, .iand, 1, 0, 0, 16), (16, .iadd, 1, 0, 0, 17), (17, .istore_n 1, 1, 0, 0, 18), (18, .iinc 2 1, 3, 1, 0, 21), (21, .goto (-17), 3, 0, 4, 24), (24, .iload_n 1, 1, 0, 0, 25), (25, .ireturn, 1, 0, 0, 26)]
def swX12_bits : Sw := []
def cuX12_bits : Cu := [(4, [0, 1, 2])]
set_option maxRecDepth 100000 in
theorem msX12_bits : msOK mX12_bits isX12_bits swX12_bits := msOK_of (by decide +kernel)
def isX12_feed : Is := [(0, .iload_n 1, 1, 0, 0, 1), (1, .i2l, 1, 0, 0, 2), (2, .lconst 1, 1, 0, 0, 3), (3, .ldc2_w 125, 3, 0, 0, 6), (6, .invokestatic 127, 3, 0, 0, 9), (9, .ifCond .ne 7, 3, 0, 16, 12), (12, .sipush (-1002), 3, (-1002), 0, 15), (15, .ireturn, 1, 0, 0, 16), (16, .aload_n 0, 1, 0, 0, 17), (17, .getfield 131, 3, 0, 0, 20), (20, .iload_n 1, 1, 0, 0, 21), (21, .iadd, 1, 0, 0, 22), (22, .sipush 600, 3, 600, 0, 25), (25, .if_icmp .le 7, 3, 0, 32, 28), (28, .sipush (-1004), 3, (-1004), 0, 31), (31, .ireturn, 1, 0, 0, 32), (32, .iload_n 1, 1, 0, 0, 33), (33, .iconst 1, 1, 1, 0, 34), (34, .isub, 1, 0, 0, 35), (35, .istore 4, 2, 0, 0, 37), (37, .iload 4, 2, 0, 0, 39), (39, .ifCond .lt 40, 3, 0, 79, 42), (42, .aload_n 0, 1, 0, 0, 43), (43, .getfield 46, 3, 0, 0, 46), (46, .aload_n 0, 1, 0, 0, 47), (47, .getfield 131, 3, 0, 0, 50), (50, .lload_n 2, 1, 0, 0, 51), (51, .bipush 8, 2, 8, 0, 53), (53, .iload 4, 2, 0, 0, 55), (55, .imul, 1, 0, 0, 56), (56, .lshr, 1, 0, 0, 57), (57, .ldc2_w 134, 3, 0, 0, 60), (60, .land, 1, 0, 0, 61), (61, .l2i, 1, 0, 0, 62), (62, .iastore, 1, 0, 0, 63), (63, .aload_n 0, 1, 0, 0, 64), (64, .dup, 1, 0, 0, 65), (65, .getfield 131, 3, 0, 0, 68), (68, .iconst 1, 1, 1, 0, 69), (69, .iadd, 1, 0, 0, 70), (70, .putfield 131, 3, 0, 0, 73), (73, .iinc 4 (-1), 3, (-1), 0, 76), (76, .goto (-39), 3, 0, 37, 79), (79, .aload_n 0, 1, 0, 0, 80), (80, .getfield 131, 3, 0, 0, 83), (83, .ireturn, 1, 0, 0, 84)]
def swX12_feed : Sw := []
def cuX12_feed : Cu := [(37, [0, 2, 4])]
set_option maxRecDepth 100000 in
theorem msX12_feed : msOK mX12_feed isX12_feed swX12_feed := msOK_of (by decide +kernel)
def isX12_here : Is := [(0, .aload_n 0, 1, 0, 0, 1), (1, .getfield 136, 3, 0, 0, 4), (4, .aload_n 0, 1, 0, 0, 5), (5, .getfield 131, 3, 0, 0, 8), (8, .if_icmp .ge 30, 3, 0, 38, 11), (11, .aload_n 0, 1, 0, 0, 12), (12, .getfield 46, 3, 0, 0, 15), (15, .aload_n 0, 1, 0, 0, 16), (16, .getfield 136, 3, 0, 0, 19), (19, .iaload, 1, 0, 0, 20), (20, .bipush 32, 2, 32, 0, 22), (22, .if_icmp .ne 16, 3, 0, 38, 25), (25, .aload_n 0, 1, 0, 0, 26), (26, .dup, 1, 0, 0, 27), (27, .getfield 136, 3, 0, 0, 30), (30, .iconst 1, 1, 1, 0, 31), (31, .iadd, 1, 0, 0, 32), (32, .putfield 136, 3, 0, 0, 35), (35, .goto (-35), 3, 0, 0, 38), (38, .aload_n 0, 1, 0, 0, 39), (39, .getfield 136, 3, 0, 0, 42), (42, .aload_n 0, 1, 0, 0, 43), (43, .getfield 131, 3, 0, 0, 46), (46, .if_icmp .ge 15, 3, 0, 61, 49), (49, .aload_n 0, 1, 0, 0, 50), (50, .getfield 46, 3, 0, 0, 53), (53, .aload_n 0, 1, 0, 0, 54), (54, .getfield 136, 3, 0, 0, 57), (57, .iaload, 1, 0, 0, 58), (58, .goto 4, 3, 0, 62, 61), (61, .iconst (-1), 1, (-1), 0, 62), (62, .ireturn, 1, 0, 0, 63)]
def swX12_here : Sw := []
def cuX12_here : Cu := [(0, [0])]
set_option maxRecDepth 100000 in
theorem msX12_here : msOK mX12_here isX12_here swX12_here := msOK_of (by decide +kernel)
def isX12_fails : Is := [(0, .aload_n 0, 1, 0, 0, 1), (1, .iload_n 2, 1, 0, 0, 2), (2, .putfield 49, 3, 0, 0, 5), (5, .iload_n 1, 1, 0, 0, 6), (6, .ireturn, 1, 0, 0, 7)]
def swX12_fails : Sw := []
def cuX12_fails : Cu := []
set_option maxRecDepth 100000 in
theorem msX12_fails : msOK mX12_fails isX12_fails swX12_fails := msOK_of (by decide +kernel)
def isX12_readWord : Is := [(0, .aload_n 0, 1, 0, 0, 1), (1, .invokevirtual 139, 3, 0, 0, 4), (4, .istore_n 1, 1, 0, 0, 5), (5, .aload_n 0, 1, 0, 0, 6), (6, .lconst 0, 1, 0, 0, 7), (7, .putfield 143, 3, 0, 0, 10), (10, .aload_n 0, 1, 0, 0, 11), (11, .aload_n 0, 1, 0, 0, 12), (12, .getfield 136, 3, 0, 0, 15), (15, .putfield 147, 3, 0, 0, 18), (18, .aload_n 0, 1, 0, 0, 19), (19, .getfield 147, 3, 0, 0, 22), (22, .aload_n 0, 1, 0, 0, 23), (23, .getfield 131, 3, 0, 0, 26), (26, .if_icmp .ge 82, 3, 0, 108, 29), (29, .aload_n 0, 1, 0, 0, 30), (30, .getfield 46, 3, 0, 0, 33), (33, .aload_n 0, 1, 0, 0, 34), (34, .getfield 147, 3, 0, 0, 37), (37, .iaload, 1, 0, 0, 38), (38, .i2l, 1, 0, 0, 39), (39, .ldc2_w 150, 3, 0, 0, 42), (42, .ldc2_w 152, 3, 0, 0, 45), (45, .invokestatic 127, 3, 0, 0, 48), (48, .ifCond .eq 60, 3, 0, 108, 51), (51, .aload_n 0, 1, 0, 0, 52), (52, .aload_n 0, 1, 0, 0, 53), (53, .getfield 143, 3, 0, 0, 56), (56, .ldc2_w 154, 3, 0, 0, 59), (59, .lcmp, 1, 0, 0, 60), (60, .ifCond .le 9, 3, 0, 69, 63), (63, .ldc2_w 156, 3, 0, 0, 66), (66, .goto 26, 3, 0, 92, 69), (69, .ldc2_w 158, 3, 0, 0, 72), (72, .aload_n 0, 1, 0, 0, 73), (73, .getfield 143, 3, 0, 0, 76), (76, .lmul, 1, 0, 0, 77), (77, .aload_n 0, 1, 0, 0, 78), (78, .getfield 46, 3, 0, 0, 81), (81, .aload_n 0, 1, 0, 0, 82), (82, .getfield 147, 3, 0, 0, 85), (85, .iaload, 1, 0, 0, 86), (86, .i2l, 1, 0, 0, 87), (87, .ladd, 1, 0, 0, 88), (88, .ldc2_w 160, 3, 0, 0, 91), (91, .lsub, 1, 0, 0, 92), (92, .putfield 143, 3, 0, 0, 95), (95, .aload_n 0, 1, 0, 0, 96), (96, .dup, 1, 0, 0, 97), (97, .getfield 147, 3, 0, 0, 100), (100, .iconst 1, 1, 1, 0, 101), (101, .iadd, 1, 0, 0, 102), (102, .putfield 147, 3, 0, 0, 105), (105, .goto (-87), 3, 0, 18, 108), (108, .return_, 1, 0, 0, 109)]
def swX12_readWord : Sw := []
def cuX12_readWord : Cu := [(18, [0])]
set_option maxRecDepth 100000 in
theorem msX12_readWord : msOK mX12_readWord isX12_readWord swX12_readWord := msOK_of (by decide +kernel)
def isX12_code : Is := [(0, .ldc2_w 158, 3, 0, 0, 3), (3, .ldc2_w 158, 3, 0, 0, 6), (6, .ldc2_w 158, 3, 0, 0, 9), (9, .iload_n 0, 1, 0, 0, 10), (10, .i2l, 1, 0, 0, 11), (11, .ldc2_w 160, 3, 0, 0, 14), (14, .lsub, 1, 0, 0, 15), (15, .lmul, 1, 0, 0, 16), (16, .iload_n 1, 1, 0, 0, 17), (17, .i2l, 1, 0, 0, 18), (18, .ladd, 1, 0, 0, 19), (19, .ldc2_w 160, 3, 0, 0, 22), (22, .lsub, 1, 0, 0, 23), (23, .lmul, 1, 0, 0, 24), (24, .iload_n 2, 1, 0, 0, 25), (25, .i2l, 1, 0, 0, 26), (26, .ladd, 1, 0, 0, 27), (27, .ldc2_w 160, 3, 0, 0, 30), (30, .lsub, 1, 0, 0, 31), (31, .lmul, 1, 0, 0, 32), (32, .iload_n 3, 1, 0, 0, 33), (33, .i2l, 1, 0, 0, 34), (34, .ladd, 1, 0, 0, 35), (35, .ldc2_w 160, 3, 0, 0, 38), (38, .lsub, 1, 0, 0, 39), (39, .lreturn, 1, 0, 0, 40)]
def swX12_code : Sw := []
def cuX12_code : Cu := []
set_option maxRecDepth 100000 in
theorem msX12_code : msOK mX12_code isX12_code swX12_code := msOK_of (by decide +kernel)
def isX12_longer : Is := [(0, .ldc2_w 158, 3, 0, 0, 3), (3, .lload_n 0, 1, 0, 0, 4), (4, .lmul, 1, 0, 0, 5), (5, .iload_n 2, 1, 0, 0, 6), (6, .i2l, 1, 0, 0, 7), (7, .ladd, 1, 0, 0, 8), (8, .ldc2_w 160, 3, 0, 0, 11), (11, .lsub, 1, 0, 0, 12), (12, .lreturn, 1, 0, 0, 13)]
def swX12_longer : Sw := []
def cuX12_longer : Cu := []
set_option maxRecDepth 100000 in
theorem msX12_longer : msOK mX12_longer isX12_longer swX12_longer := msOK_of (by decide +kernel)
def isX12_takeNumber : Is := [(0, .aload_n 0, 1, 0, 0, 1), (1, .invokevirtual 139, 3, 0, 0, 4), (4, .istore_n 2, 1, 0, 0, 5), (5, .iload_n 2, 1, 0, 0, 6), (6, .i2l, 1, 0, 0, 7), (7, .ldc2_w 162, 3, 0, 0, 10), (10, .ldc2_w 164, 3, 0, 0, 13), (13, .invokestatic 127, 3, 0, 0, 16), (16, .ifCond .ne 13, 3, 0, 29, 19), (19, .aload_n 0, 1, 0, 0, 20), (20, .iconst 1, 1, 1, 0, 21), (21, .aload_n 0, 1, 0, 0, 22), (22, .getfield 136, 3, 0, 0, 25), (25, .invokevirtual 166, 3, 0, 0, 28), (28, .ireturn, 1, 0, 0, 29), (29, .aload_n 0, 1, 0, 0, 30), (30, .aload_n 0, 1, 0, 0, 31), (31, .getfield 136, 3, 0, 0, 34), (34, .putfield 170, 3, 0, 0, 37), (37, .aload_n 0, 1, 0, 0, 38), (38, .iconst 0, 1, 0, 0, 39), (39, .putfield 173, 3, 0, 0, 42), (42, .aload_n 0, 1, 0, 0, 43), (43, .getfield 136, 3, 0, 0, 46), (46, .aload_n 0, 1, 0, 0, 47), (47, .getfield 131, 3, 0, 0, 50), (50, .if_icmp .ge 79, 3, 0, 129, 53), (53, .aload_n 0, 1, 0, 0, 54), (54, .getfield 46, 3, 0, 0, 57), (57, .aload_n 0, 1, 0, 0, 58), (58, .getfield 136, 3, 0, 0, 61), (61, .iaload, 1, 0, 0, 62), (62, .i2l, 1, 0, 0, 63), (63, .ldc2_w 162, 3, 0, 0, 66), (66, .ldc2_w 164, 3, 0, 0, 69), (69, .invokestatic 127, 3, 0, 0, 72), (72, .ifCond .eq 57, 3, 0, 129, 75), (75, .aload_n 0, 1, 0, 0, 76), (76, .aload_n 0, 1, 0, 0, 77), (77, .getfield 173, 3, 0, 0, 80), (80, .sipush 1000, 3, 1000, 0, 83), (83, .if_icmp .le 10, 3, 0, 93, 86), (86, .aload_n 0, 1, 0, 0, 87), (87, .getfield 173, 3, 0, 0, 90), (90, .goto 23, 3, 0, 113, 93), (93, .bipush 10, 2, 10, 0, 95), (95, .aload_n 0, 1, 0, 0, 96), (96, .getfield 173, 3, 0, 0, 99), (99, .imul, 1, 0, 0, 100), (100, .aload_n 0, 1, 0, 0, 101), (101, .getfield 46, 3, 0, 0, 104), (104, .aload_n 0, 1, 0, 0, 105), (105, .getfield 136, 3, 0, 0, 108), (108, .iaload, 1, 0, 0, 109), (109, .iadd, 1, 0, 0, 110), (110, .bipush 48, 2, 48, 0, 112), (112, .isub, 1, 0, 0, 113), (113, .putfield 173, 3, 0, 0, 116), (116, .aload_n 0, 1, 0, 0, 117), (117, .dup, 1, 0, 0, 118), (118, .getfield 136, 3, 0, 0, 121), (121, .iconst 1, 1, 1, 0, 122), (122, .iadd, 1, 0, 0, 123), (123, .putfield 136, 3, 0, 0, 126), (126, .goto (-84), 3, 0, 42, 129), (129, .aload_n 0, 1, 0, 0, 130), (130, .getfield 136, 3, 0, 0, 133), (133, .aload_n 0, 1, 0, 0, 134), (134, .getfield 170, 3, 0, 0, 137), (137, .isub, 1, 0, 0, 138), (138, .iconst 2, 1, 2, 0, 139), (139, .if_icmp .gt 11, 3, 0, 150, 142), (142, .aload_n 0, 1, 0, 0, 143), (143, .getfield 173, 3, 0, 0, 146), (146, .iload_n 1, 1, 0, 0, 147), (147, .if_icmp .le 15, 3, 0, 162, 150), (150, .aload_n 0, 1, 0, 0, 151), (151, .iconst 2, 1, 2, 0, 152), (152, .aload_n 0, 1, 0, 0, 153), (153, .getfield 170, 3, 0, 0, 156), (156, .invokevirtual 166, 3, 0, 0, 159), (159, .goto 4, 3, 0, 163, 162), (162, .iconst 0, 1, 0, 0, 163), (163, .ireturn, 1, 0, 0, 164)]
def swX12_takeNumber : Sw := []
def cuX12_takeNumber : Cu := [(42, [0, 1])]
set_option maxRecDepth 100000 in
theorem msX12_takeNumber : msOK mX12_takeNumber isX12_takeNumber swX12_takeNumber := msOK_of (by decide +kernel)
def isX12_takeSign : Is := [(0, .aload_n 0, 1, 0, 0, 1), (1, .getfield 176, 3, 0, 0, 4), (4, .bipush 20, 2, 20, 0, 6), (6, .if_icmp .ne 10, 3, 0, 16, 9), (9, .aload_n 0, 1, 0, 0, 10), (10, .iconst 3, 1, 3, 0, 11), (11, .iload_n 1, 1, 0, 0, 12), (12, .invokevirtual 166, 3, 0, 0, 15), (15, .ireturn, 1, 0, 0, 16), (16, .aload_n 0, 1, 0, 0, 17), (17, .getfield 176, 3, 0, 0, 20), (20, .istore_n 2, 1, 0, 0, 21), (21, .aload_n 0, 1, 0, 0, 22), (22, .invokevirtual 139, 3, 0, 0, 25), (25, .istore_n 3, 1, 0, 0, 26), (26, .iload_n 3, 1, 0, 0, 27), (27, .i2l, 1, 0, 0, 28), (28, .ldc2_w 150, 3, 0, 0, 31), (31, .ldc2_w 152, 3, 0, 0, 34), (34, .invokestatic 127, 3, 0, 0, 37), (37, .ifCond .ne 13, 3, 0, 50, 40), (40, .aload_n 0, 1, 0, 0, 41), (41, .iconst 1, 1, 1, 0, 42), (42, .aload_n 0, 1, 0, 0, 43), (43, .getfield 136, 3, 0, 0, 46), (46, .invokevirtual 166, 3, 0, 0, 49), (49, .ireturn, 1, 0, 0, 50), (50, .iconst 0, 1, 0, 0, 51), (51, .istore 4, 2, 0, 0, 53), (53, .aload_n 0, 1, 0, 0, 54), (54, .getfield 136, 3, 0, 0, 57), (57, .aload_n 0, 1, 0, 0, 58), (58, .getfield 131, 3, 0, 0, 61), (61, .if_icmp .ge 80, 3, 0, 141, 64), (64, .aload_n 0, 1, 0, 0, 65), (65, .getfield 46, 3, 0, 0, 68), (68, .aload_n 0, 1, 0, 0, 69), (69, .getfield 136, 3, 0, 0, 72), (72, .iaload, 1, 0, 0, 73), (73, .i2l, 1, 0, 0, 74), (74, .ldc2_w 150, 3, 0, 0, 77), (77, .ldc2_w 152, 3, 0, 0, 80), (80, .invokestatic 127, 3, 0, 0, 83), (83, .ifCond .eq 58, 3, 0, 141, 86), (86, .iload 4, 2, 0, 0, 88), (88, .iconst 4, 1, 4, 0, 89), (89, .if_icmp .ne 13, 3, 0, 102, 92), (92, .aload_n 0, 1, 0, 0, 93), (93, .iconst 4, 1, 4, 0, 94), (94, .aload_n 0, 1, 0, 0, 95), (95, .getfield 136, 3, 0, 0, 98), (98, .invokevirtual 166, 3, 0, 0, 101), (101, .ireturn, 1, 0, 0, 102), (102, .aload_n 0, 1, 0, 0, 103), (103, .getfield 56, 3, 0, 0, 106), (106, .iconst 4, 1, 4, 0, 107), (107, .iload_n 2, 1, 0, 0, 108), (108, .imul, 1, 0, 0, 109), (109, .iload 4, 2, 0, 0, 111), (111, .iadd, 1, 0, 0, 112), (112, .aload_n 0, 1, 0, 0, 113), (113, .getfield 46, 3, 0, 0, 116), (116, .aload_n 0, 1, 0, 0, 117), (117, .getfield 136, 3, 0, 0, 120), (120, .iaload, 1, 0, 0, 121), (121, .bipush 97, 2, 97, 0, 123), (123, .isub, 1, 0, 0, 124), (124, .iastore, 1, 0, 0, 125), (125, .iinc 4 1, 3, 1, 0, 128), (128, .aload_n 0, 1, 0, 0, 129), (129, .dup, 1, 0, 0, 130), (130, .getfield 136, 3, 0, 0, 133), (133, .iconst 1, 1, 1, 0, 134), (134, .iadd, 1, 0, 0, 135), (135, .putfield 136, 3, 0, 0, 138), (138, .goto (-85), 3, 0, 53, 141), (141, .aload_n 0, 1, 0, 0, 142), (142, .getfield 53, 3, 0, 0, 145), (145, .iload_n 2, 1, 0, 0, 146), (146, .iload 4, 2, 0, 0, 148), (148, .iastore, 1, 0, 0, 149), (149, .aload_n 0, 1, 0, 0, 150), (150, .getfield 59, 3, 0, 0, 153), (153, .iload_n 2, 1, 0, 0, 154), (154, .iconst (-1), 1, (-1), 0, 155), (155, .iastore, 1, 0, 0, 156), (156, .aload_n 0, 1, 0, 0, 157), (157, .invokevirtual 139, 3, 0, 0, 160), (160, .bipush 45, 2, 45, 0, 162), (162, .if_icmp .ne 16, 3, 0, 178, 165), (165, .aload_n 0, 1, 0, 0, 166), (166, .dup, 1, 0, 0, 167), (167, .getfield 136, 3, 0, 0, 170), (170, .iconst 1, 1, 1, 0, 171), (171, .iadd, 1, 0, 0, 172), (172, .putfield 136, 3, 0, 0, 175), (175, .goto 29, 3, 0, 204, 178), (178, .aload_n 0, 1, 0, 0, 179), (179, .bipush 29, 2, 29, 0, 181), (181, .invokevirtual 179, 3, 0, 0, 184), (184, .istore 5, 2, 0, 0, 186), (186, .iload 5, 2, 0, 0, 188), (188, .ifCond .le 6, 3, 0, 194, 191), (191, .iload 5, 2, 0, 0, 193), (193, .ireturn, 1, 0, 0, 194), (194, .aload_n 0, 1, 0, 0, 195), (195, .getfield 59, 3, 0, 0, 198), (198, .iload_n 2, 1, 0, 0, 199), (199, .aload_n 0, 1, 0, 0, 200), (200, .getfield 173, 3, 0, 0, 203), (203, .iastore, 1, 0, 0, 204), (204, .aload_n 0, 1, 0, 0, 205), (205, .getfield 62, 3, 0, 0, 208), (208, .iload_n 2, 1, 0, 0, 209), (209, .iconst 0, 1, 0, 0, 210), (210, .iastore, 1, 0, 0, 211), (211, .aload_n 0, 1, 0, 0, 212), (212, .invokevirtual 139, 3, 0, 0, 215), (215, .i2l, 1, 0, 0, 216), (216, .ldc2_w 150, 3, 0, 0, 219), (219, .ldc2_w 152, 3, 0, 0, 222), (222, .invokestatic 127, 3, 0, 0, 225), (225, .ifCond .eq 88, 3, 0, 313, 228), (228, .aload_n 0, 1, 0, 0, 229), (229, .invokevirtual 183, 3, 0, 0, 232), (232, .ldc2_w 186, 3, 0, 0, 235), (235, .lstore 5, 2, 0, 0, 237), (237, .aload_n 0, 1, 0, 0, 238), (238, .getfield 62, 3, 0, 0, 241), (241, .iload_n 2, 1, 0, 0, 242), (242, .aload_n 0, 1, 0, 0, 243), (243, .getfield 143, 3, 0, 0, 246), (246, .bipush 115, 2, 115, 0, 248), (248, .bipush 116, 2, 116, 0, 250), (250, .bipush 97, 2, 97, 0, 252), (252, .bipush 114, 2, 114, 0, 254), (254, .invokestatic 188, 3, 0, 0, 257), (257, .bipush 116, 2, 116, 0, 259), (259, .invokestatic 192, 3, 0, 0, 262), (262, .lcmp, 1, 0, 0, 263), (263, .ifCond .ne 7, 3, 0, 270, 266), (266, .iconst 1, 1, 1, 0, 267), (267, .goto 18, 3, 0, 285, 270), (270, .aload_n 0, 1, 0, 0, 271), (271, .getfield 143, 3, 0, 0, 274), (274, .lload 5, 2, 0, 0, 276), (276, .lcmp, 1, 0, 0, 277), (277, .ifCond .ne 7, 3, 0, 284, 280), (280, .iconst 2, 1, 2, 0, 281), (281, .goto 4, 3, 0, 285, 284), (284, .iconst 0, 1, 0, 0, 285), (285, .iastore, 1, 0, 0, 286), (286, .aload_n 0, 1, 0, 0, 287), (287, .getfield 62, 3, 0, 0, 290), (290, .iload_n 2, 1, 0, 0, 291), (291, .iaload, 1, 0, 0, 292), (292, .ifCond .ne 13, 3, 0, 305, 295), (295, .aload_n 0, 1, 0, 0, 296), (296, .iconst 1, 1, 1, 0, 297), (297, .aload_n 0, 1, 0, 0, 298), (298, .getfield 136, 3, 0, 0, 301), (301, .invokevirtual 166, 3, 0, 0, 304), (304, .ireturn, 1, 0, 0, 305), (305, .aload_n 0, 1, 0, 0, 306), (306, .aload_n 0, 1, 0, 0, 307), (307, .getfield 147, 3, 0, 0, 310), (310, .putfield 136, 3, 0, 0, 313), (313, .aload_n 0, 1, 0, 0, 314), (314, .dup, 1, 0, 0, 315), (315, .getfield 176, 3, 0, 0, 318), (318, .iconst 1, 1, 1, 0, 319), (319, .iadd, 1, 0, 0, 320), (320, .putfield 176, 3, 0, 0, 323), (323, .iconst 0, 1, 0, 0, 324), (324, .ireturn, 1, 0, 0, 325)]
def swX12_takeSign : Sw := []
def cuX12_takeSign : Cu := [(53, [0, 2, 4])]
set_option maxRecDepth 100000 in
theorem msX12_takeSign : msOK mX12_takeSign isX12_takeSign swX12_takeSign := msOK_of (by decide +kernel)
def isX12_wordOf : Is := [(0, .iconst (-1), 1, (-1), 0, 1), (1, .istore_n 3, 1, 0, 0, 2), (2, .iconst 0, 1, 0, 0, 3), (3, .istore 4, 2, 0, 0, 5), (5, .iload 4, 2, 0, 0, 7), (7, .aload_n 0, 1, 0, 0, 8), (8, .getfield 196, 3, 0, 0, 11), (11, .if_icmp .ge 98, 3, 0, 109, 14), (14, .aload_n 0, 1, 0, 0, 15), (15, .getfield 65, 3, 0, 0, 18), (18, .iload 4, 2, 0, 0, 20), (20, .iaload, 1, 0, 0, 21), (21, .iload_n 2, 1, 0, 0, 22), (22, .iload_n 1, 1, 0, 0, 23), (23, .isub, 1, 0, 0, 24), (24, .if_icmp .ne 7, 3, 0, 31, 27), (27, .iconst 1, 1, 1, 0, 28), (28, .goto 4, 3, 0, 32, 31), (31, .iconst 0, 1, 0, 0, 32), (32, .istore 5, 2, 0, 0, 34), (34, .iconst 0, 1, 0, 0, 35), (35, .istore 6, 2, 0, 0, 37), (37, .iload 6, 2, 0, 0, 39), (39, .iload_n 2, 1, 0, 0, 40), (40, .iload_n 1, 1, 0, 0, 41), (41, .isub, 1, 0, 0, 42), (42, .if_icmp .ge 49, 3, 0, 91, 45), (45, .iload 5, 2, 0, 0, 47), (47, .ifCond .eq 44, 3, 0, 91, 50), (50, .aload_n 0, 1, 0, 0, 51), (51, .getfield 68, 3, 0, 0, 54), (54, .bipush 8, 2, 8, 0, 56), (56, .iload 4, 2, 0, 0, 58), (58, .imul, 1, 0, 0, 59), (59, .iload 6, 2, 0, 0, 61), (61, .iadd, 1, 0, 0, 62), (62, .iaload, 1, 0, 0, 63), (63, .aload_n 0, 1, 0, 0, 64), (64, .getfield 46, 3, 0, 0, 67), (67, .iload_n 1, 1, 0, 0, 68), (68, .iload 6, 2, 0, 0, 70), (70, .iadd, 1, 0, 0, 71), (71, .iaload, 1, 0, 0, 72), (72, .bipush 97, 2, 97, 0, 74), (74, .isub, 1, 0, 0, 75), (75, .if_icmp .ne 7, 3, 0, 82, 78), (78, .iconst 1, 1, 1, 0, 79), (79, .goto 4, 3, 0, 83, 82), (82, .iconst 0, 1, 0, 0, 83), (83, .istore 5, 2, 0, 0, 85), (85, .iinc 6 1, 3, 1, 0, 88), (88, .goto (-51), 3, 0, 37, 91), (91, .iload 5, 2, 0, 0, 93), (93, .ifCond .eq 8, 3, 0, 101, 96), (96, .iload 4, 2, 0, 0, 98), (98, .goto 4, 3, 0, 102, 101), (101, .iload_n 3, 1, 0, 0, 102), (102, .istore_n 3, 1, 0, 0, 103), (103, .iinc 4 1, 3, 1, 0, 106), (106, .goto (-101), 3, 0, 5, 109), (109, .iload_n 3, 1, 0, 0, 110), (110, .ireturn, 1, 0, 0, 111)]
def swX12_wordOf : Sw := []
def cuX12_wordOf : Cu := [(5, [0, 1, 2, 3, 4]), (37, [0, 1, 2, 3, 4, 5, 6])]
set_option maxRecDepth 100000 in
theorem msX12_wordOf : msOK mX12_wordOf isX12_wordOf swX12_wordOf := msOK_of (by decide +kernel)
def isX12_takeWord : Is := [(0, .aload_n 0, 1, 0, 0, 1), (1, .getfield 196, 3, 0, 0, 4), (4, .bipush 24, 2, 24, 0, 6), (6, .if_icmp .ne 10, 3, 0, 16, 9), (9, .aload_n 0, 1, 0, 0, 10), (10, .iconst 3, 1, 3, 0, 11), (11, .iload_n 1, 1, 0, 0, 12), (12, .invokevirtual 166, 3, 0, 0, 15), (15, .ireturn, 1, 0, 0, 16), (16, .aload_n 0, 1, 0, 0, 17), (17, .invokevirtual 183, 3, 0, 0, 20), (20, .aload_n 0, 1, 0, 0, 21), (21, .getfield 136, 3, 0, 0, 24), (24, .istore_n 2, 1, 0, 0, 25), (25, .aload_n 0, 1, 0, 0, 26), (26, .getfield 147, 3, 0, 0, 29), (29, .iload_n 2, 1, 0, 0, 30), (30, .if_icmp .ne 10, 3, 0, 40, 33), (33, .aload_n 0, 1, 0, 0, 34), (34, .iconst 1, 1, 1, 0, 35), (35, .iload_n 2, 1, 0, 0, 36), (36, .invokevirtual 166, 3, 0, 0, 39), (39, .ireturn, 1, 0, 0, 40), (40, .aload_n 0, 1, 0, 0, 41), (41, .iload_n 2, 1, 0, 0, 42), (42, .aload_n 0, 1, 0, 0, 43), (43, .getfield 147, 3, 0, 0, 46), (46, .invokevirtual 199, 3, 0, 0, 49), (49, .ifCond .lt 10, 3, 0, 59, 52), (52, .aload_n 0, 1, 0, 0, 53), (53, .iconst 5, 1, 5, 0, 54), (54, .iload_n 2, 1, 0, 0, 55), (55, .invokevirtual 166, 3, 0, 0, 58), (58, .ireturn, 1, 0, 0, 59), (59, .aload_n 0, 1, 0, 0, 60), (60, .getfield 147, 3, 0, 0, 63), (63, .iload_n 2, 1, 0, 0, 64), (64, .isub, 1, 0, 0, 65), (65, .bipush 8, 2, 8, 0, 67), (67, .if_icmp .le 13, 3, 0, 80, 70), (70, .aload_n 0, 1, 0, 0, 71), (71, .iconst 4, 1, 4, 0, 72), (72, .iload_n 2, 1, 0, 0, 73), (73, .bipush 8, 2, 8, 0, 75), (75, .iadd, 1, 0, 0, 76), (76, .invokevirtual 166, 3, 0, 0, 79), (79, .ireturn, 1, 0, 0, 80), (80, .aload_n 0, 1, 0, 0, 81), (81, .getfield 196, 3, 0, 0, 84), (84, .istore_n 3, 1, 0, 0, 85), (85, .aload_n 0, 1, 0, 0, 86), (86, .getfield 65, 3, 0, 0, 89), (89, .iload_n 3, 1, 0, 0, 90), (90, .aload_n 0, 1, 0, 0, 91), (91, .getfield 147, 3, 0, 0, 94), (94, .iload_n 2, 1, 0, 0, 95), (95, .isub, 1, 0, 0, 96), (96, .iastore, 1, 0, 0, 97), (97, .iconst 0, 1, 0, 0, 98), (98, .istore 4, 2, 0, 0, 100), (100, .iload 4, 2, 0, 0, 102), (102, .aload_n 0, 1, 0, 0, 103), (103, .getfield 65, 3, 0, 0, 106), (106, .iload_n 3, 1, 0, 0, 107), (107, .iaload, 1, 0, 0, 108), (108, .if_icmp .ge 33, 3, 0, 141, 111), (111, .aload_n 0, 1, 0, 0, 112), (112, .getfield 68, 3, 0, 0, 115), (115, .bipush 8, 2, 8, 0, 117), (117, .iload_n 3, 1, 0, 0, 118), (118, .imul, 1, 0, 0, 119), (119, .iload 4, 2, 0, 0, 121), (121, .iadd, 1, 0, 0, 122), (122, .aload_n 0, 1, 0, 0, 123), (123, .getfield 46, 3, 0, 0, 126), (126, .iload_n 2, 1, 0, 0, 127), (127, .iload 4, 2, 0, 0, 129), (129, .iadd, 1, 0, 0, 130), (130, .iaload, 1, 0, 0, 131), (131, .bipush 97, 2, 97, 0, 133), (133, .isub, 1, 0, 0, 134), (134, .iastore, 1, 0, 0, 135), (135, .iinc 4 1, 3, 1, 0, 138), (138, .goto (-38), 3, 0, 100, 141), (141, .aload_n 0, 1, 0, 0, 142), (142, .aload_n 0, 1, 0, 0, 143), (143, .getfield 147, 3, 0, 0, 146), (146, .putfield 136, 3, 0, 0, 149), (149, .aload_n 0, 1, 0, 0, 150), (150, .getfield 71, 3, 0, 0, 153), (153, .iload_n 3, 1, 0, 0, 154), (154, .iconst 0, 1, 0, 0, 155), (155, .iastore, 1, 0, 0, 156), (156, .iconst 1, 1, 1, 0, 157), (157, .istore 4, 2, 0, 0, 159), (159, .iload 4, 2, 0, 0, 161), (161, .ifCond .eq 89, 3, 0, 250, 164), (164, .aload_n 0, 1, 0, 0, 165), (165, .bipush 29, 2, 29, 0, 167), (167, .invokevirtual 179, 3, 0, 0, 170), (170, .istore 5, 2, 0, 0, 172), (172, .iload 5, 2, 0, 0, 174), (174, .ifCond .le 6, 3, 0, 180, 177), (177, .iload 5, 2, 0, 0, 179), (179, .ireturn, 1, 0, 0, 180), (180, .aload_n 0, 1, 0, 0, 181), (181, .getfield 71, 3, 0, 0, 184), (184, .iload_n 3, 1, 0, 0, 185), (185, .iaload, 1, 0, 0, 186), (186, .bipush 8, 2, 8, 0, 188), (188, .if_icmp .ne 13, 3, 0, 201, 191), (191, .aload_n 0, 1, 0, 0, 192), (192, .iconst 4, 1, 4, 0, 193), (193, .aload_n 0, 1, 0, 0, 194), (194, .getfield 170, 3, 0, 0, 197), (197, .invokevirtual 166, 3, 0, 0, 200), (200, .ireturn, 1, 0, 0, 201), (201, .aload_n 0, 1, 0, 0, 202), (202, .getfield 74, 3, 0, 0, 205), (205, .bipush 8, 2, 8, 0, 207), (207, .iload_n 3, 1, 0, 0, 208), (208, .imul, 1, 0, 0, 209), (209, .aload_n 0, 1, 0, 0, 210), (210, .getfield 71, 3, 0, 0, 213), (213, .iload_n 3, 1, 0, 0, 214), (214, .iaload, 1, 0, 0, 215), (215, .iadd, 1, 0, 0, 216), (216, .aload_n 0, 1, 0, 0, 217), (217, .getfield 173, 3, 0, 0, 220), (220, .iastore, 1, 0, 0, 221), (221, .aload_n 0, 1, 0, 0, 222), (222, .getfield 71, 3, 0, 0, 225), (225, .iload_n 3, 1, 0, 0, 226), (226, .dup2, 1, 0, 0, 227), (227, .iaload, 1, 0, 0, 228), (228, .iconst 1, 1, 1, 0, 229), (229, .iadd, 1, 0, 0, 230), (230, .iastore, 1, 0, 0, 231), (231, .aload_n 0, 1, 0, 0, 232), (232, .invokevirtual 139, 3, 0, 0, 235), (235, .i2l, 1, 0, 0, 236), (236, .ldc2_w 162, 3, 0, 0, 239), (239, .ldc2_w 164, 3, 0, 0, 242), (242, .invokestatic 127, 3, 0, 0, 245), (245, .istore 4, 2, 0, 0, 247), (247, .goto (-88), 3, 0, 159, 250), (250, .aload_n 0, 1, 0, 0, 251), (251, .dup, 1, 0, 0, 252), (252, .getfield 196, 3, 0, 0, 255), (255, .iconst 1, 1, 1, 0, 256), (256, .iadd, 1, 0, 0, 257), (257, .putfield 196, 3, 0, 0, 260), (260, .iconst 0, 1, 0, 0, 261), (261, .ireturn, 1, 0, 0, 262)]
def swX12_takeWord : Sw := []
def cuX12_takeWord : Cu := [(100, [0, 2, 3, 4]), (159, [0, 3, 4])]
set_option maxRecDepth 100000 in
theorem msX12_takeWord : msOK mX12_takeWord isX12_takeWord swX12_takeWord := msOK_of (by decide +kernel)
def isX12_takeList : Is := [(0, .aload_n 0, 1, 0, 0, 1), (1, .iconst 0, 1, 0, 0, 2), (2, .putfield 202, 3, 0, 0, 5), (5, .iconst 1, 1, 1, 0, 6), (6, .istore_n 2, 1, 0, 0, 7), (7, .iload_n 2, 1, 0, 0, 8), (8, .ifCond .eq 91, 3, 0, 99, 11), (11, .aload_n 0, 1, 0, 0, 12), (12, .iload_n 1, 1, 0, 0, 13), (13, .invokevirtual 179, 3, 0, 0, 16), (16, .istore_n 3, 1, 0, 0, 17), (17, .iload_n 3, 1, 0, 0, 18), (18, .ifCond .le 5, 3, 0, 23, 21), (21, .iload_n 3, 1, 0, 0, 22), (22, .ireturn, 1, 0, 0, 23), (23, .aload_n 0, 1, 0, 0, 24), (24, .getfield 202, 3, 0, 0, 27), (27, .aload_n 0, 1, 0, 0, 28), (28, .getfield 173, 3, 0, 0, 31), (31, .invokestatic 205, 3, 0, 0, 34), (34, .ifCond .eq 14, 3, 0, 48, 37), (37, .aload_n 0, 1, 0, 0, 38), (38, .bipush 6, 2, 6, 0, 40), (40, .aload_n 0, 1, 0, 0, 41), (41, .getfield 170, 3, 0, 0, 44), (44, .invokevirtual 166, 3, 0, 0, 47), (47, .ireturn, 1, 0, 0, 48), (48, .aload_n 0, 1, 0, 0, 49), (49, .dup, 1, 0, 0, 50), (50, .getfield 202, 3, 0, 0, 53), (53, .iconst 1, 1, 1, 0, 54), (54, .aload_n 0, 1, 0, 0, 55), (55, .getfield 173, 3, 0, 0, 58), (58, .ishl, 1, 0, 0, 59), (59, .ior, 1, 0, 0, 60), (60, .putfield 202, 3, 0, 0, 63), (63, .aload_n 0, 1, 0, 0, 64), (64, .invokevirtual 139, 3, 0, 0, 67), (67, .bipush 44, 2, 44, 0, 69), (69, .if_icmp .ne 7, 3, 0, 76, 72), (72, .iconst 1, 1, 1, 0, 73), (73, .goto 4, 3, 0, 77, 76), (76, .iconst 0, 1, 0, 0, 77), (77, .istore_n 2, 1, 0, 0, 78), (78, .aload_n 0, 1, 0, 0, 79), (79, .dup, 1, 0, 0, 80), (80, .getfield 136, 3, 0, 0, 83), (83, .iload_n 2, 1, 0, 0, 84), (84, .ifCond .eq 7, 3, 0, 91, 87), (87, .iconst 1, 1, 1, 0, 88), (88, .goto 4, 3, 0, 92, 91), (91, .iconst 0, 1, 0, 0, 92), (92, .iadd, 1, 0, 0, 93), (93, .putfield 136, 3, 0, 0, 96), (96, .goto (-89), 3, 0, 7, 99), (99, .iconst 0, 1, 0, 0, 100), (100, .ireturn, 1, 0, 0, 101)]
def swX12_takeList : Sw := []
def cuX12_takeList : Cu := [(7, [0, 1, 2])]
set_option maxRecDepth 100000 in
theorem msX12_takeList : msOK mX12_takeList isX12_takeList swX12_takeList := msOK_of (by decide +kernel)
def isX12_takeLesson : Is := [(0, .aload_n 0, 1, 0, 0, 1), (1, .getfield 209, 3, 0, 0, 4), (4, .bipush 7, 2, 7, 0, 6), (6, .if_icmp .ne 10, 3, 0, 16, 9), (9, .aload_n 0, 1, 0, 0, 10), (10, .iconst 3, 1, 3, 0, 11), (11, .iload_n 1, 1, 0, 0, 12), (12, .invokevirtual 166, 3, 0, 0, 15), (15, .ireturn, 1, 0, 0, 16), (16, .iconst 3, 1, 3, 0, 17), (17, .aload_n 0, 1, 0, 0, 18), (18, .getfield 209, 3, 0, 0, 21), (21, .imul, 1, 0, 0, 22), (22, .istore_n 2, 1, 0, 0, 23), (23, .iconst (-1), 1, (-1), 0, 24), (24, .istore_n 3, 1, 0, 0, 25), (25, .iconst 0, 1, 0, 0, 26), (26, .istore 4, 2, 0, 0, 28), (28, .iload 4, 2, 0, 0, 30), (30, .iconst 3, 1, 3, 0, 31), (31, .if_icmp .ge 19, 3, 0, 50, 34), (34, .aload_n 0, 1, 0, 0, 35), (35, .getfield 77, 3, 0, 0, 38), (38, .iload_n 2, 1, 0, 0, 39), (39, .iload 4, 2, 0, 0, 41), (41, .iadd, 1, 0, 0, 42), (42, .iconst 0, 1, 0, 0, 43), (43, .iastore, 1, 0, 0, 44), (44, .iinc 4 1, 3, 1, 0, 47), (47, .goto (-19), 3, 0, 28, 50), (50, .aload_n 0, 1, 0, 0, 51), (51, .invokevirtual 139, 3, 0, 0, 54), (54, .bipush 59, 2, 59, 0, 56), (56, .if_icmp .eq 186, 3, 0, 242, 59), (59, .aload_n 0, 1, 0, 0, 60), (60, .invokevirtual 183, 3, 0, 0, 63), (63, .aload_n 0, 1, 0, 0, 64), (64, .getfield 143, 3, 0, 0, 67), (67, .bipush 97, 2, 97, 0, 69), (69, .bipush 102, 2, 102, 0, 71), (71, .bipush 116, 2, 116, 0, 73), (73, .bipush 101, 2, 101, 0, 75), (75, .invokestatic 188, 3, 0, 0, 78), (78, .bipush 114, 2, 114, 0, 80), (80, .invokestatic 192, 3, 0, 0, 83), (83, .lcmp, 1, 0, 0, 84), (84, .ifCond .ne 7, 3, 0, 91, 87), (87, .iconst 0, 1, 0, 0, 88), (88, .goto 60, 3, 0, 148, 91), (91, .aload_n 0, 1, 0, 0, 92), (92, .getfield 143, 3, 0, 0, 95), (95, .bipush 115, 2, 115, 0, 97), (97, .bipush 105, 2, 105, 0, 99), (99, .bipush 103, 2, 103, 0, 101), (101, .bipush 110, 2, 110, 0, 103), (103, .invokestatic 188, 3, 0, 0, 106), (106, .bipush 115, 2, 115, 0, 108), (108, .invokestatic 192, 3, 0, 0, 111), (111, .lcmp, 1, 0, 0, 112), (112, .ifCond .ne 7, 3, 0, 119, 115), (115, .iconst 1, 1, 1, 0, 116), (116, .goto 32, 3, 0, 148, 119), (119, .aload_n 0, 1, 0, 0, 120), (120, .getfield 143, 3, 0, 0, 123), (123, .bipush 115, 2, 115, 0, 125), (125, .bipush 105, 2, 105, 0, 127), (127, .bipush 103, 2, 103, 0, 129), (129, .bipush 104, 2, 104, 0, 131), (131, .invokestatic 188, 3, 0, 0, 134), (134, .bipush 116, 2, 116, 0, 136), (136, .invokestatic 192, 3, 0, 0, 139), (139, .lcmp, 1, 0, 0, 140), (140, .ifCond .ne 7, 3, 0, 147, 143), (143, .iconst 2, 1, 2, 0, 144), (144, .goto 4, 3, 0, 148, 147), (147, .iconst (-1), 1, (-1), 0, 148), (148, .istore 4, 2, 0, 0, 150), (150, .iload 4, 2, 0, 0, 152), (152, .iload_n 3, 1, 0, 0, 153), (153, .if_icmp .gt 13, 3, 0, 166, 156), (156, .aload_n 0, 1, 0, 0, 157), (157, .iconst 1, 1, 1, 0, 158), (158, .aload_n 0, 1, 0, 0, 159), (159, .getfield 136, 3, 0, 0, 162), (162, .invokevirtual 166, 3, 0, 0, 165), (165, .ireturn, 1, 0, 0, 166), (166, .iload 4, 2, 0, 0, 168), (168, .istore_n 3, 1, 0, 0, 169), (169, .aload_n 0, 1, 0, 0, 170), (170, .aload_n 0, 1, 0, 0, 171), (171, .getfield 147, 3, 0, 0, 174), (174, .putfield 136, 3, 0, 0, 177), (177, .aload_n 0, 1, 0, 0, 178), (178, .iload 4, 2, 0, 0, 180), (180, .ifCond .ne 12, 3, 0, 192, 183), (183, .aload_n 0, 1, 0, 0, 184), (184, .getfield 209, 3, 0, 0, 187), (187, .iconst 1, 1, 1, 0, 188), (188, .isub, 1, 0, 0, 189), (189, .goto 24, 3, 0, 213, 192), (192, .iload 4, 2, 0, 0, 194), (194, .iconst 1, 1, 1, 0, 195), (195, .if_icmp .ne 12, 3, 0, 207, 198), (198, .aload_n 0, 1, 0, 0, 199), (199, .getfield 176, 3, 0, 0, 202), (202, .iconst 1, 1, 1, 0, 203), (203, .isub, 1, 0, 0, 204), (204, .goto 9, 3, 0, 213, 207), (207, .aload_n 0, 1, 0, 0, 208), (208, .getfield 196, 3, 0, 0, 211), (211, .iconst 1, 1, 1, 0, 212), (212, .isub, 1, 0, 0, 213), (213, .invokevirtual 212, 3, 0, 0, 216), (216, .istore 5, 2, 0, 0, 218), (218, .iload 5, 2, 0, 0, 220), (220, .ifCond .le 6, 3, 0, 226, 223), (223, .iload 5, 2, 0, 0, 225), (225, .ireturn, 1, 0, 0, 226), (226, .aload_n 0, 1, 0, 0, 227), (227, .getfield 77, 3, 0, 0, 230), (230, .iload_n 2, 1, 0, 0, 231), (231, .iload 4, 2, 0, 0, 233), (233, .iadd, 1, 0, 0, 234), (234, .aload_n 0, 1, 0, 0, 235), (235, .getfield 202, 3, 0, 0, 238), (238, .iastore, 1, 0, 0, 239), (239, .goto (-189), 3, 0, 50, 242), (242, .aload_n 0, 1, 0, 0, 243), (243, .dup, 1, 0, 0, 244), (244, .getfield 209, 3, 0, 0, 247), (247, .iconst 1, 1, 1, 0, 248), (248, .iadd, 1, 0, 0, 249), (249, .putfield 209, 3, 0, 0, 252), (252, .iconst 0, 1, 0, 0, 253), (253, .ireturn, 1, 0, 0, 254)]
def swX12_takeLesson : Sw := []
def cuX12_takeLesson : Cu := [(28, [0, 2, 3, 4]), (50, [0, 2, 3])]
set_option maxRecDepth 100000 in
theorem msX12_takeLesson : msOK mX12_takeLesson isX12_takeLesson swX12_takeLesson := msOK_of (by decide +kernel)
def isX12_takePage : Is := [(0, .aload_n 0, 1, 0, 0, 1), (1, .getfield 215, 3, 0, 0, 4), (4, .bipush 8, 2, 8, 0, 6), (6, .if_icmp .ne 10, 3, 0, 16, 9), (9, .aload_n 0, 1, 0, 0, 10), (10, .iconst 3, 1, 3, 0, 11), (11, .iload_n 1, 1, 0, 0, 12), (12, .invokevirtual 166, 3, 0, 0, 15), (15, .ireturn, 1, 0, 0, 16), (16, .aload_n 0, 1, 0, 0, 17), (17, .getfield 215, 3, 0, 0, 20), (20, .istore_n 2, 1, 0, 0, 21), (21, .aload_n 0, 1, 0, 0, 22), (22, .getfield 80, 3, 0, 0, 25), (25, .iload_n 2, 1, 0, 0, 26), (26, .iconst 0, 1, 0, 0, 27), (27, .iastore, 1, 0, 0, 28), (28, .iconst 1, 1, 1, 0, 29), (29, .istore_n 3, 1, 0, 0, 30), (30, .iload_n 3, 1, 0, 0, 31), (31, .ifCond .eq 137, 3, 0, 168, 34), (34, .aload_n 0, 1, 0, 0, 35), (35, .invokevirtual 183, 3, 0, 0, 38), (38, .aload_n 0, 1, 0, 0, 39), (39, .getfield 147, 3, 0, 0, 42), (42, .aload_n 0, 1, 0, 0, 43), (43, .getfield 136, 3, 0, 0, 46), (46, .if_icmp .ne 13, 3, 0, 59, 49), (49, .aload_n 0, 1, 0, 0, 50), (50, .iconst 1, 1, 1, 0, 51), (51, .aload_n 0, 1, 0, 0, 52), (52, .getfield 136, 3, 0, 0, 55), (55, .invokevirtual 166, 3, 0, 0, 58), (58, .ireturn, 1, 0, 0, 59), (59, .aload_n 0, 1, 0, 0, 60), (60, .aload_n 0, 1, 0, 0, 61), (61, .getfield 136, 3, 0, 0, 64), (64, .aload_n 0, 1, 0, 0, 65), (65, .getfield 147, 3, 0, 0, 68), (68, .invokevirtual 199, 3, 0, 0, 71), (71, .istore 4, 2, 0, 0, 73), (73, .aload_n 0, 1, 0, 0, 74), (74, .getfield 80, 3, 0, 0, 77), (77, .iload_n 2, 1, 0, 0, 78), (78, .iaload, 1, 0, 0, 79), (79, .bipush 16, 2, 16, 0, 81), (81, .if_icmp .eq 8, 3, 0, 89, 84), (84, .iload 4, 2, 0, 0, 86), (86, .ifCond .ge 28, 3, 0, 114, 89), (89, .aload_n 0, 1, 0, 0, 90), (90, .aload_n 0, 1, 0, 0, 91), (91, .getfield 80, 3, 0, 0, 94), (94, .iload_n 2, 1, 0, 0, 95), (95, .iaload, 1, 0, 0, 96), (96, .bipush 16, 2, 16, 0, 98), (98, .if_icmp .ne 7, 3, 0, 105, 101), (101, .iconst 4, 1, 4, 0, 102), (102, .goto 4, 3, 0, 106, 105), (105, .iconst 5, 1, 5, 0, 106), (106, .aload_n 0, 1, 0, 0, 107), (107, .getfield 136, 3, 0, 0, 110), (110, .invokevirtual 166, 3, 0, 0, 113), (113, .ireturn, 1, 0, 0, 114), (114, .aload_n 0, 1, 0, 0, 115), (115, .getfield 83, 3, 0, 0, 118), (118, .bipush 16, 2, 16, 0, 120), (120, .iload_n 2, 1, 0, 0, 121), (121, .imul, 1, 0, 0, 122), (122, .aload_n 0, 1, 0, 0, 123), (123, .getfield 80, 3, 0, 0, 126), (126, .iload_n 2, 1, 0, 0, 127), (127, .iaload, 1, 0, 0, 128), (128, .iadd, 1, 0, 0, 129), (129, .iload 4, 2, 0, 0, 131), (131, .iastore, 1, 0, 0, 132), (132, .aload_n 0, 1, 0, 0, 133), (133, .getfield 80, 3, 0, 0, 136), (136, .iload_n 2, 1, 0, 0, 137), (137, .dup2, 1, 0, 0, 138), (138, .iaload, 1, 0, 0, 139), (139, .iconst 1, 1, 1, 0, 140), (140, .iadd, 1, 0, 0, 141), (141, .iastore, 1, 0, 0, 142), (142, .aload_n 0, 1, 0, 0, 143), (143, .aload_n 0, 1, 0, 0, 144), (144, .getfield 147, 3, 0, 0, 147), (147, .putfield 136, 3, 0, 0, 150), (150, .aload_n 0, 1, 0, 0, 151), (151, .invokevirtual 139, 3, 0, 0, 154), (154, .i2l, 1, 0, 0, 155), (155, .ldc2_w 150, 3, 0, 0, 158), (158, .ldc2_w 152, 3, 0, 0, 161), (161, .invokestatic 127, 3, 0, 0, 164), (164, .istore_n 3, 1, 0, 0, 165), (165, .goto (-135), 3, 0, 30, 168), (168, .aload_n 0, 1, 0, 0, 169), (169, .dup, 1, 0, 0, 170), (170, .getfield 215, 3, 0, 0, 173), (173, .iconst 1, 1, 1, 0, 174), (174, .iadd, 1, 0, 0, 175), (175, .putfield 215, 3, 0, 0, 178), (178, .iconst 0, 1, 0, 0, 179), (179, .ireturn, 1, 0, 0, 180)]
def swX12_takePage : Sw := []
def cuX12_takePage : Cu := [(30, [0, 2, 3])]
set_option maxRecDepth 100000 in
theorem msX12_takePage : msOK mX12_takePage isX12_takePage swX12_takePage := msOK_of (by decide +kernel)
def isX12_takeClause : Is := [(0, .aload_n 0, 1, 0, 0, 1), (1, .invokevirtual 183, 3, 0, 0, 4), (4, .aload_n 0, 1, 0, 0, 5), (5, .getfield 136, 3, 0, 0, 8), (8, .istore_n 1, 1, 0, 0, 9), (9, .aload_n 0, 1, 0, 0, 10), (10, .getfield 143, 3, 0, 0, 13), (13, .bipush 115, 2, 115, 0, 15), (15, .bipush 105, 2, 105, 0, 17), (17, .bipush 103, 2, 103, 0, 19), (19, .bipush 110, 2, 110, 0, 21), (21, .invokestatic 188, 3, 0, 0, 24), (24, .lcmp, 1, 0, 0, 25), (25, .ifCond .ne 7, 3, 0, 32, 28), (28, .iconst 0, 1, 0, 0, 29), (29, .goto 83, 3, 0, 112, 32), (32, .aload_n 0, 1, 0, 0, 33), (33, .getfield 143, 3, 0, 0, 36), (36, .bipush 119, 2, 119, 0, 38), (38, .bipush 111, 2, 111, 0, 40), (40, .bipush 114, 2, 114, 0, 42), (42, .bipush 100, 2, 100, 0, 44), (44, .invokestatic 188, 3, 0, 0, 47), (47, .lcmp, 1, 0, 0, 48), (48, .ifCond .ne 7, 3, 0, 55, 51), (51, .iconst 1, 1, 1, 0, 52), (52, .goto 60, 3, 0, 112, 55), (55, .aload_n 0, 1, 0, 0, 56), (56, .getfield 143, 3, 0, 0, 59), (59, .bipush 108, 2, 108, 0, 61), (61, .bipush 101, 2, 101, 0, 63), (63, .bipush 115, 2, 115, 0, 65), (65, .bipush 115, 2, 115, 0, 67), (67, .invokestatic 188, 3, 0, 0, 70), (70, .bipush 111, 2, 111, 0, 72), (72, .invokestatic 192, 3, 0, 0, 75), (75, .bipush 110, 2, 110, 0, 77), (77, .invokestatic 192, 3, 0, 0, 80), (80, .lcmp, 1, 0, 0, 81), (81, .ifCond .ne 7, 3, 0, 88, 84), (84, .iconst 2, 1, 2, 0, 85), (85, .goto 27, 3, 0, 112, 88), (88, .aload_n 0, 1, 0, 0, 89), (89, .getfield 143, 3, 0, 0, 92), (92, .bipush 112, 2, 112, 0, 94), (94, .bipush 97, 2, 97, 0, 96), (96, .bipush 103, 2, 103, 0, 98), (98, .bipush 101, 2, 101, 0, 100), (100, .invokestatic 188, 3, 0, 0, 103), (103, .lcmp, 1, 0, 0, 104), (104, .ifCond .ne 7, 3, 0, 111, 107), (107, .iconst 3, 1, 3, 0, 108), (108, .goto 4, 3, 0, 112, 111), (111, .iconst (-1), 1, (-1), 0, 112), (112, .istore_n 2, 1, 0, 0, 113), (113, .iload_n 2, 1, 0, 0, 114), (114, .ifCond .ge 10, 3, 0, 124, 117), (117, .aload_n 0, 1, 0, 0, 118), (118, .iconst 1, 1, 1, 0, 119), (119, .iload_n 1, 1, 0, 0, 120), (120, .invokevirtual 166, 3, 0, 0, 123), (123, .ireturn, 1, 0, 0, 124), (124, .aload_n 0, 1, 0, 0, 125), (125, .aload_n 0, 1, 0, 0, 126), (126, .getfield 147, 3, 0, 0, 129), (129, .putfield 136, 3, 0, 0, 132), (132, .iload_n 2, 1, 0, 0, 133), (133, .ifCond .ne 11, 3, 0, 144, 136), (136, .aload_n 0, 1, 0, 0, 137), (137, .iload_n 1, 1, 0, 0, 138), (138, .invokevirtual 218, 3, 0, 0, 141), (141, .goto 34, 3, 0, 175, 144), (144, .iload_n 2, 1, 0, 0, 145), (145, .iconst 1, 1, 1, 0, 146), (146, .if_icmp .ne 11, 3, 0, 157, 149), (149, .aload_n 0, 1, 0, 0, 150), (150, .iload_n 1, 1, 0, 0, 151), (151, .invokevirtual 221, 3, 0, 0, 154), (154, .goto 21, 3, 0, 175, 157), (157, .iload_n 2, 1, 0, 0, 158), (158, .iconst 2, 1, 2, 0, 159), (159, .if_icmp .ne 11, 3, 0, 170, 162), (162, .aload_n 0, 1, 0, 0, 163), (163, .iload_n 1, 1, 0, 0, 164), (164, .invokevirtual 224, 3, 0, 0, 167), (167, .goto 8, 3, 0, 175, 170), (170, .aload_n 0, 1, 0, 0, 171), (171, .iload_n 1, 1, 0, 0, 172), (172, .invokevirtual 227, 3, 0, 0, 175), (175, .istore_n 3, 1, 0, 0, 176), (176, .iload_n 3, 1, 0, 0, 177), (177, .ifCond .le 5, 3, 0, 182, 180), (180, .iload_n 3, 1, 0, 0, 181), (181, .ireturn, 1, 0, 0, 182), (182, .aload_n 0, 1, 0, 0, 183), (183, .invokevirtual 139, 3, 0, 0, 186), (186, .bipush 59, 2, 59, 0, 188), (188, .if_icmp .eq 13, 3, 0, 201, 191), (191, .aload_n 0, 1, 0, 0, 192), (192, .iconst 1, 1, 1, 0, 193), (193, .aload_n 0, 1, 0, 0, 194), (194, .getfield 136, 3, 0, 0, 197), (197, .invokevirtual 166, 3, 0, 0, 200), (200, .ireturn, 1, 0, 0, 201), (201, .aload_n 0, 1, 0, 0, 202), (202, .dup, 1, 0, 0, 203), (203, .getfield 136, 3, 0, 0, 206), (206, .iconst 1, 1, 1, 0, 207), (207, .iadd, 1, 0, 0, 208), (208, .putfield 136, 3, 0, 0, 211), (211, .iconst 0, 1, 0, 0, 212), (212, .ireturn, 1, 0, 0, 213)]
def swX12_takeClause : Sw := []
def cuX12_takeClause : Cu := []
set_option maxRecDepth 100000 in
theorem msX12_takeClause : msOK mX12_takeClause isX12_takeClause swX12_takeClause := msOK_of (by decide +kernel)
def isX12_primer : Is := [(0, .aload_n 0, 1, 0, 0, 1), (1, .iconst (-1), 1, (-1), 0, 2), (2, .putfield 49, 3, 0, 0, 5), (5, .aload_n 0, 1, 0, 0, 6), (6, .iconst 0, 1, 0, 0, 7), (7, .putfield 136, 3, 0, 0, 10), (10, .aload_n 0, 1, 0, 0, 11), (11, .iconst 0, 1, 0, 0, 12), (12, .putfield 176, 3, 0, 0, 15), (15, .aload_n 0, 1, 0, 0, 16), (16, .iconst 0, 1, 0, 0, 17), (17, .putfield 196, 3, 0, 0, 20), (20, .aload_n 0, 1, 0, 0, 21), (21, .iconst 0, 1, 0, 0, 22), (22, .putfield 209, 3, 0, 0, 25), (25, .aload_n 0, 1, 0, 0, 26), (26, .iconst 0, 1, 0, 0, 27), (27, .putfield 215, 3, 0, 0, 30), (30, .iconst 0, 1, 0, 0, 31), (31, .istore_n 1, 1, 0, 0, 32), (32, .iconst 0, 1, 0, 0, 33), (33, .istore_n 2, 1, 0, 0, 34), (34, .iload_n 2, 1, 0, 0, 35), (35, .ifCond .ne 21, 3, 0, 56, 38), (38, .aload_n 0, 1, 0, 0, 39), (39, .invokevirtual 139, 3, 0, 0, 42), (42, .ifCond .lt 14, 3, 0, 56, 45), (45, .aload_n 0, 1, 0, 0, 46), (46, .invokevirtual 230, 3, 0, 0, 49), (49, .istore_n 2, 1, 0, 0, 50), (50, .iinc 1 1, 3, 1, 0, 53), (53, .goto (-19), 3, 0, 34, 56), (56, .aload_n 0, 1, 0, 0, 57), (57, .iconst 0, 1, 0, 0, 58), (58, .putfield 131, 3, 0, 0, 61), (61, .iload_n 2, 1, 0, 0, 62), (62, .ifCond .le 8, 3, 0, 70, 65), (65, .bipush (-10), 2, (-10), 0, 67), (67, .iload_n 2, 1, 0, 0, 68), (68, .isub, 1, 0, 0, 69), (69, .ireturn, 1, 0, 0, 70), (70, .aload_n 0, 1, 0, 0, 71), (71, .invokevirtual 233, 3, 0, 0, 74), (74, .aload_n 0, 1, 0, 0, 75), (75, .invokevirtual 122, 3, 0, 0, 78), (78, .aload_n 0, 1, 0, 0, 79), (79, .getfield 118, 3, 0, 0, 82), (82, .iconst 0, 1, 0, 0, 83), (83, .iconst 0, 1, 0, 0, 84), (84, .bastore, 1, 0, 0, 85), (85, .aload_n 0, 1, 0, 0, 86), (86, .getfield 118, 3, 0, 0, 89), (89, .iconst 1, 1, 1, 0, 90), (90, .iconst 0, 1, 0, 0, 91), (91, .bastore, 1, 0, 0, 92), (92, .iload_n 1, 1, 0, 0, 93), (93, .ireturn, 1, 0, 0, 94)]
def swX12_primer : Sw := []
def cuX12_primer : Cu := [(34, [0, 1, 2])]
set_option maxRecDepth 100000 in
theorem msX12_primer : msOK mX12_primer isX12_primer swX12_primer := msOK_of (by decide +kernel)
def isX12_keepPrimer : Is := [(0, .aload_n 0, 1, 0, 0, 1), (1, .aload_n 0, 1, 0, 0, 2), (2, .getfield 176, 3, 0, 0, 5), (5, .putfield 236, 3, 0, 0, 8), (8, .aload_n 0, 1, 0, 0, 9), (9, .aload_n 0, 1, 0, 0, 10), (10, .getfield 196, 3, 0, 0, 13), (13, .putfield 239, 3, 0, 0, 16), (16, .aload_n 0, 1, 0, 0, 17), (17, .aload_n 0, 1, 0, 0, 18), (18, .getfield 209, 3, 0, 0, 21), (21, .putfield 242, 3, 0, 0, 24), (24, .aload_n 0, 1, 0, 0, 25), (25, .aload_n 0, 1, 0, 0, 26), (26, .getfield 215, 3, 0, 0, 29), (29, .putfield 245, 3, 0, 0, 32), (32, .iconst 0, 1, 0, 0, 33), (33, .istore_n 1, 1, 0, 0, 34), (34, .iload_n 1, 1, 0, 0, 35), (35, .bipush 20, 2, 20, 0, 37), (37, .if_icmp .ge 45, 3, 0, 82, 40), (40, .aload_n 0, 1, 0, 0, 41), (41, .getfield 7, 3, 0, 0, 44), (44, .iload_n 1, 1, 0, 0, 45), (45, .aload_n 0, 1, 0, 0, 46), (46, .getfield 53, 3, 0, 0, 49), (49, .iload_n 1, 1, 0, 0, 50), (50, .iaload, 1, 0, 0, 51), (51, .iastore, 1, 0, 0, 52), (52, .aload_n 0, 1, 0, 0, 53), (53, .getfield 16, 3, 0, 0, 56), (56, .iload_n 1, 1, 0, 0, 57), (57, .aload_n 0, 1, 0, 0, 58), (58, .getfield 59, 3, 0, 0, 61), (61, .iload_n 1, 1, 0, 0, 62), (62, .iaload, 1, 0, 0, 63), (63, .iastore, 1, 0, 0, 64), (64, .aload_n 0, 1, 0, 0, 65), (65, .getfield 19, 3, 0, 0, 68), (68, .iload_n 1, 1, 0, 0, 69), (69, .aload_n 0, 1, 0, 0, 70), (70, .getfield 62, 3, 0, 0, 73), (73, .iload_n 1, 1, 0, 0, 74), (74, .iaload, 1, 0, 0, 75), (75, .iastore, 1, 0, 0, 76), (76, .iinc 1 1, 3, 1, 0, 79), (79, .goto (-45), 3, 0, 34, 82), (82, .iconst 0, 1, 0, 0, 83), (83, .istore_n 1, 1, 0, 0, 84), (84, .iload_n 1, 1, 0, 0, 85), (85, .bipush 80, 2, 80, 0, 87), (87, .if_icmp .ge 21, 3, 0, 108, 90), (90, .aload_n 0, 1, 0, 0, 91), (91, .getfield 13, 3, 0, 0, 94), (94, .iload_n 1, 1, 0, 0, 95), (95, .aload_n 0, 1, 0, 0, 96), (96, .getfield 56, 3, 0, 0, 99), (99, .iload_n 1, 1, 0, 0, 100), (100, .iaload, 1, 0, 0, 101), (101, .iastore, 1, 0, 0, 102), (102, .iinc 1 1, 3, 1, 0, 105), (105, .goto (-21), 3, 0, 84, 108), (108, .iconst 0, 1, 0, 0, 109), (109, .istore_n 1, 1, 0, 0, 110), (110, .iload_n 1, 1, 0, 0, 111), (111, .bipush 24, 2, 24, 0, 113), (113, .if_icmp .ge 33, 3, 0, 146, 116), (116, .aload_n 0, 1, 0, 0, 117), (117, .getfield 22, 3, 0, 0, 120), (120, .iload_n 1, 1, 0, 0, 121), (121, .aload_n 0, 1, 0, 0, 122), (122, .getfield 65, 3, 0, 0, 125), (125, .iload_n 1, 1, 0, 0, 126), (126, .iaload, 1, 0, 0, 127), (127, .iastore, 1, 0, 0, 128), (128, .aload_n 0, 1, 0, 0, 129), (129, .getfield 28, 3, 0, 0, 132), (132, .iload_n 1, 1, 0, 0, 133), (133, .aload_n 0, 1, 0, 0, 134), (134, .getfield 71, 3, 0, 0, 137), (137, .iload_n 1, 1, 0, 0, 138), (138, .iaload, 1, 0, 0, 139), (139, .iastore, 1, 0, 0, 140), (140, .iinc 1 1, 3, 1, 0, 143), (143, .goto (-33), 3, 0, 110, 146), (146, .iconst 0, 1, 0, 0, 147), (147, .istore_n 1, 1, 0, 0, 148), (148, .iload_n 1, 1, 0, 0, 149), (149, .sipush 192, 3, 192, 0, 152), (152, .if_icmp .ge 33, 3, 0, 185, 155), (155, .aload_n 0, 1, 0, 0, 156), (156, .getfield 25, 3, 0, 0, 159), (159, .iload_n 1, 1, 0, 0, 160), (160, .aload_n 0, 1, 0, 0, 161), (161, .getfield 68, 3, 0, 0, 164), (164, .iload_n 1, 1, 0, 0, 165), (165, .iaload, 1, 0, 0, 166), (166, .iastore, 1, 0, 0, 167), (167, .aload_n 0, 1, 0, 0, 168), (168, .getfield 31, 3, 0, 0, 171), (171, .iload_n 1, 1, 0, 0, 172), (172, .aload_n 0, 1, 0, 0, 173), (173, .getfield 74, 3, 0, 0, 176), (176, .iload_n 1, 1, 0, 0, 177), (177, .iaload, 1, 0, 0, 178), (178, .iastore, 1, 0, 0, 179), (179, .iinc 1 1, 3, 1, 0, 182), (182, .goto (-34), 3, 0, 148, 185), (185, .iconst 0, 1, 0, 0, 186), (186, .istore_n 1, 1, 0, 0, 187), (187, .iload_n 1, 1, 0, 0, 188), (188, .bipush 21, 2, 21, 0, 190), (190, .if_icmp .ge 21, 3, 0, 211, 193), (193, .aload_n 0, 1, 0, 0, 194), (194, .getfield 34, 3, 0, 0, 197), (197, .iload_n 1, 1, 0, 0, 198), (198, .aload_n 0, 1, 0, 0, 199), (199, .getfield 77, 3, 0, 0, 202), (202, .iload_n 1, 1, 0, 0, 203), (203, .iaload, 1, 0, 0, 204), (204, .iastore, 1, 0, 0, 205), (205, .iinc 1 1, 3, 1, 0, 208), (208, .goto (-21), 3, 0, 187, 211), (211, .iconst 0, 1, 0, 0, 212), (212, .istore_n 1, 1, 0, 0, 213), (213, .iload_n 1, 1, 0, 0, 214), (214, .aload_n 0, 1, 0, 0, 215), (215, .getfield 245, 3, 0, 0, 218), (218, .if_icmp .ge 90, 3, 0, 308, 221), (221, .aload_n 0, 1, 0, 0, 222), (222, .getfield 37, 3, 0, 0, 225), (225, .iload_n 1, 1, 0, 0, 226), (226, .aload_n 0, 1, 0, 0, 227), (227, .getfield 80, 3, 0, 0, 230), (230, .iload_n 1, 1, 0, 0, 231), (231, .iaload, 1, 0, 0, 232), (232, .iastore, 1, 0, 0, 233), (233, .aload_n 0, 1, 0, 0, 234), (234, .getfield 43, 3, 0, 0, 237), (237, .iload_n 1, 1, 0, 0, 238), (238, .iconst 0, 1, 0, 0, 239), (239, .iastore, 1, 0, 0, 240), (240, .iconst 0, 1, 0, 0, 241), (241, .istore_n 2, 1, 0, 0, 242), (242, .iload_n 2, 1, 0, 0, 243), (243, .aload_n 0, 1, 0, 0, 244), (244, .getfield 37, 3, 0, 0, 247), (247, .iload_n 1, 1, 0, 0, 248), (248, .iaload, 1, 0, 0, 249), (249, .if_icmp .ge 53, 3, 0, 302, 252), (252, .aload_n 0, 1, 0, 0, 253), (253, .getfield 40, 3, 0, 0, 256), (256, .bipush 16, 2, 16, 0, 258), (258, .iload_n 1, 1, 0, 0, 259), (259, .imul, 1, 0, 0, 260), (260, .iload_n 2, 1, 0, 0, 261), (261, .iadd, 1, 0, 0, 262), (262, .aload_n 0, 1, 0, 0, 263), (263, .getfield 83, 3, 0, 0, 266), (266, .bipush 16, 2, 16, 0, 268), (268, .iload_n 1, 1, 0, 0, 269), (269, .imul, 1, 0, 0, 270), (270, .iload_n 2, 1, 0, 0, 271), (271, .iadd, 1, 0, 0, 272), (272, .iaload, 1, 0, 0, 273), (273, .iastore, 1, 0, 0, 274), (274, .aload_n 0, 1, 0, 0, 275), (275, .getfield 43, 3, 0, 0, 278), (278, .iload_n 1, 1, 0, 0, 279), (279, .dup2, 1, 0, 0, 280), (280, .iaload, 1, 0, 0, 281), (281, .iconst 1, 1, 1, 0, 282), (282, .aload_n 0, 1, 0, 0, 283), (283, .getfield 40, 3, 0, 0, 286), (286, .bipush 16, 2, 16, 0, 288), (288, .iload_n 1, 1, 0, 0, 289), (289, .imul, 1, 0, 0, 290), (290, .iload_n 2, 1, 0, 0, 291), (291, .iadd, 1, 0, 0, 292), (292, .iaload, 1, 0, 0, 293), (293, .ishl, 1, 0, 0, 294), (294, .ior, 1, 0, 0, 295), (295, .iastore, 1, 0, 0, 296), (296, .iinc 2 1, 3, 1, 0, 299), (299, .goto (-57), 3, 0, 242, 302), (302, .iinc 1 1, 3, 1, 0, 305), (305, .goto (-92), 3, 0, 213, 308), (308, .return_, 1, 0, 0, 309)]
def swX12_keepPrimer : Sw := []
def cuX12_keepPrimer : Cu := [(34, [0, 1]), (84, [0, 1]), (110, [0, 1]), (148, [0, 1]), (187, [0, 1]), (213, [0, 1]), (242, [0, 1, 2])]
set_option maxRecDepth 100000 in
theorem msX12_keepPrimer : msOK mX12_keepPrimer isX12_keepPrimer swX12_keepPrimer := msOK_of (by decide +kernel)
def isX12_fault : Is := [(0, .aload_n 0, 1, 0, 0, 1), (1, .getfield 49, 3, 0, 0, 4), (4, .ireturn, 1, 0, 0, 5)]
def swX12_fault : Sw := []
def cuX12_fault : Cu := []
set_option maxRecDepth 100000 in
theorem msX12_fault : msOK mX12_fault isX12_fault swX12_fault := msOK_of (by decide +kernel)
def isX12_isSign : Is := [(0, .iload_n 1, 1, 0, 0, 1), (1, .i2l, 1, 0, 0, 2), (2, .lconst 0, 1, 0, 0, 3), (3, .aload_n 0, 1, 0, 0, 4), (4, .getfield 236, 3, 0, 0, 7), (7, .iconst 1, 1, 1, 0, 8), (8, .isub, 1, 0, 0, 9), (9, .i2l, 1, 0, 0, 10), (10, .invokestatic 127, 3, 0, 0, 13), (13, .ireturn, 1, 0, 0, 14)]
def swX12_isSign : Sw := []
def cuX12_isSign : Cu := []
set_option maxRecDepth 100000 in
theorem msX12_isSign : msOK mX12_isSign isX12_isSign swX12_isSign := msOK_of (by decide +kernel)
def isX12_areSigns : Is := [(0, .iload_n 1, 1, 0, 0, 1), (1, .i2l, 1, 0, 0, 2), (2, .lconst 0, 1, 0, 0, 3), (3, .iconst 1, 1, 1, 0, 4), (4, .aload_n 0, 1, 0, 0, 5), (5, .getfield 236, 3, 0, 0, 8), (8, .ishl, 1, 0, 0, 9), (9, .iconst 1, 1, 1, 0, 10), (10, .isub, 1, 0, 0, 11), (11, .i2l, 1, 0, 0, 12), (12, .invokestatic 127, 3, 0, 0, 15), (15, .ireturn, 1, 0, 0, 16)]
def swX12_areSigns : Sw := []
def cuX12_areSigns : Cu := []
set_option maxRecDepth 100000 in
theorem msX12_areSigns : msOK mX12_areSigns isX12_areSigns swX12_areSigns := msOK_of (by decide +kernel)
def isX12_isWord : Is := [(0, .iload_n 1, 1, 0, 0, 1), (1, .i2l, 1, 0, 0, 2), (2, .lconst 0, 1, 0, 0, 3), (3, .aload_n 0, 1, 0, 0, 4), (4, .getfield 239, 3, 0, 0, 7), (7, .iconst 1, 1, 1, 0, 8), (8, .isub, 1, 0, 0, 9), (9, .i2l, 1, 0, 0, 10), (10, .invokestatic 127, 3, 0, 0, 13), (13, .ireturn, 1, 0, 0, 14)]
def swX12_isWord : Sw := []
def cuX12_isWord : Cu := []
set_option maxRecDepth 100000 in
theorem msX12_isWord : msOK mX12_isWord isX12_isWord swX12_isWord := msOK_of (by decide +kernel)
def isX12_isLesson : Is := [(0, .iload_n 1, 1, 0, 0, 1), (1, .i2l, 1, 0, 0, 2), (2, .lconst 0, 1, 0, 0, 3), (3, .aload_n 0, 1, 0, 0, 4), (4, .getfield 242, 3, 0, 0, 7), (7, .iconst 1, 1, 1, 0, 8), (8, .isub, 1, 0, 0, 9), (9, .i2l, 1, 0, 0, 10), (10, .invokestatic 127, 3, 0, 0, 13), (13, .ireturn, 1, 0, 0, 14)]
def swX12_isLesson : Sw := []
def cuX12_isLesson : Cu := []
set_option maxRecDepth 100000 in
theorem msX12_isLesson : msOK mX12_isLesson isX12_isLesson swX12_isLesson := msOK_of (by decide +kernel)
def isX12_isPage : Is := [(0, .iload_n 1, 1, 0, 0, 1), (1, .i2l, 1, 0, 0, 2), (2, .lconst 0, 1, 0, 0, 3), (3, .aload_n 0, 1, 0, 0, 4), (4, .getfield 245, 3, 0, 0, 7), (7, .iconst 1, 1, 1, 0, 8), (8, .isub, 1, 0, 0, 9), (9, .i2l, 1, 0, 0, 10), (10, .invokestatic 127, 3, 0, 0, 13), (13, .ireturn, 1, 0, 0, 14)]
def swX12_isPage : Sw := []
def cuX12_isPage : Cu := []
set_option maxRecDepth 100000 in
theorem msX12_isPage : msOK mX12_isPage isX12_isPage swX12_isPage := msOK_of (by decide +kernel)
def isX12_sign : Is := [(0, .aload_n 0, 1, 0, 0, 1), (1, .iload_n 1, 1, 0, 0, 2), (2, .invokevirtual 248, 3, 0, 0, 5), (5, .ifCond .ne 7, 3, 0, 12, 8), (8, .sipush (-1001), 3, (-1001), 0, 11), (11, .ireturn, 1, 0, 0, 12), (12, .iload_n 2, 1, 0, 0, 13), (13, .tableswitch 48 0 2 #[27, 34, 41], 27, 0, 0, 40), (40, .aload_n 0, 1, 0, 0, 41), (41, .getfield 7, 3, 0, 0, 44), (44, .iload_n 1, 1, 0, 0, 45), (45, .iaload, 1, 0, 0, 46), (46, .ireturn, 1, 0, 0, 47), (47, .aload_n 0, 1, 0, 0, 48), (48, .getfield 16, 3, 0, 0, 51), (51, .iload_n 1, 1, 0, 0, 52), (52, .iaload, 1, 0, 0, 53), (53, .ireturn, 1, 0, 0, 54), (54, .aload_n 0, 1, 0, 0, 55), (55, .getfield 19, 3, 0, 0, 58), (58, .iload_n 1, 1, 0, 0, 59), (59, .iaload, 1, 0, 0, 60), (60, .ireturn, 1, 0, 0, 61), (61, .iload_n 2, 1, 0, 0, 62), (62, .i2l, 1, 0, 0, 63), (63, .ldc2_w 252, 3, 0, 0, 66), (66, .ldc2_w 254, 3, 0, 0, 69), (69, .invokestatic 127, 3, 0, 0, 72), (72, .ifCond .ne 9, 3, 0, 81, 75), (75, .sipush (-1002), 3, (-1002), 0, 78), (78, .goto 31, 3, 0, 109, 81), (81, .iload_n 2, 1, 0, 0, 82), (82, .iconst 3, 1, 3, 0, 83), (83, .isub, 1, 0, 0, 84), (84, .aload_n 0, 1, 0, 0, 85), (85, .getfield 7, 3, 0, 0, 88), (88, .iload_n 1, 1, 0, 0, 89), (89, .iaload, 1, 0, 0, 90), (90, .if_icmp .ge 18, 3, 0, 108, 93), (93, .aload_n 0, 1, 0, 0, 94), (94, .getfield 13, 3, 0, 0, 97), (97, .iconst 4, 1, 4, 0, 98), (98, .iload_n 1, 1, 0, 0, 99), (99, .imul, 1, 0, 0, 100), (100, .iload_n 2, 1, 0, 0, 101), (101, .iadd, 1, 0, 0, 102), (102, .iconst 3, 1, 3, 0, 103), (103, .isub, 1, 0, 0, 104), (104, .iaload, 1, 0, 0, 105), (105, .goto 4, 3, 0, 109, 108), (108, .iconst (-1), 1, (-1), 0, 109), (109, .ireturn, 1, 0, 0, 110)]
def swX12_sign : Sw := [(13, [(0, 40), (1, 47), (2, 54)], 61)]
def cuX12_sign : Cu := []
set_option maxRecDepth 100000 in
theorem msX12_sign : msOK mX12_sign isX12_sign swX12_sign := msOK_of (by decide +kernel)
def isX12_word : Is := [(0, .aload_n 0, 1, 0, 0, 1), (1, .iload_n 1, 1, 0, 0, 2), (2, .invokevirtual 256, 3, 0, 0, 5), (5, .ifCond .ne 7, 3, 0, 12, 8), (8, .sipush (-1001), 3, (-1001), 0, 11), (11, .ireturn, 1, 0, 0, 12), (12, .iload_n 2, 1, 0, 0, 13), (13, .ifCond .eq 8, 3, 0, 21, 16), (16, .iload_n 2, 1, 0, 0, 17), (17, .iconst 1, 1, 1, 0, 18), (18, .if_icmp .ne 23, 3, 0, 41, 21), (21, .iload_n 2, 1, 0, 0, 22), (22, .ifCond .ne 12, 3, 0, 34, 25), (25, .aload_n 0, 1, 0, 0, 26), (26, .getfield 22, 3, 0, 0, 29), (29, .iload_n 1, 1, 0, 0, 30), (30, .iaload, 1, 0, 0, 31), (31, .goto 9, 3, 0, 40, 34), (34, .aload_n 0, 1, 0, 0, 35), (35, .getfield 28, 3, 0, 0, 38), (38, .iload_n 1, 1, 0, 0, 39), (39, .iaload, 1, 0, 0, 40), (40, .ireturn, 1, 0, 0, 41), (41, .iload_n 2, 1, 0, 0, 42), (42, .i2l, 1, 0, 0, 43), (43, .ldc2_w 259, 3, 0, 0, 46), (46, .ldc2_w 261, 3, 0, 0, 49), (49, .invokestatic 127, 3, 0, 0, 52), (52, .ifCond .eq 33, 3, 0, 85, 55), (55, .iload_n 2, 1, 0, 0, 56), (56, .iconst 2, 1, 2, 0, 57), (57, .isub, 1, 0, 0, 58), (58, .aload_n 0, 1, 0, 0, 59), (59, .getfield 22, 3, 0, 0, 62), (62, .iload_n 1, 1, 0, 0, 63), (63, .iaload, 1, 0, 0, 64), (64, .if_icmp .ge 19, 3, 0, 83, 67), (67, .aload_n 0, 1, 0, 0, 68), (68, .getfield 25, 3, 0, 0, 71), (71, .bipush 8, 2, 8, 0, 73), (73, .iload_n 1, 1, 0, 0, 74), (74, .imul, 1, 0, 0, 75), (75, .iload_n 2, 1, 0, 0, 76), (76, .iadd, 1, 0, 0, 77), (77, .iconst 2, 1, 2, 0, 78), (78, .isub, 1, 0, 0, 79), (79, .iaload, 1, 0, 0, 80), (80, .goto 4, 3, 0, 84, 83), (83, .iconst (-1), 1, (-1), 0, 84), (84, .ireturn, 1, 0, 0, 85), (85, .iload_n 2, 1, 0, 0, 86), (86, .i2l, 1, 0, 0, 87), (87, .ldc2_w 263, 3, 0, 0, 90), (90, .ldc2_w 265, 3, 0, 0, 93), (93, .invokestatic 127, 3, 0, 0, 96), (96, .ifCond .ne 9, 3, 0, 105, 99), (99, .sipush (-1002), 3, (-1002), 0, 102), (102, .goto 34, 3, 0, 136, 105), (105, .iload_n 2, 1, 0, 0, 106), (106, .bipush 10, 2, 10, 0, 108), (108, .isub, 1, 0, 0, 109), (109, .aload_n 0, 1, 0, 0, 110), (110, .getfield 28, 3, 0, 0, 113), (113, .iload_n 1, 1, 0, 0, 114), (114, .iaload, 1, 0, 0, 115), (115, .if_icmp .ge 20, 3, 0, 135, 118), (118, .aload_n 0, 1, 0, 0, 119), (119, .getfield 31, 3, 0, 0, 122), (122, .bipush 8, 2, 8, 0, 124), (124, .iload_n 1, 1, 0, 0, 125), (125, .imul, 1, 0, 0, 126), (126, .iload_n 2, 1, 0, 0, 127), (127, .iadd, 1, 0, 0, 128), (128, .bipush 10, 2, 10, 0, 130), (130, .isub, 1, 0, 0, 131), (131, .iaload, 1, 0, 0, 132), (132, .goto 4, 3, 0, 136, 135), (135, .iconst (-1), 1, (-1), 0, 136), (136, .ireturn, 1, 0, 0, 137)]
def swX12_word : Sw := []
def cuX12_word : Cu := []
set_option maxRecDepth 100000 in
theorem msX12_word : msOK mX12_word isX12_word swX12_word := msOK_of (by decide +kernel)
def isX12_lesson : Is := [(0, .aload_n 0, 1, 0, 0, 1), (1, .iload_n 1, 1, 0, 0, 2), (2, .invokevirtual 267, 3, 0, 0, 5), (5, .ifCond .ne 7, 3, 0, 12, 8), (8, .sipush (-1001), 3, (-1001), 0, 11), (11, .ireturn, 1, 0, 0, 12), (12, .iload_n 2, 1, 0, 0, 13), (13, .i2l, 1, 0, 0, 14), (14, .lconst 0, 1, 0, 0, 15), (15, .ldc2_w 259, 3, 0, 0, 18), (18, .invokestatic 127, 3, 0, 0, 21), (21, .ifCond .eq 16, 3, 0, 37, 24), (24, .aload_n 0, 1, 0, 0, 25), (25, .getfield 34, 3, 0, 0, 28), (28, .iconst 3, 1, 3, 0, 29), (29, .iload_n 1, 1, 0, 0, 30), (30, .imul, 1, 0, 0, 31), (31, .iload_n 2, 1, 0, 0, 32), (32, .iadd, 1, 0, 0, 33), (33, .iaload, 1, 0, 0, 34), (34, .goto 6, 3, 0, 40, 37), (37, .sipush (-1002), 3, (-1002), 0, 40), (40, .ireturn, 1, 0, 0, 41)]
def swX12_lesson : Sw := []
def cuX12_lesson : Cu := []
set_option maxRecDepth 100000 in
theorem msX12_lesson : msOK mX12_lesson isX12_lesson swX12_lesson := msOK_of (by decide +kernel)
def isX12_page : Is := [(0, .aload_n 0, 1, 0, 0, 1), (1, .iload_n 1, 1, 0, 0, 2), (2, .invokevirtual 270, 3, 0, 0, 5), (5, .ifCond .ne 7, 3, 0, 12, 8), (8, .sipush (-1001), 3, (-1001), 0, 11), (11, .ireturn, 1, 0, 0, 12), (12, .iload_n 2, 1, 0, 0, 13), (13, .iconst (-1), 1, (-1), 0, 14), (14, .if_icmp .ne 12, 3, 0, 26, 17), (17, .aload_n 0, 1, 0, 0, 18), (18, .getfield 43, 3, 0, 0, 21), (21, .iload_n 1, 1, 0, 0, 22), (22, .iaload, 1, 0, 0, 23), (23, .goto 46, 3, 0, 69, 26), (26, .iload_n 2, 1, 0, 0, 27), (27, .i2l, 1, 0, 0, 28), (28, .lconst 0, 1, 0, 0, 29), (29, .ldc2_w 273, 3, 0, 0, 32), (32, .invokestatic 127, 3, 0, 0, 35), (35, .ifCond .ne 9, 3, 0, 44, 38), (38, .sipush (-1002), 3, (-1002), 0, 41), (41, .goto 28, 3, 0, 69, 44), (44, .iload_n 2, 1, 0, 0, 45), (45, .aload_n 0, 1, 0, 0, 46), (46, .getfield 37, 3, 0, 0, 49), (49, .iload_n 1, 1, 0, 0, 50), (50, .iaload, 1, 0, 0, 51), (51, .if_icmp .ge 17, 3, 0, 68, 54), (54, .aload_n 0, 1, 0, 0, 55), (55, .getfield 40, 3, 0, 0, 58), (58, .bipush 16, 2, 16, 0, 60), (60, .iload_n 1, 1, 0, 0, 61), (61, .imul, 1, 0, 0, 62), (62, .iload_n 2, 1, 0, 0, 63), (63, .iadd, 1, 0, 0, 64), (64, .iaload, 1, 0, 0, 65), (65, .goto 4, 3, 0, 69, 68), (68, .iconst (-1), 1, (-1), 0, 69), (69, .ireturn, 1, 0, 0, 70)]
def swX12_page : Sw := []
def cuX12_page : Cu := []
set_option maxRecDepth 100000 in
theorem msX12_page : msOK mX12_page isX12_page swX12_page := msOK_of (by decide +kernel)
def isX12_count : Is := [(0, .iload_n 1, 1, 0, 0, 1), (1, .tableswitch 69 0 5 #[39, 44, 49, 54, 59, 64], 39, 0, 0, 40), (40, .aload_n 0, 1, 0, 0, 41), (41, .getfield 236, 3, 0, 0, 44), (44, .ireturn, 1, 0, 0, 45), (45, .aload_n 0, 1, 0, 0, 46), (46, .getfield 239, 3, 0, 0, 49), (49, .ireturn, 1, 0, 0, 50), (50, .aload_n 0, 1, 0, 0, 51), (51, .getfield 242, 3, 0, 0, 54), (54, .ireturn, 1, 0, 0, 55), (55, .aload_n 0, 1, 0, 0, 56), (56, .getfield 245, 3, 0, 0, 59), (59, .ireturn, 1, 0, 0, 60), (60, .aload_n 0, 1, 0, 0, 61), (61, .getfield 131, 3, 0, 0, 64), (64, .ireturn, 1, 0, 0, 65), (65, .aload_n 0, 1, 0, 0, 66), (66, .getfield 100, 3, 0, 0, 69), (69, .ireturn, 1, 0, 0, 70), (70, .sipush (-1002), 3, (-1002), 0, 73), (73, .ireturn, 1, 0, 0, 74)]
def swX12_count : Sw := [(1, [(0, 40), (1, 45), (2, 50), (3, 55), (4, 60), (5, 65)], 70)]
def cuX12_count : Cu := []
set_option maxRecDepth 100000 in
theorem msX12_count : msOK mX12_count isX12_count swX12_count := msOK_of (by decide +kernel)
def isX12_isFit : Is := [(0, .iload_n 3, 1, 0, 0, 1), (1, .aload_n 0, 1, 0, 0, 2), (2, .getfield 7, 3, 0, 0, 5), (5, .iload_n 1, 1, 0, 0, 6), (6, .iaload, 1, 0, 0, 7), (7, .iadd, 1, 0, 0, 8), (8, .istore 4, 2, 0, 0, 10), (10, .iload 4, 2, 0, 0, 12), (12, .aload_n 0, 1, 0, 0, 13), (13, .getfield 22, 3, 0, 0, 16), (16, .iload_n 2, 1, 0, 0, 17), (17, .iaload, 1, 0, 0, 18), (18, .if_icmp .gt 42, 3, 0, 60, 21), (21, .aload_n 0, 1, 0, 0, 22), (22, .getfield 19, 3, 0, 0, 25), (25, .iload_n 1, 1, 0, 0, 26), (26, .iaload, 1, 0, 0, 27), (27, .iconst 1, 1, 1, 0, 28), (28, .if_icmp .ne 7, 3, 0, 35, 31), (31, .iload_n 3, 1, 0, 0, 32), (32, .ifCond .ne 28, 3, 0, 60, 35), (35, .aload_n 0, 1, 0, 0, 36), (36, .getfield 19, 3, 0, 0, 39), (39, .iload_n 1, 1, 0, 0, 40), (40, .iaload, 1, 0, 0, 41), (41, .iconst 2, 1, 2, 0, 42), (42, .if_icmp .ne 14, 3, 0, 56, 45), (45, .iload 4, 2, 0, 0, 47), (47, .aload_n 0, 1, 0, 0, 48), (48, .getfield 22, 3, 0, 0, 51), (51, .iload_n 2, 1, 0, 0, 52), (52, .iaload, 1, 0, 0, 53), (53, .if_icmp .ne 7, 3, 0, 60, 56), (56, .iconst 1, 1, 1, 0, 57), (57, .goto 4, 3, 0, 61, 60), (60, .iconst 0, 1, 0, 0, 61), (61, .istore 5, 2, 0, 0, 63), (63, .iconst 0, 1, 0, 0, 64), (64, .istore 6, 2, 0, 0, 66), (66, .iload 6, 2, 0, 0, 68), (68, .aload_n 0, 1, 0, 0, 69), (69, .getfield 7, 3, 0, 0, 72), (72, .iload_n 1, 1, 0, 0, 73), (73, .iaload, 1, 0, 0, 74), (74, .if_icmp .ge 49, 3, 0, 123, 77), (77, .iload 5, 2, 0, 0, 79), (79, .ifCond .eq 44, 3, 0, 123, 82), (82, .aload_n 0, 1, 0, 0, 83), (83, .getfield 25, 3, 0, 0, 86), (86, .bipush 8, 2, 8, 0, 88), (88, .iload_n 2, 1, 0, 0, 89), (89, .imul, 1, 0, 0, 90), (90, .iload_n 3, 1, 0, 0, 91), (91, .iadd, 1, 0, 0, 92), (92, .iload 6, 2, 0, 0, 94), (94, .iadd, 1, 0, 0, 95), (95, .iaload, 1, 0, 0, 96), (96, .aload_n 0, 1, 0, 0, 97), (97, .getfield 13, 3, 0, 0, 100), (100, .iconst 4, 1, 4, 0, 101), (101, .iload_n 1, 1, 0, 0, 102), (102, .imul, 1, 0, 0, 103), (103, .iload 6, 2, 0, 0, 105), (105, .iadd, 1, 0, 0, 106), (106, .iaload, 1, 0, 0, 107), (107, .if_icmp .ne 7, 3, 0, 114, 110), (110, .iconst 1, 1, 1, 0, 111), (111, .goto 4, 3, 0, 115, 114), (114, .iconst 0, 1, 0, 0, 115), (115, .istore 5, 2, 0, 0, 117), (117, .iinc 6 1, 3, 1, 0, 120), (120, .goto (-54), 3, 0, 66, 123), (123, .iload 5, 2, 0, 0, 125), (125, .ireturn, 1, 0, 0, 126)]
def swX12_isFit : Sw := []
def cuX12_isFit : Cu := [(66, [0, 1, 2, 3, 5, 6])]
set_option maxRecDepth 100000 in
theorem msX12_isFit : msOK mX12_isFit isX12_isFit swX12_isFit := msOK_of (by decide +kernel)
def isX12_fits : Is := [(0, .aload_n 0, 1, 0, 0, 1), (1, .iload_n 1, 1, 0, 0, 2), (2, .invokevirtual 248, 3, 0, 0, 5), (5, .ifCond .eq 11, 3, 0, 16, 8), (8, .aload_n 0, 1, 0, 0, 9), (9, .iload_n 2, 1, 0, 0, 10), (10, .invokevirtual 256, 3, 0, 0, 13), (13, .ifCond .ne 7, 3, 0, 20, 16), (16, .sipush (-1001), 3, (-1001), 0, 19), (19, .ireturn, 1, 0, 0, 20), (20, .iload_n 3, 1, 0, 0, 21), (21, .i2l, 1, 0, 0, 22), (22, .lconst 0, 1, 0, 0, 23), (23, .aload_n 0, 1, 0, 0, 24), (24, .getfield 22, 3, 0, 0, 27), (27, .iload_n 2, 1, 0, 0, 28), (28, .iaload, 1, 0, 0, 29), (29, .iconst 1, 1, 1, 0, 30), (30, .isub, 1, 0, 0, 31), (31, .i2l, 1, 0, 0, 32), (32, .invokestatic 127, 3, 0, 0, 35), (35, .ifCond .ne 9, 3, 0, 44, 38), (38, .sipush (-1002), 3, (-1002), 0, 41), (41, .goto 18, 3, 0, 59, 44), (44, .aload_n 0, 1, 0, 0, 45), (45, .iload_n 1, 1, 0, 0, 46), (46, .iload_n 2, 1, 0, 0, 47), (47, .iload_n 3, 1, 0, 0, 48), (48, .invokevirtual 275, 3, 0, 0, 51), (51, .ifCond .eq 7, 3, 0, 58, 54), (54, .iconst 1, 1, 1, 0, 55), (55, .goto 4, 3, 0, 59, 58), (58, .iconst 0, 1, 0, 0, 59), (59, .ireturn, 1, 0, 0, 60)]
def swX12_fits : Sw := []
def cuX12_fits : Cu := []
set_option maxRecDepth 100000 in
theorem msX12_fits : msOK mX12_fits isX12_fits swX12_fits := msOK_of (by decide +kernel)
def isX12_leads : Is := [(0, .iload 5, 2, 0, 0, 2), (2, .iload_n 1, 1, 0, 0, 3), (3, .invokestatic 205, 3, 0, 0, 6), (6, .ifCond .eq 13, 3, 0, 19, 9), (9, .aload_n 0, 1, 0, 0, 10), (10, .iload_n 1, 1, 0, 0, 11), (11, .iload_n 2, 1, 0, 0, 12), (12, .iload_n 3, 1, 0, 0, 13), (13, .invokevirtual 275, 3, 0, 0, 16), (16, .ifCond .ne 5, 3, 0, 21, 19), (19, .iconst (-1), 1, (-1), 0, 20), (20, .ireturn, 1, 0, 0, 21), (21, .aload_n 0, 1, 0, 0, 22), (22, .getfield 16, 3, 0, 0, 25), (25, .iload_n 1, 1, 0, 0, 26), (26, .iaload, 1, 0, 0, 27), (27, .ifCond .ge 18, 3, 0, 45, 30), (30, .bipush 9, 2, 9, 0, 32), (32, .iload_n 3, 1, 0, 0, 33), (33, .aload_n 0, 1, 0, 0, 34), (34, .getfield 7, 3, 0, 0, 37), (37, .iload_n 1, 1, 0, 0, 38), (38, .iaload, 1, 0, 0, 39), (39, .iadd, 1, 0, 0, 40), (40, .imul, 1, 0, 0, 41), (41, .iload 4, 2, 0, 0, 43), (43, .iadd, 1, 0, 0, 44), (44, .ireturn, 1, 0, 0, 45), (45, .iload 4, 2, 0, 0, 47), (47, .aload_n 0, 1, 0, 0, 48), (48, .getfield 28, 3, 0, 0, 51), (51, .iload_n 2, 1, 0, 0, 52), (52, .iaload, 1, 0, 0, 53), (53, .if_icmp .ge 28, 3, 0, 81, 56), (56, .aload_n 0, 1, 0, 0, 57), (57, .getfield 31, 3, 0, 0, 60), (60, .bipush 8, 2, 8, 0, 62), (62, .iload_n 2, 1, 0, 0, 63), (63, .imul, 1, 0, 0, 64), (64, .iload 4, 2, 0, 0, 66), (66, .iadd, 1, 0, 0, 67), (67, .iaload, 1, 0, 0, 68), (68, .aload_n 0, 1, 0, 0, 69), (69, .getfield 16, 3, 0, 0, 72), (72, .iload_n 1, 1, 0, 0, 73), (73, .iaload, 1, 0, 0, 74), (74, .if_icmp .ne 7, 3, 0, 81, 77), (77, .iconst 1, 1, 1, 0, 78), (78, .goto 4, 3, 0, 82, 81), (81, .iconst 0, 1, 0, 0, 82), (82, .istore 6, 2, 0, 0, 84), (84, .iload 6, 2, 0, 0, 86), (86, .ifCond .eq 22, 3, 0, 108, 89), (89, .bipush 9, 2, 9, 0, 91), (91, .iload_n 3, 1, 0, 0, 92), (92, .aload_n 0, 1, 0, 0, 93), (93, .getfield 7, 3, 0, 0, 96), (96, .iload_n 1, 1, 0, 0, 97), (97, .iaload, 1, 0, 0, 98), (98, .iadd, 1, 0, 0, 99), (99, .imul, 1, 0, 0, 100), (100, .iload 4, 2, 0, 0, 102), (102, .iadd, 1, 0, 0, 103), (103, .iconst 1, 1, 1, 0, 104), (104, .iadd, 1, 0, 0, 105), (105, .goto 4, 3, 0, 109, 108), (108, .iconst (-1), 1, (-1), 0, 109), (109, .ireturn, 1, 0, 0, 110)]
def swX12_leads : Sw := []
def cuX12_leads : Cu := []
set_option maxRecDepth 100000 in
theorem msX12_leads : msOK mX12_leads isX12_leads swX12_leads := msOK_of (by decide +kernel)
def isX12_findWays : Is := [(0, .aload_n 0, 1, 0, 0, 1), (1, .getfield 22, 3, 0, 0, 4), (4, .iload_n 1, 1, 0, 0, 5), (5, .iaload, 1, 0, 0, 6), (6, .istore_n 3, 1, 0, 0, 7), (7, .iload_n 3, 1, 0, 0, 8), (8, .ifCond .lt 132, 3, 0, 140, 11), (11, .aload_n 0, 1, 0, 0, 12), (12, .getfield 28, 3, 0, 0, 15), (15, .iload_n 1, 1, 0, 0, 16), (16, .iaload, 1, 0, 0, 17), (17, .istore 4, 2, 0, 0, 19), (19, .iload 4, 2, 0, 0, 21), (21, .ifCond .lt 113, 3, 0, 134, 24), (24, .iload_n 3, 1, 0, 0, 25), (25, .aload_n 0, 1, 0, 0, 26), (26, .getfield 22, 3, 0, 0, 29), (29, .iload_n 1, 1, 0, 0, 30), (30, .iaload, 1, 0, 0, 31), (31, .if_icmp .ne 18, 3, 0, 49, 34), (34, .iload 4, 2, 0, 0, 36), (36, .aload_n 0, 1, 0, 0, 37), (37, .getfield 28, 3, 0, 0, 40), (40, .iload_n 1, 1, 0, 0, 41), (41, .iaload, 1, 0, 0, 42), (42, .if_icmp .ne 7, 3, 0, 49, 45), (45, .lconst 1, 1, 0, 0, 46), (46, .goto 4, 3, 0, 50, 49), (49, .lconst 0, 1, 0, 0, 50), (50, .lstore 5, 2, 0, 0, 52), (52, .iconst 0, 1, 0, 0, 53), (53, .istore 7, 2, 0, 0, 55), (55, .iload 7, 2, 0, 0, 57), (57, .aload_n 0, 1, 0, 0, 58), (58, .getfield 236, 3, 0, 0, 61), (61, .if_icmp .ge 53, 3, 0, 114, 64), (64, .iload_n 3, 1, 0, 0, 65), (65, .aload_n 0, 1, 0, 0, 66), (66, .getfield 22, 3, 0, 0, 69), (69, .iload_n 1, 1, 0, 0, 70), (70, .iaload, 1, 0, 0, 71), (71, .if_icmp .ge 43, 3, 0, 114, 74), (74, .aload_n 0, 1, 0, 0, 75), (75, .iload 7, 2, 0, 0, 77), (77, .iload_n 1, 1, 0, 0, 78), (78, .iload_n 3, 1, 0, 0, 79), (79, .iload 4, 2, 0, 0, 81), (81, .iload_n 2, 1, 0, 0, 82), (82, .invokevirtual 279, 3, 0, 0, 85), (85, .istore 8, 2, 0, 0, 87), (87, .lload 5, 2, 0, 0, 89), (89, .iload 8, 2, 0, 0, 91), (91, .ifCond .ge 7, 3, 0, 98, 94), (94, .lconst 0, 1, 0, 0, 95), (95, .goto 10, 3, 0, 105, 98), (98, .aload_n 0, 1, 0, 0, 99), (99, .getfield 86, 3, 0, 0, 102), (102, .iload 8, 2, 0, 0, 104), (104, .laload, 1, 0, 0, 105), (105, .ladd, 1, 0, 0, 106), (106, .lstore 5, 2, 0, 0, 108), (108, .iinc 7 1, 3, 1, 0, 111), (111, .goto (-56), 3, 0, 55, 114), (114, .aload_n 0, 1, 0, 0, 115), (115, .getfield 86, 3, 0, 0, 118), (118, .bipush 9, 2, 9, 0, 120), (120, .iload_n 3, 1, 0, 0, 121), (121, .imul, 1, 0, 0, 122), (122, .iload 4, 2, 0, 0, 124), (124, .iadd, 1, 0, 0, 125), (125, .lload 5, 2, 0, 0, 127), (127, .lastore, 1, 0, 0, 128), (128, .iinc 4 (-1), 3, (-1), 0, 131), (131, .goto (-112), 3, 0, 19, 134), (134, .iinc 3 (-1), 3, (-1), 0, 137), (137, .goto (-130), 3, 0, 7, 140), (140, .aload_n 0, 1, 0, 0, 141), (141, .getfield 86, 3, 0, 0, 144), (144, .iconst 0, 1, 0, 0, 145), (145, .laload, 1, 0, 0, 146), (146, .lreturn, 1, 0, 0, 147)]
def swX12_findWays : Sw := []
def cuX12_findWays : Cu := [(7, [0, 1, 2, 3]), (19, [0, 1, 2, 3, 4]), (55, [0, 1, 2, 3, 4, 5, 7])]
set_option maxRecDepth 100000 in
theorem msX12_findWays : msOK mX12_findWays isX12_findWays swX12_findWays := msOK_of (by decide +kernel)
def isX12_ways : Is := [(0, .aload_n 0, 1, 0, 0, 1), (1, .iload_n 1, 1, 0, 0, 2), (2, .invokevirtual 256, 3, 0, 0, 5), (5, .ifCond .eq 20, 3, 0, 25, 8), (8, .aload_n 0, 1, 0, 0, 9), (9, .iload_n 2, 1, 0, 0, 10), (10, .invokevirtual 283, 3, 0, 0, 13), (13, .ifCond .eq 12, 3, 0, 25, 16), (16, .aload_n 0, 1, 0, 0, 17), (17, .iload_n 1, 1, 0, 0, 18), (18, .iload_n 2, 1, 0, 0, 19), (19, .invokevirtual 286, 3, 0, 0, 22), (22, .goto 6, 3, 0, 28, 25), (25, .ldc2_w 290, 3, 0, 0, 28), (28, .lreturn, 1, 0, 0, 29)]
def swX12_ways : Sw := []
def cuX12_ways : Cu := []
set_option maxRecDepth 100000 in
theorem msX12_ways : msOK mX12_ways isX12_ways swX12_ways := msOK_of (by decide +kernel)
def isX12_cut : Is := [(0, .aload_n 0, 1, 0, 0, 1), (1, .iload_n 1, 1, 0, 0, 2), (2, .invokevirtual 256, 3, 0, 0, 5), (5, .ifCond .eq 11, 3, 0, 16, 8), (8, .aload_n 0, 1, 0, 0, 9), (9, .iload_n 2, 1, 0, 0, 10), (10, .invokevirtual 283, 3, 0, 0, 13), (13, .ifCond .ne 7, 3, 0, 20, 16), (16, .sipush (-1001), 3, (-1001), 0, 19), (19, .ireturn, 1, 0, 0, 20), (20, .aload_n 0, 1, 0, 0, 21), (21, .iload_n 1, 1, 0, 0, 22), (22, .iload_n 2, 1, 0, 0, 23), (23, .invokevirtual 286, 3, 0, 0, 26), (26, .lconst 0, 1, 0, 0, 27), (27, .lcmp, 1, 0, 0, 28), (28, .ifCond .eq 8, 3, 0, 36, 31), (31, .iload_n 3, 1, 0, 0, 32), (32, .iconst (-1), 1, (-1), 0, 33), (33, .if_icmp .ge 5, 3, 0, 38, 36), (36, .iconst (-1), 1, (-1), 0, 37), (37, .ireturn, 1, 0, 0, 38), (38, .iconst 0, 1, 0, 0, 39), (39, .istore 4, 2, 0, 0, 41), (41, .iconst 0, 1, 0, 0, 42), (42, .istore 5, 2, 0, 0, 44), (44, .iload 4, 2, 0, 0, 46), (46, .bipush 9, 2, 9, 0, 48), (48, .idiv, 1, 0, 0, 49), (49, .aload_n 0, 1, 0, 0, 50), (50, .getfield 22, 3, 0, 0, 53), (53, .iload_n 1, 1, 0, 0, 54), (54, .iaload, 1, 0, 0, 55), (55, .if_icmp .ge 87, 3, 0, 142, 58), (58, .iconst 0, 1, 0, 0, 59), (59, .istore 6, 2, 0, 0, 61), (61, .aload_n 0, 1, 0, 0, 62), (62, .iconst 0, 1, 0, 0, 63), (63, .iload_n 1, 1, 0, 0, 64), (64, .iload 4, 2, 0, 0, 66), (66, .bipush 9, 2, 9, 0, 68), (68, .idiv, 1, 0, 0, 69), (69, .iload 4, 2, 0, 0, 71), (71, .bipush 9, 2, 9, 0, 73), (73, .irem, 1, 0, 0, 74), (74, .iload_n 2, 1, 0, 0, 75), (75, .invokevirtual 279, 3, 0, 0, 78), (78, .istore 7, 2, 0, 0, 80), (80, .iload 7, 2, 0, 0, 82), (82, .ifCond .lt 15, 3, 0, 97, 85), (85, .aload_n 0, 1, 0, 0, 86), (86, .getfield 86, 3, 0, 0, 89), (89, .iload 7, 2, 0, 0, 91), (91, .laload, 1, 0, 0, 92), (92, .lconst 0, 1, 0, 0, 93), (93, .lcmp, 1, 0, 0, 94), (94, .ifCond .ne 29, 3, 0, 123, 97), (97, .iinc 6 1, 3, 1, 0, 100), (100, .aload_n 0, 1, 0, 0, 101), (101, .iload 6, 2, 0, 0, 103), (103, .iload_n 1, 1, 0, 0, 104), (104, .iload 4, 2, 0, 0, 106), (106, .bipush 9, 2, 9, 0, 108), (108, .idiv, 1, 0, 0, 109), (109, .iload 4, 2, 0, 0, 111), (111, .bipush 9, 2, 9, 0, 113), (113, .irem, 1, 0, 0, 114), (114, .iload_n 2, 1, 0, 0, 115), (115, .invokevirtual 279, 3, 0, 0, 118), (118, .istore 7, 2, 0, 0, 120), (120, .goto (-40), 3, 0, 80, 123), (123, .iload 5, 2, 0, 0, 125), (125, .iload_n 3, 1, 0, 0, 126), (126, .if_icmp .ne 6, 3, 0, 132, 129), (129, .iload 6, 2, 0, 0, 131), (131, .ireturn, 1, 0, 0, 132), (132, .iinc 5 1, 3, 1, 0, 135), (135, .iload 7, 2, 0, 0, 137), (137, .istore 4, 2, 0, 0, 139), (139, .goto (-95), 3, 0, 44, 142), (142, .iload_n 3, 1, 0, 0, 143), (143, .iconst (-1), 1, (-1), 0, 144), (144, .if_icmp .ne 8, 3, 0, 152, 147), (147, .iload 5, 2, 0, 0, 149), (149, .goto 4, 3, 0, 153, 152), (152, .iconst (-1), 1, (-1), 0, 153), (153, .ireturn, 1, 0, 0, 154)]
def swX12_cut : Sw := []
def cuX12_cut : Cu := [(44, [0, 1, 2, 3, 4, 5]), (80, [0, 1, 2, 3, 4, 5, 6, 7])]
set_option maxRecDepth 100000 in
theorem msX12_cut : msOK mX12_cut isX12_cut swX12_cut := msOK_of (by decide +kernel)
def isX12_speak : Is := [(0, .aload_n 0, 1, 0, 0, 1), (1, .iconst 0, 1, 0, 0, 2), (2, .putfield 292, 3, 0, 0, 5), (5, .aload_n 0, 1, 0, 0, 6), (6, .iconst 0, 1, 0, 0, 7), (7, .putfield 295, 3, 0, 0, 10), (10, .iconst 0, 1, 0, 0, 11), (11, .istore_n 3, 1, 0, 0, 12), (12, .iconst 0, 1, 0, 0, 13), (13, .istore 4, 2, 0, 0, 15), (15, .iload_n 3, 1, 0, 0, 16), (16, .aload_n 0, 1, 0, 0, 17), (17, .getfield 22, 3, 0, 0, 20), (20, .iload_n 1, 1, 0, 0, 21), (21, .iaload, 1, 0, 0, 22), (22, .if_icmp .ge 159, 3, 0, 181, 25), (25, .iload 4, 2, 0, 0, 27), (27, .ifCond .lt 154, 3, 0, 181, 30), (30, .iconst (-1), 1, (-1), 0, 31), (31, .istore 4, 2, 0, 0, 33), (33, .iconst 0, 1, 0, 0, 34), (34, .istore 5, 2, 0, 0, 36), (36, .iload 5, 2, 0, 0, 38), (38, .aload_n 0, 1, 0, 0, 39), (39, .getfield 236, 3, 0, 0, 42), (42, .if_icmp .ge 72, 3, 0, 114, 45), (45, .iload_n 2, 1, 0, 0, 46), (46, .iload 5, 2, 0, 0, 48), (48, .invokestatic 205, 3, 0, 0, 51), (51, .ifCond .eq 18, 3, 0, 69, 54), (54, .aload_n 0, 1, 0, 0, 55), (55, .iload 5, 2, 0, 0, 57), (57, .iload_n 1, 1, 0, 0, 58), (58, .iload_n 3, 1, 0, 0, 59), (59, .invokevirtual 275, 3, 0, 0, 62), (62, .ifCond .eq 7, 3, 0, 69, 65), (65, .iconst 1, 1, 1, 0, 66), (66, .goto 4, 3, 0, 70, 69), (69, .iconst 0, 1, 0, 0, 70), (70, .istore 6, 2, 0, 0, 72), (72, .iload 6, 2, 0, 0, 74), (74, .ifCond .eq 30, 3, 0, 104, 77), (77, .iload 4, 2, 0, 0, 79), (79, .ifCond .lt 20, 3, 0, 99, 82), (82, .aload_n 0, 1, 0, 0, 83), (83, .getfield 7, 3, 0, 0, 86), (86, .iload 5, 2, 0, 0, 88), (88, .iaload, 1, 0, 0, 89), (89, .aload_n 0, 1, 0, 0, 90), (90, .getfield 7, 3, 0, 0, 93), (93, .iload 4, 2, 0, 0, 95), (95, .iaload, 1, 0, 0, 96), (96, .if_icmp .le 8, 3, 0, 104, 99), (99, .iload 5, 2, 0, 0, 101), (101, .goto 5, 3, 0, 106, 104), (104, .iload 4, 2, 0, 0, 106), (106, .istore 4, 2, 0, 0, 108), (108, .iinc 5 1, 3, 1, 0, 111), (111, .goto (-75), 3, 0, 36, 114), (114, .iload 4, 2, 0, 0, 116), (116, .ifCond .lt (-101), 3, 0, 15, 119), (119, .aload_n 0, 1, 0, 0, 120), (120, .dup, 1, 0, 0, 121), (121, .getfield 295, 3, 0, 0, 124), (124, .iconst 1, 1, 1, 0, 125), (125, .iload 4, 2, 0, 0, 127), (127, .ishl, 1, 0, 0, 128), (128, .ior, 1, 0, 0, 129), (129, .putfield 295, 3, 0, 0, 132), (132, .iload_n 3, 1, 0, 0, 133), (133, .aload_n 0, 1, 0, 0, 134), (134, .getfield 7, 3, 0, 0, 137), (137, .iload 4, 2, 0, 0, 139), (139, .iaload, 1, 0, 0, 140), (140, .iadd, 1, 0, 0, 141), (141, .istore_n 3, 1, 0, 0, 142), (142, .aload_n 0, 1, 0, 0, 143), (143, .getfield 16, 3, 0, 0, 146), (146, .iload 4, 2, 0, 0, 148), (148, .iaload, 1, 0, 0, 149), (149, .ifCond .lt (-134), 3, 0, 15, 152), (152, .aload_n 0, 1, 0, 0, 153), (153, .getfield 90, 3, 0, 0, 156), (156, .aload_n 0, 1, 0, 0, 157), (157, .getfield 292, 3, 0, 0, 160), (160, .aload_n 0, 1, 0, 0, 161), (161, .getfield 16, 3, 0, 0, 164), (164, .iload 4, 2, 0, 0, 166), (166, .iaload, 1, 0, 0, 167), (167, .iastore, 1, 0, 0, 168), (168, .aload_n 0, 1, 0, 0, 169), (169, .dup, 1, 0, 0, 170), (170, .getfield 292, 3, 0, 0, 173), (173, .iconst 1, 1, 1, 0, 174), (174, .iadd, 1, 0, 0, 175), (175, .putfield 292, 3, 0, 0, 178), (178, .goto (-163), 3, 0, 15, 181), (181, .aload_n 0, 1, 0, 0, 182), (182, .iload_n 3, 1, 0, 0, 183), (183, .aload_n 0, 1, 0, 0, 184), (184, .getfield 22, 3, 0, 0, 187), (187, .iload_n 1, 1, 0, 0, 188), (188, .iaload, 1, 0, 0, 189), (189, .if_icmp .ne 7, 3, 0, 196, 192), (192, .iconst 1, 1, 1, 0, 193), (193, .goto 4, 3, 0, 197, 196), (196, .iconst 0, 1, 0, 0, 197), (197, .putfield 298, 3, 0, 0, 200), (200, .return_, 1, 0, 0, 201)]
def swX12_speak : Sw := []
def cuX12_speak : Cu := [(15, [0, 1, 2, 3, 4]), (36, [0, 1, 2, 3, 4, 5])]
set_option maxRecDepth 100000 in
theorem msX12_speak : msOK mX12_speak isX12_speak swX12_speak := msOK_of (by decide +kernel)
def isX12_areSounds : Is := [(0, .aload_n 0, 1, 0, 0, 1), (1, .getfield 292, 3, 0, 0, 4), (4, .aload_n 0, 1, 0, 0, 5), (5, .getfield 28, 3, 0, 0, 8), (8, .iload_n 1, 1, 0, 0, 9), (9, .iaload, 1, 0, 0, 10), (10, .if_icmp .ne 7, 3, 0, 17, 13), (13, .iconst 1, 1, 1, 0, 14), (14, .goto 4, 3, 0, 18, 17), (17, .iconst 0, 1, 0, 0, 18), (18, .istore_n 2, 1, 0, 0, 19), (19, .iconst 0, 1, 0, 0, 20), (20, .istore_n 3, 1, 0, 0, 21), (21, .iload_n 3, 1, 0, 0, 22), (22, .aload_n 0, 1, 0, 0, 23), (23, .getfield 292, 3, 0, 0, 26), (26, .if_icmp .ge 39, 3, 0, 65, 29), (29, .iload_n 2, 1, 0, 0, 30), (30, .ifCond .eq 35, 3, 0, 65, 33), (33, .aload_n 0, 1, 0, 0, 34), (34, .getfield 90, 3, 0, 0, 37), (37, .iload_n 3, 1, 0, 0, 38), (38, .iaload, 1, 0, 0, 39), (39, .aload_n 0, 1, 0, 0, 40), (40, .getfield 31, 3, 0, 0, 43), (43, .bipush 8, 2, 8, 0, 45), (45, .iload_n 1, 1, 0, 0, 46), (46, .imul, 1, 0, 0, 47), (47, .iload_n 3, 1, 0, 0, 48), (48, .iadd, 1, 0, 0, 49), (49, .iaload, 1, 0, 0, 50), (50, .if_icmp .ne 7, 3, 0, 57, 53), (53, .iconst 1, 1, 1, 0, 54), (54, .goto 4, 3, 0, 58, 57), (57, .iconst 0, 1, 0, 0, 58), (58, .istore_n 2, 1, 0, 0, 59), (59, .iinc 3 1, 3, 1, 0, 62), (62, .goto (-41), 3, 0, 21, 65), (65, .iload_n 2, 1, 0, 0, 66), (66, .ireturn, 1, 0, 0, 67)]
def swX12_areSounds : Sw := []
def cuX12_areSounds : Cu := [(21, [0, 1, 2, 3])]
set_option maxRecDepth 100000 in
theorem msX12_areSounds : msOK mX12_areSounds isX12_areSounds swX12_areSounds := msOK_of (by decide +kernel)
def isX12_isRight : Is := [(0, .aload_n 0, 1, 0, 0, 1), (1, .iload_n 1, 1, 0, 0, 2), (2, .iload_n 2, 1, 0, 0, 3), (3, .invokevirtual 302, 3, 0, 0, 6), (6, .aload_n 0, 1, 0, 0, 7), (7, .getfield 298, 3, 0, 0, 10), (10, .ifCond .eq 15, 3, 0, 25, 13), (13, .aload_n 0, 1, 0, 0, 14), (14, .iload_n 1, 1, 0, 0, 15), (15, .invokevirtual 306, 3, 0, 0, 18), (18, .ifCond .eq 7, 3, 0, 25, 21), (21, .iconst 1, 1, 1, 0, 22), (22, .goto 4, 3, 0, 26, 25), (25, .iconst 0, 1, 0, 0, 26), (26, .ireturn, 1, 0, 0, 27)]
def swX12_isRight : Sw := []
def cuX12_isRight : Cu := []
set_option maxRecDepth 100000 in
theorem msX12_isRight : msOK mX12_isRight isX12_isRight swX12_isRight := msOK_of (by decide +kernel)
def isX12_outAt : Is := [(0, .iload_n 1, 1, 0, 0, 1), (1, .iconst (-1), 1, (-1), 0, 2), (2, .if_icmp .ne 10, 3, 0, 12, 5), (5, .aload_n 0, 1, 0, 0, 6), (6, .getfield 292, 3, 0, 0, 9), (9, .goto 29, 3, 0, 38, 12), (12, .iload_n 1, 1, 0, 0, 13), (13, .i2l, 1, 0, 0, 14), (14, .lconst 0, 1, 0, 0, 15), (15, .aload_n 0, 1, 0, 0, 16), (16, .getfield 292, 3, 0, 0, 19), (19, .iconst 1, 1, 1, 0, 20), (20, .isub, 1, 0, 0, 21), (21, .i2l, 1, 0, 0, 22), (22, .invokestatic 127, 3, 0, 0, 25), (25, .ifCond .eq 12, 3, 0, 37, 28), (28, .aload_n 0, 1, 0, 0, 29), (29, .getfield 90, 3, 0, 0, 32), (32, .iload_n 1, 1, 0, 0, 33), (33, .iaload, 1, 0, 0, 34), (34, .goto 4, 3, 0, 38, 37), (37, .iconst (-1), 1, (-1), 0, 38), (38, .ireturn, 1, 0, 0, 39)]
def swX12_outAt : Sw := []
def cuX12_outAt : Cu := []
set_option maxRecDepth 100000 in
theorem msX12_outAt : msOK mX12_outAt isX12_outAt swX12_outAt := msOK_of (by decide +kernel)
def isX12_aloud : Is := [(0, .aload_n 0, 1, 0, 0, 1), (1, .iload_n 1, 1, 0, 0, 2), (2, .invokevirtual 256, 3, 0, 0, 5), (5, .ifCond .eq 11, 3, 0, 16, 8), (8, .aload_n 0, 1, 0, 0, 9), (9, .iload_n 2, 1, 0, 0, 10), (10, .invokevirtual 283, 3, 0, 0, 13), (13, .ifCond .ne 7, 3, 0, 20, 16), (16, .sipush (-1001), 3, (-1001), 0, 19), (19, .ireturn, 1, 0, 0, 20), (20, .aload_n 0, 1, 0, 0, 21), (21, .iload_n 1, 1, 0, 0, 22), (22, .iload_n 2, 1, 0, 0, 23), (23, .invokevirtual 302, 3, 0, 0, 26), (26, .aload_n 0, 1, 0, 0, 27), (27, .iload_n 3, 1, 0, 0, 28), (28, .invokevirtual 309, 3, 0, 0, 31), (31, .ireturn, 1, 0, 0, 32)]
def swX12_aloud : Sw := []
def cuX12_aloud : Cu := []
set_option maxRecDepth 100000 in
theorem msX12_aloud : msOK mX12_aloud isX12_aloud swX12_aloud := msOK_of (by decide +kernel)
def isX12_spell : Is := [(0, .aload_n 0, 1, 0, 0, 1), (1, .iconst 0, 1, 0, 0, 2), (2, .putfield 292, 3, 0, 0, 5), (5, .aload_n 0, 1, 0, 0, 6), (6, .iconst 1, 1, 1, 0, 7), (7, .putfield 298, 3, 0, 0, 10), (10, .iconst 0, 1, 0, 0, 11), (11, .istore_n 3, 1, 0, 0, 12), (12, .iload_n 3, 1, 0, 0, 13), (13, .aload_n 0, 1, 0, 0, 14), (14, .getfield 28, 3, 0, 0, 17), (17, .iload_n 1, 1, 0, 0, 18), (18, .iaload, 1, 0, 0, 19), (19, .if_icmp .ge 212, 3, 0, 231, 22), (22, .aload_n 0, 1, 0, 0, 23), (23, .getfield 298, 3, 0, 0, 26), (26, .ifCond .eq 205, 3, 0, 231, 29), (29, .iconst (-1), 1, (-1), 0, 30), (30, .istore 4, 2, 0, 0, 32), (32, .aload_n 0, 1, 0, 0, 33), (33, .getfield 236, 3, 0, 0, 36), (36, .iconst 1, 1, 1, 0, 37), (37, .isub, 1, 0, 0, 38), (38, .istore 5, 2, 0, 0, 40), (40, .iload 5, 2, 0, 0, 42), (42, .ifCond .lt 110, 3, 0, 152, 45), (45, .iload_n 2, 1, 0, 0, 46), (46, .iload 5, 2, 0, 0, 48), (48, .invokestatic 205, 3, 0, 0, 51), (51, .ifCond .eq 28, 3, 0, 79, 54), (54, .aload_n 0, 1, 0, 0, 55), (55, .getfield 16, 3, 0, 0, 58), (58, .iload 5, 2, 0, 0, 60), (60, .iaload, 1, 0, 0, 61), (61, .aload_n 0, 1, 0, 0, 62), (62, .getfield 31, 3, 0, 0, 65), (65, .bipush 8, 2, 8, 0, 67), (67, .iload_n 1, 1, 0, 0, 68), (68, .imul, 1, 0, 0, 69), (69, .iload_n 3, 1, 0, 0, 70), (70, .iadd, 1, 0, 0, 71), (71, .iaload, 1, 0, 0, 72), (72, .if_icmp .ne 7, 3, 0, 79, 75), (75, .iconst 1, 1, 1, 0, 76), (76, .goto 4, 3, 0, 80, 79), (79, .iconst 0, 1, 0, 0, 80), (80, .istore 6, 2, 0, 0, 82), (82, .iload 6, 2, 0, 0, 84), (84, .ifCond .eq 45, 3, 0, 129, 87), (87, .aload_n 0, 1, 0, 0, 88), (88, .getfield 19, 3, 0, 0, 91), (91, .iload 5, 2, 0, 0, 93), (93, .iaload, 1, 0, 0, 94), (94, .iconst 1, 1, 1, 0, 95), (95, .if_icmp .ne 7, 3, 0, 102, 98), (98, .iload_n 3, 1, 0, 0, 99), (99, .ifCond .ne 30, 3, 0, 129, 102), (102, .aload_n 0, 1, 0, 0, 103), (103, .getfield 19, 3, 0, 0, 106), (106, .iload 5, 2, 0, 0, 108), (108, .iaload, 1, 0, 0, 109), (109, .iconst 2, 1, 2, 0, 110), (110, .if_icmp .ne 15, 3, 0, 125, 113), (113, .iload_n 3, 1, 0, 0, 114), (114, .aload_n 0, 1, 0, 0, 115), (115, .getfield 28, 3, 0, 0, 118), (118, .iload_n 1, 1, 0, 0, 119), (119, .iaload, 1, 0, 0, 120), (120, .iconst 1, 1, 1, 0, 121), (121, .isub, 1, 0, 0, 122), (122, .if_icmp .ne 7, 3, 0, 129, 125), (125, .iconst 1, 1, 1, 0, 126), (126, .goto 4, 3, 0, 130, 129), (129, .iconst 0, 1, 0, 0, 130), (130, .istore 6, 2, 0, 0, 132), (132, .iload 6, 2, 0, 0, 134), (134, .ifCond .eq 8, 3, 0, 142, 137), (137, .iload 5, 2, 0, 0, 139), (139, .goto 5, 3, 0, 144, 142), (142, .iload 4, 2, 0, 0, 144), (144, .istore 4, 2, 0, 0, 146), (146, .iinc 5 (-1), 3, (-1), 0, 149), (149, .goto (-109), 3, 0, 40, 152), (152, .aload_n 0, 1, 0, 0, 153), (153, .iload 4, 2, 0, 0, 155), (155, .ifCond .lt 7, 3, 0, 162, 158), (158, .iconst 1, 1, 1, 0, 159), (159, .goto 4, 3, 0, 163, 162), (162, .iconst 0, 1, 0, 0, 163), (163, .putfield 298, 3, 0, 0, 166), (166, .iconst 0, 1, 0, 0, 167), (167, .istore 5, 2, 0, 0, 169), (169, .aload_n 0, 1, 0, 0, 170), (170, .getfield 298, 3, 0, 0, 173), (173, .ifCond .eq 52, 3, 0, 225, 176), (176, .iload 5, 2, 0, 0, 178), (178, .aload_n 0, 1, 0, 0, 179), (179, .getfield 7, 3, 0, 0, 182), (182, .iload 4, 2, 0, 0, 184), (184, .iaload, 1, 0, 0, 185), (185, .if_icmp .ge 40, 3, 0, 225, 188), (188, .aload_n 0, 1, 0, 0, 189), (189, .getfield 90, 3, 0, 0, 192), (192, .aload_n 0, 1, 0, 0, 193), (193, .getfield 292, 3, 0, 0, 196), (196, .aload_n 0, 1, 0, 0, 197), (197, .getfield 13, 3, 0, 0, 200), (200, .iconst 4, 1, 4, 0, 201), (201, .iload 4, 2, 0, 0, 203), (203, .imul, 1, 0, 0, 204), (204, .iload 5, 2, 0, 0, 206), (206, .iadd, 1, 0, 0, 207), (207, .iaload, 1, 0, 0, 208), (208, .iastore, 1, 0, 0, 209), (209, .aload_n 0, 1, 0, 0, 210), (210, .dup, 1, 0, 0, 211), (211, .getfield 292, 3, 0, 0, 214), (214, .iconst 1, 1, 1, 0, 215), (215, .iadd, 1, 0, 0, 216), (216, .putfield 292, 3, 0, 0, 219), (219, .iinc 5 1, 3, 1, 0, 222), (222, .goto (-53), 3, 0, 169, 225), (225, .iinc 3 1, 3, 1, 0, 228), (228, .goto (-216), 3, 0, 12, 231), (231, .return_, 1, 0, 0, 232)]
def swX12_spell : Sw := []
def cuX12_spell : Cu := [(12, [0, 1, 2, 3]), (40, [0, 1, 2, 3, 4, 5]), (169, [0, 1, 2, 3, 4, 5])]
set_option maxRecDepth 100000 in
theorem msX12_spell : msOK mX12_spell isX12_spell swX12_spell := msOK_of (by decide +kernel)
def isX12_isWell : Is := [(0, .aload_n 0, 1, 0, 0, 1), (1, .iload_n 1, 1, 0, 0, 2), (2, .iload_n 2, 1, 0, 0, 3), (3, .invokevirtual 312, 3, 0, 0, 6), (6, .aload_n 0, 1, 0, 0, 7), (7, .getfield 298, 3, 0, 0, 10), (10, .ifCond .eq 20, 3, 0, 30, 13), (13, .aload_n 0, 1, 0, 0, 14), (14, .getfield 292, 3, 0, 0, 17), (17, .aload_n 0, 1, 0, 0, 18), (18, .getfield 22, 3, 0, 0, 21), (21, .iload_n 1, 1, 0, 0, 22), (22, .iaload, 1, 0, 0, 23), (23, .if_icmp .ne 7, 3, 0, 30, 26), (26, .iconst 1, 1, 1, 0, 27), (27, .goto 4, 3, 0, 31, 30), (30, .iconst 0, 1, 0, 0, 31), (31, .istore_n 3, 1, 0, 0, 32), (32, .iconst 0, 1, 0, 0, 33), (33, .istore 4, 2, 0, 0, 35), (35, .iload 4, 2, 0, 0, 37), (37, .aload_n 0, 1, 0, 0, 38), (38, .getfield 292, 3, 0, 0, 41), (41, .if_icmp .ge 41, 3, 0, 82, 44), (44, .iload_n 3, 1, 0, 0, 45), (45, .ifCond .eq 37, 3, 0, 82, 48), (48, .aload_n 0, 1, 0, 0, 49), (49, .getfield 90, 3, 0, 0, 52), (52, .iload 4, 2, 0, 0, 54), (54, .iaload, 1, 0, 0, 55), (55, .aload_n 0, 1, 0, 0, 56), (56, .getfield 25, 3, 0, 0, 59), (59, .bipush 8, 2, 8, 0, 61), (61, .iload_n 1, 1, 0, 0, 62), (62, .imul, 1, 0, 0, 63), (63, .iload 4, 2, 0, 0, 65), (65, .iadd, 1, 0, 0, 66), (66, .iaload, 1, 0, 0, 67), (67, .if_icmp .ne 7, 3, 0, 74, 70), (70, .iconst 1, 1, 1, 0, 71), (71, .goto 4, 3, 0, 75, 74), (74, .iconst 0, 1, 0, 0, 75), (75, .istore_n 3, 1, 0, 0, 76), (76, .iinc 4 1, 3, 1, 0, 79), (79, .goto (-44), 3, 0, 35, 82), (82, .iload_n 3, 1, 0, 0, 83), (83, .ireturn, 1, 0, 0, 84)]
def swX12_isWell : Sw := []
def cuX12_isWell : Cu := [(35, [0, 1, 3, 4])]
set_option maxRecDepth 100000 in
theorem msX12_isWell : msOK mX12_isWell isX12_isWell swX12_isWell := msOK_of (by decide +kernel)
def isX12_right : Is := [(0, .aload_n 0, 1, 0, 0, 1), (1, .iload_n 1, 1, 0, 0, 2), (2, .invokevirtual 256, 3, 0, 0, 5), (5, .ifCond .eq 11, 3, 0, 16, 8), (8, .aload_n 0, 1, 0, 0, 9), (9, .iload_n 2, 1, 0, 0, 10), (10, .invokevirtual 283, 3, 0, 0, 13), (13, .ifCond .ne 7, 3, 0, 20, 16), (16, .sipush (-1001), 3, (-1001), 0, 19), (19, .ireturn, 1, 0, 0, 20), (20, .iload_n 3, 1, 0, 0, 21), (21, .tableswitch 74 0 2 #[27, 42, 57], 27, 0, 0, 48), (48, .aload_n 0, 1, 0, 0, 49), (49, .iload_n 1, 1, 0, 0, 50), (50, .iload_n 2, 1, 0, 0, 51), (51, .invokevirtual 315, 3, 0, 0, 54), (54, .ifCond .eq 7, 3, 0, 61, 57), (57, .iconst 1, 1, 1, 0, 58), (58, .goto 4, 3, 0, 62, 61), (61, .iconst 0, 1, 0, 0, 62), (62, .ireturn, 1, 0, 0, 63), (63, .aload_n 0, 1, 0, 0, 64), (64, .iload_n 1, 1, 0, 0, 65), (65, .iload_n 2, 1, 0, 0, 66), (66, .invokevirtual 318, 3, 0, 0, 69), (69, .ifCond .eq 7, 3, 0, 76, 72), (72, .iconst 1, 1, 1, 0, 73), (73, .goto 4, 3, 0, 77, 76), (76, .iconst 0, 1, 0, 0, 77), (77, .ireturn, 1, 0, 0, 78), (78, .aload_n 0, 1, 0, 0, 79), (79, .iload_n 1, 1, 0, 0, 80), (80, .iload_n 2, 1, 0, 0, 81), (81, .invokevirtual 286, 3, 0, 0, 84), (84, .lconst 0, 1, 0, 0, 85), (85, .lcmp, 1, 0, 0, 86), (86, .ifCond .le 7, 3, 0, 93, 89), (89, .iconst 1, 1, 1, 0, 90), (90, .goto 4, 3, 0, 94, 93), (93, .iconst 0, 1, 0, 0, 94), (94, .ireturn, 1, 0, 0, 95), (95, .sipush (-1002), 3, (-1002), 0, 98), (98, .ireturn, 1, 0, 0, 99)]
def swX12_right : Sw := [(21, [(0, 48), (1, 63), (2, 78)], 95)]
def cuX12_right : Cu := []
set_option maxRecDepth 100000 in
theorem msX12_right : msOK mX12_right isX12_right swX12_right := msOK_of (by decide +kernel)
def isX12_spelt : Is := [(0, .aload_n 0, 1, 0, 0, 1), (1, .iload_n 1, 1, 0, 0, 2), (2, .invokevirtual 256, 3, 0, 0, 5), (5, .ifCond .eq 11, 3, 0, 16, 8), (8, .aload_n 0, 1, 0, 0, 9), (9, .iload_n 2, 1, 0, 0, 10), (10, .invokevirtual 283, 3, 0, 0, 13), (13, .ifCond .ne 7, 3, 0, 20, 16), (16, .sipush (-1001), 3, (-1001), 0, 19), (19, .ireturn, 1, 0, 0, 20), (20, .aload_n 0, 1, 0, 0, 21), (21, .iload_n 1, 1, 0, 0, 22), (22, .iload_n 2, 1, 0, 0, 23), (23, .invokevirtual 312, 3, 0, 0, 26), (26, .aload_n 0, 1, 0, 0, 27), (27, .iload_n 3, 1, 0, 0, 28), (28, .invokevirtual 309, 3, 0, 0, 31), (31, .ireturn, 1, 0, 0, 32)]
def swX12_spelt : Sw := []
def cuX12_spelt : Cu := []
set_option maxRecDepth 100000 in
theorem msX12_spelt : msOK mX12_spelt isX12_spelt swX12_spelt := msOK_of (by decide +kernel)
def isX12_areLessons : Is := [(0, .iload_n 1, 1, 0, 0, 1), (1, .i2l, 1, 0, 0, 2), (2, .lconst 0, 1, 0, 0, 3), (3, .iconst 1, 1, 1, 0, 4), (4, .aload_n 0, 1, 0, 0, 5), (5, .getfield 242, 3, 0, 0, 8), (8, .ishl, 1, 0, 0, 9), (9, .iconst 1, 1, 1, 0, 10), (10, .isub, 1, 0, 0, 11), (11, .i2l, 1, 0, 0, 12), (12, .invokestatic 127, 3, 0, 0, 15), (15, .ireturn, 1, 0, 0, 16)]
def swX12_areLessons : Sw := []
def cuX12_areLessons : Cu := []
set_option maxRecDepth 100000 in
theorem msX12_areLessons : msOK mX12_areLessons isX12_areLessons swX12_areLessons := msOK_of (by decide +kernel)
def isX12_isClosed : Is := [(0, .iconst 1, 1, 1, 0, 1), (1, .istore_n 2, 1, 0, 0, 2), (2, .iconst 0, 1, 0, 0, 3), (3, .istore_n 3, 1, 0, 0, 4), (4, .iload_n 3, 1, 0, 0, 5), (5, .aload_n 0, 1, 0, 0, 6), (6, .getfield 242, 3, 0, 0, 9), (9, .if_icmp .ge 42, 3, 0, 51, 12), (12, .iload_n 2, 1, 0, 0, 13), (13, .ifCond .eq 30, 3, 0, 43, 16), (16, .iload_n 1, 1, 0, 0, 17), (17, .iload_n 3, 1, 0, 0, 18), (18, .invokestatic 205, 3, 0, 0, 21), (21, .ifCond .eq 18, 3, 0, 39, 24), (24, .aload_n 0, 1, 0, 0, 25), (25, .getfield 34, 3, 0, 0, 28), (28, .iconst 3, 1, 3, 0, 29), (29, .iload_n 3, 1, 0, 0, 30), (30, .imul, 1, 0, 0, 31), (31, .iaload, 1, 0, 0, 32), (32, .iload_n 1, 1, 0, 0, 33), (33, .iconst (-1), 1, (-1), 0, 34), (34, .ixor, 1, 0, 0, 35), (35, .iand, 1, 0, 0, 36), (36, .ifCond .ne 7, 3, 0, 43, 39), (39, .iconst 1, 1, 1, 0, 40), (40, .goto 4, 3, 0, 44, 43), (43, .iconst 0, 1, 0, 0, 44), (44, .istore_n 2, 1, 0, 0, 45), (45, .iinc 3 1, 3, 1, 0, 48), (48, .goto (-44), 3, 0, 4, 51), (51, .iload_n 2, 1, 0, 0, 52), (52, .ireturn, 1, 0, 0, 53)]
def swX12_isClosed : Sw := []
def cuX12_isClosed : Cu := [(4, [0, 1, 2, 3])]
set_option maxRecDepth 100000 in
theorem msX12_isClosed : msOK mX12_isClosed isX12_isClosed swX12_isClosed := msOK_of (by decide +kernel)
def isX12_teach : Is := [(0, .iconst 0, 1, 0, 0, 1), (1, .istore_n 3, 1, 0, 0, 2), (2, .iconst 0, 1, 0, 0, 3), (3, .istore 4, 2, 0, 0, 5), (5, .iload 4, 2, 0, 0, 7), (7, .aload_n 0, 1, 0, 0, 8), (8, .getfield 242, 3, 0, 0, 11), (11, .if_icmp .ge 36, 3, 0, 47, 14), (14, .iload_n 3, 1, 0, 0, 15), (15, .iload_n 1, 1, 0, 0, 16), (16, .iload 4, 2, 0, 0, 18), (18, .invokestatic 205, 3, 0, 0, 21), (21, .ifCond .eq 17, 3, 0, 38, 24), (24, .aload_n 0, 1, 0, 0, 25), (25, .getfield 34, 3, 0, 0, 28), (28, .iconst 3, 1, 3, 0, 29), (29, .iload 4, 2, 0, 0, 31), (31, .imul, 1, 0, 0, 32), (32, .iload_n 2, 1, 0, 0, 33), (33, .iadd, 1, 0, 0, 34), (34, .iaload, 1, 0, 0, 35), (35, .goto 4, 3, 0, 39, 38), (38, .iconst 0, 1, 0, 0, 39), (39, .ior, 1, 0, 0, 40), (40, .istore_n 3, 1, 0, 0, 41), (41, .iinc 4 1, 3, 1, 0, 44), (44, .goto (-39), 3, 0, 5, 47), (47, .iload_n 3, 1, 0, 0, 48), (48, .ireturn, 1, 0, 0, 49)]
def swX12_teach : Sw := []
def cuX12_teach : Cu := [(5, [0, 1, 2, 3, 4])]
set_option maxRecDepth 100000 in
theorem msX12_teach : msOK mX12_teach isX12_teach swX12_teach := msOK_of (by decide +kernel)
def isX12_readsOf : Is := [(0, .aload_n 0, 1, 0, 0, 1), (1, .iload_n 1, 1, 0, 0, 2), (2, .iconst 2, 1, 2, 0, 3), (3, .invokevirtual 321, 3, 0, 0, 6), (6, .istore_n 2, 1, 0, 0, 7), (7, .aload_n 0, 1, 0, 0, 8), (8, .iload_n 1, 1, 0, 0, 9), (9, .iconst 1, 1, 1, 0, 10), (10, .invokevirtual 321, 3, 0, 0, 13), (13, .istore_n 3, 1, 0, 0, 14), (14, .iconst 0, 1, 0, 0, 15), (15, .istore 4, 2, 0, 0, 17), (17, .iload 4, 2, 0, 0, 19), (19, .aload_n 0, 1, 0, 0, 20), (20, .getfield 239, 3, 0, 0, 23), (23, .if_icmp .ge 30, 3, 0, 53, 26), (26, .iload_n 2, 1, 0, 0, 27), (27, .aload_n 0, 1, 0, 0, 28), (28, .iload 4, 2, 0, 0, 30), (30, .iload_n 3, 1, 0, 0, 31), (31, .invokevirtual 315, 3, 0, 0, 34), (34, .ifCond .eq 10, 3, 0, 44, 37), (37, .iconst 1, 1, 1, 0, 38), (38, .iload 4, 2, 0, 0, 40), (40, .ishl, 1, 0, 0, 41), (41, .goto 4, 3, 0, 45, 44), (44, .iconst 0, 1, 0, 0, 45), (45, .ior, 1, 0, 0, 46), (46, .istore_n 2, 1, 0, 0, 47), (47, .iinc 4 1, 3, 1, 0, 50), (50, .goto (-33), 3, 0, 17, 53), (53, .iload_n 2, 1, 0, 0, 54), (54, .ireturn, 1, 0, 0, 55)]
def swX12_readsOf : Sw := []
def cuX12_readsOf : Cu := [(17, [0, 2, 3, 4])]
set_option maxRecDepth 100000 in
theorem msX12_readsOf : msOK mX12_readsOf isX12_readsOf swX12_readsOf := msOK_of (by decide +kernel)
def isX12_taught : Is := [(0, .aload_n 0, 1, 0, 0, 1), (1, .iload_n 1, 1, 0, 0, 2), (2, .invokevirtual 324, 3, 0, 0, 5), (5, .ifCond .ne 9, 3, 0, 14, 8), (8, .sipush (-1001), 3, (-1001), 0, 11), (11, .goto 23, 3, 0, 34, 14), (14, .aload_n 0, 1, 0, 0, 15), (15, .iload_n 1, 1, 0, 0, 16), (16, .invokevirtual 327, 3, 0, 0, 19), (19, .ifCond .eq 12, 3, 0, 31, 22), (22, .aload_n 0, 1, 0, 0, 23), (23, .iload_n 1, 1, 0, 0, 24), (24, .iconst 1, 1, 1, 0, 25), (25, .invokevirtual 321, 3, 0, 0, 28), (28, .goto 6, 3, 0, 34, 31), (31, .sipush (-1003), 3, (-1003), 0, 34), (34, .ireturn, 1, 0, 0, 35)]
def swX12_taught : Sw := []
def cuX12_taught : Cu := []
set_option maxRecDepth 100000 in
theorem msX12_taught : msOK mX12_taught isX12_taught swX12_taught := msOK_of (by decide +kernel)
def isX12_reads : Is := [(0, .aload_n 0, 1, 0, 0, 1), (1, .iload_n 1, 1, 0, 0, 2), (2, .invokevirtual 324, 3, 0, 0, 5), (5, .ifCond .ne 9, 3, 0, 14, 8), (8, .sipush (-1001), 3, (-1001), 0, 11), (11, .goto 22, 3, 0, 33, 14), (14, .aload_n 0, 1, 0, 0, 15), (15, .iload_n 1, 1, 0, 0, 16), (16, .invokevirtual 327, 3, 0, 0, 19), (19, .ifCond .eq 11, 3, 0, 30, 22), (22, .aload_n 0, 1, 0, 0, 23), (23, .iload_n 1, 1, 0, 0, 24), (24, .invokevirtual 330, 3, 0, 0, 27), (27, .goto 6, 3, 0, 33, 30), (30, .sipush (-1003), 3, (-1003), 0, 33), (33, .ireturn, 1, 0, 0, 34)]
def swX12_reads : Sw := []
def cuX12_reads : Cu := []
set_option maxRecDepth 100000 in
theorem msX12_reads : msOK mX12_reads isX12_reads swX12_reads := msOK_of (by decide +kernel)
def isX12_mixed : Is := [(0, .aload_n 0, 1, 0, 0, 1), (1, .iload_n 1, 1, 0, 0, 2), (2, .invokevirtual 256, 3, 0, 0, 5), (5, .ifCond .eq 11, 3, 0, 16, 8), (8, .aload_n 0, 1, 0, 0, 9), (9, .iload_n 2, 1, 0, 0, 10), (10, .invokevirtual 324, 3, 0, 0, 13), (13, .ifCond .ne 7, 3, 0, 20, 16), (16, .sipush (-1001), 3, (-1001), 0, 19), (19, .ireturn, 1, 0, 0, 20), (20, .aload_n 0, 1, 0, 0, 21), (21, .iload_n 2, 1, 0, 0, 22), (22, .invokevirtual 327, 3, 0, 0, 25), (25, .ifCond .ne 7, 3, 0, 32, 28), (28, .sipush (-1003), 3, (-1003), 0, 31), (31, .ireturn, 1, 0, 0, 32), (32, .iconst 0, 1, 0, 0, 33), (33, .istore_n 3, 1, 0, 0, 34), (34, .aload_n 0, 1, 0, 0, 35), (35, .iload_n 1, 1, 0, 0, 36), (36, .aload_n 0, 1, 0, 0, 37), (37, .iload_n 2, 1, 0, 0, 38), (38, .iconst 1, 1, 1, 0, 39), (39, .invokevirtual 321, 3, 0, 0, 42), (42, .invokevirtual 315, 3, 0, 0, 45), (45, .ifCond .ne 14, 3, 0, 59, 48), (48, .aload_n 0, 1, 0, 0, 49), (49, .getfield 298, 3, 0, 0, 52), (52, .ifCond .eq 7, 3, 0, 59, 55), (55, .iconst 1, 1, 1, 0, 56), (56, .goto 4, 3, 0, 60, 59), (59, .iconst 0, 1, 0, 0, 60), (60, .istore 4, 2, 0, 0, 62), (62, .iconst 0, 1, 0, 0, 63), (63, .istore 5, 2, 0, 0, 65), (65, .iload 5, 2, 0, 0, 67), (67, .aload_n 0, 1, 0, 0, 68), (68, .getfield 239, 3, 0, 0, 71), (71, .if_icmp .ge 40, 3, 0, 111, 74), (74, .iload 4, 2, 0, 0, 76), (76, .ifCond .eq 35, 3, 0, 111, 79), (79, .iload_n 3, 1, 0, 0, 80), (80, .iload 5, 2, 0, 0, 82), (82, .iload_n 1, 1, 0, 0, 83), (83, .if_icmp .eq 19, 3, 0, 102, 86), (86, .aload_n 0, 1, 0, 0, 87), (87, .iload 5, 2, 0, 0, 89), (89, .invokevirtual 306, 3, 0, 0, 92), (92, .ifCond .eq 10, 3, 0, 102, 95), (95, .iconst 1, 1, 1, 0, 96), (96, .iload 5, 2, 0, 0, 98), (98, .ishl, 1, 0, 0, 99), (99, .goto 4, 3, 0, 103, 102), (102, .iconst 0, 1, 0, 0, 103), (103, .ior, 1, 0, 0, 104), (104, .istore_n 3, 1, 0, 0, 105), (105, .iinc 5 1, 3, 1, 0, 108), (108, .goto (-43), 3, 0, 65, 111), (111, .iload_n 3, 1, 0, 0, 112), (112, .ireturn, 1, 0, 0, 113)]
def swX12_mixed : Sw := []
def cuX12_mixed : Cu := [(65, [0, 1, 3, 4, 5])]
set_option maxRecDepth 100000 in
theorem msX12_mixed : msOK mX12_mixed isX12_mixed swX12_mixed := msOK_of (by decide +kernel)
def isX12_unknown : Is := [(0, .aload_n 0, 1, 0, 0, 1), (1, .iload_n 1, 1, 0, 0, 2), (2, .invokevirtual 270, 3, 0, 0, 5), (5, .ifCond .eq 11, 3, 0, 16, 8), (8, .aload_n 0, 1, 0, 0, 9), (9, .iload_n 2, 1, 0, 0, 10), (10, .invokevirtual 324, 3, 0, 0, 13), (13, .ifCond .ne 7, 3, 0, 20, 16), (16, .sipush (-1001), 3, (-1001), 0, 19), (19, .ireturn, 1, 0, 0, 20), (20, .aload_n 0, 1, 0, 0, 21), (21, .iload_n 2, 1, 0, 0, 22), (22, .invokevirtual 327, 3, 0, 0, 25), (25, .ifCond .eq 23, 3, 0, 48, 28), (28, .aload_n 0, 1, 0, 0, 29), (29, .getfield 43, 3, 0, 0, 32), (32, .iload_n 1, 1, 0, 0, 33), (33, .iaload, 1, 0, 0, 34), (34, .aload_n 0, 1, 0, 0, 35), (35, .iload_n 2, 1, 0, 0, 36), (36, .invokevirtual 330, 3, 0, 0, 39), (39, .iconst (-1), 1, (-1), 0, 40), (40, .ixor, 1, 0, 0, 41), (41, .iand, 1, 0, 0, 42), (42, .invokestatic 333, 3, 0, 0, 45), (45, .goto 6, 3, 0, 51, 48), (48, .sipush (-1003), 3, (-1003), 0, 51), (51, .ireturn, 1, 0, 0, 52)]
def swX12_unknown : Sw := []
def cuX12_unknown : Cu := []
set_option maxRecDepth 100000 in
theorem msX12_unknown : msOK mX12_unknown isX12_unknown swX12_unknown := msOK_of (by decide +kernel)
def isX12_isFew : Is := [(0, .iload_n 0, 1, 0, 0, 1), (1, .i2l, 1, 0, 0, 2), (2, .lconst 0, 1, 0, 0, 3), (3, .ldc2_w 336, 3, 0, 0, 6), (6, .invokestatic 127, 3, 0, 0, 9), (9, .ireturn, 1, 0, 0, 10)]
def swX12_isFew : Sw := []
def cuX12_isFew : Cu := []
set_option maxRecDepth 100000 in
theorem msX12_isFew : msOK mX12_isFew isX12_isFew swX12_isFew := msOK_of (by decide +kernel)
def isX12_fewest : Is := [(0, .aload_n 0, 1, 0, 0, 1), (1, .iload_n 1, 1, 0, 0, 2), (2, .invokevirtual 270, 3, 0, 0, 5), (5, .ifCond .ne 7, 3, 0, 12, 8), (8, .sipush (-1001), 3, (-1001), 0, 11), (11, .ireturn, 1, 0, 0, 12), (12, .iload_n 2, 1, 0, 0, 13), (13, .invokestatic 338, 3, 0, 0, 16), (16, .ifCond .ne 7, 3, 0, 23, 19), (19, .sipush (-1002), 3, (-1002), 0, 22), (22, .ireturn, 1, 0, 0, 23), (23, .iconst (-1), 1, (-1), 0, 24), (24, .istore_n 3, 1, 0, 0, 25), (25, .iconst 0, 1, 0, 0, 26), (26, .istore 4, 2, 0, 0, 28), (28, .iload 4, 2, 0, 0, 30), (30, .iconst 1, 1, 1, 0, 31), (31, .aload_n 0, 1, 0, 0, 32), (32, .getfield 242, 3, 0, 0, 35), (35, .ishl, 1, 0, 0, 36), (36, .if_icmp .ge 75, 3, 0, 111, 39), (39, .iload_n 3, 1, 0, 0, 40), (40, .ifCond .lt 15, 3, 0, 55, 43), (43, .iload 4, 2, 0, 0, 45), (45, .invokestatic 333, 3, 0, 0, 48), (48, .iload_n 3, 1, 0, 0, 49), (49, .invokestatic 333, 3, 0, 0, 52), (52, .if_icmp .ge 7, 3, 0, 59, 55), (55, .iconst 1, 1, 1, 0, 56), (56, .goto 4, 3, 0, 60, 59), (59, .iconst 0, 1, 0, 0, 60), (60, .istore 5, 2, 0, 0, 62), (62, .iload 5, 2, 0, 0, 64), (64, .ifCond .eq 39, 3, 0, 103, 67), (67, .aload_n 0, 1, 0, 0, 68), (68, .iload 4, 2, 0, 0, 70), (70, .invokevirtual 327, 3, 0, 0, 73), (73, .ifCond .eq 30, 3, 0, 103, 76), (76, .aload_n 0, 1, 0, 0, 77), (77, .getfield 43, 3, 0, 0, 80), (80, .iload_n 1, 1, 0, 0, 81), (81, .iaload, 1, 0, 0, 82), (82, .aload_n 0, 1, 0, 0, 83), (83, .iload 4, 2, 0, 0, 85), (85, .invokevirtual 330, 3, 0, 0, 88), (88, .iconst (-1), 1, (-1), 0, 89), (89, .ixor, 1, 0, 0, 90), (90, .iand, 1, 0, 0, 91), (91, .invokestatic 333, 3, 0, 0, 94), (94, .iload_n 2, 1, 0, 0, 95), (95, .if_icmp .gt 8, 3, 0, 103, 98), (98, .iload 4, 2, 0, 0, 100), (100, .goto 4, 3, 0, 104, 103), (103, .iload_n 3, 1, 0, 0, 104), (104, .istore_n 3, 1, 0, 0, 105), (105, .iinc 4 1, 3, 1, 0, 108), (108, .goto (-80), 3, 0, 28, 111), (111, .iload_n 3, 1, 0, 0, 112), (112, .ireturn, 1, 0, 0, 113)]
def swX12_fewest : Sw := []
def cuX12_fewest : Cu := [(28, [0, 1, 2, 3, 4])]
set_option maxRecDepth 100000 in
theorem msX12_fewest : msOK mX12_fewest isX12_fewest swX12_fewest := msOK_of (by decide +kernel)
def isX12_met : Is := [(0, .iconst 0, 1, 0, 0, 1), (1, .istore_n 2, 1, 0, 0, 2), (2, .iconst 0, 1, 0, 0, 3), (3, .istore_n 3, 1, 0, 0, 4), (4, .iload_n 3, 1, 0, 0, 5), (5, .aload_n 0, 1, 0, 0, 6), (6, .getfield 245, 3, 0, 0, 9), (9, .if_icmp .ge 30, 3, 0, 39, 12), (12, .iload_n 2, 1, 0, 0, 13), (13, .iload_n 1, 1, 0, 0, 14), (14, .iload_n 3, 1, 0, 0, 15), (15, .invokestatic 205, 3, 0, 0, 18), (18, .ifCond .eq 12, 3, 0, 30, 21), (21, .aload_n 0, 1, 0, 0, 22), (22, .getfield 43, 3, 0, 0, 25), (25, .iload_n 3, 1, 0, 0, 26), (26, .iaload, 1, 0, 0, 27), (27, .goto 4, 3, 0, 31, 30), (30, .iconst 0, 1, 0, 0, 31), (31, .ior, 1, 0, 0, 32), (32, .istore_n 2, 1, 0, 0, 33), (33, .iinc 3 1, 3, 1, 0, 36), (36, .goto (-32), 3, 0, 4, 39), (39, .iload_n 2, 1, 0, 0, 40), (40, .ireturn, 1, 0, 0, 41)]
def swX12_met : Sw := []
def cuX12_met : Cu := [(4, [0, 1, 2, 3])]
set_option maxRecDepth 100000 in
theorem msX12_met : msOK mX12_met isX12_met swX12_met := msOK_of (by decide +kernel)
def isX12_stepTo : Is := [(0, .iload_n 1, 1, 0, 0, 1), (1, .sipush 128, 3, 128, 0, 4), (4, .irem, 1, 0, 0, 5), (5, .istore 4, 2, 0, 0, 7), (7, .iload_n 1, 1, 0, 0, 8), (8, .sipush 128, 3, 128, 0, 11), (11, .idiv, 1, 0, 0, 12), (12, .istore 5, 2, 0, 0, 14), (14, .iload_n 2, 1, 0, 0, 15), (15, .bipush 100, 2, 100, 0, 17), (17, .if_icmp .ge 50, 3, 0, 67, 20), (20, .iload 4, 2, 0, 0, 22), (22, .iload_n 2, 1, 0, 0, 23), (23, .invokestatic 205, 3, 0, 0, 26), (26, .ifCond .ne 23, 3, 0, 49, 29), (29, .aload_n 0, 1, 0, 0, 30), (30, .getfield 34, 3, 0, 0, 33), (33, .iconst 3, 1, 3, 0, 34), (34, .iload_n 2, 1, 0, 0, 35), (35, .imul, 1, 0, 0, 36), (36, .iaload, 1, 0, 0, 37), (37, .iload 4, 2, 0, 0, 39), (39, .iconst (-1), 1, (-1), 0, 40), (40, .ixor, 1, 0, 0, 41), (41, .iand, 1, 0, 0, 42), (42, .ifCond .ne 7, 3, 0, 49, 45), (45, .iconst 1, 1, 1, 0, 46), (46, .goto 4, 3, 0, 50, 49), (49, .iconst 0, 1, 0, 0, 50), (50, .istore 6, 2, 0, 0, 52), (52, .iload 6, 2, 0, 0, 54), (54, .ifCond .eq 11, 3, 0, 65, 57), (57, .iload_n 1, 1, 0, 0, 58), (58, .iconst 1, 1, 1, 0, 59), (59, .iload_n 2, 1, 0, 0, 60), (60, .ishl, 1, 0, 0, 61), (61, .ior, 1, 0, 0, 62), (62, .goto 4, 3, 0, 66, 65), (65, .iconst (-1), 1, (-1), 0, 66), (66, .ireturn, 1, 0, 0, 67), (67, .iload_n 2, 1, 0, 0, 68), (68, .bipush 100, 2, 100, 0, 70), (70, .isub, 1, 0, 0, 71), (71, .istore 6, 2, 0, 0, 73), (73, .iload 5, 2, 0, 0, 75), (75, .iload 6, 2, 0, 0, 77), (77, .invokestatic 205, 3, 0, 0, 80), (80, .ifCond .ne 40, 3, 0, 120, 83), (83, .aload_n 0, 1, 0, 0, 84), (84, .getfield 43, 3, 0, 0, 87), (87, .iload 6, 2, 0, 0, 89), (89, .iaload, 1, 0, 0, 90), (90, .aload_n 0, 1, 0, 0, 91), (91, .getfield 97, 3, 0, 0, 94), (94, .iload 4, 2, 0, 0, 96), (96, .iaload, 1, 0, 0, 97), (97, .iconst (-1), 1, (-1), 0, 98), (98, .ixor, 1, 0, 0, 99), (99, .iand, 1, 0, 0, 100), (100, .aload_n 0, 1, 0, 0, 101), (101, .iload 5, 2, 0, 0, 103), (103, .invokevirtual 341, 3, 0, 0, 106), (106, .iconst (-1), 1, (-1), 0, 107), (107, .ixor, 1, 0, 0, 108), (108, .iand, 1, 0, 0, 109), (109, .invokestatic 333, 3, 0, 0, 112), (112, .iload_n 3, 1, 0, 0, 113), (113, .if_icmp .gt 7, 3, 0, 120, 116), (116, .iconst 1, 1, 1, 0, 117), (117, .goto 4, 3, 0, 121, 120), (120, .iconst 0, 1, 0, 0, 121), (121, .istore 7, 2, 0, 0, 123), (123, .iload 7, 2, 0, 0, 125), (125, .ifCond .eq 14, 3, 0, 139, 128), (128, .iload_n 1, 1, 0, 0, 129), (129, .sipush 128, 3, 128, 0, 132), (132, .iload 6, 2, 0, 0, 134), (134, .ishl, 1, 0, 0, 135), (135, .ior, 1, 0, 0, 136), (136, .goto 4, 3, 0, 140, 139), (139, .iconst (-1), 1, (-1), 0, 140), (140, .ireturn, 1, 0, 0, 141)]
def swX12_stepTo : Sw := []
def cuX12_stepTo : Cu := []
set_option maxRecDepth 100000 in
theorem msX12_stepTo : msOK mX12_stepTo isX12_stepTo swX12_stepTo := msOK_of (by decide +kernel)
def isX12_findCourses : Is := [(0, .iconst 0, 1, 0, 0, 1), (1, .istore_n 3, 1, 0, 0, 2), (2, .iload_n 3, 1, 0, 0, 3), (3, .iconst 1, 1, 1, 0, 4), (4, .aload_n 0, 1, 0, 0, 5), (5, .getfield 242, 3, 0, 0, 8), (8, .ishl, 1, 0, 0, 9), (9, .if_icmp .ge 20, 3, 0, 29, 12), (12, .aload_n 0, 1, 0, 0, 13), (13, .getfield 97, 3, 0, 0, 16), (16, .iload_n 3, 1, 0, 0, 17), (17, .aload_n 0, 1, 0, 0, 18), (18, .iload_n 3, 1, 0, 0, 19), (19, .invokevirtual 330, 3, 0, 0, 22), (22, .iastore, 1, 0, 0, 23), (23, .iinc 3 1, 3, 1, 0, 26), (26, .goto (-24), 3, 0, 2, 29), (29, .sipush 128, 3, 128, 0, 32), (32, .iconst 1, 1, 1, 0, 33), (33, .aload_n 0, 1, 0, 0, 34), (34, .getfield 245, 3, 0, 0, 37), (37, .ishl, 1, 0, 0, 38), (38, .imul, 1, 0, 0, 39), (39, .iconst 1, 1, 1, 0, 40), (40, .isub, 1, 0, 0, 41), (41, .istore_n 3, 1, 0, 0, 42), (42, .iload_n 3, 1, 0, 0, 43), (43, .ifCond .lt 206, 3, 0, 249, 46), (46, .iload_n 3, 1, 0, 0, 47), (47, .sipush 128, 3, 128, 0, 50), (50, .idiv, 1, 0, 0, 51), (51, .iload_n 1, 1, 0, 0, 52), (52, .invokestatic 205, 3, 0, 0, 55), (55, .ifCond .eq 7, 3, 0, 62, 58), (58, .iconst 0, 1, 0, 0, 59), (59, .goto 6, 3, 0, 65, 62), (62, .sipush 1000, 3, 1000, 0, 65), (65, .istore 4, 2, 0, 0, 67), (67, .iload 4, 2, 0, 0, 69), (69, .sipush 1000, 3, 1000, 0, 72), (72, .if_icmp .ne 21, 3, 0, 93, 75), (75, .iload_n 3, 1, 0, 0, 76), (76, .sipush 128, 3, 128, 0, 79), (79, .irem, 1, 0, 0, 80), (80, .iconst 1, 1, 1, 0, 81), (81, .aload_n 0, 1, 0, 0, 82), (82, .getfield 242, 3, 0, 0, 85), (85, .ishl, 1, 0, 0, 86), (86, .if_icmp .ge 7, 3, 0, 93, 89), (89, .iconst 1, 1, 1, 0, 90), (90, .goto 4, 3, 0, 94, 93), (93, .iconst 0, 1, 0, 0, 94), (94, .istore 5, 2, 0, 0, 96), (96, .iconst 0, 1, 0, 0, 97), (97, .istore 6, 2, 0, 0, 99), (99, .iload 6, 2, 0, 0, 101), (101, .aload_n 0, 1, 0, 0, 102), (102, .getfield 242, 3, 0, 0, 105), (105, .if_icmp .ge 59, 3, 0, 164, 108), (108, .iload 5, 2, 0, 0, 110), (110, .ifCond .eq 54, 3, 0, 164, 113), (113, .aload_n 0, 1, 0, 0, 114), (114, .iload_n 3, 1, 0, 0, 115), (115, .iload 6, 2, 0, 0, 117), (117, .iload_n 2, 1, 0, 0, 118), (118, .invokevirtual 344, 3, 0, 0, 121), (121, .istore 7, 2, 0, 0, 123), (123, .iload 7, 2, 0, 0, 125), (125, .ifCond .lt 29, 3, 0, 154, 128), (128, .aload_n 0, 1, 0, 0, 129), (129, .getfield 94, 3, 0, 0, 132), (132, .iload 7, 2, 0, 0, 134), (134, .iaload, 1, 0, 0, 135), (135, .iconst 1, 1, 1, 0, 136), (136, .iadd, 1, 0, 0, 137), (137, .iload 4, 2, 0, 0, 139), (139, .if_icmp .ge 15, 3, 0, 154, 142), (142, .aload_n 0, 1, 0, 0, 143), (143, .getfield 94, 3, 0, 0, 146), (146, .iload 7, 2, 0, 0, 148), (148, .iaload, 1, 0, 0, 149), (149, .iconst 1, 1, 1, 0, 150), (150, .iadd, 1, 0, 0, 151), (151, .goto 5, 3, 0, 156, 154), (154, .iload 4, 2, 0, 0, 156), (156, .istore 4, 2, 0, 0, 158), (158, .iinc 6 1, 3, 1, 0, 161), (161, .goto (-62), 3, 0, 99, 164), (164, .iconst 0, 1, 0, 0, 165), (165, .istore 6, 2, 0, 0, 167), (167, .iload 6, 2, 0, 0, 169), (169, .aload_n 0, 1, 0, 0, 170), (170, .getfield 245, 3, 0, 0, 173), (173, .if_icmp .ge 62, 3, 0, 235, 176), (176, .iload 5, 2, 0, 0, 178), (178, .ifCond .eq 57, 3, 0, 235, 181), (181, .aload_n 0, 1, 0, 0, 182), (182, .iload_n 3, 1, 0, 0, 183), (183, .bipush 100, 2, 100, 0, 185), (185, .iload 6, 2, 0, 0, 187), (187, .iadd, 1, 0, 0, 188), (188, .iload_n 2, 1, 0, 0, 189), (189, .invokevirtual 344, 3, 0, 0, 192), (192, .istore 7, 2, 0, 0, 194), (194, .iload 7, 2, 0, 0, 196), (196, .ifCond .lt 29, 3, 0, 225, 199), (199, .aload_n 0, 1, 0, 0, 200), (200, .getfield 94, 3, 0, 0, 203), (203, .iload 7, 2, 0, 0, 205), (205, .iaload, 1, 0, 0, 206), (206, .iconst 1, 1, 1, 0, 207), (207, .iadd, 1, 0, 0, 208), (208, .iload 4, 2, 0, 0, 210), (210, .if_icmp .ge 15, 3, 0, 225, 213), (213, .aload_n 0, 1, 0, 0, 214), (214, .getfield 94, 3, 0, 0, 217), (217, .iload 7, 2, 0, 0, 219), (219, .iaload, 1, 0, 0, 220), (220, .iconst 1, 1, 1, 0, 221), (221, .iadd, 1, 0, 0, 222), (222, .goto 5, 3, 0, 227, 225), (225, .iload 4, 2, 0, 0, 227), (227, .istore 4, 2, 0, 0, 229), (229, .iinc 6 1, 3, 1, 0, 232), (232, .goto (-65), 3, 0, 167, 235), (235, .aload_n 0, 1, 0, 0, 236), (236, .getfield 94, 3, 0, 0, 239), (239, .iload_n 3, 1, 0, 0, 240), (240, .iload 4, 2, 0, 0, 242), (242, .iastore, 1, 0, 0, 243), (243, .iinc 3 (-1), 3, (-1), 0, 246), (246, .goto (-204), 3, 0, 42, 249), (249, .return_, 1, 0, 0, 250)]
def swX12_findCourses : Sw := []
def cuX12_findCourses : Cu := [(2, [0, 1, 2, 3]), (42, [0, 1, 2, 3]), (99, [0, 1, 2, 3, 4, 5, 6]), (167, [0, 1, 2, 3, 4, 5, 6])]
set_option maxRecDepth 100000 in
theorem msX12_findCourses : msOK mX12_findCourses isX12_findCourses swX12_findCourses := msOK_of (by decide +kernel)
def isX12_course : Is := [(0, .aload_n 0, 1, 0, 0, 1), (1, .iload_n 1, 1, 0, 0, 2), (2, .invokevirtual 270, 3, 0, 0, 5), (5, .ifCond .ne 7, 3, 0, 12, 8), (8, .sipush (-1001), 3, (-1001), 0, 11), (11, .ireturn, 1, 0, 0, 12), (12, .iload_n 2, 1, 0, 0, 13), (13, .invokestatic 338, 3, 0, 0, 16), (16, .ifCond .ne 7, 3, 0, 23, 19), (19, .sipush (-1002), 3, (-1002), 0, 22), (22, .ireturn, 1, 0, 0, 23), (23, .aload_n 0, 1, 0, 0, 24), (24, .iload_n 1, 1, 0, 0, 25), (25, .iload_n 2, 1, 0, 0, 26), (26, .invokevirtual 348, 3, 0, 0, 29), (29, .aload_n 0, 1, 0, 0, 30), (30, .getfield 94, 3, 0, 0, 33), (33, .iconst 0, 1, 0, 0, 34), (34, .iaload, 1, 0, 0, 35), (35, .sipush 1000, 3, 1000, 0, 38), (38, .if_icmp .lt 5, 3, 0, 43, 41), (41, .iconst (-1), 1, (-1), 0, 42), (42, .ireturn, 1, 0, 0, 43), (43, .iload_n 3, 1, 0, 0, 44), (44, .iconst (-1), 1, (-1), 0, 45), (45, .if_icmp .ne 10, 3, 0, 55, 48), (48, .aload_n 0, 1, 0, 0, 49), (49, .getfield 94, 3, 0, 0, 52), (52, .iconst 0, 1, 0, 0, 53), (53, .iaload, 1, 0, 0, 54), (54, .ireturn, 1, 0, 0, 55), (55, .iload_n 3, 1, 0, 0, 56), (56, .i2l, 1, 0, 0, 57), (57, .lconst 0, 1, 0, 0, 58), (58, .aload_n 0, 1, 0, 0, 59), (59, .getfield 94, 3, 0, 0, 62), (62, .iconst 0, 1, 0, 0, 63), (63, .iaload, 1, 0, 0, 64), (64, .iconst 1, 1, 1, 0, 65), (65, .isub, 1, 0, 0, 66), (66, .i2l, 1, 0, 0, 67), (67, .invokestatic 127, 3, 0, 0, 70), (70, .ifCond .ne 5, 3, 0, 75, 73), (73, .iconst (-1), 1, (-1), 0, 74), (74, .ireturn, 1, 0, 0, 75), (75, .iconst 0, 1, 0, 0, 76), (76, .istore 4, 2, 0, 0, 78), (78, .iconst 0, 1, 0, 0, 79), (79, .istore 5, 2, 0, 0, 81), (81, .iconst 0, 1, 0, 0, 82), (82, .istore 6, 2, 0, 0, 84), (84, .iload 6, 2, 0, 0, 86), (86, .iload_n 3, 1, 0, 0, 87), (87, .if_icmp .gt 78, 3, 0, 165, 90), (90, .iconst (-1), 1, (-1), 0, 91), (91, .istore 7, 2, 0, 0, 93), (93, .iconst (-1), 1, (-1), 0, 94), (94, .istore 5, 2, 0, 0, 96), (96, .iload 7, 2, 0, 0, 98), (98, .ifCond .lt 22, 3, 0, 120, 101), (101, .aload_n 0, 1, 0, 0, 102), (102, .getfield 94, 3, 0, 0, 105), (105, .iload 7, 2, 0, 0, 107), (107, .iaload, 1, 0, 0, 108), (108, .iconst 1, 1, 1, 0, 109), (109, .iadd, 1, 0, 0, 110), (110, .aload_n 0, 1, 0, 0, 111), (111, .getfield 94, 3, 0, 0, 114), (114, .iload 4, 2, 0, 0, 116), (116, .iaload, 1, 0, 0, 117), (117, .if_icmp .eq 38, 3, 0, 155, 120), (120, .iinc 5 1, 3, 1, 0, 123), (123, .iload 5, 2, 0, 0, 125), (125, .aload_n 0, 1, 0, 0, 126), (126, .getfield 242, 3, 0, 0, 129), (129, .if_icmp .ne 8, 3, 0, 137, 132), (132, .bipush 100, 2, 100, 0, 134), (134, .goto 5, 3, 0, 139, 137), (137, .iload 5, 2, 0, 0, 139), (139, .istore 5, 2, 0, 0, 141), (141, .aload_n 0, 1, 0, 0, 142), (142, .iload 4, 2, 0, 0, 144), (144, .iload 5, 2, 0, 0, 146), (146, .iload_n 2, 1, 0, 0, 147), (147, .invokevirtual 344, 3, 0, 0, 150), (150, .istore 7, 2, 0, 0, 152), (152, .goto (-56), 3, 0, 96, 155), (155, .iload 7, 2, 0, 0, 157), (157, .istore 4, 2, 0, 0, 159), (159, .iinc 6 1, 3, 1, 0, 162), (162, .goto (-78), 3, 0, 84, 165), (165, .iload 5, 2, 0, 0, 167), (167, .ireturn, 1, 0, 0, 168)]
def swX12_course : Sw := []
def cuX12_course : Cu := [(84, [0, 2, 3, 4, 5, 6]), (96, [0, 2, 3, 4, 5, 6, 7])]
set_option maxRecDepth 100000 in
theorem msX12_course : msOK mX12_course isX12_course swX12_course := msOK_of (by decide +kernel)
def isX12_behind : Is := [(0, .iconst 1, 1, 1, 0, 1), (1, .iload_n 1, 1, 0, 0, 2), (2, .ishl, 1, 0, 0, 3), (3, .istore_n 2, 1, 0, 0, 4), (4, .iload_n 1, 1, 0, 0, 5), (5, .iconst 1, 1, 1, 0, 6), (6, .iadd, 1, 0, 0, 7), (7, .istore_n 3, 1, 0, 0, 8), (8, .iload_n 3, 1, 0, 0, 9), (9, .aload_n 0, 1, 0, 0, 10), (10, .getfield 242, 3, 0, 0, 13), (13, .if_icmp .ge 32, 3, 0, 45, 16), (16, .iload_n 2, 1, 0, 0, 17), (17, .aload_n 0, 1, 0, 0, 18), (18, .getfield 34, 3, 0, 0, 21), (21, .iconst 3, 1, 3, 0, 22), (22, .iload_n 3, 1, 0, 0, 23), (23, .imul, 1, 0, 0, 24), (24, .iaload, 1, 0, 0, 25), (25, .iload_n 2, 1, 0, 0, 26), (26, .iand, 1, 0, 0, 27), (27, .ifCond .eq 9, 3, 0, 36, 30), (30, .iconst 1, 1, 1, 0, 31), (31, .iload_n 3, 1, 0, 0, 32), (32, .ishl, 1, 0, 0, 33), (33, .goto 4, 3, 0, 37, 36), (36, .iconst 0, 1, 0, 0, 37), (37, .ior, 1, 0, 0, 38), (38, .istore_n 2, 1, 0, 0, 39), (39, .iinc 3 1, 3, 1, 0, 42), (42, .goto (-34), 3, 0, 8, 45), (45, .iload_n 2, 1, 0, 0, 46), (46, .ireturn, 1, 0, 0, 47)]
def swX12_behind : Sw := []
def cuX12_behind : Cu := [(8, [0, 2, 3])]
set_option maxRecDepth 100000 in
theorem msX12_behind : msOK mX12_behind isX12_behind swX12_behind := msOK_of (by decide +kernel)
def isX12_hangs : Is := [(0, .aload_n 0, 1, 0, 0, 1), (1, .iload_n 1, 1, 0, 0, 2), (2, .invokevirtual 256, 3, 0, 0, 5), (5, .ifCond .ne 7, 3, 0, 12, 8), (8, .sipush (-1001), 3, (-1001), 0, 11), (11, .ireturn, 1, 0, 0, 12), (12, .iconst 1, 1, 1, 0, 13), (13, .aload_n 0, 1, 0, 0, 14), (14, .getfield 242, 3, 0, 0, 17), (17, .ishl, 1, 0, 0, 18), (18, .iconst 1, 1, 1, 0, 19), (19, .isub, 1, 0, 0, 20), (20, .istore_n 2, 1, 0, 0, 21), (21, .aload_n 0, 1, 0, 0, 22), (22, .iload_n 2, 1, 0, 0, 23), (23, .invokevirtual 330, 3, 0, 0, 26), (26, .iload_n 1, 1, 0, 0, 27), (27, .invokestatic 205, 3, 0, 0, 30), (30, .ifCond .ne 5, 3, 0, 35, 33), (33, .iconst (-1), 1, (-1), 0, 34), (34, .ireturn, 1, 0, 0, 35), (35, .iconst 0, 1, 0, 0, 36), (36, .istore_n 3, 1, 0, 0, 37), (37, .iconst 0, 1, 0, 0, 38), (38, .istore 4, 2, 0, 0, 40), (40, .iload 4, 2, 0, 0, 42), (42, .aload_n 0, 1, 0, 0, 43), (43, .getfield 242, 3, 0, 0, 46), (46, .if_icmp .ge 41, 3, 0, 87, 49), (49, .iload_n 3, 1, 0, 0, 50), (50, .aload_n 0, 1, 0, 0, 51), (51, .iload_n 2, 1, 0, 0, 52), (52, .aload_n 0, 1, 0, 0, 53), (53, .iload 4, 2, 0, 0, 55), (55, .invokevirtual 351, 3, 0, 0, 58), (58, .iconst (-1), 1, (-1), 0, 59), (59, .ixor, 1, 0, 0, 60), (60, .iand, 1, 0, 0, 61), (61, .invokevirtual 330, 3, 0, 0, 64), (64, .iload_n 1, 1, 0, 0, 65), (65, .invokestatic 205, 3, 0, 0, 68), (68, .ifCond .eq 7, 3, 0, 75, 71), (71, .iconst 0, 1, 0, 0, 72), (72, .goto 7, 3, 0, 79, 75), (75, .iconst 1, 1, 1, 0, 76), (76, .iload 4, 2, 0, 0, 78), (78, .ishl, 1, 0, 0, 79), (79, .ior, 1, 0, 0, 80), (80, .istore_n 3, 1, 0, 0, 81), (81, .iinc 4 1, 3, 1, 0, 84), (84, .goto (-44), 3, 0, 40, 87), (87, .iload_n 3, 1, 0, 0, 88), (88, .ireturn, 1, 0, 0, 89)]
def swX12_hangs : Sw := []
def cuX12_hangs : Cu := [(40, [0, 1, 2, 3, 4])]
set_option maxRecDepth 100000 in
theorem msX12_hangs : msOK mX12_hangs isX12_hangs swX12_hangs := msOK_of (by decide +kernel)
def isX12_beginPupils : Is := [(0, .iconst 0, 1, 0, 0, 1), (1, .istore_n 1, 1, 0, 0, 2), (2, .iload_n 1, 1, 0, 0, 3), (3, .iconst 3, 1, 3, 0, 4), (4, .if_icmp .ge 23, 3, 0, 27, 7), (7, .aload_n 0, 1, 0, 0, 8), (8, .getfield 103, 3, 0, 0, 11), (11, .iload_n 1, 1, 0, 0, 12), (12, .iconst 0, 1, 0, 0, 13), (13, .iastore, 1, 0, 0, 14), (14, .aload_n 0, 1, 0, 0, 15), (15, .getfield 106, 3, 0, 0, 18), (18, .iload_n 1, 1, 0, 0, 19), (19, .iconst 0, 1, 0, 0, 20), (20, .iastore, 1, 0, 0, 21), (21, .iinc 1 1, 3, 1, 0, 24), (24, .goto (-22), 3, 0, 2, 27), (27, .iconst 0, 1, 0, 0, 28), (28, .istore_n 1, 1, 0, 0, 29), (29, .iload_n 1, 1, 0, 0, 30), (30, .sipush 132, 3, 132, 0, 33), (33, .if_icmp .ge 23, 3, 0, 56, 36), (36, .aload_n 0, 1, 0, 0, 37), (37, .getfield 109, 3, 0, 0, 40), (40, .iload_n 1, 1, 0, 0, 41), (41, .iconst 0, 1, 0, 0, 42), (42, .iastore, 1, 0, 0, 43), (43, .aload_n 0, 1, 0, 0, 44), (44, .getfield 112, 3, 0, 0, 47), (47, .iload_n 1, 1, 0, 0, 48), (48, .iconst 0, 1, 0, 0, 49), (49, .iastore, 1, 0, 0, 50), (50, .iinc 1 1, 3, 1, 0, 53), (53, .goto (-24), 3, 0, 29, 56), (56, .return_, 1, 0, 0, 57)]
def swX12_beginPupils : Sw := []
def cuX12_beginPupils : Cu := [(2, [0, 1]), (29, [0, 1])]
set_option maxRecDepth 100000 in
theorem msX12_beginPupils : msOK mX12_beginPupils isX12_beginPupils swX12_beginPupils := msOK_of (by decide +kernel)
def isX12_isPupil : Is := [(0, .iload_n 0, 1, 0, 0, 1), (1, .i2l, 1, 0, 0, 2), (2, .lconst 0, 1, 0, 0, 3), (3, .ldc2_w 259, 3, 0, 0, 6), (6, .invokestatic 127, 3, 0, 0, 9), (9, .ireturn, 1, 0, 0, 10)]
def swX12_isPupil : Sw := []
def cuX12_isPupil : Cu := []
set_option maxRecDepth 100000 in
theorem msX12_isPupil : msOK mX12_isPupil isX12_isPupil swX12_isPupil := msOK_of (by decide +kernel)
def isX12_isHeld : Is := [(0, .bipush 44, 2, 44, 0, 2), (2, .iload_n 1, 1, 0, 0, 3), (3, .imul, 1, 0, 0, 4), (4, .iload_n 2, 1, 0, 0, 5), (5, .iadd, 1, 0, 0, 6), (6, .istore_n 3, 1, 0, 0, 7), (7, .aload_n 0, 1, 0, 0, 8), (8, .getfield 109, 3, 0, 0, 11), (11, .iload_n 3, 1, 0, 0, 12), (12, .iaload, 1, 0, 0, 13), (13, .ifCond .le 29, 3, 0, 42, 16), (16, .aload_n 0, 1, 0, 0, 17), (17, .getfield 103, 3, 0, 0, 20), (20, .iload_n 1, 1, 0, 0, 21), (21, .iaload, 1, 0, 0, 22), (22, .aload_n 0, 1, 0, 0, 23), (23, .getfield 112, 3, 0, 0, 26), (26, .iload_n 3, 1, 0, 0, 27), (27, .iaload, 1, 0, 0, 28), (28, .isub, 1, 0, 0, 29), (29, .aload_n 0, 1, 0, 0, 30), (30, .getfield 109, 3, 0, 0, 33), (33, .iload_n 3, 1, 0, 0, 34), (34, .iaload, 1, 0, 0, 35), (35, .if_icmp .gt 7, 3, 0, 42, 38), (38, .iconst 1, 1, 1, 0, 39), (39, .goto 4, 3, 0, 43, 42), (42, .iconst 0, 1, 0, 0, 43), (43, .ireturn, 1, 0, 0, 44)]
def swX12_isHeld : Sw := []
def cuX12_isHeld : Cu := []
set_option maxRecDepth 100000 in
theorem msX12_isHeld : msOK mX12_isHeld isX12_isHeld swX12_isHeld := msOK_of (by decide +kernel)
def isX12_heldSigns : Is := [(0, .iconst 0, 1, 0, 0, 1), (1, .istore_n 2, 1, 0, 0, 2), (2, .iconst 0, 1, 0, 0, 3), (3, .istore_n 3, 1, 0, 0, 4), (4, .iload_n 3, 1, 0, 0, 5), (5, .aload_n 0, 1, 0, 0, 6), (6, .getfield 236, 3, 0, 0, 9), (9, .if_icmp .ge 28, 3, 0, 37, 12), (12, .iload_n 2, 1, 0, 0, 13), (13, .aload_n 0, 1, 0, 0, 14), (14, .iload_n 1, 1, 0, 0, 15), (15, .iload_n 3, 1, 0, 0, 16), (16, .invokevirtual 354, 3, 0, 0, 19), (19, .ifCond .eq 9, 3, 0, 28, 22), (22, .iconst 1, 1, 1, 0, 23), (23, .iload_n 3, 1, 0, 0, 24), (24, .ishl, 1, 0, 0, 25), (25, .goto 4, 3, 0, 29, 28), (28, .iconst 0, 1, 0, 0, 29), (29, .ior, 1, 0, 0, 30), (30, .istore_n 2, 1, 0, 0, 31), (31, .iinc 3 1, 3, 1, 0, 34), (34, .goto (-30), 3, 0, 4, 37), (37, .iload_n 2, 1, 0, 0, 38), (38, .ireturn, 1, 0, 0, 39)]
def swX12_heldSigns : Sw := []
def cuX12_heldSigns : Cu := [(4, [0, 1, 2, 3])]
set_option maxRecDepth 100000 in
theorem msX12_heldSigns : msOK mX12_heldSigns isX12_heldSigns swX12_heldSigns := msOK_of (by decide +kernel)
def isX12_heldWords : Is := [(0, .iconst 0, 1, 0, 0, 1), (1, .istore_n 2, 1, 0, 0, 2), (2, .iconst 0, 1, 0, 0, 3), (3, .istore_n 3, 1, 0, 0, 4), (4, .iload_n 3, 1, 0, 0, 5), (5, .aload_n 0, 1, 0, 0, 6), (6, .getfield 239, 3, 0, 0, 9), (9, .if_icmp .ge 31, 3, 0, 40, 12), (12, .iload_n 2, 1, 0, 0, 13), (13, .aload_n 0, 1, 0, 0, 14), (14, .iload_n 1, 1, 0, 0, 15), (15, .bipush 20, 2, 20, 0, 17), (17, .iload_n 3, 1, 0, 0, 18), (18, .iadd, 1, 0, 0, 19), (19, .invokevirtual 354, 3, 0, 0, 22), (22, .ifCond .eq 9, 3, 0, 31, 25), (25, .iconst 1, 1, 1, 0, 26), (26, .iload_n 3, 1, 0, 0, 27), (27, .ishl, 1, 0, 0, 28), (28, .goto 4, 3, 0, 32, 31), (31, .iconst 0, 1, 0, 0, 32), (32, .ior, 1, 0, 0, 33), (33, .istore_n 2, 1, 0, 0, 34), (34, .iinc 3 1, 3, 1, 0, 37), (37, .goto (-33), 3, 0, 4, 40), (40, .iload_n 2, 1, 0, 0, 41), (41, .ireturn, 1, 0, 0, 42)]
def swX12_heldWords : Sw := []
def cuX12_heldWords : Cu := [(4, [0, 1, 2, 3])]
set_option maxRecDepth 100000 in
theorem msX12_heldWords : msOK mX12_heldWords isX12_heldWords swX12_heldWords := msOK_of (by decide +kernel)
def isX12_use : Is := [(0, .bipush 44, 2, 44, 0, 2), (2, .iload_n 1, 1, 0, 0, 3), (3, .imul, 1, 0, 0, 4), (4, .iload_n 2, 1, 0, 0, 5), (5, .iadd, 1, 0, 0, 6), (6, .istore_n 3, 1, 0, 0, 7), (7, .aload_n 0, 1, 0, 0, 8), (8, .iload_n 1, 1, 0, 0, 9), (9, .iload_n 2, 1, 0, 0, 10), (10, .invokevirtual 354, 3, 0, 0, 13), (13, .istore 4, 2, 0, 0, 15), (15, .iload 4, 2, 0, 0, 17), (17, .ifCond .eq 19, 3, 0, 36, 20), (20, .aload_n 0, 1, 0, 0, 21), (21, .getfield 112, 3, 0, 0, 24), (24, .iload_n 3, 1, 0, 0, 25), (25, .iaload, 1, 0, 0, 26), (26, .aload_n 0, 1, 0, 0, 27), (27, .getfield 103, 3, 0, 0, 30), (30, .iload_n 1, 1, 0, 0, 31), (31, .iaload, 1, 0, 0, 32), (32, .if_icmp .ne 4, 3, 0, 36, 35), (35, .return_, 1, 0, 0, 36), (36, .iconst 2, 1, 2, 0, 37), (37, .aload_n 0, 1, 0, 0, 38), (38, .getfield 109, 3, 0, 0, 41), (41, .iload_n 3, 1, 0, 0, 42), (42, .iaload, 1, 0, 0, 43), (43, .imul, 1, 0, 0, 44), (44, .sipush 999, 3, 999, 0, 47), (47, .if_icmp .le 9, 3, 0, 56, 50), (50, .sipush 999, 3, 999, 0, 53), (53, .goto 11, 3, 0, 64, 56), (56, .iconst 2, 1, 2, 0, 57), (57, .aload_n 0, 1, 0, 0, 58), (58, .getfield 109, 3, 0, 0, 61), (61, .iload_n 3, 1, 0, 0, 62), (62, .iaload, 1, 0, 0, 63), (63, .imul, 1, 0, 0, 64), (64, .istore 5, 2, 0, 0, 66), (66, .aload_n 0, 1, 0, 0, 67), (67, .getfield 109, 3, 0, 0, 70), (70, .iload_n 3, 1, 0, 0, 71), (71, .iload 4, 2, 0, 0, 73), (73, .ifCond .eq 8, 3, 0, 81, 76), (76, .iload 5, 2, 0, 0, 78), (78, .goto 7, 3, 0, 85, 81), (81, .aload_n 0, 1, 0, 0, 82), (82, .getfield 100, 3, 0, 0, 85), (85, .iastore, 1, 0, 0, 86), (86, .aload_n 0, 1, 0, 0, 87), (87, .getfield 112, 3, 0, 0, 90), (90, .iload_n 3, 1, 0, 0, 91), (91, .aload_n 0, 1, 0, 0, 92), (92, .getfield 103, 3, 0, 0, 95), (95, .iload_n 1, 1, 0, 0, 96), (96, .iaload, 1, 0, 0, 97), (97, .iastore, 1, 0, 0, 98), (98, .return_, 1, 0, 0, 99)]
def swX12_use : Sw := []
def cuX12_use : Cu := []
set_option maxRecDepth 100000 in
theorem msX12_use : msOK mX12_use isX12_use swX12_use := msOK_of (by decide +kernel)
def isX12_useAll : Is := [(0, .iconst 0, 1, 0, 0, 1), (1, .istore 4, 2, 0, 0, 3), (3, .iload 4, 2, 0, 0, 5), (5, .aload_n 0, 1, 0, 0, 6), (6, .getfield 236, 3, 0, 0, 9), (9, .if_icmp .ge 25, 3, 0, 34, 12), (12, .iload_n 2, 1, 0, 0, 13), (13, .iload 4, 2, 0, 0, 15), (15, .invokestatic 205, 3, 0, 0, 18), (18, .ifCond .eq 10, 3, 0, 28, 21), (21, .aload_n 0, 1, 0, 0, 22), (22, .iload_n 1, 1, 0, 0, 23), (23, .iload 4, 2, 0, 0, 25), (25, .invokevirtual 357, 3, 0, 0, 28), (28, .iinc 4 1, 3, 1, 0, 31), (31, .goto (-28), 3, 0, 3, 34), (34, .iconst 0, 1, 0, 0, 35), (35, .istore 4, 2, 0, 0, 37), (37, .iload 4, 2, 0, 0, 39), (39, .aload_n 0, 1, 0, 0, 40), (40, .getfield 239, 3, 0, 0, 43), (43, .if_icmp .ge 28, 3, 0, 71, 46), (46, .iload_n 3, 1, 0, 0, 47), (47, .iload 4, 2, 0, 0, 49), (49, .invokestatic 205, 3, 0, 0, 52), (52, .ifCond .eq 13, 3, 0, 65, 55), (55, .aload_n 0, 1, 0, 0, 56), (56, .iload_n 1, 1, 0, 0, 57), (57, .bipush 20, 2, 20, 0, 59), (59, .iload 4, 2, 0, 0, 61), (61, .iadd, 1, 0, 0, 62), (62, .invokevirtual 357, 3, 0, 0, 65), (65, .iinc 4 1, 3, 1, 0, 68), (68, .goto (-31), 3, 0, 37, 71), (71, .return_, 1, 0, 0, 72)]
def swX12_useAll : Sw := []
def cuX12_useAll : Cu := [(3, [0, 1, 2, 3, 4]), (37, [0, 1, 3, 4])]
set_option maxRecDepth 100000 in
theorem msX12_useAll : msOK mX12_useAll isX12_useAll swX12_useAll := msOK_of (by decide +kernel)
def isX12_base : Is := [(0, .iload_n 1, 1, 0, 0, 1), (1, .i2l, 1, 0, 0, 2), (2, .lconst 1, 1, 0, 0, 3), (3, .ldc2_w 360, 3, 0, 0, 6), (6, .invokestatic 127, 3, 0, 0, 9), (9, .ifCond .ne 7, 3, 0, 16, 12), (12, .sipush (-1002), 3, (-1002), 0, 15), (15, .ireturn, 1, 0, 0, 16), (16, .aload_n 0, 1, 0, 0, 17), (17, .getfield 100, 3, 0, 0, 20), (20, .istore_n 2, 1, 0, 0, 21), (21, .aload_n 0, 1, 0, 0, 22), (22, .iload_n 1, 1, 0, 0, 23), (23, .putfield 100, 3, 0, 0, 26), (26, .iload_n 2, 1, 0, 0, 27), (27, .ireturn, 1, 0, 0, 28)]
def swX12_base : Sw := []
def cuX12_base : Cu := []
set_option maxRecDepth 100000 in
theorem msX12_base : msOK mX12_base isX12_base swX12_base := msOK_of (by decide +kernel)
def isX12_lacking : Is := [(0, .aload_n 0, 1, 0, 0, 1), (1, .getfield 34, 3, 0, 0, 4), (4, .iconst 3, 1, 3, 0, 5), (5, .iload_n 2, 1, 0, 0, 6), (6, .imul, 1, 0, 0, 7), (7, .iconst 1, 1, 1, 0, 8), (8, .iadd, 1, 0, 0, 9), (9, .iaload, 1, 0, 0, 10), (10, .aload_n 0, 1, 0, 0, 11), (11, .iload_n 1, 1, 0, 0, 12), (12, .invokevirtual 362, 3, 0, 0, 15), (15, .iconst (-1), 1, (-1), 0, 16), (16, .ixor, 1, 0, 0, 17), (17, .iand, 1, 0, 0, 18), (18, .invokestatic 333, 3, 0, 0, 21), (21, .aload_n 0, 1, 0, 0, 22), (22, .getfield 34, 3, 0, 0, 25), (25, .iconst 3, 1, 3, 0, 26), (26, .iload_n 2, 1, 0, 0, 27), (27, .imul, 1, 0, 0, 28), (28, .iconst 2, 1, 2, 0, 29), (29, .iadd, 1, 0, 0, 30), (30, .iaload, 1, 0, 0, 31), (31, .aload_n 0, 1, 0, 0, 32), (32, .iload_n 1, 1, 0, 0, 33), (33, .invokevirtual 365, 3, 0, 0, 36), (36, .iconst (-1), 1, (-1), 0, 37), (37, .ixor, 1, 0, 0, 38), (38, .iand, 1, 0, 0, 39), (39, .invokestatic 333, 3, 0, 0, 42), (42, .iadd, 1, 0, 0, 43), (43, .ireturn, 1, 0, 0, 44)]
def swX12_lacking : Sw := []
def cuX12_lacking : Cu := []
set_option maxRecDepth 100000 in
theorem msX12_lacking : msOK mX12_lacking isX12_lacking swX12_lacking := msOK_of (by decide +kernel)
def isX12_take : Is := [(0, .iload_n 1, 1, 0, 0, 1), (1, .invokestatic 368, 3, 0, 0, 4), (4, .ifCond .eq 11, 3, 0, 15, 7), (7, .aload_n 0, 1, 0, 0, 8), (8, .iload_n 2, 1, 0, 0, 9), (9, .invokevirtual 267, 3, 0, 0, 12), (12, .ifCond .ne 7, 3, 0, 19, 15), (15, .sipush (-1001), 3, (-1001), 0, 18), (18, .ireturn, 1, 0, 0, 19), (19, .aload_n 0, 1, 0, 0, 20), (20, .getfield 34, 3, 0, 0, 23), (23, .iconst 3, 1, 3, 0, 24), (24, .iload_n 2, 1, 0, 0, 25), (25, .imul, 1, 0, 0, 26), (26, .iaload, 1, 0, 0, 27), (27, .aload_n 0, 1, 0, 0, 28), (28, .getfield 106, 3, 0, 0, 31), (31, .iload_n 1, 1, 0, 0, 32), (32, .iaload, 1, 0, 0, 33), (33, .iconst (-1), 1, (-1), 0, 34), (34, .ixor, 1, 0, 0, 35), (35, .iand, 1, 0, 0, 36), (36, .ifCond .eq 7, 3, 0, 43, 39), (39, .sipush (-1003), 3, (-1003), 0, 42), (42, .ireturn, 1, 0, 0, 43), (43, .aload_n 0, 1, 0, 0, 44), (44, .iload_n 1, 1, 0, 0, 45), (45, .iload_n 2, 1, 0, 0, 46), (46, .invokevirtual 371, 3, 0, 0, 49), (49, .istore_n 3, 1, 0, 0, 50), (50, .aload_n 0, 1, 0, 0, 51), (51, .getfield 106, 3, 0, 0, 54), (54, .iload_n 1, 1, 0, 0, 55), (55, .dup2, 1, 0, 0, 56), (56, .iaload, 1, 0, 0, 57), (57, .iconst 1, 1, 1, 0, 58), (58, .iload_n 2, 1, 0, 0, 59), (59, .ishl, 1, 0, 0, 60), (60, .ior, 1, 0, 0, 61), (61, .iastore, 1, 0, 0, 62), (62, .aload_n 0, 1, 0, 0, 63), (63, .iload_n 1, 1, 0, 0, 64), (64, .aload_n 0, 1, 0, 0, 65), (65, .getfield 34, 3, 0, 0, 68), (68, .iconst 3, 1, 3, 0, 69), (69, .iload_n 2, 1, 0, 0, 70), (70, .imul, 1, 0, 0, 71), (71, .iconst 1, 1, 1, 0, 72), (72, .iadd, 1, 0, 0, 73), (73, .iaload, 1, 0, 0, 74), (74, .aload_n 0, 1, 0, 0, 75), (75, .getfield 34, 3, 0, 0, 78), (78, .iconst 3, 1, 3, 0, 79), (79, .iload_n 2, 1, 0, 0, 80), (80, .imul, 1, 0, 0, 81), (81, .iconst 2, 1, 2, 0, 82), (82, .iadd, 1, 0, 0, 83), (83, .iaload, 1, 0, 0, 84), (84, .invokevirtual 374, 3, 0, 0, 87), (87, .iload_n 3, 1, 0, 0, 88), (88, .ireturn, 1, 0, 0, 89)]
def swX12_take : Sw := []
def cuX12_take : Cu := []
set_option maxRecDepth 100000 in
theorem msX12_take : msOK mX12_take isX12_take swX12_take := msOK_of (by decide +kernel)
def isX12_meetsOf : Is := [(0, .aload_n 0, 1, 0, 0, 1), (1, .iload_n 1, 1, 0, 0, 2), (2, .invokevirtual 362, 3, 0, 0, 5), (5, .istore_n 3, 1, 0, 0, 6), (6, .aload_n 0, 1, 0, 0, 7), (7, .iload_n 1, 1, 0, 0, 8), (8, .invokevirtual 365, 3, 0, 0, 11), (11, .istore 4, 2, 0, 0, 13), (13, .iconst 0, 1, 0, 0, 14), (14, .istore 5, 2, 0, 0, 16), (16, .aload_n 0, 1, 0, 0, 17), (17, .iconst 0, 1, 0, 0, 18), (18, .putfield 378, 3, 0, 0, 21), (21, .iconst 0, 1, 0, 0, 22), (22, .istore 6, 2, 0, 0, 24), (24, .iload 6, 2, 0, 0, 26), (26, .aload_n 0, 1, 0, 0, 27), (27, .getfield 239, 3, 0, 0, 30), (30, .if_icmp .ge 79, 3, 0, 109, 33), (33, .aload_n 0, 1, 0, 0, 34), (34, .getfield 43, 3, 0, 0, 37), (37, .iload_n 2, 1, 0, 0, 38), (38, .iaload, 1, 0, 0, 39), (39, .iload 6, 2, 0, 0, 41), (41, .invokestatic 205, 3, 0, 0, 44), (44, .ifCond .eq 59, 3, 0, 103, 47), (47, .iload 4, 2, 0, 0, 49), (49, .iload 6, 2, 0, 0, 51), (51, .invokestatic 205, 3, 0, 0, 54), (54, .ifCond .ne 49, 3, 0, 103, 57), (57, .aload_n 0, 1, 0, 0, 58), (58, .iload 6, 2, 0, 0, 60), (60, .iload_n 3, 1, 0, 0, 61), (61, .invokevirtual 315, 3, 0, 0, 64), (64, .istore 7, 2, 0, 0, 66), (66, .aload_n 0, 1, 0, 0, 67), (67, .dup, 1, 0, 0, 68), (68, .getfield 378, 3, 0, 0, 71), (71, .iload 7, 2, 0, 0, 73), (73, .ifCond .eq 10, 3, 0, 83, 76), (76, .aload_n 0, 1, 0, 0, 77), (77, .getfield 295, 3, 0, 0, 80), (80, .goto 4, 3, 0, 84, 83), (83, .iconst 0, 1, 0, 0, 84), (84, .ior, 1, 0, 0, 85), (85, .putfield 378, 3, 0, 0, 88), (88, .iload 5, 2, 0, 0, 90), (90, .iload 7, 2, 0, 0, 92), (92, .ifCond .eq 7, 3, 0, 99, 95), (95, .iconst 0, 1, 0, 0, 96), (96, .goto 4, 3, 0, 100, 99), (99, .iconst 1, 1, 1, 0, 100), (100, .iadd, 1, 0, 0, 101), (101, .istore 5, 2, 0, 0, 103), (103, .iinc 6 1, 3, 1, 0, 106), (106, .goto (-82), 3, 0, 24, 109), (109, .iload 5, 2, 0, 0, 111), (111, .ireturn, 1, 0, 0, 112)]
def swX12_meetsOf : Sw := []
def cuX12_meetsOf : Cu := [(24, [0, 2, 3, 4, 5, 6])]
set_option maxRecDepth 100000 in
theorem msX12_meetsOf : msOK mX12_meetsOf isX12_meetsOf swX12_meetsOf := msOK_of (by decide +kernel)
def isX12_read : Is := [(0, .iload_n 1, 1, 0, 0, 1), (1, .invokestatic 368, 3, 0, 0, 4), (4, .ifCond .eq 11, 3, 0, 15, 7), (7, .aload_n 0, 1, 0, 0, 8), (8, .iload_n 2, 1, 0, 0, 9), (9, .invokevirtual 270, 3, 0, 0, 12), (12, .ifCond .ne 7, 3, 0, 19, 15), (15, .sipush (-1001), 3, (-1001), 0, 18), (18, .ireturn, 1, 0, 0, 19), (19, .aload_n 0, 1, 0, 0, 20), (20, .iload_n 1, 1, 0, 0, 21), (21, .iload_n 2, 1, 0, 0, 22), (22, .invokevirtual 381, 3, 0, 0, 25), (25, .istore_n 3, 1, 0, 0, 26), (26, .aload_n 0, 1, 0, 0, 27), (27, .iload_n 1, 1, 0, 0, 28), (28, .aload_n 0, 1, 0, 0, 29), (29, .getfield 378, 3, 0, 0, 32), (32, .aload_n 0, 1, 0, 0, 33), (33, .getfield 43, 3, 0, 0, 36), (36, .iload_n 2, 1, 0, 0, 37), (37, .iaload, 1, 0, 0, 38), (38, .invokevirtual 374, 3, 0, 0, 41), (41, .iload_n 3, 1, 0, 0, 42), (42, .ireturn, 1, 0, 0, 43)]
def swX12_read : Sw := []
def cuX12_read : Cu := []
set_option maxRecDepth 100000 in
theorem msX12_read : msOK mX12_read isX12_read swX12_read := msOK_of (by decide +kernel)
def isX12_rest : Is := [(0, .iload_n 1, 1, 0, 0, 1), (1, .invokestatic 368, 3, 0, 0, 4), (4, .ifCond .ne 7, 3, 0, 11, 7), (7, .sipush (-1001), 3, (-1001), 0, 10), (10, .ireturn, 1, 0, 0, 11), (11, .iload_n 2, 1, 0, 0, 12), (12, .i2l, 1, 0, 0, 13), (13, .lconst 1, 1, 0, 0, 14), (14, .ldc2_w 384, 3, 0, 0, 17), (17, .invokestatic 127, 3, 0, 0, 20), (20, .ifCond .eq 17, 3, 0, 37, 23), (23, .aload_n 0, 1, 0, 0, 24), (24, .getfield 103, 3, 0, 0, 27), (27, .iload_n 1, 1, 0, 0, 28), (28, .iaload, 1, 0, 0, 29), (29, .iload_n 2, 1, 0, 0, 30), (30, .iadd, 1, 0, 0, 31), (31, .sipush 9999, 3, 9999, 0, 34), (34, .if_icmp .le 7, 3, 0, 41, 37), (37, .sipush (-1002), 3, (-1002), 0, 40), (40, .ireturn, 1, 0, 0, 41), (41, .aload_n 0, 1, 0, 0, 42), (42, .getfield 103, 3, 0, 0, 45), (45, .iload_n 1, 1, 0, 0, 46), (46, .dup2, 1, 0, 0, 47), (47, .iaload, 1, 0, 0, 48), (48, .iload_n 2, 1, 0, 0, 49), (49, .iadd, 1, 0, 0, 50), (50, .iastore, 1, 0, 0, 51), (51, .aload_n 0, 1, 0, 0, 52), (52, .getfield 103, 3, 0, 0, 55), (55, .iload_n 1, 1, 0, 0, 56), (56, .iaload, 1, 0, 0, 57), (57, .ireturn, 1, 0, 0, 58)]
def swX12_rest : Sw := []
def cuX12_rest : Cu := []
set_option maxRecDepth 100000 in
theorem msX12_rest : msOK mX12_rest isX12_rest swX12_rest := msOK_of (by decide +kernel)
def isX12_about : Is := [(0, .iload_n 1, 1, 0, 0, 1), (1, .invokestatic 368, 3, 0, 0, 4), (4, .ifCond .ne 7, 3, 0, 11, 7), (7, .sipush (-1001), 3, (-1001), 0, 10), (10, .ireturn, 1, 0, 0, 11), (11, .iload_n 2, 1, 0, 0, 12), (12, .tableswitch 58 0 3 #[32, 39, 46, 52], 32, 0, 0, 44), (44, .aload_n 0, 1, 0, 0, 45), (45, .getfield 103, 3, 0, 0, 48), (48, .iload_n 1, 1, 0, 0, 49), (49, .iaload, 1, 0, 0, 50), (50, .ireturn, 1, 0, 0, 51), (51, .aload_n 0, 1, 0, 0, 52), (52, .getfield 106, 3, 0, 0, 55), (55, .iload_n 1, 1, 0, 0, 56), (56, .iaload, 1, 0, 0, 57), (57, .ireturn, 1, 0, 0, 58), (58, .aload_n 0, 1, 0, 0, 59), (59, .iload_n 1, 1, 0, 0, 60), (60, .invokevirtual 362, 3, 0, 0, 63), (63, .ireturn, 1, 0, 0, 64), (64, .aload_n 0, 1, 0, 0, 65), (65, .iload_n 1, 1, 0, 0, 66), (66, .invokevirtual 365, 3, 0, 0, 69), (69, .ireturn, 1, 0, 0, 70), (70, .sipush (-1002), 3, (-1002), 0, 73), (73, .ireturn, 1, 0, 0, 74)]
def swX12_about : Sw := [(12, [(0, 44), (1, 51), (2, 58), (3, 64)], 70)]
def cuX12_about : Cu := []
set_option maxRecDepth 100000 in
theorem msX12_about : msOK mX12_about isX12_about swX12_about := msOK_of (by decide +kernel)
def isX12_span : Is := [(0, .iload_n 1, 1, 0, 0, 1), (1, .invokestatic 368, 3, 0, 0, 4), (4, .ifCond .eq 26, 3, 0, 30, 7), (7, .iload_n 2, 1, 0, 0, 8), (8, .ifCond .eq 14, 3, 0, 22, 11), (11, .aload_n 0, 1, 0, 0, 12), (12, .iload_n 3, 1, 0, 0, 13), (13, .invokevirtual 256, 3, 0, 0, 16), (16, .ifCond .eq 14, 3, 0, 30, 19), (19, .goto 15, 3, 0, 34, 22), (22, .aload_n 0, 1, 0, 0, 23), (23, .iload_n 3, 1, 0, 0, 24), (24, .invokevirtual 248, 3, 0, 0, 27), (27, .ifCond .ne 7, 3, 0, 34, 30), (30, .sipush (-1001), 3, (-1001), 0, 33), (33, .ireturn, 1, 0, 0, 34), (34, .aload_n 0, 1, 0, 0, 35), (35, .getfield 109, 3, 0, 0, 38), (38, .bipush 44, 2, 44, 0, 40), (40, .iload_n 1, 1, 0, 0, 41), (41, .imul, 1, 0, 0, 42), (42, .iload_n 2, 1, 0, 0, 43), (43, .ifCond .eq 10, 3, 0, 53, 46), (46, .bipush 20, 2, 20, 0, 48), (48, .iload_n 3, 1, 0, 0, 49), (49, .iadd, 1, 0, 0, 50), (50, .goto 4, 3, 0, 54, 53), (53, .iload_n 3, 1, 0, 0, 54), (54, .iadd, 1, 0, 0, 55), (55, .iaload, 1, 0, 0, 56), (56, .ireturn, 1, 0, 0, 57)]
def swX12_span : Sw := []
def cuX12_span : Cu := []
set_option maxRecDepth 100000 in
theorem msX12_span : msOK mX12_span isX12_span swX12_span := msOK_of (by decide +kernel)
def isX12_meets : Is := [(0, .iload_n 1, 1, 0, 0, 1), (1, .invokestatic 368, 3, 0, 0, 4), (4, .ifCond .eq 20, 3, 0, 24, 7), (7, .aload_n 0, 1, 0, 0, 8), (8, .iload_n 2, 1, 0, 0, 9), (9, .invokevirtual 270, 3, 0, 0, 12), (12, .ifCond .eq 12, 3, 0, 24, 15), (15, .aload_n 0, 1, 0, 0, 16), (16, .iload_n 1, 1, 0, 0, 17), (17, .iload_n 2, 1, 0, 0, 18), (18, .invokevirtual 381, 3, 0, 0, 21), (21, .goto 6, 3, 0, 27, 24), (24, .sipush (-1001), 3, (-1001), 0, 27), (27, .ireturn, 1, 0, 0, 28)]
def swX12_meets : Sw := []
def cuX12_meets : Cu := []
set_option maxRecDepth 100000 in
theorem msX12_meets : msOK mX12_meets isX12_meets swX12_meets := msOK_of (by decide +kernel)
def isX12_next : Is := [(0, .iload_n 1, 1, 0, 0, 1), (1, .invokestatic 368, 3, 0, 0, 4), (4, .ifCond .ne 7, 3, 0, 11, 7), (7, .sipush (-1001), 3, (-1001), 0, 10), (10, .ireturn, 1, 0, 0, 11), (11, .iload_n 2, 1, 0, 0, 12), (12, .invokestatic 338, 3, 0, 0, 15), (15, .ifCond .ne 7, 3, 0, 22, 18), (18, .sipush (-1002), 3, (-1002), 0, 21), (21, .ireturn, 1, 0, 0, 22), (22, .iconst 0, 1, 0, 0, 23), (23, .istore_n 3, 1, 0, 0, 24), (24, .iload_n 3, 1, 0, 0, 25), (25, .aload_n 0, 1, 0, 0, 26), (26, .getfield 242, 3, 0, 0, 29), (29, .if_icmp .ge 33, 3, 0, 62, 32), (32, .aload_n 0, 1, 0, 0, 33), (33, .getfield 106, 3, 0, 0, 36), (36, .iload_n 1, 1, 0, 0, 37), (37, .iaload, 1, 0, 0, 38), (38, .iload_n 3, 1, 0, 0, 39), (39, .invokestatic 205, 3, 0, 0, 42), (42, .ifCond .eq 14, 3, 0, 56, 45), (45, .aload_n 0, 1, 0, 0, 46), (46, .iload_n 1, 1, 0, 0, 47), (47, .iload_n 3, 1, 0, 0, 48), (48, .invokevirtual 371, 3, 0, 0, 51), (51, .ifCond .le 5, 3, 0, 56, 54), (54, .iload_n 3, 1, 0, 0, 55), (55, .ireturn, 1, 0, 0, 56), (56, .iinc 3 1, 3, 1, 0, 59), (59, .goto (-35), 3, 0, 24, 62), (62, .iconst (-1), 1, (-1), 0, 63), (63, .istore_n 3, 1, 0, 0, 64), (64, .iconst 0, 1, 0, 0, 65), (65, .istore 4, 2, 0, 0, 67), (67, .iconst 0, 1, 0, 0, 68), (68, .istore 5, 2, 0, 0, 70), (70, .iload 5, 2, 0, 0, 72), (72, .aload_n 0, 1, 0, 0, 73), (73, .getfield 245, 3, 0, 0, 76), (76, .if_icmp .ge 38, 3, 0, 114, 79), (79, .aload_n 0, 1, 0, 0, 80), (80, .iload_n 1, 1, 0, 0, 81), (81, .iload 5, 2, 0, 0, 83), (83, .invokevirtual 381, 3, 0, 0, 86), (86, .istore 6, 2, 0, 0, 88), (88, .iload 6, 2, 0, 0, 90), (90, .iload_n 2, 1, 0, 0, 91), (91, .if_icmp .gt 17, 3, 0, 108, 94), (94, .iload 6, 2, 0, 0, 96), (96, .iload 4, 2, 0, 0, 98), (98, .if_icmp .le 10, 3, 0, 108, 101), (101, .iload 5, 2, 0, 0, 103), (103, .istore_n 3, 1, 0, 0, 104), (104, .iload 6, 2, 0, 0, 106), (106, .istore 4, 2, 0, 0, 108), (108, .iinc 5 1, 3, 1, 0, 111), (111, .goto (-41), 3, 0, 70, 114), (114, .iload_n 3, 1, 0, 0, 115), (115, .ifCond .lt 8, 3, 0, 123, 118), (118, .bipush 100, 2, 100, 0, 120), (120, .iload_n 3, 1, 0, 0, 121), (121, .iadd, 1, 0, 0, 122), (122, .ireturn, 1, 0, 0, 123), (123, .iconst 0, 1, 0, 0, 124), (124, .istore 5, 2, 0, 0, 126), (126, .iload 5, 2, 0, 0, 128), (128, .aload_n 0, 1, 0, 0, 129), (129, .getfield 242, 3, 0, 0, 132), (132, .if_icmp .ge 47, 3, 0, 179, 135), (135, .aload_n 0, 1, 0, 0, 136), (136, .getfield 106, 3, 0, 0, 139), (139, .iload_n 1, 1, 0, 0, 140), (140, .iaload, 1, 0, 0, 141), (141, .iload 5, 2, 0, 0, 143), (143, .invokestatic 205, 3, 0, 0, 146), (146, .ifCond .ne 27, 3, 0, 173, 149), (149, .aload_n 0, 1, 0, 0, 150), (150, .getfield 34, 3, 0, 0, 153), (153, .iconst 3, 1, 3, 0, 154), (154, .iload 5, 2, 0, 0, 156), (156, .imul, 1, 0, 0, 157), (157, .iaload, 1, 0, 0, 158), (158, .aload_n 0, 1, 0, 0, 159), (159, .getfield 106, 3, 0, 0, 162), (162, .iload_n 1, 1, 0, 0, 163), (163, .iaload, 1, 0, 0, 164), (164, .iconst (-1), 1, (-1), 0, 165), (165, .ixor, 1, 0, 0, 166), (166, .iand, 1, 0, 0, 167), (167, .ifCond .ne 6, 3, 0, 173, 170), (170, .iload 5, 2, 0, 0, 172), (172, .ireturn, 1, 0, 0, 173), (173, .iinc 5 1, 3, 1, 0, 176), (176, .goto (-50), 3, 0, 126, 179), (179, .iconst (-1), 1, (-1), 0, 180), (180, .ireturn, 1, 0, 0, 181)]
def swX12_next : Sw := []
def cuX12_next : Cu := [(24, [0, 1, 2, 3]), (70, [0, 1, 2, 3, 4, 5]), (126, [0, 1, 5])]
set_option maxRecDepth 100000 in
theorem msX12_next : msOK mX12_next isX12_next swX12_next := msOK_of (by decide +kernel)
def isX12_forAll : Is := [(0, .iconst (-1), 1, (-1), 0, 1), (1, .istore_n 1, 1, 0, 0, 2), (2, .iconst 0, 1, 0, 0, 3), (3, .istore_n 2, 1, 0, 0, 4), (4, .iconst 0, 1, 0, 0, 5), (5, .istore_n 3, 1, 0, 0, 6), (6, .iload_n 3, 1, 0, 0, 7), (7, .aload_n 0, 1, 0, 0, 8), (8, .getfield 245, 3, 0, 0, 11), (11, .if_icmp .ge 54, 3, 0, 65, 14), (14, .iconst 0, 1, 0, 0, 15), (15, .istore 4, 2, 0, 0, 17), (17, .iconst 0, 1, 0, 0, 18), (18, .istore 5, 2, 0, 0, 20), (20, .iload 5, 2, 0, 0, 22), (22, .iconst 3, 1, 3, 0, 23), (23, .if_icmp .ge 21, 3, 0, 44, 26), (26, .iload 4, 2, 0, 0, 28), (28, .aload_n 0, 1, 0, 0, 29), (29, .iload 5, 2, 0, 0, 31), (31, .iload_n 3, 1, 0, 0, 32), (32, .invokevirtual 381, 3, 0, 0, 35), (35, .iadd, 1, 0, 0, 36), (36, .istore 4, 2, 0, 0, 38), (38, .iinc 5 1, 3, 1, 0, 41), (41, .goto (-21), 3, 0, 20, 44), (44, .iload_n 1, 1, 0, 0, 45), (45, .ifCond .lt 9, 3, 0, 54, 48), (48, .iload 4, 2, 0, 0, 50), (50, .iload_n 2, 1, 0, 0, 51), (51, .if_icmp .ge 8, 3, 0, 59, 54), (54, .iload_n 3, 1, 0, 0, 55), (55, .istore_n 1, 1, 0, 0, 56), (56, .iload 4, 2, 0, 0, 58), (58, .istore_n 2, 1, 0, 0, 59), (59, .iinc 3 1, 3, 1, 0, 62), (62, .goto (-56), 3, 0, 6, 65), (65, .iload_n 1, 1, 0, 0, 66), (66, .ireturn, 1, 0, 0, 67)]
def swX12_forAll : Sw := []
def cuX12_forAll : Cu := [(6, [0, 1, 2, 3]), (20, [0, 1, 2, 3, 4, 5])]
set_option maxRecDepth 100000 in
theorem msX12_forAll : msOK mX12_forAll isX12_forAll swX12_forAll := msOK_of (by decide +kernel)
def isX12_keep : Is := [(0, .iload_n 1, 1, 0, 0, 1), (1, .i2l, 1, 0, 0, 2), (2, .lconst 0, 1, 0, 0, 3), (3, .lconst 1, 1, 0, 0, 4), (4, .invokestatic 127, 3, 0, 0, 7), (7, .ifCond .ne 7, 3, 0, 14, 10), (10, .sipush (-1001), 3, (-1001), 0, 13), (13, .ireturn, 1, 0, 0, 14), (14, .sipush 280, 3, 280, 0, 17), (17, .iload_n 1, 1, 0, 0, 18), (18, .imul, 1, 0, 0, 19), (19, .istore_n 2, 1, 0, 0, 20), (20, .iconst 0, 1, 0, 0, 21), (21, .istore_n 3, 1, 0, 0, 22), (22, .iload_n 3, 1, 0, 0, 23), (23, .iconst 3, 1, 3, 0, 24), (24, .if_icmp .ge 39, 3, 0, 63, 27), (27, .aload_n 0, 1, 0, 0, 28), (28, .getfield 115, 3, 0, 0, 31), (31, .iload_n 2, 1, 0, 0, 32), (32, .iload_n 3, 1, 0, 0, 33), (33, .iadd, 1, 0, 0, 34), (34, .aload_n 0, 1, 0, 0, 35), (35, .getfield 103, 3, 0, 0, 38), (38, .iload_n 3, 1, 0, 0, 39), (39, .iaload, 1, 0, 0, 40), (40, .iastore, 1, 0, 0, 41), (41, .aload_n 0, 1, 0, 0, 42), (42, .getfield 115, 3, 0, 0, 45), (45, .iload_n 2, 1, 0, 0, 46), (46, .iconst 3, 1, 3, 0, 47), (47, .iadd, 1, 0, 0, 48), (48, .iload_n 3, 1, 0, 0, 49), (49, .iadd, 1, 0, 0, 50), (50, .aload_n 0, 1, 0, 0, 51), (51, .getfield 106, 3, 0, 0, 54), (54, .iload_n 3, 1, 0, 0, 55), (55, .iaload, 1, 0, 0, 56), (56, .iastore, 1, 0, 0, 57), (57, .iinc 3 1, 3, 1, 0, 60), (60, .goto (-38), 3, 0, 22, 63), (63, .aload_n 0, 1, 0, 0, 64), (64, .getfield 115, 3, 0, 0, 67), (67, .iload_n 2, 1, 0, 0, 68), (68, .bipush 6, 2, 6, 0, 70), (70, .iadd, 1, 0, 0, 71), (71, .aload_n 0, 1, 0, 0, 72), (72, .getfield 100, 3, 0, 0, 75), (75, .iastore, 1, 0, 0, 76), (76, .iconst 0, 1, 0, 0, 77), (77, .istore_n 3, 1, 0, 0, 78), (78, .iload_n 3, 1, 0, 0, 79), (79, .sipush 132, 3, 132, 0, 82), (82, .if_icmp .ge 44, 3, 0, 126, 85), (85, .aload_n 0, 1, 0, 0, 86), (86, .getfield 115, 3, 0, 0, 89), (89, .iload_n 2, 1, 0, 0, 90), (90, .bipush 7, 2, 7, 0, 92), (92, .iadd, 1, 0, 0, 93), (93, .iload_n 3, 1, 0, 0, 94), (94, .iadd, 1, 0, 0, 95), (95, .aload_n 0, 1, 0, 0, 96), (96, .getfield 109, 3, 0, 0, 99), (99, .iload_n 3, 1, 0, 0, 100), (100, .iaload, 1, 0, 0, 101), (101, .iastore, 1, 0, 0, 102), (102, .aload_n 0, 1, 0, 0, 103), (103, .getfield 115, 3, 0, 0, 106), (106, .iload_n 2, 1, 0, 0, 107), (107, .sipush 139, 3, 139, 0, 110), (110, .iadd, 1, 0, 0, 111), (111, .iload_n 3, 1, 0, 0, 112), (112, .iadd, 1, 0, 0, 113), (113, .aload_n 0, 1, 0, 0, 114), (114, .getfield 112, 3, 0, 0, 117), (117, .iload_n 3, 1, 0, 0, 118), (118, .iaload, 1, 0, 0, 119), (119, .iastore, 1, 0, 0, 120), (120, .iinc 3 1, 3, 1, 0, 123), (123, .goto (-45), 3, 0, 78, 126), (126, .aload_n 0, 1, 0, 0, 127), (127, .getfield 118, 3, 0, 0, 130), (130, .iload_n 1, 1, 0, 0, 131), (131, .iconst 1, 1, 1, 0, 132), (132, .bastore, 1, 0, 0, 133), (133, .iconst 1, 1, 1, 0, 134), (134, .ireturn, 1, 0, 0, 135)]
def swX12_keep : Sw := []
def cuX12_keep : Cu := [(22, [0, 1, 2, 3]), (78, [0, 1, 2, 3])]
set_option maxRecDepth 100000 in
theorem msX12_keep : msOK mX12_keep isX12_keep swX12_keep := msOK_of (by decide +kernel)
def isX12_goBack : Is := [(0, .iload_n 1, 1, 0, 0, 1), (1, .i2l, 1, 0, 0, 2), (2, .lconst 0, 1, 0, 0, 3), (3, .lconst 1, 1, 0, 0, 4), (4, .invokestatic 127, 3, 0, 0, 7), (7, .ifCond .ne 7, 3, 0, 14, 10), (10, .sipush (-1001), 3, (-1001), 0, 13), (13, .ireturn, 1, 0, 0, 14), (14, .aload_n 0, 1, 0, 0, 15), (15, .getfield 118, 3, 0, 0, 18), (18, .iload_n 1, 1, 0, 0, 19), (19, .baload, 1, 0, 0, 20), (20, .ifCond .ne 7, 3, 0, 27, 23), (23, .sipush (-1003), 3, (-1003), 0, 26), (26, .ireturn, 1, 0, 0, 27), (27, .sipush 280, 3, 280, 0, 30), (30, .iload_n 1, 1, 0, 0, 31), (31, .imul, 1, 0, 0, 32), (32, .istore_n 2, 1, 0, 0, 33), (33, .iconst 0, 1, 0, 0, 34), (34, .istore_n 3, 1, 0, 0, 35), (35, .iload_n 3, 1, 0, 0, 36), (36, .iconst 3, 1, 3, 0, 37), (37, .if_icmp .ge 39, 3, 0, 76, 40), (40, .aload_n 0, 1, 0, 0, 41), (41, .getfield 103, 3, 0, 0, 44), (44, .iload_n 3, 1, 0, 0, 45), (45, .aload_n 0, 1, 0, 0, 46), (46, .getfield 115, 3, 0, 0, 49), (49, .iload_n 2, 1, 0, 0, 50), (50, .iload_n 3, 1, 0, 0, 51), (51, .iadd, 1, 0, 0, 52), (52, .iaload, 1, 0, 0, 53), (53, .iastore, 1, 0, 0, 54), (54, .aload_n 0, 1, 0, 0, 55), (55, .getfield 106, 3, 0, 0, 58), (58, .iload_n 3, 1, 0, 0, 59), (59, .aload_n 0, 1, 0, 0, 60), (60, .getfield 115, 3, 0, 0, 63), (63, .iload_n 2, 1, 0, 0, 64), (64, .iconst 3, 1, 3, 0, 65), (65, .iadd, 1, 0, 0, 66), (66, .iload_n 3, 1, 0, 0, 67), (67, .iadd, 1, 0, 0, 68), (68, .iaload, 1, 0, 0, 69), (69, .iastore, 1, 0, 0, 70), (70, .iinc 3 1, 3, 1, 0, 73), (73, .goto (-38), 3, 0, 35, 76), (76, .aload_n 0, 1, 0, 0, 77), (77, .aload_n 0, 1, 0, 0, 78), (78, .getfield 115, 3, 0, 0, 81), (81, .iload_n 2, 1, 0, 0, 82), (82, .bipush 6, 2, 6, 0, 84), (84, .iadd, 1, 0, 0, 85), (85, .iaload, 1, 0, 0, 86), (86, .putfield 100, 3, 0, 0, 89), (89, .iconst 0, 1, 0, 0, 90), (90, .istore_n 3, 1, 0, 0, 91), (91, .iload_n 3, 1, 0, 0, 92), (92, .sipush 132, 3, 132, 0, 95), (95, .if_icmp .ge 44, 3, 0, 139, 98), (98, .aload_n 0, 1, 0, 0, 99), (99, .getfield 109, 3, 0, 0, 102), (102, .iload_n 3, 1, 0, 0, 103), (103, .aload_n 0, 1, 0, 0, 104), (104, .getfield 115, 3, 0, 0, 107), (107, .iload_n 2, 1, 0, 0, 108), (108, .bipush 7, 2, 7, 0, 110), (110, .iadd, 1, 0, 0, 111), (111, .iload_n 3, 1, 0, 0, 112), (112, .iadd, 1, 0, 0, 113), (113, .iaload, 1, 0, 0, 114), (114, .iastore, 1, 0, 0, 115), (115, .aload_n 0, 1, 0, 0, 116), (116, .getfield 112, 3, 0, 0, 119), (119, .iload_n 3, 1, 0, 0, 120), (120, .aload_n 0, 1, 0, 0, 121), (121, .getfield 115, 3, 0, 0, 124), (124, .iload_n 2, 1, 0, 0, 125), (125, .sipush 139, 3, 139, 0, 128), (128, .iadd, 1, 0, 0, 129), (129, .iload_n 3, 1, 0, 0, 130), (130, .iadd, 1, 0, 0, 131), (131, .iaload, 1, 0, 0, 132), (132, .iastore, 1, 0, 0, 133), (133, .iinc 3 1, 3, 1, 0, 136), (136, .goto (-45), 3, 0, 91, 139), (139, .iconst 1, 1, 1, 0, 140), (140, .ireturn, 1, 0, 0, 141)]
def swX12_goBack : Sw := []
def cuX12_goBack : Cu := [(35, [0, 2, 3]), (91, [0, 2, 3])]
set_option maxRecDepth 100000 in
theorem msX12_goBack : msOK mX12_goBack isX12_goBack swX12_goBack := msOK_of (by decide +kernel)
end
section
/-! the reference: what its methods ask between their cuts -/
theorem vX12_in_0 {Γ : Gx} {d : Nat} {w : Wd} {Q : Int32 → St → Prop} {σ : St} {y0 : Int64} {y2 : Int64} {y4 : Int64}
    (h : (((lg_cmp y0 y2) < (0 : Int32) → Q (0 : Int32) σ) ∧ (¬ (lg_cmp y0 y2) < (0 : Int32) → (((0 : Int32) < (lg_cmp y0 y4) → Q (0 : Int32) σ) ∧ (¬ (0 : Int32) < (lg_cmp y0 y4) → Q (1 : Int32) σ))))) :
    AI Γ d mX12_in w Q 0 [(0, .long y0), (2, .long y2), (4, .long y4)] σ :=
  wp_sound (μ := mX12_in) (T := tbX12) (is := isX12_in) (sw := swX12_in) (cu := cuX12_in) tbX12_ok msX12_in 12 _ _ _ _ _ _ _ (And.intro (fun q2 => And.intro nb0 (And.intro rfl (Exists.intro (0 : Int32) (And.intro rfl (((h).1 q2)))))) (fun q2 => And.intro (fun q1 => And.intro nb0 (And.intro rfl (Exists.intro (0 : Int32) (And.intro rfl (((((h).2 q2)).1 q1)))))) (fun q1 => And.intro nb1 (And.intro rfl (Exists.intro (1 : Int32) (And.intro rfl (((((h).2 q2)).2 q1))))))))
theorem vX12_has_0 {Γ : Gx} {d : Nat} {w : Wd} {Q : Int32 → St → Prop} {σ : St} {x0 : Int32} {x1 : Int32}
    (h : ((¬ ((x0 >>> (x1 &&& (31 : Int32))) &&& (1 : Int32)) = (1 : Int32) → Q (0 : Int32) σ) ∧ (((x0 >>> (x1 &&& (31 : Int32))) &&& (1 : Int32)) = (1 : Int32) → Q (1 : Int32) σ))) :
    AI Γ d mX12_has w Q 0 [(0, .int x0), (1, .int x1)] σ :=
  wp_sound (μ := mX12_has) (T := tbX12) (is := isX12_has) (sw := swX12_has) (cu := cuX12_has) tbX12_ok msX12_has 11 _ _ _ _ _ _ _ (And.intro (fun q5 => And.intro nb0 (And.intro rfl (Exists.intro (0 : Int32) (And.intro rfl (((h).1 q5)))))) (fun q5 => And.intro nb1 (And.intro rfl (Exists.intro (1 : Int32) (And.intro rfl (((h).2 q5)))))))
theorem vX12_bits_0 {Γ : Gx} {d : Nat} {w : Wd} {Q : Int32 → St → Prop} {σ : St} {x0 : Int32}
    (h : AI Γ d mX12_bits w Q 4 [(0, .int x0), (1, .int (0 : Int32)), (2, .int (0 : Int32))] σ) :
    AI Γ d mX12_bits w Q 0 [(0, .int x0)] σ :=
  wp_sound (μ := mX12_bits) (T := tbX12) (is := isX12_bits) (sw := swX12_bits) (cu := cuX12_bits) tbX12_ok msX12_bits 5 _ _ _ _ _ _ _ (h)
theorem vX12_bits_4 {Γ : Gx} {d : Nat} {w : Wd} {Q : Int32 → St → Prop} {σ : St} {x0 : Int32} {x1 : Int32} {x2 : Int32}
    (h : (((24 : Int32) ≤ x2 → Q x1 σ) ∧ (¬ (24 : Int32) ≤ x2 → AI Γ d mX12_bits w Q 4 [(0, .int x0), (1, .int (x1 + ((x0 >>> (x2 &&& (31 : Int32))) &&& (1 : Int32)))), (2, .int (x2 + (1 : Int32)))] σ))) :
    AI Γ d mX12_bits w Q 4 [(0, .int x0), (1, .int x1), (2, .int x2)] σ :=
  wp_sound (μ := mX12_bits) (T := tbX12) (is := isX12_bits) (sw := swX12_bits) (cu := cuX12_bits) tbX12_ok msX12_bits 14 _ _ _ _ _ _ _ (And.intro (fun q7 => And.intro rfl (And.intro rfl (Exists.intro x1 (And.intro rfl (((h).1 q7)))))) (fun q7 => ((h).2 q7)))
theorem vX12_feed_0 {Γ : Gx} {d : Nat} {w : Wd} {Q : Int32 → St → Prop} {σ : St} {x1 : Int32} {y2 : Int64} (hw : RunW w)
    (h : SpI Γ d mX12_in [.long x1.toInt64, .long (1 : Int64), .long (8 : Int64)] σ w (fun v2 s1 => ((¬ v2 = (0 : Int32) → ((((gI s1 390 17) + x1) ≤ (600 : Int32) → AI Γ (d + 1) mX12_feed w Q 37 [(0, .ref 390), (2, .long y2), (4, .int (x1 - (1 : Int32)))] s1) ∧ (¬ ((gI s1 390 17) + x1) ≤ (600 : Int32) → Q (-1004 : Int32) s1))) ∧ (v2 = (0 : Int32) → Q (-1002 : Int32) s1)))) :
    AI Γ (d + 1) mX12_feed w Q 0 [(0, .ref 390), (1, .int x1), (2, .long y2)] σ :=
  wp_sound (μ := mX12_feed) (T := tbX12) (is := isX12_feed) (sw := swX12_feed) (cu := cuX12_feed) tbX12_ok msX12_feed 17 _ _ _ _ _ _ _ (And.intro (Nat.le_of_ble_eq_true rfl) (And.intro (Nat.le_of_ble_eq_true rfl) (SpI.mono (h) (fun v2 s1 q11 => And.intro (fun q10 => And.intro (ok_390 hw) (And.intro (fun q9 => ((((q11).1 q10)).1 q9)) (fun q9 => And.intro rfl (And.intro rfl (Exists.intro (-1004 : Int32) (And.intro rfl (((((q11).1 q10)).2 q9)))))))) (fun q10 => And.intro rfl (And.intro rfl (Exists.intro (-1002 : Int32) (And.intro rfl (((q11).2 q10))))))))))
theorem vX12_feed_37 {Γ : Gx} {d : Nat} {w : Wd} {Q : Int32 → St → Prop} {σ : St} {y2 : Int64} {x4 : Int32} (hw : RunW w)
    (h : ((x4 < (0 : Int32) → Q (gI σ 390 17) σ) ∧ (¬ x4 < (0 : Int32) → (vp_in (gI σ 390 17) 600) ∧ AI Γ (d + 1) mX12_feed w Q 37 [(0, .ref 390), (2, .long y2), (4, .int (x4 + (-1 : Int32)))] (uI (uI σ 403 (gI σ 390 17).toNatClampNeg (((y2 >>> (((8 : Int32) * x4).toInt64 &&& (63 : Int64))) &&& (255 : Int64)).toInt32)) 390 17 ((gI σ 390 17) + (1 : Int32)))))) :
    AI Γ (d + 1) mX12_feed w Q 37 [(0, .ref 390), (2, .long y2), (4, .int x4)] σ :=
  wp_sound (μ := mX12_feed) (T := tbX12) (is := isX12_feed) (sw := swX12_feed) (cu := cuX12_feed) tbX12_ok msX12_feed 24 _ _ _ _ _ _ _ (And.intro (fun q12 => And.intro (ok_390 hw) (And.intro rfl (And.intro rfl (Exists.intro (gI σ 390 17) (And.intro rfl (((h).1 q12))))))) (fun q12 => And.intro (ok_390 hw) (Exists.intro 403 (And.intro (rf_390_16 hw) (And.intro (ok_390 hw) (And.intro (ok_403 hw) (And.intro (vi_403 (((h).2 q12)).1) (And.intro (ok_390 hw) (And.intro (ok_390 hw) ((((h).2 q12)).2))))))))))
theorem vX12_here_0 {Γ : Gx} {d : Nat} {w : Wd} {Q : Int32 → St → Prop} {σ : St} (hw : RunW w)
    (h : (((gI σ 390 17) ≤ (gI σ 390 19) → (((gI σ 390 17) ≤ (gI σ 390 19) → Q (-1 : Int32) σ) ∧ (¬ (gI σ 390 17) ≤ (gI σ 390 19) → (vp_in (gI σ 390 19) 600) ∧ Q (gI σ 403 (gI σ 390 19).toNatClampNeg) σ))) ∧ (¬ (gI σ 390 17) ≤ (gI σ 390 19) → (vp_in (gI σ 390 19) 600) ∧ ((¬ (gI σ 403 (gI σ 390 19).toNatClampNeg) = (32 : Int32) → (((gI σ 390 17) ≤ (gI σ 390 19) → Q (-1 : Int32) σ) ∧ (¬ (gI σ 390 17) ≤ (gI σ 390 19) → (vp_in (gI σ 390 19) 600) ∧ Q (gI σ 403 (gI σ 390 19).toNatClampNeg) σ))) ∧ ((gI σ 403 (gI σ 390 19).toNatClampNeg) = (32 : Int32) → AI Γ d mX12_here w Q 0 [(0, .ref 390)] (uI σ 390 19 ((gI σ 390 19) + (1 : Int32)))))))) :
    AI Γ d mX12_here w Q 0 [(0, .ref 390)] σ :=
  wp_sound (μ := mX12_here) (T := tbX12) (is := isX12_here) (sw := swX12_here) (cu := cuX12_here) tbX12_ok msX12_here 25 _ _ _ _ _ _ _ (And.intro (ok_390 hw) (And.intro (ok_390 hw) (And.intro (fun q20 => And.intro (ok_390 hw) (And.intro (ok_390 hw) (And.intro (fun q17 => And.intro rfl (And.intro rfl (Exists.intro (-1 : Int32) (And.intro rfl (((((h).1 q20)).1 q17)))))) (fun q17 => And.intro (ok_390 hw) (Exists.intro 403 (And.intro (rf_390_16 hw) (And.intro (ok_390 hw) (And.intro (ok_403 hw) (And.intro (vi_403 (((((h).1 q20)).2 q17)).1) (And.intro rfl (And.intro rfl (Exists.intro (gI σ 403 (gI σ 390 19).toNatClampNeg) (And.intro rfl ((((((h).1 q20)).2 q17)).2)))))))))))))) (fun q20 => And.intro (ok_390 hw) (Exists.intro 403 (And.intro (rf_390_16 hw) (And.intro (ok_390 hw) (And.intro (ok_403 hw) (And.intro (vi_403 (((h).2 q20)).1) (And.intro (fun q19 => And.intro (ok_390 hw) (And.intro (ok_390 hw) (And.intro (fun q18 => And.intro rfl (And.intro rfl (Exists.intro (-1 : Int32) (And.intro rfl ((((((((h).2 q20)).2).1 q19)).1 q18)))))) (fun q18 => And.intro (ok_390 hw) (Exists.intro 403 (And.intro (rf_390_16 hw) (And.intro (ok_390 hw) (And.intro (ok_403 hw) (And.intro (vi_403 ((((((((h).2 q20)).2).1 q19)).2 q18)).1) (And.intro rfl (And.intro rfl (Exists.intro (gI σ 403 (gI σ 390 19).toNatClampNeg) (And.intro rfl (((((((((h).2 q20)).2).1 q19)).2 q18)).2)))))))))))))) (fun q19 => And.intro (ok_390 hw) (And.intro (ok_390 hw) ((((((h).2 q20)).2).2 q19))))))))))))))
theorem vX12_fails_0 {Γ : Gx} {d : Nat} {w : Wd} {Q : Int32 → St → Prop} {σ : St} {x1 : Int32} {x2 : Int32} (hw : RunW w)
    (h : Q x1 (uI σ 390 18 x2)) :
    AI Γ d mX12_fails w Q 0 [(0, .ref 390), (1, .int x1), (2, .int x2)] σ :=
  wp_sound (μ := mX12_fails) (T := tbX12) (is := isX12_fails) (sw := swX12_fails) (cu := cuX12_fails) tbX12_ok msX12_fails 6 _ _ _ _ _ _ _ (And.intro (ok_390 hw) (And.intro rfl (And.intro rfl (Exists.intro x1 (And.intro rfl (h))))))
theorem vX12_readWord_0 {Γ : Gx} {d : Nat} {w : Wd} {Q : St → Prop} {σ : St} (hw : RunW w)
    (h : SpI Γ d mX12_here [.ref 390] σ w (fun v2 s1 => AV Γ (d + 1) mX12_readWord w Q 18 [(0, .ref 390)] (uI (uJ s1 390 20 (0 : Int64)) 390 21 (gI s1 390 19)))) :
    AV Γ (d + 1) mX12_readWord w Q 0 [(0, .ref 390)] σ :=
  wp_sound (μ := mX12_readWord) (T := tbX12) (is := isX12_readWord) (sw := swX12_readWord) (cu := cuX12_readWord) tbX12_ok msX12_readWord 11 _ _ _ _ _ _ _ (And.intro (ok_390 hw) (And.intro (Nat.le_of_ble_eq_true rfl) (SpI.mono (h) (fun v2 s1 q25 => And.intro (ok_390 hw) (And.intro (ok_390 hw) (And.intro (ok_390 hw) (q25)))))))
theorem vX12_readWord_18 {Γ : Gx} {d : Nat} {w : Wd} {Q : St → Prop} {σ : St} (hw : RunW w)
    (h : (((gI σ 390 17) ≤ (gI σ 390 21) → Q σ) ∧ (¬ (gI σ 390 17) ≤ (gI σ 390 21) → (vp_in (gI σ 390 21) 600) ∧ SpI Γ d mX12_in [.long ((gI σ 403 (gI σ 390 21).toNatClampNeg).toInt64), .long (97 : Int64), .long (122 : Int64)] σ w (fun v2 s1 => ((v2 = (0 : Int32) → Q s1) ∧ (¬ v2 = (0 : Int32) → (((lg_cmp (gJ s1 390 20) (1000000000000 : Int64)) ≤ (0 : Int32) → (vp_in (gI s1 390 21) 600) ∧ AV Γ (d + 1) mX12_readWord w Q 18 [(0, .ref 390)] (uI (uJ s1 390 20 ((((27 : Int64) * (gJ s1 390 20)) + (gI s1 403 (gI s1 390 21).toNatClampNeg).toInt64) - (96 : Int64))) 390 21 ((gI s1 390 21) + (1 : Int32)))) ∧ (¬ (lg_cmp (gJ s1 390 20) (1000000000000 : Int64)) ≤ (0 : Int32) → AV Γ (d + 1) mX12_readWord w Q 18 [(0, .ref 390)] (uI (uJ s1 390 20 (2000000000000 : Int64)) 390 21 ((gI s1 390 21) + (1 : Int32))))))))))) :
    AV Γ (d + 1) mX12_readWord w Q 18 [(0, .ref 390)] σ :=
  wp_sound (μ := mX12_readWord) (T := tbX12) (is := isX12_readWord) (sw := swX12_readWord) (cu := cuX12_readWord) tbX12_ok msX12_readWord 43 _ _ _ _ _ _ _ (And.intro (ok_390 hw) (And.intro (ok_390 hw) (And.intro (fun q29 => And.intro rfl (And.intro rfl (And.intro rfl (((h).1 q29))))) (fun q29 => And.intro (ok_390 hw) (Exists.intro 403 (And.intro (rf_390_16 hw) (And.intro (ok_390 hw) (And.intro (ok_403 hw) (And.intro (vi_403 (((h).2 q29)).1) (And.intro (Nat.le_of_ble_eq_true rfl) (And.intro (Nat.le_of_ble_eq_true rfl) (SpI.mono ((((h).2 q29)).2) (fun v2 s1 q28 => And.intro (fun q27 => And.intro rfl (And.intro rfl (And.intro rfl (((q28).1 q27))))) (fun q27 => And.intro (ok_390 hw) (And.intro (fun q26 => And.intro (ok_390 hw) (And.intro (ok_390 hw) (Exists.intro 403 (And.intro (rf_390_16 hw) (And.intro (ok_390 hw) (And.intro (ok_403 hw) (And.intro (vi_403 (((((q28).2 q27)).1 q26)).1) (And.intro (ok_390 hw) (And.intro (ok_390 hw) (And.intro (ok_390 hw) ((((((q28).2 q27)).1 q26)).2))))))))))) (fun q26 => And.intro (ok_390 hw) (And.intro (ok_390 hw) (And.intro (ok_390 hw) (((((q28).2 q27)).2 q26))))))))))))))))))))
theorem vX12_code_0 {Γ : Gx} {d : Nat} {w : Wd} {Q : Int64 → St → Prop} {σ : St} {x0 : Int32} {x1 : Int32} {x2 : Int32} {x3 : Int32}
    (h : Q ((((27 : Int64) * ((((27 : Int64) * ((((27 : Int64) * (x0.toInt64 - (96 : Int64))) + x1.toInt64) - (96 : Int64))) + x2.toInt64) - (96 : Int64))) + x3.toInt64) - (96 : Int64)) σ) :
    AJ Γ d mX12_code w Q 0 [(0, .int x0), (1, .int x1), (2, .int x2), (3, .int x3)] σ :=
  wp_sound (μ := mX12_code) (T := tbX12) (is := isX12_code) (sw := swX12_code) (cu := cuX12_code) tbX12_ok msX12_code 27 _ _ _ _ _ _ _ (And.intro rfl (And.intro rfl (Exists.intro ((((27 : Int64) * ((((27 : Int64) * ((((27 : Int64) * (x0.toInt64 - (96 : Int64))) + x1.toInt64) - (96 : Int64))) + x2.toInt64) - (96 : Int64))) + x3.toInt64) - (96 : Int64)) (And.intro rfl (h)))))
theorem vX12_longer_0 {Γ : Gx} {d : Nat} {w : Wd} {Q : Int64 → St → Prop} {σ : St} {y0 : Int64} {x2 : Int32}
    (h : Q ((((27 : Int64) * y0) + x2.toInt64) - (96 : Int64)) σ) :
    AJ Γ d mX12_longer w Q 0 [(0, .long y0), (2, .int x2)] σ :=
  wp_sound (μ := mX12_longer) (T := tbX12) (is := isX12_longer) (sw := swX12_longer) (cu := cuX12_longer) tbX12_ok msX12_longer 10 _ _ _ _ _ _ _ (And.intro rfl (And.intro rfl (Exists.intro ((((27 : Int64) * y0) + x2.toInt64) - (96 : Int64)) (And.intro rfl (h)))))
theorem vX12_takeNumber_0 {Γ : Gx} {d : Nat} {w : Wd} {Q : Int32 → St → Prop} {σ : St} {x1 : Int32} (hw : RunW w)
    (h : SpI Γ d mX12_here [.ref 390] σ w (fun v2 s1 => SpI Γ d mX12_in [.long v2.toInt64, .long (48 : Int64), .long (57 : Int64)] s1 w (fun v4 s3 => ((¬ v4 = (0 : Int32) → AI Γ (d + 1) mX12_takeNumber w Q 42 [(0, .ref 390), (1, .int x1)] (uI (uI s3 390 23 (gI s3 390 19)) 390 22 (0 : Int32))) ∧ (v4 = (0 : Int32) → SpI Γ d mX12_fails [.ref 390, .int (1 : Int32), .int (gI s3 390 19)] s3 w (fun v6 s5 => Q v6 s5)))))) :
    AI Γ (d + 1) mX12_takeNumber w Q 0 [(0, .ref 390), (1, .int x1)] σ :=
  wp_sound (μ := mX12_takeNumber) (T := tbX12) (is := isX12_takeNumber) (sw := swX12_takeNumber) (cu := cuX12_takeNumber) tbX12_ok msX12_takeNumber 17 _ _ _ _ _ _ _ (And.intro (ok_390 hw) (And.intro (Nat.le_of_ble_eq_true rfl) (SpI.mono (h) (fun v2 s1 q38 => And.intro (Nat.le_of_ble_eq_true rfl) (And.intro (Nat.le_of_ble_eq_true rfl) (SpI.mono (q38) (fun v4 s3 q37 => And.intro (fun q36 => And.intro (ok_390 hw) (And.intro (ok_390 hw) (And.intro (ok_390 hw) (((q37).1 q36))))) (fun q36 => And.intro (ok_390 hw) (And.intro (ok_390 hw) (And.intro (Nat.le_of_ble_eq_true rfl) (SpI.mono (((q37).2 q36)) (fun v6 s5 q35 => And.intro rfl (And.intro rfl (Exists.intro v6 (And.intro rfl (q35))))))))))))))))
theorem vX12_takeNumber_42 {Γ : Gx} {d : Nat} {w : Wd} {Q : Int32 → St → Prop} {σ : St} {x1 : Int32} (hw : RunW w)
    (h : (((gI σ 390 17) ≤ (gI σ 390 19) → (((2 : Int32) < ((gI σ 390 19) - (gI σ 390 23)) → SpI Γ d mX12_fails [.ref 390, .int (2 : Int32), .int (gI σ 390 23)] σ w (fun v2 s1 => Q v2 s1)) ∧ (¬ (2 : Int32) < ((gI σ 390 19) - (gI σ 390 23)) → (((gI σ 390 22) ≤ x1 → Q (0 : Int32) σ) ∧ (¬ (gI σ 390 22) ≤ x1 → SpI Γ d mX12_fails [.ref 390, .int (2 : Int32), .int (gI σ 390 23)] σ w (fun v4 s3 => Q v4 s3)))))) ∧ (¬ (gI σ 390 17) ≤ (gI σ 390 19) → (vp_in (gI σ 390 19) 600) ∧ SpI Γ d mX12_in [.long ((gI σ 403 (gI σ 390 19).toNatClampNeg).toInt64), .long (48 : Int64), .long (57 : Int64)] σ w (fun v6 s5 => ((v6 = (0 : Int32) → (((2 : Int32) < ((gI s5 390 19) - (gI s5 390 23)) → SpI Γ d mX12_fails [.ref 390, .int (2 : Int32), .int (gI s5 390 23)] s5 w (fun v8 s7 => Q v8 s7)) ∧ (¬ (2 : Int32) < ((gI s5 390 19) - (gI s5 390 23)) → (((gI s5 390 22) ≤ x1 → Q (0 : Int32) s5) ∧ (¬ (gI s5 390 22) ≤ x1 → SpI Γ d mX12_fails [.ref 390, .int (2 : Int32), .int (gI s5 390 23)] s5 w (fun v10 s9 => Q v10 s9)))))) ∧ (¬ v6 = (0 : Int32) → (((gI s5 390 22) ≤ (1000 : Int32) → (vp_in (gI s5 390 19) 600) ∧ AI Γ (d + 1) mX12_takeNumber w Q 42 [(0, .ref 390), (1, .int x1)] (uI (uI s5 390 22 ((((10 : Int32) * (gI s5 390 22)) + (gI s5 403 (gI s5 390 19).toNatClampNeg)) - (48 : Int32))) 390 19 ((gI s5 390 19) + (1 : Int32)))) ∧ (¬ (gI s5 390 22) ≤ (1000 : Int32) → AI Γ (d + 1) mX12_takeNumber w Q 42 [(0, .ref 390), (1, .int x1)] (uI (uI s5 390 22 (gI s5 390 22)) 390 19 ((gI s5 390 19) + (1 : Int32))))))))))) :
    AI Γ (d + 1) mX12_takeNumber w Q 42 [(0, .ref 390), (1, .int x1)] σ :=
  wp_sound (μ := mX12_takeNumber) (T := tbX12) (is := isX12_takeNumber) (sw := swX12_takeNumber) (cu := cuX12_takeNumber) tbX12_ok msX12_takeNumber 41 _ _ _ _ _ _ _ (And.intro (ok_390 hw) (And.intro (ok_390 hw) (And.intro (fun q50 => And.intro (ok_390 hw) (And.intro (ok_390 hw) (And.intro (fun q42 => And.intro (ok_390 hw) (And.intro (ok_390 hw) (And.intro (Nat.le_of_ble_eq_true rfl) (SpI.mono (((((h).1 q50)).1 q42)) (fun v2 s1 q39 => And.intro rfl (And.intro rfl (Exists.intro v2 (And.intro rfl (q39))))))))) (fun q42 => And.intro (ok_390 hw) (And.intro (fun q41 => And.intro rfl (And.intro rfl (Exists.intro (0 : Int32) (And.intro rfl (((((((h).1 q50)).2 q42)).1 q41)))))) (fun q41 => And.intro (ok_390 hw) (And.intro (ok_390 hw) (And.intro (Nat.le_of_ble_eq_true rfl) (SpI.mono (((((((h).1 q50)).2 q42)).2 q41)) (fun v4 s3 q40 => And.intro rfl (And.intro rfl (Exists.intro v4 (And.intro rfl (q40)))))))))))))) (fun q50 => And.intro (ok_390 hw) (Exists.intro 403 (And.intro (rf_390_16 hw) (And.intro (ok_390 hw) (And.intro (ok_403 hw) (And.intro (vi_403 (((h).2 q50)).1) (And.intro (Nat.le_of_ble_eq_true rfl) (And.intro (Nat.le_of_ble_eq_true rfl) (SpI.mono ((((h).2 q50)).2) (fun v6 s5 q49 => And.intro (fun q48 => And.intro (ok_390 hw) (And.intro (ok_390 hw) (And.intro (fun q46 => And.intro (ok_390 hw) (And.intro (ok_390 hw) (And.intro (Nat.le_of_ble_eq_true rfl) (SpI.mono (((((q49).1 q48)).1 q46)) (fun v8 s7 q43 => And.intro rfl (And.intro rfl (Exists.intro v8 (And.intro rfl (q43))))))))) (fun q46 => And.intro (ok_390 hw) (And.intro (fun q45 => And.intro rfl (And.intro rfl (Exists.intro (0 : Int32) (And.intro rfl (((((((q49).1 q48)).2 q46)).1 q45)))))) (fun q45 => And.intro (ok_390 hw) (And.intro (ok_390 hw) (And.intro (Nat.le_of_ble_eq_true rfl) (SpI.mono (((((((q49).1 q48)).2 q46)).2 q45)) (fun v10 s9 q44 => And.intro rfl (And.intro rfl (Exists.intro v10 (And.intro rfl (q44)))))))))))))) (fun q48 => And.intro (ok_390 hw) (And.intro (fun q47 => And.intro (ok_390 hw) (And.intro (ok_390 hw) (Exists.intro 403 (And.intro (rf_390_16 hw) (And.intro (ok_390 hw) (And.intro (ok_403 hw) (And.intro (vi_403 (((((q49).2 q48)).1 q47)).1) (And.intro (ok_390 hw) (And.intro (ok_390 hw) (And.intro (ok_390 hw) ((((((q49).2 q48)).1 q47)).2))))))))))) (fun q47 => And.intro (ok_390 hw) (And.intro (ok_390 hw) (And.intro (ok_390 hw) (And.intro (ok_390 hw) (((((q49).2 q48)).2 q47)))))))))))))))))))))
theorem vX12_takeSign_0 {Γ : Gx} {d : Nat} {w : Wd} {Q : Int32 → St → Prop} {σ : St} {x1 : Int32} (hw : RunW w)
    (h : ((¬ (gI σ 390 24) = (20 : Int32) → SpI Γ d mX12_here [.ref 390] σ w (fun v2 s1 => SpI Γ d mX12_in [.long v2.toInt64, .long (97 : Int64), .long (122 : Int64)] s1 w (fun v4 s3 => ((¬ v4 = (0 : Int32) → AI Γ (d + 1) mX12_takeSign w Q 53 [(0, .ref 390), (2, .int (gI σ 390 24)), (4, .int (0 : Int32))] s3) ∧ (v4 = (0 : Int32) → SpI Γ d mX12_fails [.ref 390, .int (1 : Int32), .int (gI s3 390 19)] s3 w (fun v6 s5 => Q v6 s5)))))) ∧ ((gI σ 390 24) = (20 : Int32) → SpI Γ d mX12_fails [.ref 390, .int (3 : Int32), .int x1] σ w (fun v8 s7 => Q v8 s7)))) :
    AI Γ (d + 1) mX12_takeSign w Q 0 [(0, .ref 390), (1, .int x1)] σ :=
  wp_sound (μ := mX12_takeSign) (T := tbX12) (is := isX12_takeSign) (sw := swX12_takeSign) (cu := cuX12_takeSign) tbX12_ok msX12_takeSign 23 _ _ _ _ _ _ _ (And.intro (ok_390 hw) (And.intro (fun q72 => And.intro (ok_390 hw) (And.intro (ok_390 hw) (And.intro (Nat.le_of_ble_eq_true rfl) (SpI.mono (((h).1 q72)) (fun v2 s1 q70 => And.intro (Nat.le_of_ble_eq_true rfl) (And.intro (Nat.le_of_ble_eq_true rfl) (SpI.mono (q70) (fun v4 s3 q69 => And.intro (fun q68 => ((q69).1 q68)) (fun q68 => And.intro (ok_390 hw) (And.intro (ok_390 hw) (And.intro (Nat.le_of_ble_eq_true rfl) (SpI.mono (((q69).2 q68)) (fun v6 s5 q67 => And.intro rfl (And.intro rfl (Exists.intro v6 (And.intro rfl (q67))))))))))))))))) (fun q72 => And.intro (ok_390 hw) (And.intro (Nat.le_of_ble_eq_true rfl) (SpI.mono (((h).2 q72)) (fun v8 s7 q71 => And.intro rfl (And.intro rfl (Exists.intro v8 (And.intro rfl (q71))))))))))
theorem vX12_takeSign_53 {Γ : Gx} {d : Nat} {w : Wd} {Q : Int32 → St → Prop} {σ : St} {x2 : Int32} {x4 : Int32} (hw : RunW w)
    (h : (((gI σ 390 17) ≤ (gI σ 390 19) → (vp_in x2 20) ∧ (vp_in x2 20) ∧ SpI Γ d mX12_here [.ref 390] (uI (uI σ 404 x2.toNatClampNeg x4) 406 x2.toNatClampNeg (-1 : Int32)) w (fun v2 s1 => ((¬ v2 = (45 : Int32) → SpI Γ d mX12_takeNumber [.ref 390, .int (29 : Int32)] s1 w (fun v4 s3 => ((v4 ≤ (0 : Int32) → (vp_in x2 20) ∧ (vp_in x2 20) ∧ SpI Γ d mX12_here [.ref 390] (uI (uI s3 406 x2.toNatClampNeg (gI s3 390 22)) 407 x2.toNatClampNeg (0 : Int32)) w (fun v6 s5 => SpI Γ d mX12_in [.long v6.toInt64, .long (97 : Int64), .long (122 : Int64)] s5 w (fun v8 s7 => ((v8 = (0 : Int32) → Q (0 : Int32) (uI s7 390 24 ((gI s7 390 24) + (1 : Int32)))) ∧ (¬ v8 = (0 : Int32) → SpV Γ d mX12_readWord [.ref 390] s7 w (fun s9 => SpJ Γ d mX12_code [.int (115 : Int32), .int (116 : Int32), .int (97 : Int32), .int (114 : Int32)] s9 w (fun v11 s10 => SpJ Γ d mX12_longer [.long v11, .int (116 : Int32)] s10 w (fun v13 s12 => ((¬ (lg_cmp (gJ s9 390 20) v13) = (0 : Int32) → ((¬ (lg_cmp (gJ s12 390 20) (4027 : Int64)) = (0 : Int32) → (vp_in x2 20) ∧ (vp_in x2 20) ∧ ((¬ (gI (uI s12 407 x2.toNatClampNeg (0 : Int32)) 407 x2.toNatClampNeg) = (0 : Int32) → Q (0 : Int32) (uI (uI (uI s12 407 x2.toNatClampNeg (0 : Int32)) 390 19 (gI s12 390 21)) 390 24 ((gI s12 390 24) + (1 : Int32)))) ∧ ((gI (uI s12 407 x2.toNatClampNeg (0 : Int32)) 407 x2.toNatClampNeg) = (0 : Int32) → SpI Γ d mX12_fails [.ref 390, .int (1 : Int32), .int (gI s12 390 19)] (uI s12 407 x2.toNatClampNeg (0 : Int32)) w (fun v15 s14 => Q v15 s14)))) ∧ ((lg_cmp (gJ s12 390 20) (4027 : Int64)) = (0 : Int32) → (vp_in x2 20) ∧ (vp_in x2 20) ∧ ((¬ (gI (uI s12 407 x2.toNatClampNeg (2 : Int32)) 407 x2.toNatClampNeg) = (0 : Int32) → Q (0 : Int32) (uI (uI (uI s12 407 x2.toNatClampNeg (2 : Int32)) 390 19 (gI s12 390 21)) 390 24 ((gI s12 390 24) + (1 : Int32)))) ∧ ((gI (uI s12 407 x2.toNatClampNeg (2 : Int32)) 407 x2.toNatClampNeg) = (0 : Int32) → SpI Γ d mX12_fails [.ref 390, .int (1 : Int32), .int (gI s12 390 19)] (uI s12 407 x2.toNatClampNeg (2 : Int32)) w (fun v17 s16 => Q v17 s16)))))) ∧ ((lg_cmp (gJ s9 390 20) v13) = (0 : Int32) → (vp_in x2 20) ∧ (vp_in x2 20) ∧ ((¬ (gI (uI s12 407 x2.toNatClampNeg (1 : Int32)) 407 x2.toNatClampNeg) = (0 : Int32) → Q (0 : Int32) (uI (uI (uI s12 407 x2.toNatClampNeg (1 : Int32)) 390 19 (gI s12 390 21)) 390 24 ((gI s12 390 24) + (1 : Int32)))) ∧ ((gI (uI s12 407 x2.toNatClampNeg (1 : Int32)) 407 x2.toNatClampNeg) = (0 : Int32) → SpI Γ d mX12_fails [.ref 390, .int (1 : Int32), .int (gI s12 390 19)] (uI s12 407 x2.toNatClampNeg (1 : Int32)) w (fun v19 s18 => Q v19 s18))))))))))))) ∧ (¬ v4 ≤ (0 : Int32) → Q v4 s3)))) ∧ (v2 = (45 : Int32) → (vp_in x2 20) ∧ SpI Γ d mX12_here [.ref 390] (uI (uI s1 390 19 ((gI s1 390 19) + (1 : Int32))) 407 x2.toNatClampNeg (0 : Int32)) w (fun v21 s20 => SpI Γ d mX12_in [.long v21.toInt64, .long (97 : Int64), .long (122 : Int64)] s20 w (fun v23 s22 => ((v23 = (0 : Int32) → Q (0 : Int32) (uI s22 390 24 ((gI s22 390 24) + (1 : Int32)))) ∧ (¬ v23 = (0 : Int32) → SpV Γ d mX12_readWord [.ref 390] s22 w (fun s24 => SpJ Γ d mX12_code [.int (115 : Int32), .int (116 : Int32), .int (97 : Int32), .int (114 : Int32)] s24 w (fun v26 s25 => SpJ Γ d mX12_longer [.long v26, .int (116 : Int32)] s25 w (fun v28 s27 => ((¬ (lg_cmp (gJ s24 390 20) v28) = (0 : Int32) → ((¬ (lg_cmp (gJ s27 390 20) (4027 : Int64)) = (0 : Int32) → (vp_in x2 20) ∧ (vp_in x2 20) ∧ ((¬ (gI (uI s27 407 x2.toNatClampNeg (0 : Int32)) 407 x2.toNatClampNeg) = (0 : Int32) → Q (0 : Int32) (uI (uI (uI s27 407 x2.toNatClampNeg (0 : Int32)) 390 19 (gI s27 390 21)) 390 24 ((gI s27 390 24) + (1 : Int32)))) ∧ ((gI (uI s27 407 x2.toNatClampNeg (0 : Int32)) 407 x2.toNatClampNeg) = (0 : Int32) → SpI Γ d mX12_fails [.ref 390, .int (1 : Int32), .int (gI s27 390 19)] (uI s27 407 x2.toNatClampNeg (0 : Int32)) w (fun v30 s29 => Q v30 s29)))) ∧ ((lg_cmp (gJ s27 390 20) (4027 : Int64)) = (0 : Int32) → (vp_in x2 20) ∧ (vp_in x2 20) ∧ ((¬ (gI (uI s27 407 x2.toNatClampNeg (2 : Int32)) 407 x2.toNatClampNeg) = (0 : Int32) → Q (0 : Int32) (uI (uI (uI s27 407 x2.toNatClampNeg (2 : Int32)) 390 19 (gI s27 390 21)) 390 24 ((gI s27 390 24) + (1 : Int32)))) ∧ ((gI (uI s27 407 x2.toNatClampNeg (2 : Int32)) 407 x2.toNatClampNeg) = (0 : Int32) → SpI Γ d mX12_fails [.ref 390, .int (1 : Int32), .int (gI s27 390 19)] (uI s27 407 x2.toNatClampNeg (2 : Int32)) w (fun v32 s31 => Q v32 s31)))))) ∧ ((lg_cmp (gJ s24 390 20) v28) = (0 : Int32) → (vp_in x2 20) ∧ (vp_in x2 20) ∧ ((¬ (gI (uI s27 407 x2.toNatClampNeg (1 : Int32)) 407 x2.toNatClampNeg) = (0 : Int32) → Q (0 : Int32) (uI (uI (uI s27 407 x2.toNatClampNeg (1 : Int32)) 390 19 (gI s27 390 21)) 390 24 ((gI s27 390 24) + (1 : Int32)))) ∧ ((gI (uI s27 407 x2.toNatClampNeg (1 : Int32)) 407 x2.toNatClampNeg) = (0 : Int32) → SpI Γ d mX12_fails [.ref 390, .int (1 : Int32), .int (gI s27 390 19)] (uI s27 407 x2.toNatClampNeg (1 : Int32)) w (fun v34 s33 => Q v34 s33)))))))))))))))) ∧ (¬ (gI σ 390 17) ≤ (gI σ 390 19) → (vp_in (gI σ 390 19) 600) ∧ SpI Γ d mX12_in [.long ((gI σ 403 (gI σ 390 19).toNatClampNeg).toInt64), .long (97 : Int64), .long (122 : Int64)] σ w (fun v36 s35 => ((v36 = (0 : Int32) → (vp_in x2 20) ∧ (vp_in x2 20) ∧ SpI Γ d mX12_here [.ref 390] (uI (uI s35 404 x2.toNatClampNeg x4) 406 x2.toNatClampNeg (-1 : Int32)) w (fun v38 s37 => ((¬ v38 = (45 : Int32) → SpI Γ d mX12_takeNumber [.ref 390, .int (29 : Int32)] s37 w (fun v40 s39 => ((v40 ≤ (0 : Int32) → (vp_in x2 20) ∧ (vp_in x2 20) ∧ SpI Γ d mX12_here [.ref 390] (uI (uI s39 406 x2.toNatClampNeg (gI s39 390 22)) 407 x2.toNatClampNeg (0 : Int32)) w (fun v42 s41 => SpI Γ d mX12_in [.long v42.toInt64, .long (97 : Int64), .long (122 : Int64)] s41 w (fun v44 s43 => ((v44 = (0 : Int32) → Q (0 : Int32) (uI s43 390 24 ((gI s43 390 24) + (1 : Int32)))) ∧ (¬ v44 = (0 : Int32) → SpV Γ d mX12_readWord [.ref 390] s43 w (fun s45 => SpJ Γ d mX12_code [.int (115 : Int32), .int (116 : Int32), .int (97 : Int32), .int (114 : Int32)] s45 w (fun v47 s46 => SpJ Γ d mX12_longer [.long v47, .int (116 : Int32)] s46 w (fun v49 s48 => ((¬ (lg_cmp (gJ s45 390 20) v49) = (0 : Int32) → ((¬ (lg_cmp (gJ s48 390 20) (4027 : Int64)) = (0 : Int32) → (vp_in x2 20) ∧ (vp_in x2 20) ∧ ((¬ (gI (uI s48 407 x2.toNatClampNeg (0 : Int32)) 407 x2.toNatClampNeg) = (0 : Int32) → Q (0 : Int32) (uI (uI (uI s48 407 x2.toNatClampNeg (0 : Int32)) 390 19 (gI s48 390 21)) 390 24 ((gI s48 390 24) + (1 : Int32)))) ∧ ((gI (uI s48 407 x2.toNatClampNeg (0 : Int32)) 407 x2.toNatClampNeg) = (0 : Int32) → SpI Γ d mX12_fails [.ref 390, .int (1 : Int32), .int (gI s48 390 19)] (uI s48 407 x2.toNatClampNeg (0 : Int32)) w (fun v51 s50 => Q v51 s50)))) ∧ ((lg_cmp (gJ s48 390 20) (4027 : Int64)) = (0 : Int32) → (vp_in x2 20) ∧ (vp_in x2 20) ∧ ((¬ (gI (uI s48 407 x2.toNatClampNeg (2 : Int32)) 407 x2.toNatClampNeg) = (0 : Int32) → Q (0 : Int32) (uI (uI (uI s48 407 x2.toNatClampNeg (2 : Int32)) 390 19 (gI s48 390 21)) 390 24 ((gI s48 390 24) + (1 : Int32)))) ∧ ((gI (uI s48 407 x2.toNatClampNeg (2 : Int32)) 407 x2.toNatClampNeg) = (0 : Int32) → SpI Γ d mX12_fails [.ref 390, .int (1 : Int32), .int (gI s48 390 19)] (uI s48 407 x2.toNatClampNeg (2 : Int32)) w (fun v53 s52 => Q v53 s52)))))) ∧ ((lg_cmp (gJ s45 390 20) v49) = (0 : Int32) → (vp_in x2 20) ∧ (vp_in x2 20) ∧ ((¬ (gI (uI s48 407 x2.toNatClampNeg (1 : Int32)) 407 x2.toNatClampNeg) = (0 : Int32) → Q (0 : Int32) (uI (uI (uI s48 407 x2.toNatClampNeg (1 : Int32)) 390 19 (gI s48 390 21)) 390 24 ((gI s48 390 24) + (1 : Int32)))) ∧ ((gI (uI s48 407 x2.toNatClampNeg (1 : Int32)) 407 x2.toNatClampNeg) = (0 : Int32) → SpI Γ d mX12_fails [.ref 390, .int (1 : Int32), .int (gI s48 390 19)] (uI s48 407 x2.toNatClampNeg (1 : Int32)) w (fun v55 s54 => Q v55 s54))))))))))))) ∧ (¬ v40 ≤ (0 : Int32) → Q v40 s39)))) ∧ (v38 = (45 : Int32) → (vp_in x2 20) ∧ SpI Γ d mX12_here [.ref 390] (uI (uI s37 390 19 ((gI s37 390 19) + (1 : Int32))) 407 x2.toNatClampNeg (0 : Int32)) w (fun v57 s56 => SpI Γ d mX12_in [.long v57.toInt64, .long (97 : Int64), .long (122 : Int64)] s56 w (fun v59 s58 => ((v59 = (0 : Int32) → Q (0 : Int32) (uI s58 390 24 ((gI s58 390 24) + (1 : Int32)))) ∧ (¬ v59 = (0 : Int32) → SpV Γ d mX12_readWord [.ref 390] s58 w (fun s60 => SpJ Γ d mX12_code [.int (115 : Int32), .int (116 : Int32), .int (97 : Int32), .int (114 : Int32)] s60 w (fun v62 s61 => SpJ Γ d mX12_longer [.long v62, .int (116 : Int32)] s61 w (fun v64 s63 => ((¬ (lg_cmp (gJ s60 390 20) v64) = (0 : Int32) → ((¬ (lg_cmp (gJ s63 390 20) (4027 : Int64)) = (0 : Int32) → (vp_in x2 20) ∧ (vp_in x2 20) ∧ ((¬ (gI (uI s63 407 x2.toNatClampNeg (0 : Int32)) 407 x2.toNatClampNeg) = (0 : Int32) → Q (0 : Int32) (uI (uI (uI s63 407 x2.toNatClampNeg (0 : Int32)) 390 19 (gI s63 390 21)) 390 24 ((gI s63 390 24) + (1 : Int32)))) ∧ ((gI (uI s63 407 x2.toNatClampNeg (0 : Int32)) 407 x2.toNatClampNeg) = (0 : Int32) → SpI Γ d mX12_fails [.ref 390, .int (1 : Int32), .int (gI s63 390 19)] (uI s63 407 x2.toNatClampNeg (0 : Int32)) w (fun v66 s65 => Q v66 s65)))) ∧ ((lg_cmp (gJ s63 390 20) (4027 : Int64)) = (0 : Int32) → (vp_in x2 20) ∧ (vp_in x2 20) ∧ ((¬ (gI (uI s63 407 x2.toNatClampNeg (2 : Int32)) 407 x2.toNatClampNeg) = (0 : Int32) → Q (0 : Int32) (uI (uI (uI s63 407 x2.toNatClampNeg (2 : Int32)) 390 19 (gI s63 390 21)) 390 24 ((gI s63 390 24) + (1 : Int32)))) ∧ ((gI (uI s63 407 x2.toNatClampNeg (2 : Int32)) 407 x2.toNatClampNeg) = (0 : Int32) → SpI Γ d mX12_fails [.ref 390, .int (1 : Int32), .int (gI s63 390 19)] (uI s63 407 x2.toNatClampNeg (2 : Int32)) w (fun v68 s67 => Q v68 s67)))))) ∧ ((lg_cmp (gJ s60 390 20) v64) = (0 : Int32) → (vp_in x2 20) ∧ (vp_in x2 20) ∧ ((¬ (gI (uI s63 407 x2.toNatClampNeg (1 : Int32)) 407 x2.toNatClampNeg) = (0 : Int32) → Q (0 : Int32) (uI (uI (uI s63 407 x2.toNatClampNeg (1 : Int32)) 390 19 (gI s63 390 21)) 390 24 ((gI s63 390 24) + (1 : Int32)))) ∧ ((gI (uI s63 407 x2.toNatClampNeg (1 : Int32)) 407 x2.toNatClampNeg) = (0 : Int32) → SpI Γ d mX12_fails [.ref 390, .int (1 : Int32), .int (gI s63 390 19)] (uI s63 407 x2.toNatClampNeg (1 : Int32)) w (fun v70 s69 => Q v70 s69)))))))))))))))) ∧ (¬ v36 = (0 : Int32) → ((¬ x4 = (4 : Int32) → (vp_in (gI s35 390 19) 600) ∧ (vp_in (((4 : Int32) * x2) + x4) 80) ∧ AI Γ (d + 1) mX12_takeSign w Q 53 [(0, .ref 390), (2, .int x2), (4, .int (x4 + (1 : Int32)))] (uI (uI s35 405 (((4 : Int32) * x2) + x4).toNatClampNeg ((gI s35 403 (gI s35 390 19).toNatClampNeg) - (97 : Int32))) 390 19 ((gI s35 390 19) + (1 : Int32)))) ∧ (x4 = (4 : Int32) → SpI Γ d mX12_fails [.ref 390, .int (4 : Int32), .int (gI s35 390 19)] s35 w (fun v72 s71 => Q v72 s71))))))))) :
    AI Γ (d + 1) mX12_takeSign w Q 53 [(0, .ref 390), (2, .int x2), (4, .int x4)] σ :=
  wp_sound (μ := mX12_takeSign) (T := tbX12) (is := isX12_takeSign) (sw := swX12_takeSign) (cu := cuX12_takeSign) tbX12_ok msX12_takeSign 97 _ _ _ _ _ _ _ (And.intro (ok_390 hw) (And.intro (ok_390 hw) (And.intro (fun q141 => And.intro (ok_390 hw) (Exists.intro 404 (And.intro (rf_390_25 hw) (And.intro (ok_404 hw) (And.intro (vi_404 (((h).1 q141)).1) (And.intro (ok_390 hw) (Exists.intro 406 (And.intro (rf_390_27 hw) (And.intro (ok_406 hw) (And.intro (vi_406 ((((h).1 q141)).2).1) (And.intro (ok_390 hw) (And.intro (Nat.le_of_ble_eq_true rfl) (SpI.mono (((((h).1 q141)).2).2) (fun v2 s1 q104 => And.intro (fun q103 => And.intro (ok_390 hw) (And.intro (Nat.le_of_ble_eq_true rfl) (SpI.mono (((q104).1 q103)) (fun v4 s3 q88 => And.intro (fun q87 => And.intro (ok_390 hw) (Exists.intro 406 (And.intro (rf_390_27 hw) (And.intro (ok_390 hw) (And.intro (ok_406 hw) (And.intro (vi_406 (((q88).1 q87)).1) (And.intro (ok_390 hw) (Exists.intro 407 (And.intro (rf_390_28 hw) (And.intro (ok_407 hw) (And.intro (vi_407 ((((q88).1 q87)).2).1) (And.intro (ok_390 hw) (And.intro (Nat.le_of_ble_eq_true rfl) (SpI.mono (((((q88).1 q87)).2).2) (fun v6 s5 q86 => And.intro (Nat.le_of_ble_eq_true rfl) (And.intro (Nat.le_of_ble_eq_true rfl) (SpI.mono (q86) (fun v8 s7 q85 => And.intro (fun q84 => And.intro (ok_390 hw) (And.intro (ok_390 hw) (And.intro rfl (And.intro rfl (Exists.intro (0 : Int32) (And.intro rfl (((q85).1 q84)))))))) (fun q84 => And.intro (ok_390 hw) (And.intro (Nat.le_of_ble_eq_true rfl) (SpV.mono (((q85).2 q84)) (fun s9 q83 => And.intro (ok_390 hw) (Exists.intro 407 (And.intro (rf_390_28 hw) (And.intro (ok_390 hw) (And.intro (Nat.le_of_ble_eq_true rfl) (And.intro (Nat.le_of_ble_eq_true rfl) (SpJ.mono (q83) (fun v11 s10 q82 => And.intro (Nat.le_of_ble_eq_true rfl) (And.intro (Nat.le_of_ble_eq_true rfl) (SpJ.mono (q82) (fun v13 s12 q81 => And.intro (fun q80 => And.intro (ok_390 hw) (And.intro (fun q77 => And.intro (ok_407 hw) (And.intro (vi_407 (((((q81).1 q80)).1 q77)).1) (And.intro (ok_390 hw) (Exists.intro 407 (And.intro (rf_390_28 hw) (And.intro (ok_407 hw) (And.intro (vi_407 ((((((q81).1 q80)).1 q77)).2).1) (And.intro (fun q74 => And.intro (ok_390 hw) (And.intro (ok_390 hw) (And.intro (ok_390 hw) (And.intro (ok_390 hw) (And.intro rfl (And.intro rfl (Exists.intro (0 : Int32) (And.intro rfl (((((((((q81).1 q80)).1 q77)).2).2).1 q74)))))))))) (fun q74 => And.intro (ok_390 hw) (And.intro (ok_390 hw) (And.intro (Nat.le_of_ble_eq_true rfl) (SpI.mono (((((((((q81).1 q80)).1 q77)).2).2).2 q74)) (fun v15 s14 q73 => And.intro rfl (And.intro rfl (Exists.intro v15 (And.intro rfl (q73))))))))))))))))) (fun q77 => And.intro (ok_407 hw) (And.intro (vi_407 (((((q81).1 q80)).2 q77)).1) (And.intro (ok_390 hw) (Exists.intro 407 (And.intro (rf_390_28 hw) (And.intro (ok_407 hw) (And.intro (vi_407 ((((((q81).1 q80)).2 q77)).2).1) (And.intro (fun q76 => And.intro (ok_390 hw) (And.intro (ok_390 hw) (And.intro (ok_390 hw) (And.intro (ok_390 hw) (And.intro rfl (And.intro rfl (Exists.intro (0 : Int32) (And.intro rfl (((((((((q81).1 q80)).2 q77)).2).2).1 q76)))))))))) (fun q76 => And.intro (ok_390 hw) (And.intro (ok_390 hw) (And.intro (Nat.le_of_ble_eq_true rfl) (SpI.mono (((((((((q81).1 q80)).2 q77)).2).2).2 q76)) (fun v17 s16 q75 => And.intro rfl (And.intro rfl (Exists.intro v17 (And.intro rfl (q75))))))))))))))))))) (fun q80 => And.intro (ok_407 hw) (And.intro (vi_407 (((q81).2 q80)).1) (And.intro (ok_390 hw) (Exists.intro 407 (And.intro (rf_390_28 hw) (And.intro (ok_407 hw) (And.intro (vi_407 ((((q81).2 q80)).2).1) (And.intro (fun q79 => And.intro (ok_390 hw) (And.intro (ok_390 hw) (And.intro (ok_390 hw) (And.intro (ok_390 hw) (And.intro rfl (And.intro rfl (Exists.intro (0 : Int32) (And.intro rfl (((((((q81).2 q80)).2).2).1 q79)))))))))) (fun q79 => And.intro (ok_390 hw) (And.intro (ok_390 hw) (And.intro (Nat.le_of_ble_eq_true rfl) (SpI.mono (((((((q81).2 q80)).2).2).2 q79)) (fun v19 s18 q78 => And.intro rfl (And.intro rfl (Exists.intro v19 (And.intro rfl (q78))))))))))))))))))))))))))))))))))))))))))))))))) (fun q87 => And.intro rfl (And.intro rfl (Exists.intro v4 (And.intro rfl (((q88).2 q87)))))))))) (fun q103 => And.intro (ok_390 hw) (And.intro (ok_390 hw) (And.intro (ok_390 hw) (Exists.intro 407 (And.intro (rf_390_28 hw) (And.intro (ok_407 hw) (And.intro (vi_407 (((q104).2 q103)).1) (And.intro (ok_390 hw) (And.intro (Nat.le_of_ble_eq_true rfl) (SpI.mono ((((q104).2 q103)).2) (fun v21 s20 q102 => And.intro (Nat.le_of_ble_eq_true rfl) (And.intro (Nat.le_of_ble_eq_true rfl) (SpI.mono (q102) (fun v23 s22 q101 => And.intro (fun q100 => And.intro (ok_390 hw) (And.intro (ok_390 hw) (And.intro rfl (And.intro rfl (Exists.intro (0 : Int32) (And.intro rfl (((q101).1 q100)))))))) (fun q100 => And.intro (ok_390 hw) (And.intro (Nat.le_of_ble_eq_true rfl) (SpV.mono (((q101).2 q100)) (fun s24 q99 => And.intro (ok_390 hw) (Exists.intro 407 (And.intro (rf_390_28 hw) (And.intro (ok_390 hw) (And.intro (Nat.le_of_ble_eq_true rfl) (And.intro (Nat.le_of_ble_eq_true rfl) (SpJ.mono (q99) (fun v26 s25 q98 => And.intro (Nat.le_of_ble_eq_true rfl) (And.intro (Nat.le_of_ble_eq_true rfl) (SpJ.mono (q98) (fun v28 s27 q97 => And.intro (fun q96 => And.intro (ok_390 hw) (And.intro (fun q93 => And.intro (ok_407 hw) (And.intro (vi_407 (((((q97).1 q96)).1 q93)).1) (And.intro (ok_390 hw) (Exists.intro 407 (And.intro (rf_390_28 hw) (And.intro (ok_407 hw) (And.intro (vi_407 ((((((q97).1 q96)).1 q93)).2).1) (And.intro (fun q90 => And.intro (ok_390 hw) (And.intro (ok_390 hw) (And.intro (ok_390 hw) (And.intro (ok_390 hw) (And.intro rfl (And.intro rfl (Exists.intro (0 : Int32) (And.intro rfl (((((((((q97).1 q96)).1 q93)).2).2).1 q90)))))))))) (fun q90 => And.intro (ok_390 hw) (And.intro (ok_390 hw) (And.intro (Nat.le_of_ble_eq_true rfl) (SpI.mono (((((((((q97).1 q96)).1 q93)).2).2).2 q90)) (fun v30 s29 q89 => And.intro rfl (And.intro rfl (Exists.intro v30 (And.intro rfl (q89))))))))))))))))) (fun q93 => And.intro (ok_407 hw) (And.intro (vi_407 (((((q97).1 q96)).2 q93)).1) (And.intro (ok_390 hw) (Exists.intro 407 (And.intro (rf_390_28 hw) (And.intro (ok_407 hw) (And.intro (vi_407 ((((((q97).1 q96)).2 q93)).2).1) (And.intro (fun q92 => And.intro (ok_390 hw) (And.intro (ok_390 hw) (And.intro (ok_390 hw) (And.intro (ok_390 hw) (And.intro rfl (And.intro rfl (Exists.intro (0 : Int32) (And.intro rfl (((((((((q97).1 q96)).2 q93)).2).2).1 q92)))))))))) (fun q92 => And.intro (ok_390 hw) (And.intro (ok_390 hw) (And.intro (Nat.le_of_ble_eq_true rfl) (SpI.mono (((((((((q97).1 q96)).2 q93)).2).2).2 q92)) (fun v32 s31 q91 => And.intro rfl (And.intro rfl (Exists.intro v32 (And.intro rfl (q91))))))))))))))))))) (fun q96 => And.intro (ok_407 hw) (And.intro (vi_407 (((q97).2 q96)).1) (And.intro (ok_390 hw) (Exists.intro 407 (And.intro (rf_390_28 hw) (And.intro (ok_407 hw) (And.intro (vi_407 ((((q97).2 q96)).2).1) (And.intro (fun q95 => And.intro (ok_390 hw) (And.intro (ok_390 hw) (And.intro (ok_390 hw) (And.intro (ok_390 hw) (And.intro rfl (And.intro rfl (Exists.intro (0 : Int32) (And.intro rfl (((((((q97).2 q96)).2).2).1 q95)))))))))) (fun q95 => And.intro (ok_390 hw) (And.intro (ok_390 hw) (And.intro (Nat.le_of_ble_eq_true rfl) (SpI.mono (((((((q97).2 q96)).2).2).2 q95)) (fun v34 s33 q94 => And.intro rfl (And.intro rfl (Exists.intro v34 (And.intro rfl (q94))))))))))))))))))))))))))))))))))))))))))))))))))))))))))) (fun q141 => And.intro (ok_390 hw) (Exists.intro 403 (And.intro (rf_390_16 hw) (And.intro (ok_390 hw) (And.intro (ok_403 hw) (And.intro (vi_403 (((h).2 q141)).1) (And.intro (Nat.le_of_ble_eq_true rfl) (And.intro (Nat.le_of_ble_eq_true rfl) (SpI.mono ((((h).2 q141)).2) (fun v36 s35 q140 => And.intro (fun q139 => And.intro (ok_390 hw) (Exists.intro 404 (And.intro (rf_390_25 hw) (And.intro (ok_404 hw) (And.intro (vi_404 (((q140).1 q139)).1) (And.intro (ok_390 hw) (Exists.intro 406 (And.intro (rf_390_27 hw) (And.intro (ok_406 hw) (And.intro (vi_406 ((((q140).1 q139)).2).1) (And.intro (ok_390 hw) (And.intro (Nat.le_of_ble_eq_true rfl) (SpI.mono (((((q140).1 q139)).2).2) (fun v38 s37 q136 => And.intro (fun q135 => And.intro (ok_390 hw) (And.intro (Nat.le_of_ble_eq_true rfl) (SpI.mono (((q136).1 q135)) (fun v40 s39 q120 => And.intro (fun q119 => And.intro (ok_390 hw) (Exists.intro 406 (And.intro (rf_390_27 hw) (And.intro (ok_390 hw) (And.intro (ok_406 hw) (And.intro (vi_406 (((q120).1 q119)).1) (And.intro (ok_390 hw) (Exists.intro 407 (And.intro (rf_390_28 hw) (And.intro (ok_407 hw) (And.intro (vi_407 ((((q120).1 q119)).2).1) (And.intro (ok_390 hw) (And.intro (Nat.le_of_ble_eq_true rfl) (SpI.mono (((((q120).1 q119)).2).2) (fun v42 s41 q118 => And.intro (Nat.le_of_ble_eq_true rfl) (And.intro (Nat.le_of_ble_eq_true rfl) (SpI.mono (q118) (fun v44 s43 q117 => And.intro (fun q116 => And.intro (ok_390 hw) (And.intro (ok_390 hw) (And.intro rfl (And.intro rfl (Exists.intro (0 : Int32) (And.intro rfl (((q117).1 q116)))))))) (fun q116 => And.intro (ok_390 hw) (And.intro (Nat.le_of_ble_eq_true rfl) (SpV.mono (((q117).2 q116)) (fun s45 q115 => And.intro (ok_390 hw) (Exists.intro 407 (And.intro (rf_390_28 hw) (And.intro (ok_390 hw) (And.intro (Nat.le_of_ble_eq_true rfl) (And.intro (Nat.le_of_ble_eq_true rfl) (SpJ.mono (q115) (fun v47 s46 q114 => And.intro (Nat.le_of_ble_eq_true rfl) (And.intro (Nat.le_of_ble_eq_true rfl) (SpJ.mono (q114) (fun v49 s48 q113 => And.intro (fun q112 => And.intro (ok_390 hw) (And.intro (fun q109 => And.intro (ok_407 hw) (And.intro (vi_407 (((((q113).1 q112)).1 q109)).1) (And.intro (ok_390 hw) (Exists.intro 407 (And.intro (rf_390_28 hw) (And.intro (ok_407 hw) (And.intro (vi_407 ((((((q113).1 q112)).1 q109)).2).1) (And.intro (fun q106 => And.intro (ok_390 hw) (And.intro (ok_390 hw) (And.intro (ok_390 hw) (And.intro (ok_390 hw) (And.intro rfl (And.intro rfl (Exists.intro (0 : Int32) (And.intro rfl (((((((((q113).1 q112)).1 q109)).2).2).1 q106)))))))))) (fun q106 => And.intro (ok_390 hw) (And.intro (ok_390 hw) (And.intro (Nat.le_of_ble_eq_true rfl) (SpI.mono (((((((((q113).1 q112)).1 q109)).2).2).2 q106)) (fun v51 s50 q105 => And.intro rfl (And.intro rfl (Exists.intro v51 (And.intro rfl (q105))))))))))))))))) (fun q109 => And.intro (ok_407 hw) (And.intro (vi_407 (((((q113).1 q112)).2 q109)).1) (And.intro (ok_390 hw) (Exists.intro 407 (And.intro (rf_390_28 hw) (And.intro (ok_407 hw) (And.intro (vi_407 ((((((q113).1 q112)).2 q109)).2).1) (And.intro (fun q108 => And.intro (ok_390 hw) (And.intro (ok_390 hw) (And.intro (ok_390 hw) (And.intro (ok_390 hw) (And.intro rfl (And.intro rfl (Exists.intro (0 : Int32) (And.intro rfl (((((((((q113).1 q112)).2 q109)).2).2).1 q108)))))))))) (fun q108 => And.intro (ok_390 hw) (And.intro (ok_390 hw) (And.intro (Nat.le_of_ble_eq_true rfl) (SpI.mono (((((((((q113).1 q112)).2 q109)).2).2).2 q108)) (fun v53 s52 q107 => And.intro rfl (And.intro rfl (Exists.intro v53 (And.intro rfl (q107))))))))))))))))))) (fun q112 => And.intro (ok_407 hw) (And.intro (vi_407 (((q113).2 q112)).1) (And.intro (ok_390 hw) (Exists.intro 407 (And.intro (rf_390_28 hw) (And.intro (ok_407 hw) (And.intro (vi_407 ((((q113).2 q112)).2).1) (And.intro (fun q111 => And.intro (ok_390 hw) (And.intro (ok_390 hw) (And.intro (ok_390 hw) (And.intro (ok_390 hw) (And.intro rfl (And.intro rfl (Exists.intro (0 : Int32) (And.intro rfl (((((((q113).2 q112)).2).2).1 q111)))))))))) (fun q111 => And.intro (ok_390 hw) (And.intro (ok_390 hw) (And.intro (Nat.le_of_ble_eq_true rfl) (SpI.mono (((((((q113).2 q112)).2).2).2 q111)) (fun v55 s54 q110 => And.intro rfl (And.intro rfl (Exists.intro v55 (And.intro rfl (q110))))))))))))))))))))))))))))))))))))))))))))))))) (fun q119 => And.intro rfl (And.intro rfl (Exists.intro v40 (And.intro rfl (((q120).2 q119)))))))))) (fun q135 => And.intro (ok_390 hw) (And.intro (ok_390 hw) (And.intro (ok_390 hw) (Exists.intro 407 (And.intro (rf_390_28 hw) (And.intro (ok_407 hw) (And.intro (vi_407 (((q136).2 q135)).1) (And.intro (ok_390 hw) (And.intro (Nat.le_of_ble_eq_true rfl) (SpI.mono ((((q136).2 q135)).2) (fun v57 s56 q134 => And.intro (Nat.le_of_ble_eq_true rfl) (And.intro (Nat.le_of_ble_eq_true rfl) (SpI.mono (q134) (fun v59 s58 q133 => And.intro (fun q132 => And.intro (ok_390 hw) (And.intro (ok_390 hw) (And.intro rfl (And.intro rfl (Exists.intro (0 : Int32) (And.intro rfl (((q133).1 q132)))))))) (fun q132 => And.intro (ok_390 hw) (And.intro (Nat.le_of_ble_eq_true rfl) (SpV.mono (((q133).2 q132)) (fun s60 q131 => And.intro (ok_390 hw) (Exists.intro 407 (And.intro (rf_390_28 hw) (And.intro (ok_390 hw) (And.intro (Nat.le_of_ble_eq_true rfl) (And.intro (Nat.le_of_ble_eq_true rfl) (SpJ.mono (q131) (fun v62 s61 q130 => And.intro (Nat.le_of_ble_eq_true rfl) (And.intro (Nat.le_of_ble_eq_true rfl) (SpJ.mono (q130) (fun v64 s63 q129 => And.intro (fun q128 => And.intro (ok_390 hw) (And.intro (fun q125 => And.intro (ok_407 hw) (And.intro (vi_407 (((((q129).1 q128)).1 q125)).1) (And.intro (ok_390 hw) (Exists.intro 407 (And.intro (rf_390_28 hw) (And.intro (ok_407 hw) (And.intro (vi_407 ((((((q129).1 q128)).1 q125)).2).1) (And.intro (fun q122 => And.intro (ok_390 hw) (And.intro (ok_390 hw) (And.intro (ok_390 hw) (And.intro (ok_390 hw) (And.intro rfl (And.intro rfl (Exists.intro (0 : Int32) (And.intro rfl (((((((((q129).1 q128)).1 q125)).2).2).1 q122)))))))))) (fun q122 => And.intro (ok_390 hw) (And.intro (ok_390 hw) (And.intro (Nat.le_of_ble_eq_true rfl) (SpI.mono (((((((((q129).1 q128)).1 q125)).2).2).2 q122)) (fun v66 s65 q121 => And.intro rfl (And.intro rfl (Exists.intro v66 (And.intro rfl (q121))))))))))))))))) (fun q125 => And.intro (ok_407 hw) (And.intro (vi_407 (((((q129).1 q128)).2 q125)).1) (And.intro (ok_390 hw) (Exists.intro 407 (And.intro (rf_390_28 hw) (And.intro (ok_407 hw) (And.intro (vi_407 ((((((q129).1 q128)).2 q125)).2).1) (And.intro (fun q124 => And.intro (ok_390 hw) (And.intro (ok_390 hw) (And.intro (ok_390 hw) (And.intro (ok_390 hw) (And.intro rfl (And.intro rfl (Exists.intro (0 : Int32) (And.intro rfl (((((((((q129).1 q128)).2 q125)).2).2).1 q124)))))))))) (fun q124 => And.intro (ok_390 hw) (And.intro (ok_390 hw) (And.intro (Nat.le_of_ble_eq_true rfl) (SpI.mono (((((((((q129).1 q128)).2 q125)).2).2).2 q124)) (fun v68 s67 q123 => And.intro rfl (And.intro rfl (Exists.intro v68 (And.intro rfl (q123))))))))))))))))))) (fun q128 => And.intro (ok_407 hw) (And.intro (vi_407 (((q129).2 q128)).1) (And.intro (ok_390 hw) (Exists.intro 407 (And.intro (rf_390_28 hw) (And.intro (ok_407 hw) (And.intro (vi_407 ((((q129).2 q128)).2).1) (And.intro (fun q127 => And.intro (ok_390 hw) (And.intro (ok_390 hw) (And.intro (ok_390 hw) (And.intro (ok_390 hw) (And.intro rfl (And.intro rfl (Exists.intro (0 : Int32) (And.intro rfl (((((((q129).2 q128)).2).2).1 q127)))))))))) (fun q127 => And.intro (ok_390 hw) (And.intro (ok_390 hw) (And.intro (Nat.le_of_ble_eq_true rfl) (SpI.mono (((((((q129).2 q128)).2).2).2 q127)) (fun v70 s69 q126 => And.intro rfl (And.intro rfl (Exists.intro v70 (And.intro rfl (q126))))))))))))))))))))))))))))))))))))))))))))))))))))))))))) (fun q139 => And.intro (fun q138 => And.intro (ok_390 hw) (Exists.intro 405 (And.intro (rf_390_26 hw) (And.intro (ok_390 hw) (Exists.intro 403 (And.intro (rf_390_16 hw) (And.intro (ok_390 hw) (And.intro (ok_403 hw) (And.intro (vi_403 (((((q140).2 q139)).1 q138)).1) (And.intro (ok_405 hw) (And.intro (vi_405 ((((((q140).2 q139)).1 q138)).2).1) (And.intro (ok_390 hw) (And.intro (ok_390 hw) (((((((q140).2 q139)).1 q138)).2).2)))))))))))))) (fun q138 => And.intro (ok_390 hw) (And.intro (ok_390 hw) (And.intro (Nat.le_of_ble_eq_true rfl) (SpI.mono (((((q140).2 q139)).2 q138)) (fun v72 s71 q137 => And.intro rfl (And.intro rfl (Exists.intro v72 (And.intro rfl (q137)))))))))))))))))))))))
theorem vX12_wordOf_0 {Γ : Gx} {d : Nat} {w : Wd} {Q : Int32 → St → Prop} {σ : St} {x1 : Int32} {x2 : Int32}
    (h : AI Γ d mX12_wordOf w Q 5 [(0, .ref 390), (1, .int x1), (2, .int x2), (3, .int (-1 : Int32)), (4, .int (0 : Int32))] σ) :
    AI Γ d mX12_wordOf w Q 0 [(0, .ref 390), (1, .int x1), (2, .int x2)] σ :=
  wp_sound (μ := mX12_wordOf) (T := tbX12) (is := isX12_wordOf) (sw := swX12_wordOf) (cu := cuX12_wordOf) tbX12_ok msX12_wordOf 5 _ _ _ _ _ _ _ (h)
theorem vX12_wordOf_5 {Γ : Gx} {d : Nat} {w : Wd} {Q : Int32 → St → Prop} {σ : St} {x1 : Int32} {x2 : Int32} {x3 : Int32} {x4 : Int32} (hw : RunW w)
    (h : (((gI σ 390 29) ≤ x4 → Q x3 σ) ∧ (¬ (gI σ 390 29) ≤ x4 → (vp_in x4 24) ∧ ((¬ (gI σ 408 x4.toNatClampNeg) = (x2 - x1) → AI Γ d mX12_wordOf w Q 37 [(0, .ref 390), (1, .int x1), (2, .int x2), (3, .int x3), (4, .int x4), (5, .int (0 : Int32)), (6, .int (0 : Int32))] σ) ∧ ((gI σ 408 x4.toNatClampNeg) = (x2 - x1) → AI Γ d mX12_wordOf w Q 37 [(0, .ref 390), (1, .int x1), (2, .int x2), (3, .int x3), (4, .int x4), (5, .int (1 : Int32)), (6, .int (0 : Int32))] σ))))) :
    AI Γ d mX12_wordOf w Q 5 [(0, .ref 390), (1, .int x1), (2, .int x2), (3, .int x3), (4, .int x4)] σ :=
  wp_sound (μ := mX12_wordOf) (T := tbX12) (is := isX12_wordOf) (sw := swX12_wordOf) (cu := cuX12_wordOf) tbX12_ok msX12_wordOf 18 _ _ _ _ _ _ _ (And.intro (ok_390 hw) (And.intro (fun q217 => And.intro rfl (And.intro rfl (Exists.intro x3 (And.intro rfl (((h).1 q217)))))) (fun q217 => And.intro (ok_390 hw) (Exists.intro 408 (And.intro (rf_390_30 hw) (And.intro (ok_408 hw) (And.intro (vi_408 (((h).2 q217)).1) ((((h).2 q217)).2))))))))
theorem vX12_wordOf_37 {Γ : Gx} {d : Nat} {w : Wd} {Q : Int32 → St → Prop} {σ : St} {x1 : Int32} {x2 : Int32} {x3 : Int32} {x4 : Int32} {x5 : Int32} {x6 : Int32} (hw : RunW w)
    (h : (((x2 - x1) ≤ x6 → ((x5 = (0 : Int32) → AI Γ d mX12_wordOf w Q 5 [(0, .ref 390), (1, .int x1), (2, .int x2), (3, .int x3), (4, .int (x4 + (1 : Int32)))] σ) ∧ (¬ x5 = (0 : Int32) → AI Γ d mX12_wordOf w Q 5 [(0, .ref 390), (1, .int x1), (2, .int x2), (3, .int x4), (4, .int (x4 + (1 : Int32)))] σ))) ∧ (¬ (x2 - x1) ≤ x6 → ((x5 = (0 : Int32) → ((x5 = (0 : Int32) → AI Γ d mX12_wordOf w Q 5 [(0, .ref 390), (1, .int x1), (2, .int x2), (3, .int x3), (4, .int (x4 + (1 : Int32)))] σ) ∧ (¬ x5 = (0 : Int32) → AI Γ d mX12_wordOf w Q 5 [(0, .ref 390), (1, .int x1), (2, .int x2), (3, .int x4), (4, .int (x4 + (1 : Int32)))] σ))) ∧ (¬ x5 = (0 : Int32) → (vp_in (((8 : Int32) * x4) + x6) 192) ∧ (vp_in (x1 + x6) 600) ∧ ((¬ (gI σ 409 (((8 : Int32) * x4) + x6).toNatClampNeg) = ((gI σ 403 (x1 + x6).toNatClampNeg) - (97 : Int32)) → AI Γ d mX12_wordOf w Q 37 [(0, .ref 390), (1, .int x1), (2, .int x2), (3, .int x3), (4, .int x4), (5, .int (0 : Int32)), (6, .int (x6 + (1 : Int32)))] σ) ∧ ((gI σ 409 (((8 : Int32) * x4) + x6).toNatClampNeg) = ((gI σ 403 (x1 + x6).toNatClampNeg) - (97 : Int32)) → AI Γ d mX12_wordOf w Q 37 [(0, .ref 390), (1, .int x1), (2, .int x2), (3, .int x3), (4, .int x4), (5, .int (1 : Int32)), (6, .int (x6 + (1 : Int32)))] σ))))))) :
    AI Γ d mX12_wordOf w Q 37 [(0, .ref 390), (1, .int x1), (2, .int x2), (3, .int x3), (4, .int x4), (5, .int x5), (6, .int x6)] σ :=
  wp_sound (μ := mX12_wordOf) (T := tbX12) (is := isX12_wordOf) (sw := swX12_wordOf) (cu := cuX12_wordOf) tbX12_ok msX12_wordOf 30 _ _ _ _ _ _ _ (And.intro (fun q219 => ((h).1 q219)) (fun q219 => And.intro (fun q218 => ((((h).2 q219)).1 q218)) (fun q218 => And.intro (ok_390 hw) (Exists.intro 409 (And.intro (rf_390_31 hw) (And.intro (ok_409 hw) (And.intro (vi_409 (((((h).2 q219)).2 q218)).1) (And.intro (ok_390 hw) (Exists.intro 403 (And.intro (rf_390_16 hw) (And.intro (ok_403 hw) (And.intro (vi_403 ((((((h).2 q219)).2 q218)).2).1) (((((((h).2 q219)).2 q218)).2).2)))))))))))))
theorem vX12_takeWord_0 {Γ : Gx} {d : Nat} {w : Wd} {Q : Int32 → St → Prop} {σ : St} {x1 : Int32} (hw : RunW w)
    (h : ((¬ (gI σ 390 29) = (24 : Int32) → SpV Γ d mX12_readWord [.ref 390] σ w (fun s1 => ((¬ (gI s1 390 21) = (gI s1 390 19) → SpI Γ d mX12_wordOf [.ref 390, .int (gI s1 390 19), .int (gI s1 390 21)] s1 w (fun v3 s2 => ((v3 < (0 : Int32) → ((((gI s2 390 21) - (gI s1 390 19)) ≤ (8 : Int32) → (vp_in (gI s2 390 29) 24) ∧ AI Γ (d + 1) mX12_takeWord w Q 100 [(0, .ref 390), (2, .int (gI s1 390 19)), (3, .int (gI s2 390 29)), (4, .int (0 : Int32))] (uI s2 408 (gI s2 390 29).toNatClampNeg ((gI s2 390 21) - (gI s1 390 19)))) ∧ (¬ ((gI s2 390 21) - (gI s1 390 19)) ≤ (8 : Int32) → SpI Γ d mX12_fails [.ref 390, .int (4 : Int32), .int ((gI s1 390 19) + (8 : Int32))] s2 w (fun v5 s4 => Q v5 s4)))) ∧ (¬ v3 < (0 : Int32) → SpI Γ d mX12_fails [.ref 390, .int (5 : Int32), .int (gI s1 390 19)] s2 w (fun v7 s6 => Q v7 s6))))) ∧ ((gI s1 390 21) = (gI s1 390 19) → SpI Γ d mX12_fails [.ref 390, .int (1 : Int32), .int (gI s1 390 19)] s1 w (fun v9 s8 => Q v9 s8))))) ∧ ((gI σ 390 29) = (24 : Int32) → SpI Γ d mX12_fails [.ref 390, .int (3 : Int32), .int x1] σ w (fun v11 s10 => Q v11 s10)))) :
    AI Γ (d + 1) mX12_takeWord w Q 0 [(0, .ref 390), (1, .int x1)] σ :=
  wp_sound (μ := mX12_takeWord) (T := tbX12) (is := isX12_takeWord) (sw := swX12_takeWord) (cu := cuX12_takeWord) tbX12_ok msX12_takeWord 39 _ _ _ _ _ _ _ (And.intro (ok_390 hw) (And.intro (fun q232 => And.intro (ok_390 hw) (And.intro (Nat.le_of_ble_eq_true rfl) (SpV.mono (((h).1 q232)) (fun s1 q230 => And.intro (ok_390 hw) (And.intro (ok_390 hw) (And.intro (fun q229 => And.intro (ok_390 hw) (And.intro (ok_390 hw) (And.intro (Nat.le_of_ble_eq_true rfl) (SpI.mono (((q230).1 q229)) (fun v3 s2 q227 => And.intro (fun q226 => And.intro (ok_390 hw) (And.intro (fun q224 => And.intro (ok_390 hw) (And.intro (ok_390 hw) (Exists.intro 408 (And.intro (rf_390_30 hw) (And.intro (ok_390 hw) (And.intro (ok_408 hw) (And.intro (vi_408 (((((q227).1 q226)).1 q224)).1) ((((((q227).1 q226)).1 q224)).2)))))))) (fun q224 => And.intro (ok_390 hw) (And.intro (Nat.le_of_ble_eq_true rfl) (SpI.mono (((((q227).1 q226)).2 q224)) (fun v5 s4 q223 => And.intro rfl (And.intro rfl (Exists.intro v5 (And.intro rfl (q223)))))))))) (fun q226 => And.intro (ok_390 hw) (And.intro (Nat.le_of_ble_eq_true rfl) (SpI.mono (((q227).2 q226)) (fun v7 s6 q225 => And.intro rfl (And.intro rfl (Exists.intro v7 (And.intro rfl (q225))))))))))))) (fun q229 => And.intro (ok_390 hw) (And.intro (Nat.le_of_ble_eq_true rfl) (SpI.mono (((q230).2 q229)) (fun v9 s8 q228 => And.intro rfl (And.intro rfl (Exists.intro v9 (And.intro rfl (q228)))))))))))))) (fun q232 => And.intro (ok_390 hw) (And.intro (Nat.le_of_ble_eq_true rfl) (SpI.mono (((h).2 q232)) (fun v11 s10 q231 => And.intro rfl (And.intro rfl (Exists.intro v11 (And.intro rfl (q231))))))))))
theorem vX12_takeWord_100 {Γ : Gx} {d : Nat} {w : Wd} {Q : Int32 → St → Prop} {σ : St} {x2 : Int32} {x3 : Int32} {x4 : Int32} (hw : RunW w)
    (h : (vp_in x3 24) ∧ (((gI σ 408 x3.toNatClampNeg) ≤ x4 → (vp_in x3 24) ∧ AI Γ (d + 1) mX12_takeWord w Q 159 [(0, .ref 390), (3, .int x3), (4, .int (1 : Int32))] (uI (uI σ 390 19 (gI σ 390 21)) 410 x3.toNatClampNeg (0 : Int32))) ∧ (¬ (gI σ 408 x3.toNatClampNeg) ≤ x4 → (vp_in (x2 + x4) 600) ∧ (vp_in (((8 : Int32) * x3) + x4) 192) ∧ AI Γ (d + 1) mX12_takeWord w Q 100 [(0, .ref 390), (2, .int x2), (3, .int x3), (4, .int (x4 + (1 : Int32)))] (uI σ 409 (((8 : Int32) * x3) + x4).toNatClampNeg ((gI σ 403 (x2 + x4).toNatClampNeg) - (97 : Int32)))))) :
    AI Γ (d + 1) mX12_takeWord w Q 100 [(0, .ref 390), (2, .int x2), (3, .int x3), (4, .int x4)] σ :=
  wp_sound (μ := mX12_takeWord) (T := tbX12) (is := isX12_takeWord) (sw := swX12_takeWord) (cu := cuX12_takeWord) tbX12_ok msX12_takeWord 25 _ _ _ _ _ _ _ (And.intro (ok_390 hw) (Exists.intro 408 (And.intro (rf_390_30 hw) (And.intro (ok_408 hw) (And.intro (vi_408 (h).1) (And.intro (fun q233 => And.intro (ok_390 hw) (And.intro (ok_390 hw) (And.intro (ok_390 hw) (Exists.intro 410 (And.intro (rf_390_32 hw) (And.intro (ok_410 hw) (And.intro (vi_410 ((((h).2).1 q233)).1) (((((h).2).1 q233)).2)))))))) (fun q233 => And.intro (ok_390 hw) (Exists.intro 409 (And.intro (rf_390_31 hw) (And.intro (ok_390 hw) (Exists.intro 403 (And.intro (rf_390_16 hw) (And.intro (ok_403 hw) (And.intro (vi_403 ((((h).2).2 q233)).1) (And.intro (ok_409 hw) (And.intro (vi_409 (((((h).2).2 q233)).2).1) ((((((h).2).2 q233)).2).2)))))))))))))))))
theorem vX12_takeWord_159 {Γ : Gx} {d : Nat} {w : Wd} {Q : Int32 → St → Prop} {σ : St} {x3 : Int32} {x4 : Int32} (hw : RunW w)
    (h : ((x4 = (0 : Int32) → Q (0 : Int32) (uI σ 390 29 ((gI σ 390 29) + (1 : Int32)))) ∧ (¬ x4 = (0 : Int32) → SpI Γ d mX12_takeNumber [.ref 390, .int (29 : Int32)] σ w (fun v2 s1 => ((v2 ≤ (0 : Int32) → (vp_in x3 24) ∧ ((¬ (gI s1 410 x3.toNatClampNeg) = (8 : Int32) → (vp_in x3 24) ∧ (vp_in (((8 : Int32) * x3) + (gI s1 410 x3.toNatClampNeg)) 192) ∧ (vp_in x3 24) ∧ (vp_in x3 24) ∧ SpI Γ d mX12_here [.ref 390] (uI (uI s1 411 (((8 : Int32) * x3) + (gI s1 410 x3.toNatClampNeg)).toNatClampNeg (gI s1 390 22)) 410 x3.toNatClampNeg ((gI s1 410 x3.toNatClampNeg) + (1 : Int32))) w (fun v4 s3 => SpI Γ d mX12_in [.long v4.toInt64, .long (48 : Int64), .long (57 : Int64)] s3 w (fun v6 s5 => AI Γ (d + 1) mX12_takeWord w Q 159 [(0, .ref 390), (3, .int x3), (4, .int v6)] s5))) ∧ ((gI s1 410 x3.toNatClampNeg) = (8 : Int32) → SpI Γ d mX12_fails [.ref 390, .int (4 : Int32), .int (gI s1 390 23)] s1 w (fun v8 s7 => Q v8 s7)))) ∧ (¬ v2 ≤ (0 : Int32) → Q v2 s1)))))) :
    AI Γ (d + 1) mX12_takeWord w Q 159 [(0, .ref 390), (3, .int x3), (4, .int x4)] σ :=
  wp_sound (μ := mX12_takeWord) (T := tbX12) (is := isX12_takeWord) (sw := swX12_takeWord) (cu := cuX12_takeWord) tbX12_ok msX12_takeWord 44 _ _ _ _ _ _ _ (And.intro (fun q239 => And.intro (ok_390 hw) (And.intro (ok_390 hw) (And.intro rfl (And.intro rfl (Exists.intro (0 : Int32) (And.intro rfl (((h).1 q239)))))))) (fun q239 => And.intro (ok_390 hw) (And.intro (Nat.le_of_ble_eq_true rfl) (SpI.mono (((h).2 q239)) (fun v2 s1 q238 => And.intro (fun q237 => And.intro (ok_390 hw) (Exists.intro 410 (And.intro (rf_390_32 hw) (And.intro (ok_410 hw) (And.intro (vi_410 (((q238).1 q237)).1) (And.intro (fun q236 => And.intro (ok_390 hw) (Exists.intro 411 (And.intro (rf_390_33 hw) (And.intro (ok_390 hw) (Exists.intro 410 (And.intro (rf_390_32 hw) (And.intro (ok_410 hw) (And.intro (vi_410 ((((((q238).1 q237)).2).1 q236)).1) (And.intro (ok_390 hw) (And.intro (ok_411 hw) (And.intro (vi_411 (((((((q238).1 q237)).2).1 q236)).2).1) (And.intro (ok_390 hw) (Exists.intro 410 (And.intro (rf_390_32 hw) (And.intro (ok_410 hw) (And.intro (vi_410 ((((((((q238).1 q237)).2).1 q236)).2).2).1) (And.intro (ok_410 hw) (And.intro (vi_410 (((((((((q238).1 q237)).2).1 q236)).2).2).2).1) (And.intro (ok_390 hw) (And.intro (Nat.le_of_ble_eq_true rfl) (SpI.mono ((((((((((q238).1 q237)).2).1 q236)).2).2).2).2) (fun v4 s3 q234 => And.intro (Nat.le_of_ble_eq_true rfl) (And.intro (Nat.le_of_ble_eq_true rfl) (q234)))))))))))))))))))))))) (fun q236 => And.intro (ok_390 hw) (And.intro (ok_390 hw) (And.intro (Nat.le_of_ble_eq_true rfl) (SpI.mono ((((((q238).1 q237)).2).2 q236)) (fun v8 s7 q235 => And.intro rfl (And.intro rfl (Exists.intro v8 (And.intro rfl (q235))))))))))))))) (fun q237 => And.intro rfl (And.intro rfl (Exists.intro v2 (And.intro rfl (((q238).2 q237)))))))))))
theorem vX12_takeList_0 {Γ : Gx} {d : Nat} {w : Wd} {Q : Int32 → St → Prop} {σ : St} {x1 : Int32} (hw : RunW w)
    (h : AI Γ (d + 1) mX12_takeList w Q 7 [(0, .ref 390), (1, .int x1), (2, .int (1 : Int32))] (uI σ 390 39 (0 : Int32))) :
    AI Γ (d + 1) mX12_takeList w Q 0 [(0, .ref 390), (1, .int x1)] σ :=
  wp_sound (μ := mX12_takeList) (T := tbX12) (is := isX12_takeList) (sw := swX12_takeList) (cu := cuX12_takeList) tbX12_ok msX12_takeList 6 _ _ _ _ _ _ _ (And.intro (ok_390 hw) (h))
theorem vX12_takeList_7 {Γ : Gx} {d : Nat} {w : Wd} {Q : Int32 → St → Prop} {σ : St} {x1 : Int32} {x2 : Int32} (hw : RunW w)
    (h : ((x2 = (0 : Int32) → Q (0 : Int32) σ) ∧ (¬ x2 = (0 : Int32) → SpI Γ d mX12_takeNumber [.ref 390, .int x1] σ w (fun v2 s1 => ((v2 ≤ (0 : Int32) → SpI Γ d mX12_has [.int (gI s1 390 39), .int (gI s1 390 22)] s1 w (fun v4 s3 => ((v4 = (0 : Int32) → SpI Γ d mX12_here [.ref 390] (uI s3 390 39 ((gI s3 390 39) ||| ((1 : Int32) <<< ((gI s3 390 22) &&& (31 : Int32))))) w (fun v6 s5 => ((¬ v6 = (44 : Int32) → (((0 : Int32) = (0 : Int32) → AI Γ (d + 1) mX12_takeList w Q 7 [(0, .ref 390), (1, .int x1), (2, .int (0 : Int32))] (uI s5 390 19 ((gI s5 390 19) + (0 : Int32)))) ∧ (¬ (0 : Int32) = (0 : Int32) → AI Γ (d + 1) mX12_takeList w Q 7 [(0, .ref 390), (1, .int x1), (2, .int (0 : Int32))] (uI s5 390 19 ((gI s5 390 19) + (1 : Int32)))))) ∧ (v6 = (44 : Int32) → (((1 : Int32) = (0 : Int32) → AI Γ (d + 1) mX12_takeList w Q 7 [(0, .ref 390), (1, .int x1), (2, .int (1 : Int32))] (uI s5 390 19 ((gI s5 390 19) + (0 : Int32)))) ∧ (¬ (1 : Int32) = (0 : Int32) → AI Γ (d + 1) mX12_takeList w Q 7 [(0, .ref 390), (1, .int x1), (2, .int (1 : Int32))] (uI s5 390 19 ((gI s5 390 19) + (1 : Int32))))))))) ∧ (¬ v4 = (0 : Int32) → SpI Γ d mX12_fails [.ref 390, .int (6 : Int32), .int (gI s3 390 23)] s3 w (fun v8 s7 => Q v8 s7))))) ∧ (¬ v2 ≤ (0 : Int32) → Q v2 s1)))))) :
    AI Γ (d + 1) mX12_takeList w Q 7 [(0, .ref 390), (1, .int x1), (2, .int x2)] σ :=
  wp_sound (μ := mX12_takeList) (T := tbX12) (is := isX12_takeList) (sw := swX12_takeList) (cu := cuX12_takeList) tbX12_ok msX12_takeList 41 _ _ _ _ _ _ _ (And.intro (fun q266 => And.intro rfl (And.intro rfl (Exists.intro (0 : Int32) (And.intro rfl (((h).1 q266)))))) (fun q266 => And.intro (ok_390 hw) (And.intro (Nat.le_of_ble_eq_true rfl) (SpI.mono (((h).2 q266)) (fun v2 s1 q265 => And.intro (fun q264 => And.intro (ok_390 hw) (And.intro (ok_390 hw) (And.intro (Nat.le_of_ble_eq_true rfl) (And.intro (Nat.le_of_ble_eq_true rfl) (SpI.mono (((q265).1 q264)) (fun v4 s3 q263 => And.intro (fun q262 => And.intro (ok_390 hw) (And.intro (ok_390 hw) (And.intro (ok_390 hw) (And.intro (ok_390 hw) (And.intro (Nat.le_of_ble_eq_true rfl) (SpI.mono (((q263).1 q262)) (fun v6 s5 q260 => And.intro (fun q259 => And.intro (ok_390 hw) (And.intro (fun q257 => And.intro (ok_390 hw) (((((q260).1 q259)).1 q257))) (fun q257 => And.intro (ok_390 hw) (((((q260).1 q259)).2 q257))))) (fun q259 => And.intro (ok_390 hw) (And.intro (fun q258 => And.intro (ok_390 hw) (((((q260).2 q259)).1 q258))) (fun q258 => And.intro (ok_390 hw) (((((q260).2 q259)).2 q258)))))))))))) (fun q262 => And.intro (ok_390 hw) (And.intro (ok_390 hw) (And.intro (Nat.le_of_ble_eq_true rfl) (SpI.mono (((q263).2 q262)) (fun v8 s7 q261 => And.intro rfl (And.intro rfl (Exists.intro v8 (And.intro rfl (q261))))))))))))))) (fun q264 => And.intro rfl (And.intro rfl (Exists.intro v2 (And.intro rfl (((q265).2 q264)))))))))))
theorem vX12_takeLesson_0 {Γ : Gx} {d : Nat} {w : Wd} {Q : Int32 → St → Prop} {σ : St} {x1 : Int32} (hw : RunW w)
    (h : ((¬ (gI σ 390 34) = (7 : Int32) → AI Γ (d + 1) mX12_takeLesson w Q 28 [(0, .ref 390), (2, .int ((3 : Int32) * (gI σ 390 34))), (3, .int (-1 : Int32)), (4, .int (0 : Int32))] σ) ∧ ((gI σ 390 34) = (7 : Int32) → SpI Γ d mX12_fails [.ref 390, .int (3 : Int32), .int x1] σ w (fun v2 s1 => Q v2 s1)))) :
    AI Γ (d + 1) mX12_takeLesson w Q 0 [(0, .ref 390), (1, .int x1)] σ :=
  wp_sound (μ := mX12_takeLesson) (T := tbX12) (is := isX12_takeLesson) (sw := swX12_takeLesson) (cu := cuX12_takeLesson) tbX12_ok msX12_takeLesson 14 _ _ _ _ _ _ _ (And.intro (ok_390 hw) (And.intro (fun q278 => And.intro (ok_390 hw) (((h).1 q278))) (fun q278 => And.intro (ok_390 hw) (And.intro (Nat.le_of_ble_eq_true rfl) (SpI.mono (((h).2 q278)) (fun v2 s1 q277 => And.intro rfl (And.intro rfl (Exists.intro v2 (And.intro rfl (q277))))))))))
theorem vX12_takeLesson_28 {Γ : Gx} {d : Nat} {w : Wd} {Q : Int32 → St → Prop} {σ : St} {x2 : Int32} {x3 : Int32} {x4 : Int32} (hw : RunW w)
    (h : (((3 : Int32) ≤ x4 → AI Γ (d + 1) mX12_takeLesson w Q 50 [(0, .ref 390), (2, .int x2), (3, .int x3)] σ) ∧ (¬ (3 : Int32) ≤ x4 → (vp_in (x2 + x4) 21) ∧ AI Γ (d + 1) mX12_takeLesson w Q 28 [(0, .ref 390), (2, .int x2), (3, .int x3), (4, .int (x4 + (1 : Int32)))] (uI σ 412 (x2 + x4).toNatClampNeg (0 : Int32))))) :
    AI Γ (d + 1) mX12_takeLesson w Q 28 [(0, .ref 390), (2, .int x2), (3, .int x3), (4, .int x4)] σ :=
  wp_sound (μ := mX12_takeLesson) (T := tbX12) (is := isX12_takeLesson) (sw := swX12_takeLesson) (cu := cuX12_takeLesson) tbX12_ok msX12_takeLesson 13 _ _ _ _ _ _ _ (And.intro (fun q279 => ((h).1 q279)) (fun q279 => And.intro (ok_390 hw) (Exists.intro 412 (And.intro (rf_390_35 hw) (And.intro (ok_412 hw) (And.intro (vi_412 (((h).2 q279)).1) ((((h).2 q279)).2)))))))
theorem vX12_takeLesson_50 {Γ : Gx} {d : Nat} {w : Wd} {Q : Int32 → St → Prop} {σ : St} {x2 : Int32} {x3 : Int32} (hw : RunW w)
    (h : SpI Γ d mX12_here [.ref 390] σ w (fun v2 s1 => ((v2 = (59 : Int32) → Q (0 : Int32) (uI s1 390 34 ((gI s1 390 34) + (1 : Int32)))) ∧ (¬ v2 = (59 : Int32) → SpV Γ d mX12_readWord [.ref 390] s1 w (fun s3 => SpJ Γ d mX12_code [.int (97 : Int32), .int (102 : Int32), .int (116 : Int32), .int (101 : Int32)] s3 w (fun v5 s4 => SpJ Γ d mX12_longer [.long v5, .int (114 : Int32)] s4 w (fun v7 s6 => ((¬ (lg_cmp (gJ s3 390 20) v7) = (0 : Int32) → SpJ Γ d mX12_code [.int (115 : Int32), .int (105 : Int32), .int (103 : Int32), .int (110 : Int32)] s6 w (fun v9 s8 => SpJ Γ d mX12_longer [.long v9, .int (115 : Int32)] s8 w (fun v11 s10 => ((¬ (lg_cmp (gJ s6 390 20) v11) = (0 : Int32) → SpJ Γ d mX12_code [.int (115 : Int32), .int (105 : Int32), .int (103 : Int32), .int (104 : Int32)] s10 w (fun v13 s12 => SpJ Γ d mX12_longer [.long v13, .int (116 : Int32)] s12 w (fun v15 s14 => ((¬ (lg_cmp (gJ s10 390 20) v15) = (0 : Int32) → ((x3 < (-1 : Int32) → ((¬ (-1 : Int32) = (0 : Int32) → ((¬ (-1 : Int32) = (1 : Int32) → SpI Γ d mX12_takeList [.ref 390, .int ((gI s14 390 29) - (1 : Int32))] (uI s14 390 19 (gI s14 390 21)) w (fun v17 s16 => ((v17 ≤ (0 : Int32) → (vp_in (x2 + (-1 : Int32)) 21) ∧ AI Γ (d + 1) mX12_takeLesson w Q 50 [(0, .ref 390), (2, .int x2), (3, .int (-1 : Int32))] (uI s16 412 (x2 + (-1 : Int32)).toNatClampNeg (gI s16 390 39))) ∧ (¬ v17 ≤ (0 : Int32) → Q v17 s16)))) ∧ ((-1 : Int32) = (1 : Int32) → SpI Γ d mX12_takeList [.ref 390, .int ((gI s14 390 24) - (1 : Int32))] (uI s14 390 19 (gI s14 390 21)) w (fun v19 s18 => ((v19 ≤ (0 : Int32) → (vp_in (x2 + (-1 : Int32)) 21) ∧ AI Γ (d + 1) mX12_takeLesson w Q 50 [(0, .ref 390), (2, .int x2), (3, .int (-1 : Int32))] (uI s18 412 (x2 + (-1 : Int32)).toNatClampNeg (gI s18 390 39))) ∧ (¬ v19 ≤ (0 : Int32) → Q v19 s18)))))) ∧ ((-1 : Int32) = (0 : Int32) → SpI Γ d mX12_takeList [.ref 390, .int ((gI s14 390 34) - (1 : Int32))] (uI s14 390 19 (gI s14 390 21)) w (fun v21 s20 => ((v21 ≤ (0 : Int32) → (vp_in (x2 + (-1 : Int32)) 21) ∧ AI Γ (d + 1) mX12_takeLesson w Q 50 [(0, .ref 390), (2, .int x2), (3, .int (-1 : Int32))] (uI s20 412 (x2 + (-1 : Int32)).toNatClampNeg (gI s20 390 39))) ∧ (¬ v21 ≤ (0 : Int32) → Q v21 s20)))))) ∧ (¬ x3 < (-1 : Int32) → SpI Γ d mX12_fails [.ref 390, .int (1 : Int32), .int (gI s14 390 19)] s14 w (fun v23 s22 => Q v23 s22)))) ∧ ((lg_cmp (gJ s10 390 20) v15) = (0 : Int32) → ((x3 < (2 : Int32) → ((¬ (2 : Int32) = (0 : Int32) → ((¬ (2 : Int32) = (1 : Int32) → SpI Γ d mX12_takeList [.ref 390, .int ((gI s14 390 29) - (1 : Int32))] (uI s14 390 19 (gI s14 390 21)) w (fun v25 s24 => ((v25 ≤ (0 : Int32) → (vp_in (x2 + (2 : Int32)) 21) ∧ AI Γ (d + 1) mX12_takeLesson w Q 50 [(0, .ref 390), (2, .int x2), (3, .int (2 : Int32))] (uI s24 412 (x2 + (2 : Int32)).toNatClampNeg (gI s24 390 39))) ∧ (¬ v25 ≤ (0 : Int32) → Q v25 s24)))) ∧ ((2 : Int32) = (1 : Int32) → SpI Γ d mX12_takeList [.ref 390, .int ((gI s14 390 24) - (1 : Int32))] (uI s14 390 19 (gI s14 390 21)) w (fun v27 s26 => ((v27 ≤ (0 : Int32) → (vp_in (x2 + (2 : Int32)) 21) ∧ AI Γ (d + 1) mX12_takeLesson w Q 50 [(0, .ref 390), (2, .int x2), (3, .int (2 : Int32))] (uI s26 412 (x2 + (2 : Int32)).toNatClampNeg (gI s26 390 39))) ∧ (¬ v27 ≤ (0 : Int32) → Q v27 s26)))))) ∧ ((2 : Int32) = (0 : Int32) → SpI Γ d mX12_takeList [.ref 390, .int ((gI s14 390 34) - (1 : Int32))] (uI s14 390 19 (gI s14 390 21)) w (fun v29 s28 => ((v29 ≤ (0 : Int32) → (vp_in (x2 + (2 : Int32)) 21) ∧ AI Γ (d + 1) mX12_takeLesson w Q 50 [(0, .ref 390), (2, .int x2), (3, .int (2 : Int32))] (uI s28 412 (x2 + (2 : Int32)).toNatClampNeg (gI s28 390 39))) ∧ (¬ v29 ≤ (0 : Int32) → Q v29 s28)))))) ∧ (¬ x3 < (2 : Int32) → SpI Γ d mX12_fails [.ref 390, .int (1 : Int32), .int (gI s14 390 19)] s14 w (fun v31 s30 => Q v31 s30)))))))) ∧ ((lg_cmp (gJ s6 390 20) v11) = (0 : Int32) → ((x3 < (1 : Int32) → ((¬ (1 : Int32) = (0 : Int32) → ((¬ (1 : Int32) = (1 : Int32) → SpI Γ d mX12_takeList [.ref 390, .int ((gI s10 390 29) - (1 : Int32))] (uI s10 390 19 (gI s10 390 21)) w (fun v33 s32 => ((v33 ≤ (0 : Int32) → (vp_in (x2 + (1 : Int32)) 21) ∧ AI Γ (d + 1) mX12_takeLesson w Q 50 [(0, .ref 390), (2, .int x2), (3, .int (1 : Int32))] (uI s32 412 (x2 + (1 : Int32)).toNatClampNeg (gI s32 390 39))) ∧ (¬ v33 ≤ (0 : Int32) → Q v33 s32)))) ∧ ((1 : Int32) = (1 : Int32) → SpI Γ d mX12_takeList [.ref 390, .int ((gI s10 390 24) - (1 : Int32))] (uI s10 390 19 (gI s10 390 21)) w (fun v35 s34 => ((v35 ≤ (0 : Int32) → (vp_in (x2 + (1 : Int32)) 21) ∧ AI Γ (d + 1) mX12_takeLesson w Q 50 [(0, .ref 390), (2, .int x2), (3, .int (1 : Int32))] (uI s34 412 (x2 + (1 : Int32)).toNatClampNeg (gI s34 390 39))) ∧ (¬ v35 ≤ (0 : Int32) → Q v35 s34)))))) ∧ ((1 : Int32) = (0 : Int32) → SpI Γ d mX12_takeList [.ref 390, .int ((gI s10 390 34) - (1 : Int32))] (uI s10 390 19 (gI s10 390 21)) w (fun v37 s36 => ((v37 ≤ (0 : Int32) → (vp_in (x2 + (1 : Int32)) 21) ∧ AI Γ (d + 1) mX12_takeLesson w Q 50 [(0, .ref 390), (2, .int x2), (3, .int (1 : Int32))] (uI s36 412 (x2 + (1 : Int32)).toNatClampNeg (gI s36 390 39))) ∧ (¬ v37 ≤ (0 : Int32) → Q v37 s36)))))) ∧ (¬ x3 < (1 : Int32) → SpI Γ d mX12_fails [.ref 390, .int (1 : Int32), .int (gI s10 390 19)] s10 w (fun v39 s38 => Q v39 s38)))))))) ∧ ((lg_cmp (gJ s3 390 20) v7) = (0 : Int32) → ((x3 < (0 : Int32) → ((¬ (0 : Int32) = (0 : Int32) → ((¬ (0 : Int32) = (1 : Int32) → SpI Γ d mX12_takeList [.ref 390, .int ((gI s6 390 29) - (1 : Int32))] (uI s6 390 19 (gI s6 390 21)) w (fun v41 s40 => ((v41 ≤ (0 : Int32) → (vp_in (x2 + (0 : Int32)) 21) ∧ AI Γ (d + 1) mX12_takeLesson w Q 50 [(0, .ref 390), (2, .int x2), (3, .int (0 : Int32))] (uI s40 412 (x2 + (0 : Int32)).toNatClampNeg (gI s40 390 39))) ∧ (¬ v41 ≤ (0 : Int32) → Q v41 s40)))) ∧ ((0 : Int32) = (1 : Int32) → SpI Γ d mX12_takeList [.ref 390, .int ((gI s6 390 24) - (1 : Int32))] (uI s6 390 19 (gI s6 390 21)) w (fun v43 s42 => ((v43 ≤ (0 : Int32) → (vp_in (x2 + (0 : Int32)) 21) ∧ AI Γ (d + 1) mX12_takeLesson w Q 50 [(0, .ref 390), (2, .int x2), (3, .int (0 : Int32))] (uI s42 412 (x2 + (0 : Int32)).toNatClampNeg (gI s42 390 39))) ∧ (¬ v43 ≤ (0 : Int32) → Q v43 s42)))))) ∧ ((0 : Int32) = (0 : Int32) → SpI Γ d mX12_takeList [.ref 390, .int ((gI s6 390 34) - (1 : Int32))] (uI s6 390 19 (gI s6 390 21)) w (fun v45 s44 => ((v45 ≤ (0 : Int32) → (vp_in (x2 + (0 : Int32)) 21) ∧ AI Γ (d + 1) mX12_takeLesson w Q 50 [(0, .ref 390), (2, .int x2), (3, .int (0 : Int32))] (uI s44 412 (x2 + (0 : Int32)).toNatClampNeg (gI s44 390 39))) ∧ (¬ v45 ≤ (0 : Int32) → Q v45 s44)))))) ∧ (¬ x3 < (0 : Int32) → SpI Γ d mX12_fails [.ref 390, .int (1 : Int32), .int (gI s6 390 19)] s6 w (fun v47 s46 => Q v47 s46)))))))))))) :
    AI Γ (d + 1) mX12_takeLesson w Q 50 [(0, .ref 390), (2, .int x2), (3, .int x3)] σ :=
  wp_sound (μ := mX12_takeLesson) (T := tbX12) (is := isX12_takeLesson) (sw := swX12_takeLesson) (cu := cuX12_takeLesson) tbX12_ok msX12_takeLesson 76 _ _ _ _ _ _ _ (And.intro (ok_390 hw) (And.intro (Nat.le_of_ble_eq_true rfl) (SpI.mono (h) (fun v2 s1 q331 => And.intro (fun q330 => And.intro (ok_390 hw) (And.intro (ok_390 hw) (And.intro rfl (And.intro rfl (Exists.intro (0 : Int32) (And.intro rfl (((q331).1 q330)))))))) (fun q330 => And.intro (ok_390 hw) (And.intro (Nat.le_of_ble_eq_true rfl) (SpV.mono (((q331).2 q330)) (fun s3 q329 => And.intro (ok_390 hw) (And.intro (Nat.le_of_ble_eq_true rfl) (And.intro (Nat.le_of_ble_eq_true rfl) (SpJ.mono (q329) (fun v5 s4 q328 => And.intro (Nat.le_of_ble_eq_true rfl) (And.intro (Nat.le_of_ble_eq_true rfl) (SpJ.mono (q328) (fun v7 s6 q327 => And.intro (fun q326 => And.intro (ok_390 hw) (And.intro (Nat.le_of_ble_eq_true rfl) (And.intro (Nat.le_of_ble_eq_true rfl) (SpJ.mono (((q327).1 q326)) (fun v9 s8 q315 => And.intro (Nat.le_of_ble_eq_true rfl) (And.intro (Nat.le_of_ble_eq_true rfl) (SpJ.mono (q315) (fun v11 s10 q314 => And.intro (fun q313 => And.intro (ok_390 hw) (And.intro (Nat.le_of_ble_eq_true rfl) (And.intro (Nat.le_of_ble_eq_true rfl) (SpJ.mono (((q314).1 q313)) (fun v13 s12 q302 => And.intro (Nat.le_of_ble_eq_true rfl) (And.intro (Nat.le_of_ble_eq_true rfl) (SpJ.mono (q302) (fun v15 s14 q301 => And.intro (fun q300 => And.intro (fun q289 => And.intro (ok_390 hw) (And.intro (ok_390 hw) (And.intro (fun q287 => And.intro (fun q284 => And.intro (ok_390 hw) (And.intro (ok_390 hw) (And.intro (Nat.le_of_ble_eq_true rfl) (SpI.mono (((((((((q301).1 q300)).1 q289)).1 q287)).1 q284)) (fun v17 s16 q281 => And.intro (fun q280 => And.intro (ok_390 hw) (Exists.intro 412 (And.intro (rf_390_35 hw) (And.intro (ok_390 hw) (And.intro (ok_412 hw) (And.intro (vi_412 (((q281).1 q280)).1) ((((q281).1 q280)).2))))))) (fun q280 => And.intro rfl (And.intro rfl (Exists.intro v17 (And.intro rfl (((q281).2 q280))))))))))) (fun q284 => And.intro (ok_390 hw) (And.intro (ok_390 hw) (And.intro (Nat.le_of_ble_eq_true rfl) (SpI.mono (((((((((q301).1 q300)).1 q289)).1 q287)).2 q284)) (fun v19 s18 q283 => And.intro (fun q282 => And.intro (ok_390 hw) (Exists.intro 412 (And.intro (rf_390_35 hw) (And.intro (ok_390 hw) (And.intro (ok_412 hw) (And.intro (vi_412 (((q283).1 q282)).1) ((((q283).1 q282)).2))))))) (fun q282 => And.intro rfl (And.intro rfl (Exists.intro v19 (And.intro rfl (((q283).2 q282)))))))))))) (fun q287 => And.intro (ok_390 hw) (And.intro (ok_390 hw) (And.intro (Nat.le_of_ble_eq_true rfl) (SpI.mono (((((((q301).1 q300)).1 q289)).2 q287)) (fun v21 s20 q286 => And.intro (fun q285 => And.intro (ok_390 hw) (Exists.intro 412 (And.intro (rf_390_35 hw) (And.intro (ok_390 hw) (And.intro (ok_412 hw) (And.intro (vi_412 (((q286).1 q285)).1) ((((q286).1 q285)).2))))))) (fun q285 => And.intro rfl (And.intro rfl (Exists.intro v21 (And.intro rfl (((q286).2 q285)))))))))))))) (fun q289 => And.intro (ok_390 hw) (And.intro (ok_390 hw) (And.intro (Nat.le_of_ble_eq_true rfl) (SpI.mono (((((q301).1 q300)).2 q289)) (fun v23 s22 q288 => And.intro rfl (And.intro rfl (Exists.intro v23 (And.intro rfl (q288)))))))))) (fun q300 => And.intro (fun q299 => And.intro (ok_390 hw) (And.intro (ok_390 hw) (And.intro (fun q297 => And.intro (fun q294 => And.intro (ok_390 hw) (And.intro (ok_390 hw) (And.intro (Nat.le_of_ble_eq_true rfl) (SpI.mono (((((((((q301).2 q300)).1 q299)).1 q297)).1 q294)) (fun v25 s24 q291 => And.intro (fun q290 => And.intro (ok_390 hw) (Exists.intro 412 (And.intro (rf_390_35 hw) (And.intro (ok_390 hw) (And.intro (ok_412 hw) (And.intro (vi_412 (((q291).1 q290)).1) ((((q291).1 q290)).2))))))) (fun q290 => And.intro rfl (And.intro rfl (Exists.intro v25 (And.intro rfl (((q291).2 q290))))))))))) (fun q294 => And.intro (ok_390 hw) (And.intro (ok_390 hw) (And.intro (Nat.le_of_ble_eq_true rfl) (SpI.mono (((((((((q301).2 q300)).1 q299)).1 q297)).2 q294)) (fun v27 s26 q293 => And.intro (fun q292 => And.intro (ok_390 hw) (Exists.intro 412 (And.intro (rf_390_35 hw) (And.intro (ok_390 hw) (And.intro (ok_412 hw) (And.intro (vi_412 (((q293).1 q292)).1) ((((q293).1 q292)).2))))))) (fun q292 => And.intro rfl (And.intro rfl (Exists.intro v27 (And.intro rfl (((q293).2 q292)))))))))))) (fun q297 => And.intro (ok_390 hw) (And.intro (ok_390 hw) (And.intro (Nat.le_of_ble_eq_true rfl) (SpI.mono (((((((q301).2 q300)).1 q299)).2 q297)) (fun v29 s28 q296 => And.intro (fun q295 => And.intro (ok_390 hw) (Exists.intro 412 (And.intro (rf_390_35 hw) (And.intro (ok_390 hw) (And.intro (ok_412 hw) (And.intro (vi_412 (((q296).1 q295)).1) ((((q296).1 q295)).2))))))) (fun q295 => And.intro rfl (And.intro rfl (Exists.intro v29 (And.intro rfl (((q296).2 q295)))))))))))))) (fun q299 => And.intro (ok_390 hw) (And.intro (ok_390 hw) (And.intro (Nat.le_of_ble_eq_true rfl) (SpI.mono (((((q301).2 q300)).2 q299)) (fun v31 s30 q298 => And.intro rfl (And.intro rfl (Exists.intro v31 (And.intro rfl (q298)))))))))))))))))) (fun q313 => And.intro (fun q312 => And.intro (ok_390 hw) (And.intro (ok_390 hw) (And.intro (fun q310 => And.intro (fun q307 => And.intro (ok_390 hw) (And.intro (ok_390 hw) (And.intro (Nat.le_of_ble_eq_true rfl) (SpI.mono (((((((((q314).2 q313)).1 q312)).1 q310)).1 q307)) (fun v33 s32 q304 => And.intro (fun q303 => And.intro (ok_390 hw) (Exists.intro 412 (And.intro (rf_390_35 hw) (And.intro (ok_390 hw) (And.intro (ok_412 hw) (And.intro (vi_412 (((q304).1 q303)).1) ((((q304).1 q303)).2))))))) (fun q303 => And.intro rfl (And.intro rfl (Exists.intro v33 (And.intro rfl (((q304).2 q303))))))))))) (fun q307 => And.intro (ok_390 hw) (And.intro (ok_390 hw) (And.intro (Nat.le_of_ble_eq_true rfl) (SpI.mono (((((((((q314).2 q313)).1 q312)).1 q310)).2 q307)) (fun v35 s34 q306 => And.intro (fun q305 => And.intro (ok_390 hw) (Exists.intro 412 (And.intro (rf_390_35 hw) (And.intro (ok_390 hw) (And.intro (ok_412 hw) (And.intro (vi_412 (((q306).1 q305)).1) ((((q306).1 q305)).2))))))) (fun q305 => And.intro rfl (And.intro rfl (Exists.intro v35 (And.intro rfl (((q306).2 q305)))))))))))) (fun q310 => And.intro (ok_390 hw) (And.intro (ok_390 hw) (And.intro (Nat.le_of_ble_eq_true rfl) (SpI.mono (((((((q314).2 q313)).1 q312)).2 q310)) (fun v37 s36 q309 => And.intro (fun q308 => And.intro (ok_390 hw) (Exists.intro 412 (And.intro (rf_390_35 hw) (And.intro (ok_390 hw) (And.intro (ok_412 hw) (And.intro (vi_412 (((q309).1 q308)).1) ((((q309).1 q308)).2))))))) (fun q308 => And.intro rfl (And.intro rfl (Exists.intro v37 (And.intro rfl (((q309).2 q308)))))))))))))) (fun q312 => And.intro (ok_390 hw) (And.intro (ok_390 hw) (And.intro (Nat.le_of_ble_eq_true rfl) (SpI.mono (((((q314).2 q313)).2 q312)) (fun v39 s38 q311 => And.intro rfl (And.intro rfl (Exists.intro v39 (And.intro rfl (q311)))))))))))))))))) (fun q326 => And.intro (fun q325 => And.intro (ok_390 hw) (And.intro (ok_390 hw) (And.intro (fun q323 => And.intro (fun q320 => And.intro (ok_390 hw) (And.intro (ok_390 hw) (And.intro (Nat.le_of_ble_eq_true rfl) (SpI.mono (((((((((q327).2 q326)).1 q325)).1 q323)).1 q320)) (fun v41 s40 q317 => And.intro (fun q316 => And.intro (ok_390 hw) (Exists.intro 412 (And.intro (rf_390_35 hw) (And.intro (ok_390 hw) (And.intro (ok_412 hw) (And.intro (vi_412 (((q317).1 q316)).1) ((((q317).1 q316)).2))))))) (fun q316 => And.intro rfl (And.intro rfl (Exists.intro v41 (And.intro rfl (((q317).2 q316))))))))))) (fun q320 => And.intro (ok_390 hw) (And.intro (ok_390 hw) (And.intro (Nat.le_of_ble_eq_true rfl) (SpI.mono (((((((((q327).2 q326)).1 q325)).1 q323)).2 q320)) (fun v43 s42 q319 => And.intro (fun q318 => And.intro (ok_390 hw) (Exists.intro 412 (And.intro (rf_390_35 hw) (And.intro (ok_390 hw) (And.intro (ok_412 hw) (And.intro (vi_412 (((q319).1 q318)).1) ((((q319).1 q318)).2))))))) (fun q318 => And.intro rfl (And.intro rfl (Exists.intro v43 (And.intro rfl (((q319).2 q318)))))))))))) (fun q323 => And.intro (ok_390 hw) (And.intro (ok_390 hw) (And.intro (Nat.le_of_ble_eq_true rfl) (SpI.mono (((((((q327).2 q326)).1 q325)).2 q323)) (fun v45 s44 q322 => And.intro (fun q321 => And.intro (ok_390 hw) (Exists.intro 412 (And.intro (rf_390_35 hw) (And.intro (ok_390 hw) (And.intro (ok_412 hw) (And.intro (vi_412 (((q322).1 q321)).1) ((((q322).1 q321)).2))))))) (fun q321 => And.intro rfl (And.intro rfl (Exists.intro v45 (And.intro rfl (((q322).2 q321)))))))))))))) (fun q325 => And.intro (ok_390 hw) (And.intro (ok_390 hw) (And.intro (Nat.le_of_ble_eq_true rfl) (SpI.mono (((((q327).2 q326)).2 q325)) (fun v47 s46 q324 => And.intro rfl (And.intro rfl (Exists.intro v47 (And.intro rfl (q324)))))))))))))))))))))))))
theorem vX12_takePage_0 {Γ : Gx} {d : Nat} {w : Wd} {Q : Int32 → St → Prop} {σ : St} {x1 : Int32} (hw : RunW w)
    (h : ((¬ (gI σ 390 36) = (8 : Int32) → (vp_in (gI σ 390 36) 8) ∧ AI Γ (d + 1) mX12_takePage w Q 30 [(0, .ref 390), (2, .int (gI σ 390 36)), (3, .int (1 : Int32))] (uI σ 413 (gI σ 390 36).toNatClampNeg (0 : Int32))) ∧ ((gI σ 390 36) = (8 : Int32) → SpI Γ d mX12_fails [.ref 390, .int (3 : Int32), .int x1] σ w (fun v2 s1 => Q v2 s1)))) :
    AI Γ (d + 1) mX12_takePage w Q 0 [(0, .ref 390), (1, .int x1)] σ :=
  wp_sound (μ := mX12_takePage) (T := tbX12) (is := isX12_takePage) (sw := swX12_takePage) (cu := cuX12_takePage) tbX12_ok msX12_takePage 15 _ _ _ _ _ _ _ (And.intro (ok_390 hw) (And.intro (fun q388 => And.intro (ok_390 hw) (And.intro (ok_390 hw) (Exists.intro 413 (And.intro (rf_390_37 hw) (And.intro (ok_413 hw) (And.intro (vi_413 (((h).1 q388)).1) ((((h).1 q388)).2))))))) (fun q388 => And.intro (ok_390 hw) (And.intro (Nat.le_of_ble_eq_true rfl) (SpI.mono (((h).2 q388)) (fun v2 s1 q387 => And.intro rfl (And.intro rfl (Exists.intro v2 (And.intro rfl (q387))))))))))
theorem vX12_takePage_30 {Γ : Gx} {d : Nat} {w : Wd} {Q : Int32 → St → Prop} {σ : St} {x2 : Int32} {x3 : Int32} (hw : RunW w)
    (h : ((x3 = (0 : Int32) → Q (0 : Int32) (uI σ 390 36 ((gI σ 390 36) + (1 : Int32)))) ∧ (¬ x3 = (0 : Int32) → SpV Γ d mX12_readWord [.ref 390] σ w (fun s1 => ((¬ (gI s1 390 21) = (gI s1 390 19) → SpI Γ d mX12_wordOf [.ref 390, .int (gI s1 390 19), .int (gI s1 390 21)] s1 w (fun v3 s2 => (vp_in x2 8) ∧ (((gI s2 413 x2.toNatClampNeg) = (16 : Int32) → (vp_in x2 8) ∧ ((¬ (gI s2 413 x2.toNatClampNeg) = (16 : Int32) → SpI Γ d mX12_fails [.ref 390, .int (5 : Int32), .int (gI s2 390 19)] s2 w (fun v5 s4 => Q v5 s4)) ∧ ((gI s2 413 x2.toNatClampNeg) = (16 : Int32) → SpI Γ d mX12_fails [.ref 390, .int (4 : Int32), .int (gI s2 390 19)] s2 w (fun v7 s6 => Q v7 s6)))) ∧ (¬ (gI s2 413 x2.toNatClampNeg) = (16 : Int32) → (((0 : Int32) ≤ v3 → (vp_in x2 8) ∧ (vp_in (((16 : Int32) * x2) + (gI s2 413 x2.toNatClampNeg)) 128) ∧ (vp_in x2 8) ∧ (vp_in x2 8) ∧ SpI Γ d mX12_here [.ref 390] (uI (uI (uI s2 414 (((16 : Int32) * x2) + (gI s2 413 x2.toNatClampNeg)).toNatClampNeg v3) 413 x2.toNatClampNeg ((gI s2 413 x2.toNatClampNeg) + (1 : Int32))) 390 19 (gI s2 390 21)) w (fun v9 s8 => SpI Γ d mX12_in [.long v9.toInt64, .long (97 : Int64), .long (122 : Int64)] s8 w (fun v11 s10 => AI Γ (d + 1) mX12_takePage w Q 30 [(0, .ref 390), (2, .int x2), (3, .int v11)] s10))) ∧ (¬ (0 : Int32) ≤ v3 → (vp_in x2 8) ∧ ((¬ (gI s2 413 x2.toNatClampNeg) = (16 : Int32) → SpI Γ d mX12_fails [.ref 390, .int (5 : Int32), .int (gI s2 390 19)] s2 w (fun v13 s12 => Q v13 s12)) ∧ ((gI s2 413 x2.toNatClampNeg) = (16 : Int32) → SpI Γ d mX12_fails [.ref 390, .int (4 : Int32), .int (gI s2 390 19)] s2 w (fun v15 s14 => Q v15 s14))))))))) ∧ ((gI s1 390 21) = (gI s1 390 19) → SpI Γ d mX12_fails [.ref 390, .int (1 : Int32), .int (gI s1 390 19)] s1 w (fun v17 s16 => Q v17 s16))))))) :
    AI Γ (d + 1) mX12_takePage w Q 30 [(0, .ref 390), (2, .int x2), (3, .int x3)] σ :=
  wp_sound (μ := mX12_takePage) (T := tbX12) (is := isX12_takePage) (sw := swX12_takePage) (cu := cuX12_takePage) tbX12_ok msX12_takePage 57 _ _ _ _ _ _ _ (And.intro (fun q402 => And.intro (ok_390 hw) (And.intro (ok_390 hw) (And.intro rfl (And.intro rfl (Exists.intro (0 : Int32) (And.intro rfl (((h).1 q402)))))))) (fun q402 => And.intro (ok_390 hw) (And.intro (Nat.le_of_ble_eq_true rfl) (SpV.mono (((h).2 q402)) (fun s1 q401 => And.intro (ok_390 hw) (And.intro (ok_390 hw) (And.intro (fun q400 => And.intro (ok_390 hw) (And.intro (ok_390 hw) (And.intro (ok_390 hw) (And.intro (Nat.le_of_ble_eq_true rfl) (SpI.mono (((q401).1 q400)) (fun v3 s2 q398 => And.intro (ok_390 hw) (Exists.intro 413 (And.intro (rf_390_37 hw) (And.intro (ok_413 hw) (And.intro (vi_413 (q398).1) (And.intro (fun q397 => And.intro (ok_390 hw) (Exists.intro 413 (And.intro (rf_390_37 hw) (And.intro (ok_413 hw) (And.intro (vi_413 ((((q398).2).1 q397)).1) (And.intro (fun q391 => And.intro (ok_390 hw) (And.intro (ok_390 hw) (And.intro (Nat.le_of_ble_eq_true rfl) (SpI.mono (((((((q398).2).1 q397)).2).1 q391)) (fun v5 s4 q389 => And.intro rfl (And.intro rfl (Exists.intro v5 (And.intro rfl (q389))))))))) (fun q391 => And.intro (ok_390 hw) (And.intro (ok_390 hw) (And.intro (Nat.le_of_ble_eq_true rfl) (SpI.mono (((((((q398).2).1 q397)).2).2 q391)) (fun v7 s6 q390 => And.intro rfl (And.intro rfl (Exists.intro v7 (And.intro rfl (q390))))))))))))))) (fun q397 => And.intro (fun q396 => And.intro (ok_390 hw) (Exists.intro 414 (And.intro (rf_390_38 hw) (And.intro (ok_390 hw) (Exists.intro 413 (And.intro (rf_390_37 hw) (And.intro (ok_413 hw) (And.intro (vi_413 ((((((q398).2).2 q397)).1 q396)).1) (And.intro (ok_414 hw) (And.intro (vi_414 (((((((q398).2).2 q397)).1 q396)).2).1) (And.intro (ok_390 hw) (Exists.intro 413 (And.intro (rf_390_37 hw) (And.intro (ok_413 hw) (And.intro (vi_413 ((((((((q398).2).2 q397)).1 q396)).2).2).1) (And.intro (ok_413 hw) (And.intro (vi_413 (((((((((q398).2).2 q397)).1 q396)).2).2).2).1) (And.intro (ok_390 hw) (And.intro (ok_390 hw) (And.intro (ok_390 hw) (And.intro (Nat.le_of_ble_eq_true rfl) (SpI.mono ((((((((((q398).2).2 q397)).1 q396)).2).2).2).2) (fun v9 s8 q392 => And.intro (Nat.le_of_ble_eq_true rfl) (And.intro (Nat.le_of_ble_eq_true rfl) (q392))))))))))))))))))))))))) (fun q396 => And.intro (ok_390 hw) (Exists.intro 413 (And.intro (rf_390_37 hw) (And.intro (ok_413 hw) (And.intro (vi_413 ((((((q398).2).2 q397)).2 q396)).1) (And.intro (fun q395 => And.intro (ok_390 hw) (And.intro (ok_390 hw) (And.intro (Nat.le_of_ble_eq_true rfl) (SpI.mono (((((((((q398).2).2 q397)).2 q396)).2).1 q395)) (fun v13 s12 q393 => And.intro rfl (And.intro rfl (Exists.intro v13 (And.intro rfl (q393))))))))) (fun q395 => And.intro (ok_390 hw) (And.intro (ok_390 hw) (And.intro (Nat.le_of_ble_eq_true rfl) (SpI.mono (((((((((q398).2).2 q397)).2 q396)).2).2 q395)) (fun v15 s14 q394 => And.intro rfl (And.intro rfl (Exists.intro v15 (And.intro rfl (q394))))))))))))))))))))))))))) (fun q400 => And.intro (ok_390 hw) (And.intro (ok_390 hw) (And.intro (Nat.le_of_ble_eq_true rfl) (SpI.mono (((q401).2 q400)) (fun v17 s16 q399 => And.intro rfl (And.intro rfl (Exists.intro v17 (And.intro rfl (q399))))))))))))))))
theorem vX12_takeClause_0 {Γ : Gx} {d : Nat} {w : Wd} {Q : Int32 → St → Prop} {σ : St} (hw : RunW w)
    (h : SpV Γ d mX12_readWord [.ref 390] σ w (fun s1 => SpJ Γ d mX12_code [.int (115 : Int32), .int (105 : Int32), .int (103 : Int32), .int (110 : Int32)] s1 w (fun v3 s2 => ((¬ (lg_cmp (gJ s1 390 20) v3) = (0 : Int32) → SpJ Γ d mX12_code [.int (119 : Int32), .int (111 : Int32), .int (114 : Int32), .int (100 : Int32)] s2 w (fun v5 s4 => ((¬ (lg_cmp (gJ s2 390 20) v5) = (0 : Int32) → SpJ Γ d mX12_code [.int (108 : Int32), .int (101 : Int32), .int (115 : Int32), .int (115 : Int32)] s4 w (fun v7 s6 => SpJ Γ d mX12_longer [.long v7, .int (111 : Int32)] s6 w (fun v9 s8 => SpJ Γ d mX12_longer [.long v9, .int (110 : Int32)] s8 w (fun v11 s10 => ((¬ (lg_cmp (gJ s4 390 20) v11) = (0 : Int32) → SpJ Γ d mX12_code [.int (112 : Int32), .int (97 : Int32), .int (103 : Int32), .int (101 : Int32)] s10 w (fun v13 s12 => ((¬ (lg_cmp (gJ s10 390 20) v13) = (0 : Int32) → (((0 : Int32) ≤ (-1 : Int32) → ((¬ (-1 : Int32) = (0 : Int32) → ((¬ (-1 : Int32) = (1 : Int32) → ((¬ (-1 : Int32) = (2 : Int32) → SpI Γ d mX12_takePage [.ref 390, .int (gI s1 390 19)] (uI s12 390 19 (gI s12 390 21)) w (fun v15 s14 => ((v15 ≤ (0 : Int32) → SpI Γ d mX12_here [.ref 390] s14 w (fun v17 s16 => ((v17 = (59 : Int32) → Q (0 : Int32) (uI s16 390 19 ((gI s16 390 19) + (1 : Int32)))) ∧ (¬ v17 = (59 : Int32) → SpI Γ d mX12_fails [.ref 390, .int (1 : Int32), .int (gI s16 390 19)] s16 w (fun v19 s18 => Q v19 s18))))) ∧ (¬ v15 ≤ (0 : Int32) → Q v15 s14)))) ∧ ((-1 : Int32) = (2 : Int32) → SpI Γ d mX12_takeLesson [.ref 390, .int (gI s1 390 19)] (uI s12 390 19 (gI s12 390 21)) w (fun v21 s20 => ((v21 ≤ (0 : Int32) → SpI Γ d mX12_here [.ref 390] s20 w (fun v23 s22 => ((v23 = (59 : Int32) → Q (0 : Int32) (uI s22 390 19 ((gI s22 390 19) + (1 : Int32)))) ∧ (¬ v23 = (59 : Int32) → SpI Γ d mX12_fails [.ref 390, .int (1 : Int32), .int (gI s22 390 19)] s22 w (fun v25 s24 => Q v25 s24))))) ∧ (¬ v21 ≤ (0 : Int32) → Q v21 s20)))))) ∧ ((-1 : Int32) = (1 : Int32) → SpI Γ d mX12_takeWord [.ref 390, .int (gI s1 390 19)] (uI s12 390 19 (gI s12 390 21)) w (fun v27 s26 => ((v27 ≤ (0 : Int32) → SpI Γ d mX12_here [.ref 390] s26 w (fun v29 s28 => ((v29 = (59 : Int32) → Q (0 : Int32) (uI s28 390 19 ((gI s28 390 19) + (1 : Int32)))) ∧ (¬ v29 = (59 : Int32) → SpI Γ d mX12_fails [.ref 390, .int (1 : Int32), .int (gI s28 390 19)] s28 w (fun v31 s30 => Q v31 s30))))) ∧ (¬ v27 ≤ (0 : Int32) → Q v27 s26)))))) ∧ ((-1 : Int32) = (0 : Int32) → SpI Γ d mX12_takeSign [.ref 390, .int (gI s1 390 19)] (uI s12 390 19 (gI s12 390 21)) w (fun v33 s32 => ((v33 ≤ (0 : Int32) → SpI Γ d mX12_here [.ref 390] s32 w (fun v35 s34 => ((v35 = (59 : Int32) → Q (0 : Int32) (uI s34 390 19 ((gI s34 390 19) + (1 : Int32)))) ∧ (¬ v35 = (59 : Int32) → SpI Γ d mX12_fails [.ref 390, .int (1 : Int32), .int (gI s34 390 19)] s34 w (fun v37 s36 => Q v37 s36))))) ∧ (¬ v33 ≤ (0 : Int32) → Q v33 s32)))))) ∧ (¬ (0 : Int32) ≤ (-1 : Int32) → SpI Γ d mX12_fails [.ref 390, .int (1 : Int32), .int (gI s1 390 19)] s12 w (fun v39 s38 => Q v39 s38)))) ∧ ((lg_cmp (gJ s10 390 20) v13) = (0 : Int32) → (((0 : Int32) ≤ (3 : Int32) → ((¬ (3 : Int32) = (0 : Int32) → ((¬ (3 : Int32) = (1 : Int32) → ((¬ (3 : Int32) = (2 : Int32) → SpI Γ d mX12_takePage [.ref 390, .int (gI s1 390 19)] (uI s12 390 19 (gI s12 390 21)) w (fun v41 s40 => ((v41 ≤ (0 : Int32) → SpI Γ d mX12_here [.ref 390] s40 w (fun v43 s42 => ((v43 = (59 : Int32) → Q (0 : Int32) (uI s42 390 19 ((gI s42 390 19) + (1 : Int32)))) ∧ (¬ v43 = (59 : Int32) → SpI Γ d mX12_fails [.ref 390, .int (1 : Int32), .int (gI s42 390 19)] s42 w (fun v45 s44 => Q v45 s44))))) ∧ (¬ v41 ≤ (0 : Int32) → Q v41 s40)))) ∧ ((3 : Int32) = (2 : Int32) → SpI Γ d mX12_takeLesson [.ref 390, .int (gI s1 390 19)] (uI s12 390 19 (gI s12 390 21)) w (fun v47 s46 => ((v47 ≤ (0 : Int32) → SpI Γ d mX12_here [.ref 390] s46 w (fun v49 s48 => ((v49 = (59 : Int32) → Q (0 : Int32) (uI s48 390 19 ((gI s48 390 19) + (1 : Int32)))) ∧ (¬ v49 = (59 : Int32) → SpI Γ d mX12_fails [.ref 390, .int (1 : Int32), .int (gI s48 390 19)] s48 w (fun v51 s50 => Q v51 s50))))) ∧ (¬ v47 ≤ (0 : Int32) → Q v47 s46)))))) ∧ ((3 : Int32) = (1 : Int32) → SpI Γ d mX12_takeWord [.ref 390, .int (gI s1 390 19)] (uI s12 390 19 (gI s12 390 21)) w (fun v53 s52 => ((v53 ≤ (0 : Int32) → SpI Γ d mX12_here [.ref 390] s52 w (fun v55 s54 => ((v55 = (59 : Int32) → Q (0 : Int32) (uI s54 390 19 ((gI s54 390 19) + (1 : Int32)))) ∧ (¬ v55 = (59 : Int32) → SpI Γ d mX12_fails [.ref 390, .int (1 : Int32), .int (gI s54 390 19)] s54 w (fun v57 s56 => Q v57 s56))))) ∧ (¬ v53 ≤ (0 : Int32) → Q v53 s52)))))) ∧ ((3 : Int32) = (0 : Int32) → SpI Γ d mX12_takeSign [.ref 390, .int (gI s1 390 19)] (uI s12 390 19 (gI s12 390 21)) w (fun v59 s58 => ((v59 ≤ (0 : Int32) → SpI Γ d mX12_here [.ref 390] s58 w (fun v61 s60 => ((v61 = (59 : Int32) → Q (0 : Int32) (uI s60 390 19 ((gI s60 390 19) + (1 : Int32)))) ∧ (¬ v61 = (59 : Int32) → SpI Γ d mX12_fails [.ref 390, .int (1 : Int32), .int (gI s60 390 19)] s60 w (fun v63 s62 => Q v63 s62))))) ∧ (¬ v59 ≤ (0 : Int32) → Q v59 s58)))))) ∧ (¬ (0 : Int32) ≤ (3 : Int32) → SpI Γ d mX12_fails [.ref 390, .int (1 : Int32), .int (gI s1 390 19)] s12 w (fun v65 s64 => Q v65 s64))))))) ∧ ((lg_cmp (gJ s4 390 20) v11) = (0 : Int32) → (((0 : Int32) ≤ (2 : Int32) → ((¬ (2 : Int32) = (0 : Int32) → ((¬ (2 : Int32) = (1 : Int32) → ((¬ (2 : Int32) = (2 : Int32) → SpI Γ d mX12_takePage [.ref 390, .int (gI s1 390 19)] (uI s10 390 19 (gI s10 390 21)) w (fun v67 s66 => ((v67 ≤ (0 : Int32) → SpI Γ d mX12_here [.ref 390] s66 w (fun v69 s68 => ((v69 = (59 : Int32) → Q (0 : Int32) (uI s68 390 19 ((gI s68 390 19) + (1 : Int32)))) ∧ (¬ v69 = (59 : Int32) → SpI Γ d mX12_fails [.ref 390, .int (1 : Int32), .int (gI s68 390 19)] s68 w (fun v71 s70 => Q v71 s70))))) ∧ (¬ v67 ≤ (0 : Int32) → Q v67 s66)))) ∧ ((2 : Int32) = (2 : Int32) → SpI Γ d mX12_takeLesson [.ref 390, .int (gI s1 390 19)] (uI s10 390 19 (gI s10 390 21)) w (fun v73 s72 => ((v73 ≤ (0 : Int32) → SpI Γ d mX12_here [.ref 390] s72 w (fun v75 s74 => ((v75 = (59 : Int32) → Q (0 : Int32) (uI s74 390 19 ((gI s74 390 19) + (1 : Int32)))) ∧ (¬ v75 = (59 : Int32) → SpI Γ d mX12_fails [.ref 390, .int (1 : Int32), .int (gI s74 390 19)] s74 w (fun v77 s76 => Q v77 s76))))) ∧ (¬ v73 ≤ (0 : Int32) → Q v73 s72)))))) ∧ ((2 : Int32) = (1 : Int32) → SpI Γ d mX12_takeWord [.ref 390, .int (gI s1 390 19)] (uI s10 390 19 (gI s10 390 21)) w (fun v79 s78 => ((v79 ≤ (0 : Int32) → SpI Γ d mX12_here [.ref 390] s78 w (fun v81 s80 => ((v81 = (59 : Int32) → Q (0 : Int32) (uI s80 390 19 ((gI s80 390 19) + (1 : Int32)))) ∧ (¬ v81 = (59 : Int32) → SpI Γ d mX12_fails [.ref 390, .int (1 : Int32), .int (gI s80 390 19)] s80 w (fun v83 s82 => Q v83 s82))))) ∧ (¬ v79 ≤ (0 : Int32) → Q v79 s78)))))) ∧ ((2 : Int32) = (0 : Int32) → SpI Γ d mX12_takeSign [.ref 390, .int (gI s1 390 19)] (uI s10 390 19 (gI s10 390 21)) w (fun v85 s84 => ((v85 ≤ (0 : Int32) → SpI Γ d mX12_here [.ref 390] s84 w (fun v87 s86 => ((v87 = (59 : Int32) → Q (0 : Int32) (uI s86 390 19 ((gI s86 390 19) + (1 : Int32)))) ∧ (¬ v87 = (59 : Int32) → SpI Γ d mX12_fails [.ref 390, .int (1 : Int32), .int (gI s86 390 19)] s86 w (fun v89 s88 => Q v89 s88))))) ∧ (¬ v85 ≤ (0 : Int32) → Q v85 s84)))))) ∧ (¬ (0 : Int32) ≤ (2 : Int32) → SpI Γ d mX12_fails [.ref 390, .int (1 : Int32), .int (gI s1 390 19)] s10 w (fun v91 s90 => Q v91 s90))))))))) ∧ ((lg_cmp (gJ s2 390 20) v5) = (0 : Int32) → (((0 : Int32) ≤ (1 : Int32) → ((¬ (1 : Int32) = (0 : Int32) → ((¬ (1 : Int32) = (1 : Int32) → ((¬ (1 : Int32) = (2 : Int32) → SpI Γ d mX12_takePage [.ref 390, .int (gI s1 390 19)] (uI s4 390 19 (gI s4 390 21)) w (fun v93 s92 => ((v93 ≤ (0 : Int32) → SpI Γ d mX12_here [.ref 390] s92 w (fun v95 s94 => ((v95 = (59 : Int32) → Q (0 : Int32) (uI s94 390 19 ((gI s94 390 19) + (1 : Int32)))) ∧ (¬ v95 = (59 : Int32) → SpI Γ d mX12_fails [.ref 390, .int (1 : Int32), .int (gI s94 390 19)] s94 w (fun v97 s96 => Q v97 s96))))) ∧ (¬ v93 ≤ (0 : Int32) → Q v93 s92)))) ∧ ((1 : Int32) = (2 : Int32) → SpI Γ d mX12_takeLesson [.ref 390, .int (gI s1 390 19)] (uI s4 390 19 (gI s4 390 21)) w (fun v99 s98 => ((v99 ≤ (0 : Int32) → SpI Γ d mX12_here [.ref 390] s98 w (fun v101 s100 => ((v101 = (59 : Int32) → Q (0 : Int32) (uI s100 390 19 ((gI s100 390 19) + (1 : Int32)))) ∧ (¬ v101 = (59 : Int32) → SpI Γ d mX12_fails [.ref 390, .int (1 : Int32), .int (gI s100 390 19)] s100 w (fun v103 s102 => Q v103 s102))))) ∧ (¬ v99 ≤ (0 : Int32) → Q v99 s98)))))) ∧ ((1 : Int32) = (1 : Int32) → SpI Γ d mX12_takeWord [.ref 390, .int (gI s1 390 19)] (uI s4 390 19 (gI s4 390 21)) w (fun v105 s104 => ((v105 ≤ (0 : Int32) → SpI Γ d mX12_here [.ref 390] s104 w (fun v107 s106 => ((v107 = (59 : Int32) → Q (0 : Int32) (uI s106 390 19 ((gI s106 390 19) + (1 : Int32)))) ∧ (¬ v107 = (59 : Int32) → SpI Γ d mX12_fails [.ref 390, .int (1 : Int32), .int (gI s106 390 19)] s106 w (fun v109 s108 => Q v109 s108))))) ∧ (¬ v105 ≤ (0 : Int32) → Q v105 s104)))))) ∧ ((1 : Int32) = (0 : Int32) → SpI Γ d mX12_takeSign [.ref 390, .int (gI s1 390 19)] (uI s4 390 19 (gI s4 390 21)) w (fun v111 s110 => ((v111 ≤ (0 : Int32) → SpI Γ d mX12_here [.ref 390] s110 w (fun v113 s112 => ((v113 = (59 : Int32) → Q (0 : Int32) (uI s112 390 19 ((gI s112 390 19) + (1 : Int32)))) ∧ (¬ v113 = (59 : Int32) → SpI Γ d mX12_fails [.ref 390, .int (1 : Int32), .int (gI s112 390 19)] s112 w (fun v115 s114 => Q v115 s114))))) ∧ (¬ v111 ≤ (0 : Int32) → Q v111 s110)))))) ∧ (¬ (0 : Int32) ≤ (1 : Int32) → SpI Γ d mX12_fails [.ref 390, .int (1 : Int32), .int (gI s1 390 19)] s4 w (fun v117 s116 => Q v117 s116))))))) ∧ ((lg_cmp (gJ s1 390 20) v3) = (0 : Int32) → (((0 : Int32) ≤ (0 : Int32) → ((¬ (0 : Int32) = (0 : Int32) → ((¬ (0 : Int32) = (1 : Int32) → ((¬ (0 : Int32) = (2 : Int32) → SpI Γ d mX12_takePage [.ref 390, .int (gI s1 390 19)] (uI s2 390 19 (gI s2 390 21)) w (fun v119 s118 => ((v119 ≤ (0 : Int32) → SpI Γ d mX12_here [.ref 390] s118 w (fun v121 s120 => ((v121 = (59 : Int32) → Q (0 : Int32) (uI s120 390 19 ((gI s120 390 19) + (1 : Int32)))) ∧ (¬ v121 = (59 : Int32) → SpI Γ d mX12_fails [.ref 390, .int (1 : Int32), .int (gI s120 390 19)] s120 w (fun v123 s122 => Q v123 s122))))) ∧ (¬ v119 ≤ (0 : Int32) → Q v119 s118)))) ∧ ((0 : Int32) = (2 : Int32) → SpI Γ d mX12_takeLesson [.ref 390, .int (gI s1 390 19)] (uI s2 390 19 (gI s2 390 21)) w (fun v125 s124 => ((v125 ≤ (0 : Int32) → SpI Γ d mX12_here [.ref 390] s124 w (fun v127 s126 => ((v127 = (59 : Int32) → Q (0 : Int32) (uI s126 390 19 ((gI s126 390 19) + (1 : Int32)))) ∧ (¬ v127 = (59 : Int32) → SpI Γ d mX12_fails [.ref 390, .int (1 : Int32), .int (gI s126 390 19)] s126 w (fun v129 s128 => Q v129 s128))))) ∧ (¬ v125 ≤ (0 : Int32) → Q v125 s124)))))) ∧ ((0 : Int32) = (1 : Int32) → SpI Γ d mX12_takeWord [.ref 390, .int (gI s1 390 19)] (uI s2 390 19 (gI s2 390 21)) w (fun v131 s130 => ((v131 ≤ (0 : Int32) → SpI Γ d mX12_here [.ref 390] s130 w (fun v133 s132 => ((v133 = (59 : Int32) → Q (0 : Int32) (uI s132 390 19 ((gI s132 390 19) + (1 : Int32)))) ∧ (¬ v133 = (59 : Int32) → SpI Γ d mX12_fails [.ref 390, .int (1 : Int32), .int (gI s132 390 19)] s132 w (fun v135 s134 => Q v135 s134))))) ∧ (¬ v131 ≤ (0 : Int32) → Q v131 s130)))))) ∧ ((0 : Int32) = (0 : Int32) → SpI Γ d mX12_takeSign [.ref 390, .int (gI s1 390 19)] (uI s2 390 19 (gI s2 390 21)) w (fun v137 s136 => ((v137 ≤ (0 : Int32) → SpI Γ d mX12_here [.ref 390] s136 w (fun v139 s138 => ((v139 = (59 : Int32) → Q (0 : Int32) (uI s138 390 19 ((gI s138 390 19) + (1 : Int32)))) ∧ (¬ v139 = (59 : Int32) → SpI Γ d mX12_fails [.ref 390, .int (1 : Int32), .int (gI s138 390 19)] s138 w (fun v141 s140 => Q v141 s140))))) ∧ (¬ v137 ≤ (0 : Int32) → Q v137 s136)))))) ∧ (¬ (0 : Int32) ≤ (0 : Int32) → SpI Γ d mX12_fails [.ref 390, .int (1 : Int32), .int (gI s1 390 19)] s2 w (fun v143 s142 => Q v143 s142)))))))) :
    AI Γ (d + 1) mX12_takeClause w Q 0 [(0, .ref 390)] σ :=
  wp_sound (μ := mX12_takeClause) (T := tbX12) (is := isX12_takeClause) (sw := swX12_takeClause) (cu := cuX12_takeClause) tbX12_ok msX12_takeClause 82 _ _ _ _ _ _ _ (And.intro (ok_390 hw) (And.intro (Nat.le_of_ble_eq_true rfl) (SpV.mono (h) (fun s1 q554 => And.intro (ok_390 hw) (And.intro (ok_390 hw) (And.intro (Nat.le_of_ble_eq_true rfl) (And.intro (Nat.le_of_ble_eq_true rfl) (SpJ.mono (q554) (fun v3 s2 q553 => And.intro (fun q552 => And.intro (ok_390 hw) (And.intro (Nat.le_of_ble_eq_true rfl) (And.intro (Nat.le_of_ble_eq_true rfl) (SpJ.mono (((q553).1 q552)) (fun v5 s4 q526 => And.intro (fun q525 => And.intro (ok_390 hw) (And.intro (Nat.le_of_ble_eq_true rfl) (And.intro (Nat.le_of_ble_eq_true rfl) (SpJ.mono (((q526).1 q525)) (fun v7 s6 q499 => And.intro (Nat.le_of_ble_eq_true rfl) (And.intro (Nat.le_of_ble_eq_true rfl) (SpJ.mono (q499) (fun v9 s8 q498 => And.intro (Nat.le_of_ble_eq_true rfl) (And.intro (Nat.le_of_ble_eq_true rfl) (SpJ.mono (q498) (fun v11 s10 q497 => And.intro (fun q496 => And.intro (ok_390 hw) (And.intro (Nat.le_of_ble_eq_true rfl) (And.intro (Nat.le_of_ble_eq_true rfl) (SpJ.mono (((q497).1 q496)) (fun v13 s12 q470 => And.intro (fun q469 => And.intro (fun q443 => And.intro (ok_390 hw) (And.intro (ok_390 hw) (And.intro (fun q441 => And.intro (fun q435 => And.intro (fun q429 => And.intro (ok_390 hw) (And.intro (Nat.le_of_ble_eq_true rfl) (SpI.mono (((((((((((q470).1 q469)).1 q443)).1 q441)).1 q435)).1 q429)) (fun v15 s14 q423 => And.intro (fun q422 => And.intro (ok_390 hw) (And.intro (Nat.le_of_ble_eq_true rfl) (SpI.mono (((q423).1 q422)) (fun v17 s16 q421 => And.intro (fun q420 => And.intro (ok_390 hw) (And.intro (ok_390 hw) (And.intro rfl (And.intro rfl (Exists.intro (0 : Int32) (And.intro rfl (((q421).1 q420)))))))) (fun q420 => And.intro (ok_390 hw) (And.intro (ok_390 hw) (And.intro (Nat.le_of_ble_eq_true rfl) (SpI.mono (((q421).2 q420)) (fun v19 s18 q419 => And.intro rfl (And.intro rfl (Exists.intro v19 (And.intro rfl (q419))))))))))))) (fun q422 => And.intro rfl (And.intro rfl (Exists.intro v15 (And.intro rfl (((q423).2 q422)))))))))) (fun q429 => And.intro (ok_390 hw) (And.intro (Nat.le_of_ble_eq_true rfl) (SpI.mono (((((((((((q470).1 q469)).1 q443)).1 q441)).1 q435)).2 q429)) (fun v21 s20 q428 => And.intro (fun q427 => And.intro (ok_390 hw) (And.intro (Nat.le_of_ble_eq_true rfl) (SpI.mono (((q428).1 q427)) (fun v23 s22 q426 => And.intro (fun q425 => And.intro (ok_390 hw) (And.intro (ok_390 hw) (And.intro rfl (And.intro rfl (Exists.intro (0 : Int32) (And.intro rfl (((q426).1 q425)))))))) (fun q425 => And.intro (ok_390 hw) (And.intro (ok_390 hw) (And.intro (Nat.le_of_ble_eq_true rfl) (SpI.mono (((q426).2 q425)) (fun v25 s24 q424 => And.intro rfl (And.intro rfl (Exists.intro v25 (And.intro rfl (q424))))))))))))) (fun q427 => And.intro rfl (And.intro rfl (Exists.intro v21 (And.intro rfl (((q428).2 q427))))))))))) (fun q435 => And.intro (ok_390 hw) (And.intro (Nat.le_of_ble_eq_true rfl) (SpI.mono (((((((((q470).1 q469)).1 q443)).1 q441)).2 q435)) (fun v27 s26 q434 => And.intro (fun q433 => And.intro (ok_390 hw) (And.intro (Nat.le_of_ble_eq_true rfl) (SpI.mono (((q434).1 q433)) (fun v29 s28 q432 => And.intro (fun q431 => And.intro (ok_390 hw) (And.intro (ok_390 hw) (And.intro rfl (And.intro rfl (Exists.intro (0 : Int32) (And.intro rfl (((q432).1 q431)))))))) (fun q431 => And.intro (ok_390 hw) (And.intro (ok_390 hw) (And.intro (Nat.le_of_ble_eq_true rfl) (SpI.mono (((q432).2 q431)) (fun v31 s30 q430 => And.intro rfl (And.intro rfl (Exists.intro v31 (And.intro rfl (q430))))))))))))) (fun q433 => And.intro rfl (And.intro rfl (Exists.intro v27 (And.intro rfl (((q434).2 q433))))))))))) (fun q441 => And.intro (ok_390 hw) (And.intro (Nat.le_of_ble_eq_true rfl) (SpI.mono (((((((q470).1 q469)).1 q443)).2 q441)) (fun v33 s32 q440 => And.intro (fun q439 => And.intro (ok_390 hw) (And.intro (Nat.le_of_ble_eq_true rfl) (SpI.mono (((q440).1 q439)) (fun v35 s34 q438 => And.intro (fun q437 => And.intro (ok_390 hw) (And.intro (ok_390 hw) (And.intro rfl (And.intro rfl (Exists.intro (0 : Int32) (And.intro rfl (((q438).1 q437)))))))) (fun q437 => And.intro (ok_390 hw) (And.intro (ok_390 hw) (And.intro (Nat.le_of_ble_eq_true rfl) (SpI.mono (((q438).2 q437)) (fun v37 s36 q436 => And.intro rfl (And.intro rfl (Exists.intro v37 (And.intro rfl (q436))))))))))))) (fun q439 => And.intro rfl (And.intro rfl (Exists.intro v33 (And.intro rfl (((q440).2 q439))))))))))))) (fun q443 => And.intro (ok_390 hw) (And.intro (Nat.le_of_ble_eq_true rfl) (SpI.mono (((((q470).1 q469)).2 q443)) (fun v39 s38 q442 => And.intro rfl (And.intro rfl (Exists.intro v39 (And.intro rfl (q442))))))))) (fun q469 => And.intro (fun q468 => And.intro (ok_390 hw) (And.intro (ok_390 hw) (And.intro (fun q466 => And.intro (fun q460 => And.intro (fun q454 => And.intro (ok_390 hw) (And.intro (Nat.le_of_ble_eq_true rfl) (SpI.mono (((((((((((q470).2 q469)).1 q468)).1 q466)).1 q460)).1 q454)) (fun v41 s40 q448 => And.intro (fun q447 => And.intro (ok_390 hw) (And.intro (Nat.le_of_ble_eq_true rfl) (SpI.mono (((q448).1 q447)) (fun v43 s42 q446 => And.intro (fun q445 => And.intro (ok_390 hw) (And.intro (ok_390 hw) (And.intro rfl (And.intro rfl (Exists.intro (0 : Int32) (And.intro rfl (((q446).1 q445)))))))) (fun q445 => And.intro (ok_390 hw) (And.intro (ok_390 hw) (And.intro (Nat.le_of_ble_eq_true rfl) (SpI.mono (((q446).2 q445)) (fun v45 s44 q444 => And.intro rfl (And.intro rfl (Exists.intro v45 (And.intro rfl (q444))))))))))))) (fun q447 => And.intro rfl (And.intro rfl (Exists.intro v41 (And.intro rfl (((q448).2 q447)))))))))) (fun q454 => And.intro (ok_390 hw) (And.intro (Nat.le_of_ble_eq_true rfl) (SpI.mono (((((((((((q470).2 q469)).1 q468)).1 q466)).1 q460)).2 q454)) (fun v47 s46 q453 => And.intro (fun q452 => And.intro (ok_390 hw) (And.intro (Nat.le_of_ble_eq_true rfl) (SpI.mono (((q453).1 q452)) (fun v49 s48 q451 => And.intro (fun q450 => And.intro (ok_390 hw) (And.intro (ok_390 hw) (And.intro rfl (And.intro rfl (Exists.intro (0 : Int32) (And.intro rfl (((q451).1 q450)))))))) (fun q450 => And.intro (ok_390 hw) (And.intro (ok_390 hw) (And.intro (Nat.le_of_ble_eq_true rfl) (SpI.mono (((q451).2 q450)) (fun v51 s50 q449 => And.intro rfl (And.intro rfl (Exists.intro v51 (And.intro rfl (q449))))))))))))) (fun q452 => And.intro rfl (And.intro rfl (Exists.intro v47 (And.intro rfl (((q453).2 q452))))))))))) (fun q460 => And.intro (ok_390 hw) (And.intro (Nat.le_of_ble_eq_true rfl) (SpI.mono (((((((((q470).2 q469)).1 q468)).1 q466)).2 q460)) (fun v53 s52 q459 => And.intro (fun q458 => And.intro (ok_390 hw) (And.intro (Nat.le_of_ble_eq_true rfl) (SpI.mono (((q459).1 q458)) (fun v55 s54 q457 => And.intro (fun q456 => And.intro (ok_390 hw) (And.intro (ok_390 hw) (And.intro rfl (And.intro rfl (Exists.intro (0 : Int32) (And.intro rfl (((q457).1 q456)))))))) (fun q456 => And.intro (ok_390 hw) (And.intro (ok_390 hw) (And.intro (Nat.le_of_ble_eq_true rfl) (SpI.mono (((q457).2 q456)) (fun v57 s56 q455 => And.intro rfl (And.intro rfl (Exists.intro v57 (And.intro rfl (q455))))))))))))) (fun q458 => And.intro rfl (And.intro rfl (Exists.intro v53 (And.intro rfl (((q459).2 q458))))))))))) (fun q466 => And.intro (ok_390 hw) (And.intro (Nat.le_of_ble_eq_true rfl) (SpI.mono (((((((q470).2 q469)).1 q468)).2 q466)) (fun v59 s58 q465 => And.intro (fun q464 => And.intro (ok_390 hw) (And.intro (Nat.le_of_ble_eq_true rfl) (SpI.mono (((q465).1 q464)) (fun v61 s60 q463 => And.intro (fun q462 => And.intro (ok_390 hw) (And.intro (ok_390 hw) (And.intro rfl (And.intro rfl (Exists.intro (0 : Int32) (And.intro rfl (((q463).1 q462)))))))) (fun q462 => And.intro (ok_390 hw) (And.intro (ok_390 hw) (And.intro (Nat.le_of_ble_eq_true rfl) (SpI.mono (((q463).2 q462)) (fun v63 s62 q461 => And.intro rfl (And.intro rfl (Exists.intro v63 (And.intro rfl (q461))))))))))))) (fun q464 => And.intro rfl (And.intro rfl (Exists.intro v59 (And.intro rfl (((q465).2 q464))))))))))))) (fun q468 => And.intro (ok_390 hw) (And.intro (Nat.le_of_ble_eq_true rfl) (SpI.mono (((((q470).2 q469)).2 q468)) (fun v65 s64 q467 => And.intro rfl (And.intro rfl (Exists.intro v65 (And.intro rfl (q467)))))))))))))) (fun q496 => And.intro (fun q495 => And.intro (ok_390 hw) (And.intro (ok_390 hw) (And.intro (fun q493 => And.intro (fun q487 => And.intro (fun q481 => And.intro (ok_390 hw) (And.intro (Nat.le_of_ble_eq_true rfl) (SpI.mono (((((((((((q497).2 q496)).1 q495)).1 q493)).1 q487)).1 q481)) (fun v67 s66 q475 => And.intro (fun q474 => And.intro (ok_390 hw) (And.intro (Nat.le_of_ble_eq_true rfl) (SpI.mono (((q475).1 q474)) (fun v69 s68 q473 => And.intro (fun q472 => And.intro (ok_390 hw) (And.intro (ok_390 hw) (And.intro rfl (And.intro rfl (Exists.intro (0 : Int32) (And.intro rfl (((q473).1 q472)))))))) (fun q472 => And.intro (ok_390 hw) (And.intro (ok_390 hw) (And.intro (Nat.le_of_ble_eq_true rfl) (SpI.mono (((q473).2 q472)) (fun v71 s70 q471 => And.intro rfl (And.intro rfl (Exists.intro v71 (And.intro rfl (q471))))))))))))) (fun q474 => And.intro rfl (And.intro rfl (Exists.intro v67 (And.intro rfl (((q475).2 q474)))))))))) (fun q481 => And.intro (ok_390 hw) (And.intro (Nat.le_of_ble_eq_true rfl) (SpI.mono (((((((((((q497).2 q496)).1 q495)).1 q493)).1 q487)).2 q481)) (fun v73 s72 q480 => And.intro (fun q479 => And.intro (ok_390 hw) (And.intro (Nat.le_of_ble_eq_true rfl) (SpI.mono (((q480).1 q479)) (fun v75 s74 q478 => And.intro (fun q477 => And.intro (ok_390 hw) (And.intro (ok_390 hw) (And.intro rfl (And.intro rfl (Exists.intro (0 : Int32) (And.intro rfl (((q478).1 q477)))))))) (fun q477 => And.intro (ok_390 hw) (And.intro (ok_390 hw) (And.intro (Nat.le_of_ble_eq_true rfl) (SpI.mono (((q478).2 q477)) (fun v77 s76 q476 => And.intro rfl (And.intro rfl (Exists.intro v77 (And.intro rfl (q476))))))))))))) (fun q479 => And.intro rfl (And.intro rfl (Exists.intro v73 (And.intro rfl (((q480).2 q479))))))))))) (fun q487 => And.intro (ok_390 hw) (And.intro (Nat.le_of_ble_eq_true rfl) (SpI.mono (((((((((q497).2 q496)).1 q495)).1 q493)).2 q487)) (fun v79 s78 q486 => And.intro (fun q485 => And.intro (ok_390 hw) (And.intro (Nat.le_of_ble_eq_true rfl) (SpI.mono (((q486).1 q485)) (fun v81 s80 q484 => And.intro (fun q483 => And.intro (ok_390 hw) (And.intro (ok_390 hw) (And.intro rfl (And.intro rfl (Exists.intro (0 : Int32) (And.intro rfl (((q484).1 q483)))))))) (fun q483 => And.intro (ok_390 hw) (And.intro (ok_390 hw) (And.intro (Nat.le_of_ble_eq_true rfl) (SpI.mono (((q484).2 q483)) (fun v83 s82 q482 => And.intro rfl (And.intro rfl (Exists.intro v83 (And.intro rfl (q482))))))))))))) (fun q485 => And.intro rfl (And.intro rfl (Exists.intro v79 (And.intro rfl (((q486).2 q485))))))))))) (fun q493 => And.intro (ok_390 hw) (And.intro (Nat.le_of_ble_eq_true rfl) (SpI.mono (((((((q497).2 q496)).1 q495)).2 q493)) (fun v85 s84 q492 => And.intro (fun q491 => And.intro (ok_390 hw) (And.intro (Nat.le_of_ble_eq_true rfl) (SpI.mono (((q492).1 q491)) (fun v87 s86 q490 => And.intro (fun q489 => And.intro (ok_390 hw) (And.intro (ok_390 hw) (And.intro rfl (And.intro rfl (Exists.intro (0 : Int32) (And.intro rfl (((q490).1 q489)))))))) (fun q489 => And.intro (ok_390 hw) (And.intro (ok_390 hw) (And.intro (Nat.le_of_ble_eq_true rfl) (SpI.mono (((q490).2 q489)) (fun v89 s88 q488 => And.intro rfl (And.intro rfl (Exists.intro v89 (And.intro rfl (q488))))))))))))) (fun q491 => And.intro rfl (And.intro rfl (Exists.intro v85 (And.intro rfl (((q492).2 q491))))))))))))) (fun q495 => And.intro (ok_390 hw) (And.intro (Nat.le_of_ble_eq_true rfl) (SpI.mono (((((q497).2 q496)).2 q495)) (fun v91 s90 q494 => And.intro rfl (And.intro rfl (Exists.intro v91 (And.intro rfl (q494)))))))))))))))))))) (fun q525 => And.intro (fun q524 => And.intro (ok_390 hw) (And.intro (ok_390 hw) (And.intro (fun q522 => And.intro (fun q516 => And.intro (fun q510 => And.intro (ok_390 hw) (And.intro (Nat.le_of_ble_eq_true rfl) (SpI.mono (((((((((((q526).2 q525)).1 q524)).1 q522)).1 q516)).1 q510)) (fun v93 s92 q504 => And.intro (fun q503 => And.intro (ok_390 hw) (And.intro (Nat.le_of_ble_eq_true rfl) (SpI.mono (((q504).1 q503)) (fun v95 s94 q502 => And.intro (fun q501 => And.intro (ok_390 hw) (And.intro (ok_390 hw) (And.intro rfl (And.intro rfl (Exists.intro (0 : Int32) (And.intro rfl (((q502).1 q501)))))))) (fun q501 => And.intro (ok_390 hw) (And.intro (ok_390 hw) (And.intro (Nat.le_of_ble_eq_true rfl) (SpI.mono (((q502).2 q501)) (fun v97 s96 q500 => And.intro rfl (And.intro rfl (Exists.intro v97 (And.intro rfl (q500))))))))))))) (fun q503 => And.intro rfl (And.intro rfl (Exists.intro v93 (And.intro rfl (((q504).2 q503)))))))))) (fun q510 => And.intro (ok_390 hw) (And.intro (Nat.le_of_ble_eq_true rfl) (SpI.mono (((((((((((q526).2 q525)).1 q524)).1 q522)).1 q516)).2 q510)) (fun v99 s98 q509 => And.intro (fun q508 => And.intro (ok_390 hw) (And.intro (Nat.le_of_ble_eq_true rfl) (SpI.mono (((q509).1 q508)) (fun v101 s100 q507 => And.intro (fun q506 => And.intro (ok_390 hw) (And.intro (ok_390 hw) (And.intro rfl (And.intro rfl (Exists.intro (0 : Int32) (And.intro rfl (((q507).1 q506)))))))) (fun q506 => And.intro (ok_390 hw) (And.intro (ok_390 hw) (And.intro (Nat.le_of_ble_eq_true rfl) (SpI.mono (((q507).2 q506)) (fun v103 s102 q505 => And.intro rfl (And.intro rfl (Exists.intro v103 (And.intro rfl (q505))))))))))))) (fun q508 => And.intro rfl (And.intro rfl (Exists.intro v99 (And.intro rfl (((q509).2 q508))))))))))) (fun q516 => And.intro (ok_390 hw) (And.intro (Nat.le_of_ble_eq_true rfl) (SpI.mono (((((((((q526).2 q525)).1 q524)).1 q522)).2 q516)) (fun v105 s104 q515 => And.intro (fun q514 => And.intro (ok_390 hw) (And.intro (Nat.le_of_ble_eq_true rfl) (SpI.mono (((q515).1 q514)) (fun v107 s106 q513 => And.intro (fun q512 => And.intro (ok_390 hw) (And.intro (ok_390 hw) (And.intro rfl (And.intro rfl (Exists.intro (0 : Int32) (And.intro rfl (((q513).1 q512)))))))) (fun q512 => And.intro (ok_390 hw) (And.intro (ok_390 hw) (And.intro (Nat.le_of_ble_eq_true rfl) (SpI.mono (((q513).2 q512)) (fun v109 s108 q511 => And.intro rfl (And.intro rfl (Exists.intro v109 (And.intro rfl (q511))))))))))))) (fun q514 => And.intro rfl (And.intro rfl (Exists.intro v105 (And.intro rfl (((q515).2 q514))))))))))) (fun q522 => And.intro (ok_390 hw) (And.intro (Nat.le_of_ble_eq_true rfl) (SpI.mono (((((((q526).2 q525)).1 q524)).2 q522)) (fun v111 s110 q521 => And.intro (fun q520 => And.intro (ok_390 hw) (And.intro (Nat.le_of_ble_eq_true rfl) (SpI.mono (((q521).1 q520)) (fun v113 s112 q519 => And.intro (fun q518 => And.intro (ok_390 hw) (And.intro (ok_390 hw) (And.intro rfl (And.intro rfl (Exists.intro (0 : Int32) (And.intro rfl (((q519).1 q518)))))))) (fun q518 => And.intro (ok_390 hw) (And.intro (ok_390 hw) (And.intro (Nat.le_of_ble_eq_true rfl) (SpI.mono (((q519).2 q518)) (fun v115 s114 q517 => And.intro rfl (And.intro rfl (Exists.intro v115 (And.intro rfl (q517))))))))))))) (fun q520 => And.intro rfl (And.intro rfl (Exists.intro v111 (And.intro rfl (((q521).2 q520))))))))))))) (fun q524 => And.intro (ok_390 hw) (And.intro (Nat.le_of_ble_eq_true rfl) (SpI.mono (((((q526).2 q525)).2 q524)) (fun v117 s116 q523 => And.intro rfl (And.intro rfl (Exists.intro v117 (And.intro rfl (q523)))))))))))))) (fun q552 => And.intro (fun q551 => And.intro (ok_390 hw) (And.intro (ok_390 hw) (And.intro (fun q549 => And.intro (fun q543 => And.intro (fun q537 => And.intro (ok_390 hw) (And.intro (Nat.le_of_ble_eq_true rfl) (SpI.mono (((((((((((q553).2 q552)).1 q551)).1 q549)).1 q543)).1 q537)) (fun v119 s118 q531 => And.intro (fun q530 => And.intro (ok_390 hw) (And.intro (Nat.le_of_ble_eq_true rfl) (SpI.mono (((q531).1 q530)) (fun v121 s120 q529 => And.intro (fun q528 => And.intro (ok_390 hw) (And.intro (ok_390 hw) (And.intro rfl (And.intro rfl (Exists.intro (0 : Int32) (And.intro rfl (((q529).1 q528)))))))) (fun q528 => And.intro (ok_390 hw) (And.intro (ok_390 hw) (And.intro (Nat.le_of_ble_eq_true rfl) (SpI.mono (((q529).2 q528)) (fun v123 s122 q527 => And.intro rfl (And.intro rfl (Exists.intro v123 (And.intro rfl (q527))))))))))))) (fun q530 => And.intro rfl (And.intro rfl (Exists.intro v119 (And.intro rfl (((q531).2 q530)))))))))) (fun q537 => And.intro (ok_390 hw) (And.intro (Nat.le_of_ble_eq_true rfl) (SpI.mono (((((((((((q553).2 q552)).1 q551)).1 q549)).1 q543)).2 q537)) (fun v125 s124 q536 => And.intro (fun q535 => And.intro (ok_390 hw) (And.intro (Nat.le_of_ble_eq_true rfl) (SpI.mono (((q536).1 q535)) (fun v127 s126 q534 => And.intro (fun q533 => And.intro (ok_390 hw) (And.intro (ok_390 hw) (And.intro rfl (And.intro rfl (Exists.intro (0 : Int32) (And.intro rfl (((q534).1 q533)))))))) (fun q533 => And.intro (ok_390 hw) (And.intro (ok_390 hw) (And.intro (Nat.le_of_ble_eq_true rfl) (SpI.mono (((q534).2 q533)) (fun v129 s128 q532 => And.intro rfl (And.intro rfl (Exists.intro v129 (And.intro rfl (q532))))))))))))) (fun q535 => And.intro rfl (And.intro rfl (Exists.intro v125 (And.intro rfl (((q536).2 q535))))))))))) (fun q543 => And.intro (ok_390 hw) (And.intro (Nat.le_of_ble_eq_true rfl) (SpI.mono (((((((((q553).2 q552)).1 q551)).1 q549)).2 q543)) (fun v131 s130 q542 => And.intro (fun q541 => And.intro (ok_390 hw) (And.intro (Nat.le_of_ble_eq_true rfl) (SpI.mono (((q542).1 q541)) (fun v133 s132 q540 => And.intro (fun q539 => And.intro (ok_390 hw) (And.intro (ok_390 hw) (And.intro rfl (And.intro rfl (Exists.intro (0 : Int32) (And.intro rfl (((q540).1 q539)))))))) (fun q539 => And.intro (ok_390 hw) (And.intro (ok_390 hw) (And.intro (Nat.le_of_ble_eq_true rfl) (SpI.mono (((q540).2 q539)) (fun v135 s134 q538 => And.intro rfl (And.intro rfl (Exists.intro v135 (And.intro rfl (q538))))))))))))) (fun q541 => And.intro rfl (And.intro rfl (Exists.intro v131 (And.intro rfl (((q542).2 q541))))))))))) (fun q549 => And.intro (ok_390 hw) (And.intro (Nat.le_of_ble_eq_true rfl) (SpI.mono (((((((q553).2 q552)).1 q551)).2 q549)) (fun v137 s136 q548 => And.intro (fun q547 => And.intro (ok_390 hw) (And.intro (Nat.le_of_ble_eq_true rfl) (SpI.mono (((q548).1 q547)) (fun v139 s138 q546 => And.intro (fun q545 => And.intro (ok_390 hw) (And.intro (ok_390 hw) (And.intro rfl (And.intro rfl (Exists.intro (0 : Int32) (And.intro rfl (((q546).1 q545)))))))) (fun q545 => And.intro (ok_390 hw) (And.intro (ok_390 hw) (And.intro (Nat.le_of_ble_eq_true rfl) (SpI.mono (((q546).2 q545)) (fun v141 s140 q544 => And.intro rfl (And.intro rfl (Exists.intro v141 (And.intro rfl (q544))))))))))))) (fun q547 => And.intro rfl (And.intro rfl (Exists.intro v137 (And.intro rfl (((q548).2 q547))))))))))))) (fun q551 => And.intro (ok_390 hw) (And.intro (Nat.le_of_ble_eq_true rfl) (SpI.mono (((((q553).2 q552)).2 q551)) (fun v143 s142 q550 => And.intro rfl (And.intro rfl (Exists.intro v143 (And.intro rfl (q550))))))))))))))))))
theorem vX12_primer_0 {Γ : Gx} {d : Nat} {w : Wd} {Q : Int32 → St → Prop} {σ : St} (hw : RunW w)
    (h : AI Γ (d + 1) mX12_primer w Q 34 [(0, .ref 390), (1, .int (0 : Int32)), (2, .int (0 : Int32))] (uI (uI (uI (uI (uI (uI σ 390 18 (-1 : Int32)) 390 19 (0 : Int32)) 390 24 (0 : Int32)) 390 29 (0 : Int32)) 390 34 (0 : Int32)) 390 36 (0 : Int32))) :
    AI Γ (d + 1) mX12_primer w Q 0 [(0, .ref 390)] σ :=
  wp_sound (μ := mX12_primer) (T := tbX12) (is := isX12_primer) (sw := swX12_primer) (cu := cuX12_primer) tbX12_ok msX12_primer 23 _ _ _ _ _ _ _ (And.intro (ok_390 hw) (And.intro (ok_390 hw) (And.intro (ok_390 hw) (And.intro (ok_390 hw) (And.intro (ok_390 hw) (And.intro (ok_390 hw) (h)))))))
theorem vX12_primer_34 {Γ : Gx} {d : Nat} {w : Wd} {Q : Int32 → St → Prop} {σ : St} {x1 : Int32} {x2 : Int32} (hw : RunW w)
    (h : ((¬ x2 = (0 : Int32) → ((x2 ≤ (0 : Int32) → SpV Γ d mX12_keepPrimer [.ref 390] (uI σ 390 17 (0 : Int32)) w (fun s1 => SpV Γ d mX12_beginPupils [.ref 390] s1 w (fun s2 => (vp_in (0 : Int32) 2) ∧ (vp_in (1 : Int32) 2) ∧ Q x1 (uI (uI s2 424 (0 : Int32).toNatClampNeg (0 : Int32)) 424 (1 : Int32).toNatClampNeg (0 : Int32))))) ∧ (¬ x2 ≤ (0 : Int32) → Q ((-10 : Int32) - x2) (uI σ 390 17 (0 : Int32))))) ∧ (x2 = (0 : Int32) → SpI Γ d mX12_here [.ref 390] σ w (fun v4 s3 => ((v4 < (0 : Int32) → ((x2 ≤ (0 : Int32) → SpV Γ d mX12_keepPrimer [.ref 390] (uI s3 390 17 (0 : Int32)) w (fun s5 => SpV Γ d mX12_beginPupils [.ref 390] s5 w (fun s6 => (vp_in (0 : Int32) 2) ∧ (vp_in (1 : Int32) 2) ∧ Q x1 (uI (uI s6 424 (0 : Int32).toNatClampNeg (0 : Int32)) 424 (1 : Int32).toNatClampNeg (0 : Int32))))) ∧ (¬ x2 ≤ (0 : Int32) → Q ((-10 : Int32) - x2) (uI s3 390 17 (0 : Int32))))) ∧ (¬ v4 < (0 : Int32) → SpI Γ d mX12_takeClause [.ref 390] s3 w (fun v8 s7 => AI Γ (d + 1) mX12_primer w Q 34 [(0, .ref 390), (1, .int (x1 + (1 : Int32))), (2, .int v8)] s7))))))) :
    AI Γ (d + 1) mX12_primer w Q 34 [(0, .ref 390), (1, .int x1), (2, .int x2)] σ :=
  wp_sound (μ := mX12_primer) (T := tbX12) (is := isX12_primer) (sw := swX12_primer) (cu := cuX12_primer) tbX12_ok msX12_primer 27 _ _ _ _ _ _ _ (And.intro (fun q699 => And.intro (ok_390 hw) (And.intro (fun q693 => And.intro (ok_390 hw) (And.intro (Nat.le_of_ble_eq_true rfl) (SpV.mono (((((h).1 q699)).1 q693)) (fun s1 q692 => And.intro (ok_390 hw) (And.intro (Nat.le_of_ble_eq_true rfl) (SpV.mono (q692) (fun s2 q691 => And.intro (ok_390 hw) (Exists.intro 424 (And.intro (rf_390_54 hw) (And.intro (ok_424 hw).1 (And.intro (Or.inr (And.intro (ok_424 hw).2 (by decide))) (And.intro (vi_424 (q691).1) (And.intro (ok_390 hw) (Exists.intro 424 (And.intro (rf_390_54 hw) (And.intro (ok_424 hw).1 (And.intro (Or.inr (And.intro (ok_424 hw).2 (by decide))) (And.intro (vi_424 ((q691).2).1) (And.intro rfl (And.intro rfl (Exists.intro x1 (And.intro rfl (((q691).2).2))))))))))))))))))))))) (fun q693 => And.intro rfl (And.intro rfl (Exists.intro ((-10 : Int32) - x2) (And.intro rfl (((((h).1 q699)).2 q693)))))))) (fun q699 => And.intro (ok_390 hw) (And.intro (Nat.le_of_ble_eq_true rfl) (SpI.mono (((h).2 q699)) (fun v4 s3 q698 => And.intro (fun q697 => And.intro (ok_390 hw) (And.intro (fun q696 => And.intro (ok_390 hw) (And.intro (Nat.le_of_ble_eq_true rfl) (SpV.mono (((((q698).1 q697)).1 q696)) (fun s5 q695 => And.intro (ok_390 hw) (And.intro (Nat.le_of_ble_eq_true rfl) (SpV.mono (q695) (fun s6 q694 => And.intro (ok_390 hw) (Exists.intro 424 (And.intro (rf_390_54 hw) (And.intro (ok_424 hw).1 (And.intro (Or.inr (And.intro (ok_424 hw).2 (by decide))) (And.intro (vi_424 (q694).1) (And.intro (ok_390 hw) (Exists.intro 424 (And.intro (rf_390_54 hw) (And.intro (ok_424 hw).1 (And.intro (Or.inr (And.intro (ok_424 hw).2 (by decide))) (And.intro (vi_424 ((q694).2).1) (And.intro rfl (And.intro rfl (Exists.intro x1 (And.intro rfl (((q694).2).2))))))))))))))))))))))) (fun q696 => And.intro rfl (And.intro rfl (Exists.intro ((-10 : Int32) - x2) (And.intro rfl (((((q698).1 q697)).2 q696)))))))) (fun q697 => And.intro (ok_390 hw) (And.intro (Nat.le_of_ble_eq_true rfl) (((q698).2 q697)))))))))
theorem vX12_keepPrimer_0 {Γ : Gx} {d : Nat} {w : Wd} {Q : St → Prop} {σ : St} (hw : RunW w)
    (h : AV Γ d mX12_keepPrimer w Q 34 [(0, .ref 390), (1, .int (0 : Int32))] (uI (uI (uI (uI σ 390 0 (gI σ 390 24)) 390 5 (gI σ 390 29)) 390 10 (gI σ 390 34)) 390 12 (gI σ 390 36))) :
    AV Γ d mX12_keepPrimer w Q 0 [(0, .ref 390)] σ :=
  wp_sound (μ := mX12_keepPrimer) (T := tbX12) (is := isX12_keepPrimer) (sw := swX12_keepPrimer) (cu := cuX12_keepPrimer) tbX12_ok msX12_keepPrimer 19 _ _ _ _ _ _ _ (And.intro (ok_390 hw) (And.intro (ok_390 hw) (And.intro (ok_390 hw) (And.intro (ok_390 hw) (And.intro (ok_390 hw) (And.intro (ok_390 hw) (And.intro (ok_390 hw) (And.intro (ok_390 hw) (h)))))))))
theorem vX12_keepPrimer_34 {Γ : Gx} {d : Nat} {w : Wd} {Q : St → Prop} {σ : St} {x1 : Int32} (hw : RunW w)
    (h : (((20 : Int32) ≤ x1 → AV Γ d mX12_keepPrimer w Q 84 [(0, .ref 390), (1, .int (0 : Int32))] σ) ∧ (¬ (20 : Int32) ≤ x1 → (vp_in x1 20) ∧ (vp_in x1 20) ∧ (vp_in x1 20) ∧ (vp_in x1 20) ∧ (vp_in x1 20) ∧ (vp_in x1 20) ∧ AV Γ d mX12_keepPrimer w Q 34 [(0, .ref 390), (1, .int (x1 + (1 : Int32)))] (uI (uI (uI σ 391 x1.toNatClampNeg (gI σ 404 x1.toNatClampNeg)) 393 x1.toNatClampNeg (gI σ 406 x1.toNatClampNeg)) 394 x1.toNatClampNeg (gI σ 407 x1.toNatClampNeg))))) :
    AV Γ d mX12_keepPrimer w Q 34 [(0, .ref 390), (1, .int x1)] σ :=
  wp_sound (μ := mX12_keepPrimer) (T := tbX12) (is := isX12_keepPrimer) (sw := swX12_keepPrimer) (cu := cuX12_keepPrimer) tbX12_ok msX12_keepPrimer 30 _ _ _ _ _ _ _ (And.intro (fun q709 => ((h).1 q709)) (fun q709 => And.intro (ok_390 hw) (Exists.intro 391 (And.intro (rf_390_1 hw) (And.intro (ok_390 hw) (Exists.intro 404 (And.intro (rf_390_25 hw) (And.intro (ok_404 hw) (And.intro (vi_404 (((h).2 q709)).1) (And.intro (ok_391 hw) (And.intro (vi_391 ((((h).2 q709)).2).1) (And.intro (ok_390 hw) (Exists.intro 393 (And.intro (rf_390_3 hw) (And.intro (ok_390 hw) (Exists.intro 406 (And.intro (rf_390_27 hw) (And.intro (ok_406 hw) (And.intro (vi_406 (((((h).2 q709)).2).2).1) (And.intro (ok_393 hw) (And.intro (vi_393 ((((((h).2 q709)).2).2).2).1) (And.intro (ok_390 hw) (Exists.intro 394 (And.intro (rf_390_4 hw) (And.intro (ok_390 hw) (Exists.intro 407 (And.intro (rf_390_28 hw) (And.intro (ok_407 hw) (And.intro (vi_407 (((((((h).2 q709)).2).2).2).2).1) (And.intro (ok_394 hw) (And.intro (vi_394 ((((((((h).2 q709)).2).2).2).2).2).1) (((((((((h).2 q709)).2).2).2).2).2).2))))))))))))))))))))))))))))))))
theorem vX12_keepPrimer_84 {Γ : Gx} {d : Nat} {w : Wd} {Q : St → Prop} {σ : St} {x1 : Int32} (hw : RunW w)
    (h : (((80 : Int32) ≤ x1 → AV Γ d mX12_keepPrimer w Q 110 [(0, .ref 390), (1, .int (0 : Int32))] σ) ∧ (¬ (80 : Int32) ≤ x1 → (vp_in x1 80) ∧ (vp_in x1 80) ∧ AV Γ d mX12_keepPrimer w Q 84 [(0, .ref 390), (1, .int (x1 + (1 : Int32)))] (uI σ 392 x1.toNatClampNeg (gI σ 405 x1.toNatClampNeg))))) :
    AV Γ d mX12_keepPrimer w Q 84 [(0, .ref 390), (1, .int x1)] σ :=
  wp_sound (μ := mX12_keepPrimer) (T := tbX12) (is := isX12_keepPrimer) (sw := swX12_keepPrimer) (cu := cuX12_keepPrimer) tbX12_ok msX12_keepPrimer 14 _ _ _ _ _ _ _ (And.intro (fun q710 => ((h).1 q710)) (fun q710 => And.intro (ok_390 hw) (Exists.intro 392 (And.intro (rf_390_2 hw) (And.intro (ok_390 hw) (Exists.intro 405 (And.intro (rf_390_26 hw) (And.intro (ok_405 hw) (And.intro (vi_405 (((h).2 q710)).1) (And.intro (ok_392 hw) (And.intro (vi_392 ((((h).2 q710)).2).1) (((((h).2 q710)).2).2))))))))))))
theorem vX12_keepPrimer_110 {Γ : Gx} {d : Nat} {w : Wd} {Q : St → Prop} {σ : St} {x1 : Int32} (hw : RunW w)
    (h : (((24 : Int32) ≤ x1 → AV Γ d mX12_keepPrimer w Q 148 [(0, .ref 390), (1, .int (0 : Int32))] σ) ∧ (¬ (24 : Int32) ≤ x1 → (vp_in x1 24) ∧ (vp_in x1 24) ∧ (vp_in x1 24) ∧ (vp_in x1 24) ∧ AV Γ d mX12_keepPrimer w Q 110 [(0, .ref 390), (1, .int (x1 + (1 : Int32)))] (uI (uI σ 395 x1.toNatClampNeg (gI σ 408 x1.toNatClampNeg)) 397 x1.toNatClampNeg (gI σ 410 x1.toNatClampNeg))))) :
    AV Γ d mX12_keepPrimer w Q 110 [(0, .ref 390), (1, .int x1)] σ :=
  wp_sound (μ := mX12_keepPrimer) (T := tbX12) (is := isX12_keepPrimer) (sw := swX12_keepPrimer) (cu := cuX12_keepPrimer) tbX12_ok msX12_keepPrimer 22 _ _ _ _ _ _ _ (And.intro (fun q711 => ((h).1 q711)) (fun q711 => And.intro (ok_390 hw) (Exists.intro 395 (And.intro (rf_390_6 hw) (And.intro (ok_390 hw) (Exists.intro 408 (And.intro (rf_390_30 hw) (And.intro (ok_408 hw) (And.intro (vi_408 (((h).2 q711)).1) (And.intro (ok_395 hw) (And.intro (vi_395 ((((h).2 q711)).2).1) (And.intro (ok_390 hw) (Exists.intro 397 (And.intro (rf_390_8 hw) (And.intro (ok_390 hw) (Exists.intro 410 (And.intro (rf_390_32 hw) (And.intro (ok_410 hw) (And.intro (vi_410 (((((h).2 q711)).2).2).1) (And.intro (ok_397 hw) (And.intro (vi_397 ((((((h).2 q711)).2).2).2).1) (((((((h).2 q711)).2).2).2).2))))))))))))))))))))))
theorem vX12_keepPrimer_148 {Γ : Gx} {d : Nat} {w : Wd} {Q : St → Prop} {σ : St} {x1 : Int32} (hw : RunW w)
    (h : (((192 : Int32) ≤ x1 → AV Γ d mX12_keepPrimer w Q 187 [(0, .ref 390), (1, .int (0 : Int32))] σ) ∧ (¬ (192 : Int32) ≤ x1 → (vp_in x1 192) ∧ (vp_in x1 192) ∧ (vp_in x1 192) ∧ (vp_in x1 192) ∧ AV Γ d mX12_keepPrimer w Q 148 [(0, .ref 390), (1, .int (x1 + (1 : Int32)))] (uI (uI σ 396 x1.toNatClampNeg (gI σ 409 x1.toNatClampNeg)) 398 x1.toNatClampNeg (gI σ 411 x1.toNatClampNeg))))) :
    AV Γ d mX12_keepPrimer w Q 148 [(0, .ref 390), (1, .int x1)] σ :=
  wp_sound (μ := mX12_keepPrimer) (T := tbX12) (is := isX12_keepPrimer) (sw := swX12_keepPrimer) (cu := cuX12_keepPrimer) tbX12_ok msX12_keepPrimer 22 _ _ _ _ _ _ _ (And.intro (fun q712 => ((h).1 q712)) (fun q712 => And.intro (ok_390 hw) (Exists.intro 396 (And.intro (rf_390_7 hw) (And.intro (ok_390 hw) (Exists.intro 409 (And.intro (rf_390_31 hw) (And.intro (ok_409 hw) (And.intro (vi_409 (((h).2 q712)).1) (And.intro (ok_396 hw) (And.intro (vi_396 ((((h).2 q712)).2).1) (And.intro (ok_390 hw) (Exists.intro 398 (And.intro (rf_390_9 hw) (And.intro (ok_390 hw) (Exists.intro 411 (And.intro (rf_390_33 hw) (And.intro (ok_411 hw) (And.intro (vi_411 (((((h).2 q712)).2).2).1) (And.intro (ok_398 hw) (And.intro (vi_398 ((((((h).2 q712)).2).2).2).1) (((((((h).2 q712)).2).2).2).2))))))))))))))))))))))
theorem vX12_keepPrimer_187 {Γ : Gx} {d : Nat} {w : Wd} {Q : St → Prop} {σ : St} {x1 : Int32} (hw : RunW w)
    (h : (((21 : Int32) ≤ x1 → AV Γ d mX12_keepPrimer w Q 213 [(0, .ref 390), (1, .int (0 : Int32))] σ) ∧ (¬ (21 : Int32) ≤ x1 → (vp_in x1 21) ∧ (vp_in x1 21) ∧ AV Γ d mX12_keepPrimer w Q 187 [(0, .ref 390), (1, .int (x1 + (1 : Int32)))] (uI σ 399 x1.toNatClampNeg (gI σ 412 x1.toNatClampNeg))))) :
    AV Γ d mX12_keepPrimer w Q 187 [(0, .ref 390), (1, .int x1)] σ :=
  wp_sound (μ := mX12_keepPrimer) (T := tbX12) (is := isX12_keepPrimer) (sw := swX12_keepPrimer) (cu := cuX12_keepPrimer) tbX12_ok msX12_keepPrimer 14 _ _ _ _ _ _ _ (And.intro (fun q713 => ((h).1 q713)) (fun q713 => And.intro (ok_390 hw) (Exists.intro 399 (And.intro (rf_390_11 hw) (And.intro (ok_390 hw) (Exists.intro 412 (And.intro (rf_390_35 hw) (And.intro (ok_412 hw) (And.intro (vi_412 (((h).2 q713)).1) (And.intro (ok_399 hw) (And.intro (vi_399 ((((h).2 q713)).2).1) (((((h).2 q713)).2).2))))))))))))
theorem vX12_keepPrimer_213 {Γ : Gx} {d : Nat} {w : Wd} {Q : St → Prop} {σ : St} {x1 : Int32} (hw : RunW w)
    (h : (((gI σ 390 12) ≤ x1 → Q σ) ∧ (¬ (gI σ 390 12) ≤ x1 → (vp_in x1 8) ∧ (vp_in x1 8) ∧ (vp_in x1 8) ∧ AV Γ d mX12_keepPrimer w Q 242 [(0, .ref 390), (1, .int x1), (2, .int (0 : Int32))] (uI (uI σ 400 x1.toNatClampNeg (gI σ 413 x1.toNatClampNeg)) 402 x1.toNatClampNeg (0 : Int32))))) :
    AV Γ d mX12_keepPrimer w Q 213 [(0, .ref 390), (1, .int x1)] σ :=
  wp_sound (μ := mX12_keepPrimer) (T := tbX12) (is := isX12_keepPrimer) (sw := swX12_keepPrimer) (cu := cuX12_keepPrimer) tbX12_ok msX12_keepPrimer 20 _ _ _ _ _ _ _ (And.intro (ok_390 hw) (And.intro (fun q714 => And.intro rfl (And.intro rfl (And.intro rfl (((h).1 q714))))) (fun q714 => And.intro (ok_390 hw) (Exists.intro 400 (And.intro (rf_390_13 hw) (And.intro (ok_390 hw) (Exists.intro 413 (And.intro (rf_390_37 hw) (And.intro (ok_413 hw) (And.intro (vi_413 (((h).2 q714)).1) (And.intro (ok_400 hw) (And.intro (vi_400 ((((h).2 q714)).2).1) (And.intro (ok_390 hw) (Exists.intro 402 (And.intro (rf_390_15 hw) (And.intro (ok_402 hw) (And.intro (vi_402 (((((h).2 q714)).2).2).1) ((((((h).2 q714)).2).2).2))))))))))))))))))
theorem vX12_keepPrimer_242 {Γ : Gx} {d : Nat} {w : Wd} {Q : St → Prop} {σ : St} {x1 : Int32} {x2 : Int32} (hw : RunW w)
    (h : (vp_in x1 8) ∧ (((gI σ 400 x1.toNatClampNeg) ≤ x2 → AV Γ d mX12_keepPrimer w Q 213 [(0, .ref 390), (1, .int (x1 + (1 : Int32)))] σ) ∧ (¬ (gI σ 400 x1.toNatClampNeg) ≤ x2 → (vp_in (((16 : Int32) * x1) + x2) 128) ∧ (vp_in (((16 : Int32) * x1) + x2) 128) ∧ (vp_in x1 8) ∧ (vp_in (((16 : Int32) * x1) + x2) 128) ∧ (vp_in x1 8) ∧ AV Γ d mX12_keepPrimer w Q 242 [(0, .ref 390), (1, .int x1), (2, .int (x2 + (1 : Int32)))] (uI (uI σ 401 (((16 : Int32) * x1) + x2).toNatClampNeg (gI σ 414 (((16 : Int32) * x1) + x2).toNatClampNeg)) 402 x1.toNatClampNeg ((gI σ 402 x1.toNatClampNeg) ||| ((1 : Int32) <<< ((gI (uI σ 401 (((16 : Int32) * x1) + x2).toNatClampNeg (gI σ 414 (((16 : Int32) * x1) + x2).toNatClampNeg)) 401 (((16 : Int32) * x1) + x2).toNatClampNeg) &&& (31 : Int32)))))))) :
    AV Γ d mX12_keepPrimer w Q 242 [(0, .ref 390), (1, .int x1), (2, .int x2)] σ :=
  wp_sound (μ := mX12_keepPrimer) (T := tbX12) (is := isX12_keepPrimer) (sw := swX12_keepPrimer) (cu := cuX12_keepPrimer) tbX12_ok msX12_keepPrimer 42 _ _ _ _ _ _ _ (And.intro (ok_390 hw) (Exists.intro 400 (And.intro (rf_390_13 hw) (And.intro (ok_400 hw) (And.intro (vi_400 (h).1) (And.intro (fun q715 => (((h).2).1 q715)) (fun q715 => And.intro (ok_390 hw) (Exists.intro 401 (And.intro (rf_390_14 hw) (And.intro (ok_390 hw) (Exists.intro 414 (And.intro (rf_390_38 hw) (And.intro (ok_414 hw) (And.intro (vi_414 ((((h).2).2 q715)).1) (And.intro (ok_401 hw) (And.intro (vi_401 (((((h).2).2 q715)).2).1) (And.intro (ok_390 hw) (Exists.intro 402 (And.intro (rf_390_15 hw) (And.intro (ok_402 hw) (And.intro (vi_402 ((((((h).2).2 q715)).2).2).1) (And.intro (ok_390 hw) (Exists.intro 401 (And.intro (rf_390_14 hw) (And.intro (ok_401 hw) (And.intro (vi_401 (((((((h).2).2 q715)).2).2).2).1) (And.intro (ok_402 hw) (And.intro (vi_402 ((((((((h).2).2 q715)).2).2).2).2).1) (((((((((h).2).2 q715)).2).2).2).2).2)))))))))))))))))))))))))))))
theorem vX12_fault_0 {Γ : Gx} {d : Nat} {w : Wd} {Q : Int32 → St → Prop} {σ : St} (hw : RunW w)
    (h : Q (gI σ 390 18) σ) :
    AI Γ d mX12_fault w Q 0 [(0, .ref 390)] σ :=
  wp_sound (μ := mX12_fault) (T := tbX12) (is := isX12_fault) (sw := swX12_fault) (cu := cuX12_fault) tbX12_ok msX12_fault 4 _ _ _ _ _ _ _ (And.intro (ok_390 hw) (And.intro rfl (And.intro rfl (Exists.intro (gI σ 390 18) (And.intro rfl (h))))))
theorem vX12_isSign_0 {Γ : Gx} {d : Nat} {w : Wd} {Q : Int32 → St → Prop} {σ : St} {x1 : Int32} (hw : RunW w)
    (h : SpI Γ d mX12_in [.long x1.toInt64, .long (0 : Int64), .long (((gI σ 390 0) - (1 : Int32)).toInt64)] σ w (fun v2 s1 => (v2 = 0 ∨ v2 = 1) ∧ Q v2 s1)) :
    AI Γ (d + 1) mX12_isSign w Q 0 [(0, .ref 390), (1, .int x1)] σ :=
  wp_sound (μ := mX12_isSign) (T := tbX12) (is := isX12_isSign) (sw := swX12_isSign) (cu := cuX12_isSign) tbX12_ok msX12_isSign 11 _ _ _ _ _ _ _ (And.intro (ok_390 hw) (And.intro (Nat.le_of_ble_eq_true rfl) (And.intro (Nat.le_of_ble_eq_true rfl) (SpI.mono (h) (fun v2 s1 q723 => And.intro (nb01 (q723).1) (And.intro rfl (Exists.intro v2 (And.intro rfl ((q723).2)))))))))
theorem vX12_areSigns_0 {Γ : Gx} {d : Nat} {w : Wd} {Q : Int32 → St → Prop} {σ : St} {x1 : Int32} (hw : RunW w)
    (h : SpI Γ d mX12_in [.long x1.toInt64, .long (0 : Int64), .long ((((1 : Int32) <<< ((gI σ 390 0) &&& (31 : Int32))) - (1 : Int32)).toInt64)] σ w (fun v2 s1 => (v2 = 0 ∨ v2 = 1) ∧ Q v2 s1)) :
    AI Γ (d + 1) mX12_areSigns w Q 0 [(0, .ref 390), (1, .int x1)] σ :=
  wp_sound (μ := mX12_areSigns) (T := tbX12) (is := isX12_areSigns) (sw := swX12_areSigns) (cu := cuX12_areSigns) tbX12_ok msX12_areSigns 13 _ _ _ _ _ _ _ (And.intro (ok_390 hw) (And.intro (Nat.le_of_ble_eq_true rfl) (And.intro (Nat.le_of_ble_eq_true rfl) (SpI.mono (h) (fun v2 s1 q725 => And.intro (nb01 (q725).1) (And.intro rfl (Exists.intro v2 (And.intro rfl ((q725).2)))))))))
theorem vX12_isWord_0 {Γ : Gx} {d : Nat} {w : Wd} {Q : Int32 → St → Prop} {σ : St} {x1 : Int32} (hw : RunW w)
    (h : SpI Γ d mX12_in [.long x1.toInt64, .long (0 : Int64), .long (((gI σ 390 5) - (1 : Int32)).toInt64)] σ w (fun v2 s1 => (v2 = 0 ∨ v2 = 1) ∧ Q v2 s1)) :
    AI Γ (d + 1) mX12_isWord w Q 0 [(0, .ref 390), (1, .int x1)] σ :=
  wp_sound (μ := mX12_isWord) (T := tbX12) (is := isX12_isWord) (sw := swX12_isWord) (cu := cuX12_isWord) tbX12_ok msX12_isWord 11 _ _ _ _ _ _ _ (And.intro (ok_390 hw) (And.intro (Nat.le_of_ble_eq_true rfl) (And.intro (Nat.le_of_ble_eq_true rfl) (SpI.mono (h) (fun v2 s1 q727 => And.intro (nb01 (q727).1) (And.intro rfl (Exists.intro v2 (And.intro rfl ((q727).2)))))))))
theorem vX12_isLesson_0 {Γ : Gx} {d : Nat} {w : Wd} {Q : Int32 → St → Prop} {σ : St} {x1 : Int32} (hw : RunW w)
    (h : SpI Γ d mX12_in [.long x1.toInt64, .long (0 : Int64), .long (((gI σ 390 10) - (1 : Int32)).toInt64)] σ w (fun v2 s1 => (v2 = 0 ∨ v2 = 1) ∧ Q v2 s1)) :
    AI Γ (d + 1) mX12_isLesson w Q 0 [(0, .ref 390), (1, .int x1)] σ :=
  wp_sound (μ := mX12_isLesson) (T := tbX12) (is := isX12_isLesson) (sw := swX12_isLesson) (cu := cuX12_isLesson) tbX12_ok msX12_isLesson 11 _ _ _ _ _ _ _ (And.intro (ok_390 hw) (And.intro (Nat.le_of_ble_eq_true rfl) (And.intro (Nat.le_of_ble_eq_true rfl) (SpI.mono (h) (fun v2 s1 q729 => And.intro (nb01 (q729).1) (And.intro rfl (Exists.intro v2 (And.intro rfl ((q729).2)))))))))
theorem vX12_isPage_0 {Γ : Gx} {d : Nat} {w : Wd} {Q : Int32 → St → Prop} {σ : St} {x1 : Int32} (hw : RunW w)
    (h : SpI Γ d mX12_in [.long x1.toInt64, .long (0 : Int64), .long (((gI σ 390 12) - (1 : Int32)).toInt64)] σ w (fun v2 s1 => (v2 = 0 ∨ v2 = 1) ∧ Q v2 s1)) :
    AI Γ (d + 1) mX12_isPage w Q 0 [(0, .ref 390), (1, .int x1)] σ :=
  wp_sound (μ := mX12_isPage) (T := tbX12) (is := isX12_isPage) (sw := swX12_isPage) (cu := cuX12_isPage) tbX12_ok msX12_isPage 11 _ _ _ _ _ _ _ (And.intro (ok_390 hw) (And.intro (Nat.le_of_ble_eq_true rfl) (And.intro (Nat.le_of_ble_eq_true rfl) (SpI.mono (h) (fun v2 s1 q731 => And.intro (nb01 (q731).1) (And.intro rfl (Exists.intro v2 (And.intro rfl ((q731).2)))))))))
theorem vX12_sign_0 {Γ : Gx} {d : Nat} {w : Wd} {Q : Int32 → St → Prop} {σ : St} {x1 : Int32} {x2 : Int32} (hw : RunW w)
    (h : SpI Γ d mX12_isSign [.ref 390, .int x1] σ w (fun v2 s1 => ((¬ v2 = (0 : Int32) → ((x2 = (0 : Int32) → (vp_in x1 20) ∧ Q (gI s1 391 x1.toNatClampNeg) s1) ∧ (¬ x2 = (0 : Int32) → ((x2 = (1 : Int32) → (vp_in x1 20) ∧ Q (gI s1 393 x1.toNatClampNeg) s1) ∧ (¬ x2 = (1 : Int32) → ((x2 = (2 : Int32) → (vp_in x1 20) ∧ Q (gI s1 394 x1.toNatClampNeg) s1) ∧ (¬ x2 = (2 : Int32) → SpI Γ d mX12_in [.long x2.toInt64, .long (3 : Int64), .long (6 : Int64)] s1 w (fun v4 s3 => ((¬ v4 = (0 : Int32) → (vp_in x1 20) ∧ (((gI s3 391 x1.toNatClampNeg) ≤ (x2 - (3 : Int32)) → Q (-1 : Int32) s3) ∧ (¬ (gI s3 391 x1.toNatClampNeg) ≤ (x2 - (3 : Int32)) → (vp_in ((((4 : Int32) * x1) + x2) - (3 : Int32)) 80) ∧ Q (gI s3 392 ((((4 : Int32) * x1) + x2) - (3 : Int32)).toNatClampNeg) s3))) ∧ (v4 = (0 : Int32) → Q (-1002 : Int32) s3)))))))))) ∧ (v2 = (0 : Int32) → Q (-1001 : Int32) s1)))) :
    AI Γ (d + 1) mX12_sign w Q 0 [(0, .ref 390), (1, .int x1), (2, .int x2)] σ :=
  wp_sound (μ := mX12_sign) (T := tbX12) (is := isX12_sign) (sw := swX12_sign) (cu := cuX12_sign) tbX12_ok msX12_sign 33 _ _ _ _ _ _ _ (And.intro (ok_390 hw) (And.intro (Nat.le_of_ble_eq_true rfl) (SpI.mono (h) (fun v2 s1 q740 => And.intro (fun q739 => And.intro (fun q738 => And.intro (ok_390 hw) (Exists.intro 391 (And.intro (rf_390_1 hw) (And.intro (ok_391 hw) (And.intro (vi_391 (((((q740).1 q739)).1 q738)).1) (And.intro rfl (And.intro rfl (Exists.intro (gI s1 391 x1.toNatClampNeg) (And.intro rfl ((((((q740).1 q739)).1 q738)).2)))))))))) (fun q738 => And.intro (fun q737 => And.intro (ok_390 hw) (Exists.intro 393 (And.intro (rf_390_3 hw) (And.intro (ok_393 hw) (And.intro (vi_393 (((((((q740).1 q739)).2 q738)).1 q737)).1) (And.intro rfl (And.intro rfl (Exists.intro (gI s1 393 x1.toNatClampNeg) (And.intro rfl ((((((((q740).1 q739)).2 q738)).1 q737)).2)))))))))) (fun q737 => And.intro (fun q736 => And.intro (ok_390 hw) (Exists.intro 394 (And.intro (rf_390_4 hw) (And.intro (ok_394 hw) (And.intro (vi_394 (((((((((q740).1 q739)).2 q738)).2 q737)).1 q736)).1) (And.intro rfl (And.intro rfl (Exists.intro (gI s1 394 x1.toNatClampNeg) (And.intro rfl ((((((((((q740).1 q739)).2 q738)).2 q737)).1 q736)).2)))))))))) (fun q736 => And.intro (Nat.le_of_ble_eq_true rfl) (And.intro (Nat.le_of_ble_eq_true rfl) (SpI.mono (((((((((q740).1 q739)).2 q738)).2 q737)).2 q736)) (fun v4 s3 q735 => And.intro (fun q734 => And.intro (ok_390 hw) (Exists.intro 391 (And.intro (rf_390_1 hw) (And.intro (ok_391 hw) (And.intro (vi_391 (((q735).1 q734)).1) (And.intro (fun q733 => And.intro rfl (And.intro rfl (Exists.intro (-1 : Int32) (And.intro rfl ((((((q735).1 q734)).2).1 q733)))))) (fun q733 => And.intro (ok_390 hw) (Exists.intro 392 (And.intro (rf_390_2 hw) (And.intro (ok_392 hw) (And.intro (vi_392 ((((((q735).1 q734)).2).2 q733)).1) (And.intro rfl (And.intro rfl (Exists.intro (gI s3 392 ((((4 : Int32) * x1) + x2) - (3 : Int32)).toNatClampNeg) (And.intro rfl (((((((q735).1 q734)).2).2 q733)).2)))))))))))))))) (fun q734 => And.intro rfl (And.intro rfl (Exists.intro (-1002 : Int32) (And.intro rfl (((q735).2 q734))))))))))))) (fun q739 => And.intro rfl (And.intro rfl (Exists.intro (-1001 : Int32) (And.intro rfl (((q740).2 q739))))))))))
theorem vX12_word_0 {Γ : Gx} {d : Nat} {w : Wd} {Q : Int32 → St → Prop} {σ : St} {x1 : Int32} {x2 : Int32} (hw : RunW w)
    (h : SpI Γ d mX12_isWord [.ref 390, .int x1] σ w (fun v2 s1 => ((¬ v2 = (0 : Int32) → ((x2 = (0 : Int32) → ((¬ x2 = (0 : Int32) → (vp_in x1 24) ∧ Q (gI s1 397 x1.toNatClampNeg) s1) ∧ (x2 = (0 : Int32) → (vp_in x1 24) ∧ Q (gI s1 395 x1.toNatClampNeg) s1))) ∧ (¬ x2 = (0 : Int32) → ((¬ x2 = (1 : Int32) → SpI Γ d mX12_in [.long x2.toInt64, .long (2 : Int64), .long (9 : Int64)] s1 w (fun v4 s3 => ((v4 = (0 : Int32) → SpI Γ d mX12_in [.long x2.toInt64, .long (10 : Int64), .long (17 : Int64)] s3 w (fun v6 s5 => ((¬ v6 = (0 : Int32) → (vp_in x1 24) ∧ (((gI s5 397 x1.toNatClampNeg) ≤ (x2 - (10 : Int32)) → Q (-1 : Int32) s5) ∧ (¬ (gI s5 397 x1.toNatClampNeg) ≤ (x2 - (10 : Int32)) → (vp_in ((((8 : Int32) * x1) + x2) - (10 : Int32)) 192) ∧ Q (gI s5 398 ((((8 : Int32) * x1) + x2) - (10 : Int32)).toNatClampNeg) s5))) ∧ (v6 = (0 : Int32) → Q (-1002 : Int32) s5)))) ∧ (¬ v4 = (0 : Int32) → (vp_in x1 24) ∧ (((gI s3 395 x1.toNatClampNeg) ≤ (x2 - (2 : Int32)) → Q (-1 : Int32) s3) ∧ (¬ (gI s3 395 x1.toNatClampNeg) ≤ (x2 - (2 : Int32)) → (vp_in ((((8 : Int32) * x1) + x2) - (2 : Int32)) 192) ∧ Q (gI s3 396 ((((8 : Int32) * x1) + x2) - (2 : Int32)).toNatClampNeg) s3)))))) ∧ (x2 = (1 : Int32) → ((¬ x2 = (0 : Int32) → (vp_in x1 24) ∧ Q (gI s1 397 x1.toNatClampNeg) s1) ∧ (x2 = (0 : Int32) → (vp_in x1 24) ∧ Q (gI s1 395 x1.toNatClampNeg) s1))))))) ∧ (v2 = (0 : Int32) → Q (-1001 : Int32) s1)))) :
    AI Γ (d + 1) mX12_word w Q 0 [(0, .ref 390), (1, .int x1), (2, .int x2)] σ :=
  wp_sound (μ := mX12_word) (T := tbX12) (is := isX12_word) (sw := swX12_word) (cu := cuX12_word) tbX12_ok msX12_word 42 _ _ _ _ _ _ _ (And.intro (ok_390 hw) (And.intro (Nat.le_of_ble_eq_true rfl) (SpI.mono (h) (fun v2 s1 q760 => And.intro (fun q759 => And.intro (fun q758 => And.intro (fun q749 => And.intro (ok_390 hw) (Exists.intro 397 (And.intro (rf_390_8 hw) (And.intro (ok_397 hw) (And.intro (vi_397 (((((((q760).1 q759)).1 q758)).1 q749)).1) (And.intro rfl (And.intro rfl (Exists.intro (gI s1 397 x1.toNatClampNeg) (And.intro rfl ((((((((q760).1 q759)).1 q758)).1 q749)).2)))))))))) (fun q749 => And.intro (ok_390 hw) (Exists.intro 395 (And.intro (rf_390_6 hw) (And.intro (ok_395 hw) (And.intro (vi_395 (((((((q760).1 q759)).1 q758)).2 q749)).1) (And.intro rfl (And.intro rfl (Exists.intro (gI s1 395 x1.toNatClampNeg) (And.intro rfl ((((((((q760).1 q759)).1 q758)).2 q749)).2))))))))))) (fun q758 => And.intro (fun q757 => And.intro (Nat.le_of_ble_eq_true rfl) (And.intro (Nat.le_of_ble_eq_true rfl) (SpI.mono (((((((q760).1 q759)).2 q758)).1 q757)) (fun v4 s3 q755 => And.intro (fun q754 => And.intro (Nat.le_of_ble_eq_true rfl) (And.intro (Nat.le_of_ble_eq_true rfl) (SpI.mono (((q755).1 q754)) (fun v6 s5 q752 => And.intro (fun q751 => And.intro (ok_390 hw) (Exists.intro 397 (And.intro (rf_390_8 hw) (And.intro (ok_397 hw) (And.intro (vi_397 (((q752).1 q751)).1) (And.intro (fun q750 => And.intro rfl (And.intro rfl (Exists.intro (-1 : Int32) (And.intro rfl ((((((q752).1 q751)).2).1 q750)))))) (fun q750 => And.intro (ok_390 hw) (Exists.intro 398 (And.intro (rf_390_9 hw) (And.intro (ok_398 hw) (And.intro (vi_398 ((((((q752).1 q751)).2).2 q750)).1) (And.intro rfl (And.intro rfl (Exists.intro (gI s5 398 ((((8 : Int32) * x1) + x2) - (10 : Int32)).toNatClampNeg) (And.intro rfl (((((((q752).1 q751)).2).2 q750)).2)))))))))))))))) (fun q751 => And.intro rfl (And.intro rfl (Exists.intro (-1002 : Int32) (And.intro rfl (((q752).2 q751)))))))))) (fun q754 => And.intro (ok_390 hw) (Exists.intro 395 (And.intro (rf_390_6 hw) (And.intro (ok_395 hw) (And.intro (vi_395 (((q755).2 q754)).1) (And.intro (fun q753 => And.intro rfl (And.intro rfl (Exists.intro (-1 : Int32) (And.intro rfl ((((((q755).2 q754)).2).1 q753)))))) (fun q753 => And.intro (ok_390 hw) (Exists.intro 396 (And.intro (rf_390_7 hw) (And.intro (ok_396 hw) (And.intro (vi_396 ((((((q755).2 q754)).2).2 q753)).1) (And.intro rfl (And.intro rfl (Exists.intro (gI s3 396 ((((8 : Int32) * x1) + x2) - (2 : Int32)).toNatClampNeg) (And.intro rfl (((((((q755).2 q754)).2).2 q753)).2)))))))))))))))))))) (fun q757 => And.intro (fun q756 => And.intro (ok_390 hw) (Exists.intro 397 (And.intro (rf_390_8 hw) (And.intro (ok_397 hw) (And.intro (vi_397 (((((((((q760).1 q759)).2 q758)).2 q757)).1 q756)).1) (And.intro rfl (And.intro rfl (Exists.intro (gI s1 397 x1.toNatClampNeg) (And.intro rfl ((((((((((q760).1 q759)).2 q758)).2 q757)).1 q756)).2)))))))))) (fun q756 => And.intro (ok_390 hw) (Exists.intro 395 (And.intro (rf_390_6 hw) (And.intro (ok_395 hw) (And.intro (vi_395 (((((((((q760).1 q759)).2 q758)).2 q757)).2 q756)).1) (And.intro rfl (And.intro rfl (Exists.intro (gI s1 395 x1.toNatClampNeg) (And.intro rfl ((((((((((q760).1 q759)).2 q758)).2 q757)).2 q756)).2))))))))))))) (fun q759 => And.intro rfl (And.intro rfl (Exists.intro (-1001 : Int32) (And.intro rfl (((q760).2 q759))))))))))
theorem vX12_lesson_0 {Γ : Gx} {d : Nat} {w : Wd} {Q : Int32 → St → Prop} {σ : St} {x1 : Int32} {x2 : Int32} (hw : RunW w)
    (h : SpI Γ d mX12_isLesson [.ref 390, .int x1] σ w (fun v2 s1 => ((¬ v2 = (0 : Int32) → SpI Γ d mX12_in [.long x2.toInt64, .long (0 : Int64), .long (2 : Int64)] s1 w (fun v4 s3 => ((v4 = (0 : Int32) → Q (-1002 : Int32) s3) ∧ (¬ v4 = (0 : Int32) → (vp_in (((3 : Int32) * x1) + x2) 21) ∧ Q (gI s3 399 (((3 : Int32) * x1) + x2).toNatClampNeg) s3)))) ∧ (v2 = (0 : Int32) → Q (-1001 : Int32) s1)))) :
    AI Γ (d + 1) mX12_lesson w Q 0 [(0, .ref 390), (1, .int x1), (2, .int x2)] σ :=
  wp_sound (μ := mX12_lesson) (T := tbX12) (is := isX12_lesson) (sw := swX12_lesson) (cu := cuX12_lesson) tbX12_ok msX12_lesson 21 _ _ _ _ _ _ _ (And.intro (ok_390 hw) (And.intro (Nat.le_of_ble_eq_true rfl) (SpI.mono (h) (fun v2 s1 q776 => And.intro (fun q775 => And.intro (Nat.le_of_ble_eq_true rfl) (And.intro (Nat.le_of_ble_eq_true rfl) (SpI.mono (((q776).1 q775)) (fun v4 s3 q774 => And.intro (fun q773 => And.intro rfl (And.intro rfl (Exists.intro (-1002 : Int32) (And.intro rfl (((q774).1 q773)))))) (fun q773 => And.intro (ok_390 hw) (Exists.intro 399 (And.intro (rf_390_11 hw) (And.intro (ok_399 hw) (And.intro (vi_399 (((q774).2 q773)).1) (And.intro rfl (And.intro rfl (Exists.intro (gI s3 399 (((3 : Int32) * x1) + x2).toNatClampNeg) (And.intro rfl ((((q774).2 q773)).2)))))))))))))) (fun q775 => And.intro rfl (And.intro rfl (Exists.intro (-1001 : Int32) (And.intro rfl (((q776).2 q775))))))))))
theorem vX12_page_0 {Γ : Gx} {d : Nat} {w : Wd} {Q : Int32 → St → Prop} {σ : St} {x1 : Int32} {x2 : Int32} (hw : RunW w)
    (h : SpI Γ d mX12_isPage [.ref 390, .int x1] σ w (fun v2 s1 => ((¬ v2 = (0 : Int32) → ((¬ x2 = (-1 : Int32) → SpI Γ d mX12_in [.long x2.toInt64, .long (0 : Int64), .long (15 : Int64)] s1 w (fun v4 s3 => ((¬ v4 = (0 : Int32) → (vp_in x1 8) ∧ (((gI s3 400 x1.toNatClampNeg) ≤ x2 → Q (-1 : Int32) s3) ∧ (¬ (gI s3 400 x1.toNatClampNeg) ≤ x2 → (vp_in (((16 : Int32) * x1) + x2) 128) ∧ Q (gI s3 401 (((16 : Int32) * x1) + x2).toNatClampNeg) s3))) ∧ (v4 = (0 : Int32) → Q (-1002 : Int32) s3)))) ∧ (x2 = (-1 : Int32) → (vp_in x1 8) ∧ Q (gI s1 402 x1.toNatClampNeg) s1))) ∧ (v2 = (0 : Int32) → Q (-1001 : Int32) s1)))) :
    AI Γ (d + 1) mX12_page w Q 0 [(0, .ref 390), (1, .int x1), (2, .int x2)] σ :=
  wp_sound (μ := mX12_page) (T := tbX12) (is := isX12_page) (sw := swX12_page) (cu := cuX12_page) tbX12_ok msX12_page 30 _ _ _ _ _ _ _ (And.intro (ok_390 hw) (And.intro (Nat.le_of_ble_eq_true rfl) (SpI.mono (h) (fun v2 s1 q786 => And.intro (fun q785 => And.intro (fun q784 => And.intro (Nat.le_of_ble_eq_true rfl) (And.intro (Nat.le_of_ble_eq_true rfl) (SpI.mono (((((q786).1 q785)).1 q784)) (fun v4 s3 q783 => And.intro (fun q782 => And.intro (ok_390 hw) (Exists.intro 400 (And.intro (rf_390_13 hw) (And.intro (ok_400 hw) (And.intro (vi_400 (((q783).1 q782)).1) (And.intro (fun q781 => And.intro rfl (And.intro rfl (Exists.intro (-1 : Int32) (And.intro rfl ((((((q783).1 q782)).2).1 q781)))))) (fun q781 => And.intro (ok_390 hw) (Exists.intro 401 (And.intro (rf_390_14 hw) (And.intro (ok_401 hw) (And.intro (vi_401 ((((((q783).1 q782)).2).2 q781)).1) (And.intro rfl (And.intro rfl (Exists.intro (gI s3 401 (((16 : Int32) * x1) + x2).toNatClampNeg) (And.intro rfl (((((((q783).1 q782)).2).2 q781)).2)))))))))))))))) (fun q782 => And.intro rfl (And.intro rfl (Exists.intro (-1002 : Int32) (And.intro rfl (((q783).2 q782)))))))))) (fun q784 => And.intro (ok_390 hw) (Exists.intro 402 (And.intro (rf_390_15 hw) (And.intro (ok_402 hw) (And.intro (vi_402 (((((q786).1 q785)).2 q784)).1) (And.intro rfl (And.intro rfl (Exists.intro (gI s1 402 x1.toNatClampNeg) (And.intro rfl ((((((q786).1 q785)).2 q784)).2))))))))))) (fun q785 => And.intro rfl (And.intro rfl (Exists.intro (-1001 : Int32) (And.intro rfl (((q786).2 q785))))))))))
theorem vX12_count_0 {Γ : Gx} {d : Nat} {w : Wd} {Q : Int32 → St → Prop} {σ : St} {x1 : Int32} (hw : RunW w)
    (h : ((x1 = (0 : Int32) → Q (gI σ 390 0) σ) ∧ (¬ x1 = (0 : Int32) → ((x1 = (1 : Int32) → Q (gI σ 390 5) σ) ∧ (¬ x1 = (1 : Int32) → ((x1 = (2 : Int32) → Q (gI σ 390 10) σ) ∧ (¬ x1 = (2 : Int32) → ((x1 = (3 : Int32) → Q (gI σ 390 12) σ) ∧ (¬ x1 = (3 : Int32) → ((x1 = (4 : Int32) → Q (gI σ 390 17) σ) ∧ (¬ x1 = (4 : Int32) → ((x1 = (5 : Int32) → Q (gI σ 390 47) σ) ∧ (¬ x1 = (5 : Int32) → Q (-1002 : Int32) σ))))))))))))) :
    AI Γ d mX12_count w Q 0 [(0, .ref 390), (1, .int x1)] σ :=
  wp_sound (μ := mX12_count) (T := tbX12) (is := isX12_count) (sw := swX12_count) (cu := cuX12_count) tbX12_ok msX12_count 6 _ _ _ _ _ _ _ (And.intro (fun q798 => And.intro (ok_390 hw) (And.intro rfl (And.intro rfl (Exists.intro (gI σ 390 0) (And.intro rfl (((h).1 q798))))))) (fun q798 => And.intro (fun q797 => And.intro (ok_390 hw) (And.intro rfl (And.intro rfl (Exists.intro (gI σ 390 5) (And.intro rfl (((((h).2 q798)).1 q797))))))) (fun q797 => And.intro (fun q796 => And.intro (ok_390 hw) (And.intro rfl (And.intro rfl (Exists.intro (gI σ 390 10) (And.intro rfl (((((((h).2 q798)).2 q797)).1 q796))))))) (fun q796 => And.intro (fun q795 => And.intro (ok_390 hw) (And.intro rfl (And.intro rfl (Exists.intro (gI σ 390 12) (And.intro rfl (((((((((h).2 q798)).2 q797)).2 q796)).1 q795))))))) (fun q795 => And.intro (fun q794 => And.intro (ok_390 hw) (And.intro rfl (And.intro rfl (Exists.intro (gI σ 390 17) (And.intro rfl (((((((((((h).2 q798)).2 q797)).2 q796)).2 q795)).1 q794))))))) (fun q794 => And.intro (fun q793 => And.intro (ok_390 hw) (And.intro rfl (And.intro rfl (Exists.intro (gI σ 390 47) (And.intro rfl (((((((((((((h).2 q798)).2 q797)).2 q796)).2 q795)).2 q794)).1 q793))))))) (fun q793 => And.intro rfl (And.intro rfl (Exists.intro (-1002 : Int32) (And.intro rfl (((((((((((((h).2 q798)).2 q797)).2 q796)).2 q795)).2 q794)).2 q793))))))))))))
theorem vX12_isFit_0 {Γ : Gx} {d : Nat} {w : Wd} {Q : Int32 → St → Prop} {σ : St} {x1 : Int32} {x2 : Int32} {x3 : Int32} (hw : RunW w)
    (h : (vp_in x1 20) ∧ (vp_in x2 24) ∧ (((gI σ 395 x2.toNatClampNeg) < (x3 + (gI σ 391 x1.toNatClampNeg)) → AI Γ d mX12_isFit w Q 66 [(0, .ref 390), (1, .int x1), (2, .int x2), (3, .int x3), (5, .int (0 : Int32)), (6, .int (0 : Int32))] σ) ∧ (¬ (gI σ 395 x2.toNatClampNeg) < (x3 + (gI σ 391 x1.toNatClampNeg)) → (vp_in x1 20) ∧ ((¬ (gI σ 394 x1.toNatClampNeg) = (1 : Int32) → (vp_in x1 20) ∧ ((¬ (gI σ 394 x1.toNatClampNeg) = (2 : Int32) → AI Γ d mX12_isFit w Q 66 [(0, .ref 390), (1, .int x1), (2, .int x2), (3, .int x3), (5, .int (1 : Int32)), (6, .int (0 : Int32))] σ) ∧ ((gI σ 394 x1.toNatClampNeg) = (2 : Int32) → (vp_in x2 24) ∧ ((¬ (x3 + (gI σ 391 x1.toNatClampNeg)) = (gI σ 395 x2.toNatClampNeg) → AI Γ d mX12_isFit w Q 66 [(0, .ref 390), (1, .int x1), (2, .int x2), (3, .int x3), (5, .int (0 : Int32)), (6, .int (0 : Int32))] σ) ∧ ((x3 + (gI σ 391 x1.toNatClampNeg)) = (gI σ 395 x2.toNatClampNeg) → AI Γ d mX12_isFit w Q 66 [(0, .ref 390), (1, .int x1), (2, .int x2), (3, .int x3), (5, .int (1 : Int32)), (6, .int (0 : Int32))] σ))))) ∧ ((gI σ 394 x1.toNatClampNeg) = (1 : Int32) → ((¬ x3 = (0 : Int32) → AI Γ d mX12_isFit w Q 66 [(0, .ref 390), (1, .int x1), (2, .int x2), (3, .int x3), (5, .int (0 : Int32)), (6, .int (0 : Int32))] σ) ∧ (x3 = (0 : Int32) → (vp_in x1 20) ∧ ((¬ (gI σ 394 x1.toNatClampNeg) = (2 : Int32) → AI Γ d mX12_isFit w Q 66 [(0, .ref 390), (1, .int x1), (2, .int x2), (3, .int x3), (5, .int (1 : Int32)), (6, .int (0 : Int32))] σ) ∧ ((gI σ 394 x1.toNatClampNeg) = (2 : Int32) → (vp_in x2 24) ∧ ((¬ (x3 + (gI σ 391 x1.toNatClampNeg)) = (gI σ 395 x2.toNatClampNeg) → AI Γ d mX12_isFit w Q 66 [(0, .ref 390), (1, .int x1), (2, .int x2), (3, .int x3), (5, .int (0 : Int32)), (6, .int (0 : Int32))] σ) ∧ ((x3 + (gI σ 391 x1.toNatClampNeg)) = (gI σ 395 x2.toNatClampNeg) → AI Γ d mX12_isFit w Q 66 [(0, .ref 390), (1, .int x1), (2, .int x2), (3, .int x3), (5, .int (1 : Int32)), (6, .int (0 : Int32))] σ))))))))))) :
    AI Γ d mX12_isFit w Q 0 [(0, .ref 390), (1, .int x1), (2, .int x2), (3, .int x3)] σ :=
  wp_sound (μ := mX12_isFit) (T := tbX12) (is := isX12_isFit) (sw := swX12_isFit) (cu := cuX12_isFit) tbX12_ok msX12_isFit 39 _ _ _ _ _ _ _ (And.intro (ok_390 hw) (Exists.intro 391 (And.intro (rf_390_1 hw) (And.intro (ok_391 hw) (And.intro (vi_391 (h).1) (And.intro (ok_390 hw) (Exists.intro 395 (And.intro (rf_390_6 hw) (And.intro (ok_395 hw) (And.intro (vi_395 ((h).2).1) (And.intro (fun q809 => ((((h).2).2).1 q809)) (fun q809 => And.intro (ok_390 hw) (Exists.intro 394 (And.intro (rf_390_4 hw) (And.intro (ok_394 hw) (And.intro (vi_394 (((((h).2).2).2 q809)).1) (And.intro (fun q808 => And.intro (ok_390 hw) (Exists.intro 394 (And.intro (rf_390_4 hw) (And.intro (ok_394 hw) (And.intro (vi_394 ((((((((h).2).2).2 q809)).2).1 q808)).1) (And.intro (fun q805 => ((((((((((h).2).2).2 q809)).2).1 q808)).2).1 q805)) (fun q805 => And.intro (ok_390 hw) (Exists.intro 395 (And.intro (rf_390_6 hw) (And.intro (ok_395 hw) (And.intro (vi_395 (((((((((((h).2).2).2 q809)).2).1 q808)).2).2 q805)).1) ((((((((((((h).2).2).2 q809)).2).1 q808)).2).2 q805)).2)))))))))))) (fun q808 => And.intro (fun q807 => (((((((((h).2).2).2 q809)).2).2 q808)).1 q807)) (fun q807 => And.intro (ok_390 hw) (Exists.intro 394 (And.intro (rf_390_4 hw) (And.intro (ok_394 hw) (And.intro (vi_394 ((((((((((h).2).2).2 q809)).2).2 q808)).2 q807)).1) (And.intro (fun q806 => ((((((((((((h).2).2).2 q809)).2).2 q808)).2 q807)).2).1 q806)) (fun q806 => And.intro (ok_390 hw) (Exists.intro 395 (And.intro (rf_390_6 hw) (And.intro (ok_395 hw) (And.intro (vi_395 (((((((((((((h).2).2).2 q809)).2).2 q808)).2 q807)).2).2 q806)).1) ((((((((((((((h).2).2).2 q809)).2).2 q808)).2 q807)).2).2 q806)).2))))))))))))))))))))))))))))))
theorem vX12_isFit_66 {Γ : Gx} {d : Nat} {w : Wd} {Q : Int32 → St → Prop} {σ : St} {x1 : Int32} {x2 : Int32} {x3 : Int32} {x5 : Int32} {x6 : Int32} (hw : RunW w)
    (h : (vp_in x1 20) ∧ (((gI σ 391 x1.toNatClampNeg) ≤ x6 → (x5 = 0 ∨ x5 = 1) ∧ Q x5 σ) ∧ (¬ (gI σ 391 x1.toNatClampNeg) ≤ x6 → ((x5 = (0 : Int32) → (x5 = 0 ∨ x5 = 1) ∧ Q x5 σ) ∧ (¬ x5 = (0 : Int32) → (vp_in ((((8 : Int32) * x2) + x3) + x6) 192) ∧ (vp_in (((4 : Int32) * x1) + x6) 80) ∧ ((¬ (gI σ 396 ((((8 : Int32) * x2) + x3) + x6).toNatClampNeg) = (gI σ 392 (((4 : Int32) * x1) + x6).toNatClampNeg) → AI Γ d mX12_isFit w Q 66 [(0, .ref 390), (1, .int x1), (2, .int x2), (3, .int x3), (5, .int (0 : Int32)), (6, .int (x6 + (1 : Int32)))] σ) ∧ ((gI σ 396 ((((8 : Int32) * x2) + x3) + x6).toNatClampNeg) = (gI σ 392 (((4 : Int32) * x1) + x6).toNatClampNeg) → AI Γ d mX12_isFit w Q 66 [(0, .ref 390), (1, .int x1), (2, .int x2), (3, .int x3), (5, .int (1 : Int32)), (6, .int (x6 + (1 : Int32)))] σ))))))) :
    AI Γ d mX12_isFit w Q 66 [(0, .ref 390), (1, .int x1), (2, .int x2), (3, .int x3), (5, .int x5), (6, .int x6)] σ :=
  wp_sound (μ := mX12_isFit) (T := tbX12) (is := isX12_isFit) (sw := swX12_isFit) (cu := cuX12_isFit) tbX12_ok msX12_isFit 33 _ _ _ _ _ _ _ (And.intro (ok_390 hw) (Exists.intro 391 (And.intro (rf_390_1 hw) (And.intro (ok_391 hw) (And.intro (vi_391 (h).1) (And.intro (fun q811 => And.intro (nb01 ((((h).2).1 q811)).1) (And.intro rfl (Exists.intro x5 (And.intro rfl (((((h).2).1 q811)).2))))) (fun q811 => And.intro (fun q810 => And.intro (nb01 ((((((h).2).2 q811)).1 q810)).1) (And.intro rfl (Exists.intro x5 (And.intro rfl (((((((h).2).2 q811)).1 q810)).2))))) (fun q810 => And.intro (ok_390 hw) (Exists.intro 396 (And.intro (rf_390_7 hw) (And.intro (ok_396 hw) (And.intro (vi_396 ((((((h).2).2 q811)).2 q810)).1) (And.intro (ok_390 hw) (Exists.intro 392 (And.intro (rf_390_2 hw) (And.intro (ok_392 hw) (And.intro (vi_392 (((((((h).2).2 q811)).2 q810)).2).1) ((((((((h).2).2 q811)).2 q810)).2).2))))))))))))))))))
theorem vX12_fits_0 {Γ : Gx} {d : Nat} {w : Wd} {Q : Int32 → St → Prop} {σ : St} {x1 : Int32} {x2 : Int32} {x3 : Int32} (hw : RunW w)
    (h : SpI Γ d mX12_isSign [.ref 390, .int x1] σ w (fun v2 s1 => ((v2 = (0 : Int32) → Q (-1001 : Int32) s1) ∧ (¬ v2 = (0 : Int32) → SpI Γ d mX12_isWord [.ref 390, .int x2] s1 w (fun v4 s3 => ((¬ v4 = (0 : Int32) → (vp_in x2 24) ∧ SpI Γ d mX12_in [.long x3.toInt64, .long (0 : Int64), .long (((gI s3 395 x2.toNatClampNeg) - (1 : Int32)).toInt64)] s3 w (fun v6 s5 => ((¬ v6 = (0 : Int32) → SpI Γ d mX12_isFit [.ref 390, .int x1, .int x2, .int x3] s5 w (fun v8 s7 => ((v8 = (0 : Int32) → Q (0 : Int32) s7) ∧ (¬ v8 = (0 : Int32) → Q (1 : Int32) s7)))) ∧ (v6 = (0 : Int32) → Q (-1002 : Int32) s5)))) ∧ (v4 = (0 : Int32) → Q (-1001 : Int32) s3))))))) :
    AI Γ (d + 1) mX12_fits w Q 0 [(0, .ref 390), (1, .int x1), (2, .int x2), (3, .int x3)] σ :=
  wp_sound (μ := mX12_fits) (T := tbX12) (is := isX12_fits) (sw := swX12_fits) (cu := cuX12_fits) tbX12_ok msX12_fits 30 _ _ _ _ _ _ _ (And.intro (ok_390 hw) (And.intro (Nat.le_of_ble_eq_true rfl) (SpI.mono (h) (fun v2 s1 q826 => And.intro (fun q825 => And.intro rfl (And.intro rfl (Exists.intro (-1001 : Int32) (And.intro rfl (((q826).1 q825)))))) (fun q825 => And.intro (ok_390 hw) (And.intro (Nat.le_of_ble_eq_true rfl) (SpI.mono (((q826).2 q825)) (fun v4 s3 q824 => And.intro (fun q823 => And.intro (ok_390 hw) (Exists.intro 395 (And.intro (rf_390_6 hw) (And.intro (ok_395 hw) (And.intro (vi_395 (((q824).1 q823)).1) (And.intro (Nat.le_of_ble_eq_true rfl) (And.intro (Nat.le_of_ble_eq_true rfl) (SpI.mono ((((q824).1 q823)).2) (fun v6 s5 q822 => And.intro (fun q821 => And.intro (ok_390 hw) (And.intro (Nat.le_of_ble_eq_true rfl) (SpI.mono (((q822).1 q821)) (fun v8 s7 q820 => And.intro (fun q819 => And.intro rfl (And.intro rfl (Exists.intro (0 : Int32) (And.intro rfl (((q820).1 q819)))))) (fun q819 => And.intro rfl (And.intro rfl (Exists.intro (1 : Int32) (And.intro rfl (((q820).2 q819)))))))))) (fun q821 => And.intro rfl (And.intro rfl (Exists.intro (-1002 : Int32) (And.intro rfl (((q822).2 q821))))))))))))))) (fun q823 => And.intro rfl (And.intro rfl (Exists.intro (-1001 : Int32) (And.intro rfl (((q824).2 q823))))))))))))))
theorem vX12_leads_0 {Γ : Gx} {d : Nat} {w : Wd} {Q : Int32 → St → Prop} {σ : St} {x1 : Int32} {x2 : Int32} {x3 : Int32} {x4 : Int32} {x5 : Int32} (hw : RunW w)
    (h : SpI Γ d mX12_has [.int x5, .int x1] σ w (fun v2 s1 => ((v2 = (0 : Int32) → Q (-1 : Int32) s1) ∧ (¬ v2 = (0 : Int32) → SpI Γ d mX12_isFit [.ref 390, .int x1, .int x2, .int x3] s1 w (fun v4 s3 => ((¬ v4 = (0 : Int32) → (vp_in x1 20) ∧ (((0 : Int32) ≤ (gI s3 393 x1.toNatClampNeg) → (vp_in x2 24) ∧ (((gI s3 397 x2.toNatClampNeg) ≤ x4 → (((0 : Int32) = (0 : Int32) → Q (-1 : Int32) s3) ∧ (¬ (0 : Int32) = (0 : Int32) → (vp_in x1 20) ∧ Q ((((9 : Int32) * (x3 + (gI s3 391 x1.toNatClampNeg))) + x4) + (1 : Int32)) s3))) ∧ (¬ (gI s3 397 x2.toNatClampNeg) ≤ x4 → (vp_in (((8 : Int32) * x2) + x4) 192) ∧ (vp_in x1 20) ∧ ((¬ (gI s3 398 (((8 : Int32) * x2) + x4).toNatClampNeg) = (gI s3 393 x1.toNatClampNeg) → (((0 : Int32) = (0 : Int32) → Q (-1 : Int32) s3) ∧ (¬ (0 : Int32) = (0 : Int32) → (vp_in x1 20) ∧ Q ((((9 : Int32) * (x3 + (gI s3 391 x1.toNatClampNeg))) + x4) + (1 : Int32)) s3))) ∧ ((gI s3 398 (((8 : Int32) * x2) + x4).toNatClampNeg) = (gI s3 393 x1.toNatClampNeg) → (((1 : Int32) = (0 : Int32) → Q (-1 : Int32) s3) ∧ (¬ (1 : Int32) = (0 : Int32) → (vp_in x1 20) ∧ Q ((((9 : Int32) * (x3 + (gI s3 391 x1.toNatClampNeg))) + x4) + (1 : Int32)) s3))))))) ∧ (¬ (0 : Int32) ≤ (gI s3 393 x1.toNatClampNeg) → (vp_in x1 20) ∧ Q (((9 : Int32) * (x3 + (gI s3 391 x1.toNatClampNeg))) + x4) s3))) ∧ (v4 = (0 : Int32) → Q (-1 : Int32) s3))))))) :
    AI Γ (d + 1) mX12_leads w Q 0 [(0, .ref 390), (1, .int x1), (2, .int x2), (3, .int x3), (4, .int x4), (5, .int x5)] σ :=
  wp_sound (μ := mX12_leads) (T := tbX12) (is := isX12_leads) (sw := swX12_leads) (cu := cuX12_leads) tbX12_ok msX12_leads 54 _ _ _ _ _ _ _ (And.intro (Nat.le_of_ble_eq_true rfl) (And.intro (Nat.le_of_ble_eq_true rfl) (SpI.mono (h) (fun v2 s1 q844 => And.intro (fun q843 => And.intro rfl (And.intro rfl (Exists.intro (-1 : Int32) (And.intro rfl (((q844).1 q843)))))) (fun q843 => And.intro (ok_390 hw) (And.intro (Nat.le_of_ble_eq_true rfl) (SpI.mono (((q844).2 q843)) (fun v4 s3 q842 => And.intro (fun q841 => And.intro (ok_390 hw) (Exists.intro 393 (And.intro (rf_390_3 hw) (And.intro (ok_393 hw) (And.intro (vi_393 (((q842).1 q841)).1) (And.intro (fun q840 => And.intro (ok_390 hw) (Exists.intro 397 (And.intro (rf_390_8 hw) (And.intro (ok_397 hw) (And.intro (vi_397 ((((((q842).1 q841)).2).1 q840)).1) (And.intro (fun q839 => And.intro (fun q835 => And.intro rfl (And.intro rfl (Exists.intro (-1 : Int32) (And.intro rfl (((((((((((q842).1 q841)).2).1 q840)).2).1 q839)).1 q835)))))) (fun q835 => And.intro (ok_390 hw) (Exists.intro 391 (And.intro (rf_390_1 hw) (And.intro (ok_391 hw) (And.intro (vi_391 (((((((((((q842).1 q841)).2).1 q840)).2).1 q839)).2 q835)).1) (And.intro rfl (And.intro rfl (Exists.intro ((((9 : Int32) * (x3 + (gI s3 391 x1.toNatClampNeg))) + x4) + (1 : Int32)) (And.intro rfl ((((((((((((q842).1 q841)).2).1 q840)).2).1 q839)).2 q835)).2))))))))))) (fun q839 => And.intro (ok_390 hw) (Exists.intro 398 (And.intro (rf_390_9 hw) (And.intro (ok_398 hw) (And.intro (vi_398 (((((((((q842).1 q841)).2).1 q840)).2).2 q839)).1) (And.intro (ok_390 hw) (Exists.intro 393 (And.intro (rf_390_3 hw) (And.intro (ok_393 hw) (And.intro (vi_393 ((((((((((q842).1 q841)).2).1 q840)).2).2 q839)).2).1) (And.intro (fun q838 => And.intro (fun q836 => And.intro rfl (And.intro rfl (Exists.intro (-1 : Int32) (And.intro rfl (((((((((((((((q842).1 q841)).2).1 q840)).2).2 q839)).2).2).1 q838)).1 q836)))))) (fun q836 => And.intro (ok_390 hw) (Exists.intro 391 (And.intro (rf_390_1 hw) (And.intro (ok_391 hw) (And.intro (vi_391 (((((((((((((((q842).1 q841)).2).1 q840)).2).2 q839)).2).2).1 q838)).2 q836)).1) (And.intro rfl (And.intro rfl (Exists.intro ((((9 : Int32) * (x3 + (gI s3 391 x1.toNatClampNeg))) + x4) + (1 : Int32)) (And.intro rfl ((((((((((((((((q842).1 q841)).2).1 q840)).2).2 q839)).2).2).1 q838)).2 q836)).2))))))))))) (fun q838 => And.intro (fun q837 => And.intro rfl (And.intro rfl (Exists.intro (-1 : Int32) (And.intro rfl (((((((((((((((q842).1 q841)).2).1 q840)).2).2 q839)).2).2).2 q838)).1 q837)))))) (fun q837 => And.intro (ok_390 hw) (Exists.intro 391 (And.intro (rf_390_1 hw) (And.intro (ok_391 hw) (And.intro (vi_391 (((((((((((((((q842).1 q841)).2).1 q840)).2).2 q839)).2).2).2 q838)).2 q837)).1) (And.intro rfl (And.intro rfl (Exists.intro ((((9 : Int32) * (x3 + (gI s3 391 x1.toNatClampNeg))) + x4) + (1 : Int32)) (And.intro rfl ((((((((((((((((q842).1 q841)).2).1 q840)).2).2 q839)).2).2).2 q838)).2 q837)).2)))))))))))))))))))))))))))) (fun q840 => And.intro (ok_390 hw) (Exists.intro 391 (And.intro (rf_390_1 hw) (And.intro (ok_391 hw) (And.intro (vi_391 ((((((q842).1 q841)).2).2 q840)).1) (And.intro rfl (And.intro rfl (Exists.intro (((9 : Int32) * (x3 + (gI s3 391 x1.toNatClampNeg))) + x4) (And.intro rfl (((((((q842).1 q841)).2).2 q840)).2)))))))))))))))) (fun q841 => And.intro rfl (And.intro rfl (Exists.intro (-1 : Int32) (And.intro rfl (((q842).2 q841))))))))))))))
theorem vX12_findWays_0 {Γ : Gx} {d : Nat} {w : Wd} {Q : Int64 → St → Prop} {σ : St} {x1 : Int32} {x2 : Int32} (hw : RunW w)
    (h : (vp_in x1 24) ∧ AJ Γ (d + 1) mX12_findWays w Q 7 [(0, .ref 390), (1, .int x1), (2, .int x2), (3, .int (gI σ 395 x1.toNatClampNeg))] σ) :
    AJ Γ (d + 1) mX12_findWays w Q 0 [(0, .ref 390), (1, .int x1), (2, .int x2)] σ :=
  wp_sound (μ := mX12_findWays) (T := tbX12) (is := isX12_findWays) (sw := swX12_findWays) (cu := cuX12_findWays) tbX12_ok msX12_findWays 6 _ _ _ _ _ _ _ (And.intro (ok_390 hw) (Exists.intro 395 (And.intro (rf_390_6 hw) (And.intro (ok_395 hw) (And.intro (vi_395 (h).1) ((h).2))))))
theorem vX12_findWays_7 {Γ : Gx} {d : Nat} {w : Wd} {Q : Int64 → St → Prop} {σ : St} {x1 : Int32} {x2 : Int32} {x3 : Int32} (hw : RunW w)
    (h : ((x3 < (0 : Int32) → (vp_in (0 : Int32) 81) ∧ Q (gJ σ 415 (0 : Int32).toNatClampNeg) σ) ∧ (¬ x3 < (0 : Int32) → (vp_in x1 24) ∧ AJ Γ (d + 1) mX12_findWays w Q 19 [(0, .ref 390), (1, .int x1), (2, .int x2), (3, .int x3), (4, .int (gI σ 397 x1.toNatClampNeg))] σ))) :
    AJ Γ (d + 1) mX12_findWays w Q 7 [(0, .ref 390), (1, .int x1), (2, .int x2), (3, .int x3)] σ :=
  wp_sound (μ := mX12_findWays) (T := tbX12) (is := isX12_findWays) (sw := swX12_findWays) (cu := cuX12_findWays) tbX12_ok msX12_findWays 8 _ _ _ _ _ _ _ (And.intro (fun q855 => And.intro (ok_390 hw) (Exists.intro 415 (And.intro (rf_390_40 hw) (And.intro (ok_415 hw) (And.intro (vi_415 (((h).1 q855)).1) (And.intro rfl (And.intro rfl (Exists.intro (gJ σ 415 (0 : Int32).toNatClampNeg) (And.intro rfl ((((h).1 q855)).2)))))))))) (fun q855 => And.intro (ok_390 hw) (Exists.intro 397 (And.intro (rf_390_8 hw) (And.intro (ok_397 hw) (And.intro (vi_397 (((h).2 q855)).1) ((((h).2 q855)).2)))))))
theorem vX12_findWays_19 {Γ : Gx} {d : Nat} {w : Wd} {Q : Int64 → St → Prop} {σ : St} {x1 : Int32} {x2 : Int32} {x3 : Int32} {x4 : Int32} (hw : RunW w)
    (h : ((x4 < (0 : Int32) → AJ Γ (d + 1) mX12_findWays w Q 7 [(0, .ref 390), (1, .int x1), (2, .int x2), (3, .int (x3 + (-1 : Int32)))] σ) ∧ (¬ x4 < (0 : Int32) → (vp_in x1 24) ∧ ((¬ x3 = (gI σ 395 x1.toNatClampNeg) → AJ Γ (d + 1) mX12_findWays w Q 55 [(0, .ref 390), (1, .int x1), (2, .int x2), (3, .int x3), (4, .int x4), (5, .long (0 : Int64)), (7, .int (0 : Int32))] σ) ∧ (x3 = (gI σ 395 x1.toNatClampNeg) → (vp_in x1 24) ∧ ((¬ x4 = (gI σ 397 x1.toNatClampNeg) → AJ Γ (d + 1) mX12_findWays w Q 55 [(0, .ref 390), (1, .int x1), (2, .int x2), (3, .int x3), (4, .int x4), (5, .long (0 : Int64)), (7, .int (0 : Int32))] σ) ∧ (x4 = (gI σ 397 x1.toNatClampNeg) → AJ Γ (d + 1) mX12_findWays w Q 55 [(0, .ref 390), (1, .int x1), (2, .int x2), (3, .int x3), (4, .int x4), (5, .long (1 : Int64)), (7, .int (0 : Int32))] σ))))))) :
    AJ Γ (d + 1) mX12_findWays w Q 19 [(0, .ref 390), (1, .int x1), (2, .int x2), (3, .int x3), (4, .int x4)] σ :=
  wp_sound (μ := mX12_findWays) (T := tbX12) (is := isX12_findWays) (sw := swX12_findWays) (cu := cuX12_findWays) tbX12_ok msX12_findWays 20 _ _ _ _ _ _ _ (And.intro (fun q857 => ((h).1 q857)) (fun q857 => And.intro (ok_390 hw) (Exists.intro 395 (And.intro (rf_390_6 hw) (And.intro (ok_395 hw) (And.intro (vi_395 (((h).2 q857)).1) (And.intro (fun q856 => (((((h).2 q857)).2).1 q856)) (fun q856 => And.intro (ok_390 hw) (Exists.intro 397 (And.intro (rf_390_8 hw) (And.intro (ok_397 hw) (And.intro (vi_397 ((((((h).2 q857)).2).2 q856)).1) (((((((h).2 q857)).2).2 q856)).2)))))))))))))
theorem vX12_findWays_55 {Γ : Gx} {d : Nat} {w : Wd} {Q : Int64 → St → Prop} {σ : St} {x1 : Int32} {x2 : Int32} {x3 : Int32} {x4 : Int32} {y5 : Int64} {x7 : Int32} (hw : RunW w)
    (h : (((gI σ 390 0) ≤ x7 → (vp_in (((9 : Int32) * x3) + x4) 81) ∧ AJ Γ (d + 1) mX12_findWays w Q 19 [(0, .ref 390), (1, .int x1), (2, .int x2), (3, .int x3), (4, .int (x4 + (-1 : Int32)))] (uJ σ 415 (((9 : Int32) * x3) + x4).toNatClampNeg y5)) ∧ (¬ (gI σ 390 0) ≤ x7 → (vp_in x1 24) ∧ (((gI σ 395 x1.toNatClampNeg) ≤ x3 → (vp_in (((9 : Int32) * x3) + x4) 81) ∧ AJ Γ (d + 1) mX12_findWays w Q 19 [(0, .ref 390), (1, .int x1), (2, .int x2), (3, .int x3), (4, .int (x4 + (-1 : Int32)))] (uJ σ 415 (((9 : Int32) * x3) + x4).toNatClampNeg y5)) ∧ (¬ (gI σ 395 x1.toNatClampNeg) ≤ x3 → SpI Γ d mX12_leads [.ref 390, .int x7, .int x1, .int x3, .int x4, .int x2] σ w (fun v2 s1 => (((0 : Int32) ≤ v2 → (vp_in v2 81) ∧ AJ Γ (d + 1) mX12_findWays w Q 55 [(0, .ref 390), (1, .int x1), (2, .int x2), (3, .int x3), (4, .int x4), (5, .long (y5 + (gJ s1 415 v2.toNatClampNeg))), (7, .int (x7 + (1 : Int32)))] s1) ∧ (¬ (0 : Int32) ≤ v2 → AJ Γ (d + 1) mX12_findWays w Q 55 [(0, .ref 390), (1, .int x1), (2, .int x2), (3, .int x3), (4, .int x4), (5, .long (y5 + (0 : Int64))), (7, .int (x7 + (1 : Int32)))] s1)))))))) :
    AJ Γ (d + 1) mX12_findWays w Q 55 [(0, .ref 390), (1, .int x1), (2, .int x2), (3, .int x3), (4, .int x4), (5, .long y5), (7, .int x7)] σ :=
  wp_sound (μ := mX12_findWays) (T := tbX12) (is := isX12_findWays) (sw := swX12_findWays) (cu := cuX12_findWays) tbX12_ok msX12_findWays 30 _ _ _ _ _ _ _ (And.intro (ok_390 hw) (And.intro (fun q861 => And.intro (ok_390 hw) (Exists.intro 415 (And.intro (rf_390_40 hw) (And.intro (ok_415 hw) (And.intro (vi_415 (((h).1 q861)).1) ((((h).1 q861)).2)))))) (fun q861 => And.intro (ok_390 hw) (Exists.intro 395 (And.intro (rf_390_6 hw) (And.intro (ok_395 hw) (And.intro (vi_395 (((h).2 q861)).1) (And.intro (fun q860 => And.intro (ok_390 hw) (Exists.intro 415 (And.intro (rf_390_40 hw) (And.intro (ok_415 hw) (And.intro (vi_415 ((((((h).2 q861)).2).1 q860)).1) (((((((h).2 q861)).2).1 q860)).2)))))) (fun q860 => And.intro (ok_390 hw) (And.intro (Nat.le_of_ble_eq_true rfl) (SpI.mono ((((((h).2 q861)).2).2 q860)) (fun v2 s1 q859 => And.intro (fun q858 => And.intro (ok_390 hw) (Exists.intro 415 (And.intro (rf_390_40 hw) (And.intro (ok_415 hw) (And.intro (vi_415 (((q859).1 q858)).1) ((((q859).1 q858)).2)))))) (fun q858 => ((q859).2 q858))))))))))))))
theorem vX12_ways_0 {Γ : Gx} {d : Nat} {w : Wd} {Q : Int64 → St → Prop} {σ : St} {x1 : Int32} {x2 : Int32} (hw : RunW w)
    (h : SpI Γ d mX12_isWord [.ref 390, .int x1] σ w (fun v2 s1 => ((v2 = (0 : Int32) → Q (-1001 : Int64) s1) ∧ (¬ v2 = (0 : Int32) → SpI Γ d mX12_areSigns [.ref 390, .int x2] s1 w (fun v4 s3 => ((v4 = (0 : Int32) → Q (-1001 : Int64) s3) ∧ (¬ v4 = (0 : Int32) → SpJ Γ d mX12_findWays [.ref 390, .int x1, .int x2] s3 w (fun v6 s5 => Q v6 s5)))))))) :
    AJ Γ (d + 1) mX12_ways w Q 0 [(0, .ref 390), (1, .int x1), (2, .int x2)] σ :=
  wp_sound (μ := mX12_ways) (T := tbX12) (is := isX12_ways) (sw := swX12_ways) (cu := cuX12_ways) tbX12_ok msX12_ways 15 _ _ _ _ _ _ _ (And.intro (ok_390 hw) (And.intro (Nat.le_of_ble_eq_true rfl) (SpI.mono (h) (fun v2 s1 q873 => And.intro (fun q872 => And.intro rfl (And.intro rfl (Exists.intro (-1001 : Int64) (And.intro rfl (((q873).1 q872)))))) (fun q872 => And.intro (ok_390 hw) (And.intro (Nat.le_of_ble_eq_true rfl) (SpI.mono (((q873).2 q872)) (fun v4 s3 q871 => And.intro (fun q870 => And.intro rfl (And.intro rfl (Exists.intro (-1001 : Int64) (And.intro rfl (((q871).1 q870)))))) (fun q870 => And.intro (ok_390 hw) (And.intro (Nat.le_of_ble_eq_true rfl) (SpJ.mono (((q871).2 q870)) (fun v6 s5 q869 => And.intro rfl (And.intro rfl (Exists.intro v6 (And.intro rfl (q869))))))))))))))))
theorem vX12_cut_0 {Γ : Gx} {d : Nat} {w : Wd} {Q : Int32 → St → Prop} {σ : St} {x1 : Int32} {x2 : Int32} {x3 : Int32} (hw : RunW w)
    (h : SpI Γ d mX12_isWord [.ref 390, .int x1] σ w (fun v2 s1 => ((v2 = (0 : Int32) → Q (-1001 : Int32) s1) ∧ (¬ v2 = (0 : Int32) → SpI Γ d mX12_areSigns [.ref 390, .int x2] s1 w (fun v4 s3 => ((¬ v4 = (0 : Int32) → SpJ Γ d mX12_findWays [.ref 390, .int x1, .int x2] s3 w (fun v6 s5 => (((lg_cmp v6 (0 : Int64)) = (0 : Int32) → Q (-1 : Int32) s5) ∧ (¬ (lg_cmp v6 (0 : Int64)) = (0 : Int32) → (((-1 : Int32) ≤ x3 → AI Γ (d + 1) mX12_cut w Q 44 [(0, .ref 390), (1, .int x1), (2, .int x2), (3, .int x3), (4, .int (0 : Int32)), (5, .int (0 : Int32))] s5) ∧ (¬ (-1 : Int32) ≤ x3 → Q (-1 : Int32) s5)))))) ∧ (v4 = (0 : Int32) → Q (-1001 : Int32) s3))))))) :
    AI Γ (d + 1) mX12_cut w Q 0 [(0, .ref 390), (1, .int x1), (2, .int x2), (3, .int x3)] σ :=
  wp_sound (μ := mX12_cut) (T := tbX12) (is := isX12_cut) (sw := swX12_cut) (cu := cuX12_cut) tbX12_ok msX12_cut 23 _ _ _ _ _ _ _ (And.intro (ok_390 hw) (And.intro (Nat.le_of_ble_eq_true rfl) (SpI.mono (h) (fun v2 s1 q885 => And.intro (fun q884 => And.intro rfl (And.intro rfl (Exists.intro (-1001 : Int32) (And.intro rfl (((q885).1 q884)))))) (fun q884 => And.intro (ok_390 hw) (And.intro (Nat.le_of_ble_eq_true rfl) (SpI.mono (((q885).2 q884)) (fun v4 s3 q883 => And.intro (fun q882 => And.intro (ok_390 hw) (And.intro (Nat.le_of_ble_eq_true rfl) (SpJ.mono (((q883).1 q882)) (fun v6 s5 q881 => And.intro (fun q880 => And.intro rfl (And.intro rfl (Exists.intro (-1 : Int32) (And.intro rfl (((q881).1 q880)))))) (fun q880 => And.intro (fun q879 => ((((q881).2 q880)).1 q879)) (fun q879 => And.intro rfl (And.intro rfl (Exists.intro (-1 : Int32) (And.intro rfl (((((q881).2 q880)).2 q879))))))))))) (fun q882 => And.intro rfl (And.intro rfl (Exists.intro (-1001 : Int32) (And.intro rfl (((q883).2 q882))))))))))))))
theorem vX12_cut_44 {Γ : Gx} {d : Nat} {w : Wd} {Q : Int32 → St → Prop} {σ : St} {x1 : Int32} {x2 : Int32} {x3 : Int32} {x4 : Int32} {x5 : Int32} (hw : RunW w)
    (h : (vp_in x1 24) ∧ (((gI σ 395 x1.toNatClampNeg) ≤ (x4 / (9 : Int32)) → ((¬ x3 = (-1 : Int32) → Q (-1 : Int32) σ) ∧ (x3 = (-1 : Int32) → Q x5 σ))) ∧ (¬ (gI σ 395 x1.toNatClampNeg) ≤ (x4 / (9 : Int32)) → SpI Γ d mX12_leads [.ref 390, .int (0 : Int32), .int x1, .int (x4 / (9 : Int32)), .int (x4 - x4 / (9 : Int32) * (9 : Int32)), .int x2] σ w (fun v2 s1 => AI Γ (d + 1) mX12_cut w Q 80 [(0, .ref 390), (1, .int x1), (2, .int x2), (3, .int x3), (4, .int x4), (5, .int x5), (6, .int (0 : Int32)), (7, .int v2)] s1)))) :
    AI Γ (d + 1) mX12_cut w Q 44 [(0, .ref 390), (1, .int x1), (2, .int x2), (3, .int x3), (4, .int x4), (5, .int x5)] σ :=
  wp_sound (μ := mX12_cut) (T := tbX12) (is := isX12_cut) (sw := swX12_cut) (cu := cuX12_cut) tbX12_ok msX12_cut 23 _ _ _ _ _ _ _ (And.intro (by decide) (And.intro (ok_390 hw) (Exists.intro 395 (And.intro (rf_390_6 hw) (And.intro (ok_395 hw) (And.intro (vi_395 (h).1) (And.intro (fun q887 => And.intro (fun q886 => And.intro rfl (And.intro rfl (Exists.intro (-1 : Int32) (And.intro rfl ((((((h).2).1 q887)).1 q886)))))) (fun q886 => And.intro rfl (And.intro rfl (Exists.intro x5 (And.intro rfl ((((((h).2).1 q887)).2 q886))))))) (fun q887 => And.intro (by decide) (And.intro (by decide) (And.intro (ok_390 hw) (And.intro (Nat.le_of_ble_eq_true rfl) ((((h).2).2 q887)))))))))))))
theorem vX12_cut_80 {Γ : Gx} {d : Nat} {w : Wd} {Q : Int32 → St → Prop} {σ : St} {x1 : Int32} {x2 : Int32} {x3 : Int32} {x4 : Int32} {x5 : Int32} {x6 : Int32} {x7 : Int32} (hw : RunW w)
    (h : ((x7 < (0 : Int32) → SpI Γ d mX12_leads [.ref 390, .int (x6 + (1 : Int32)), .int x1, .int (x4 / (9 : Int32)), .int (x4 - x4 / (9 : Int32) * (9 : Int32)), .int x2] σ w (fun v2 s1 => AI Γ (d + 1) mX12_cut w Q 80 [(0, .ref 390), (1, .int x1), (2, .int x2), (3, .int x3), (4, .int x4), (5, .int x5), (6, .int (x6 + (1 : Int32))), (7, .int v2)] s1)) ∧ (¬ x7 < (0 : Int32) → (vp_in x7 81) ∧ ((¬ (lg_cmp (gJ σ 415 x7.toNatClampNeg) (0 : Int64)) = (0 : Int32) → ((¬ x5 = x3 → AI Γ (d + 1) mX12_cut w Q 44 [(0, .ref 390), (1, .int x1), (2, .int x2), (3, .int x3), (4, .int x7), (5, .int (x5 + (1 : Int32)))] σ) ∧ (x5 = x3 → Q x6 σ))) ∧ ((lg_cmp (gJ σ 415 x7.toNatClampNeg) (0 : Int64)) = (0 : Int32) → SpI Γ d mX12_leads [.ref 390, .int (x6 + (1 : Int32)), .int x1, .int (x4 / (9 : Int32)), .int (x4 - x4 / (9 : Int32) * (9 : Int32)), .int x2] σ w (fun v4 s3 => AI Γ (d + 1) mX12_cut w Q 80 [(0, .ref 390), (1, .int x1), (2, .int x2), (3, .int x3), (4, .int x4), (5, .int x5), (6, .int (x6 + (1 : Int32))), (7, .int v4)] s3)))))) :
    AI Γ (d + 1) mX12_cut w Q 80 [(0, .ref 390), (1, .int x1), (2, .int x2), (3, .int x3), (4, .int x4), (5, .int x5), (6, .int x6), (7, .int x7)] σ :=
  wp_sound (μ := mX12_cut) (T := tbX12) (is := isX12_cut) (sw := swX12_cut) (cu := cuX12_cut) tbX12_ok msX12_cut 24 _ _ _ _ _ _ _ (And.intro (fun q890 => And.intro (by decide) (And.intro (by decide) (And.intro (ok_390 hw) (And.intro (Nat.le_of_ble_eq_true rfl) (((h).1 q890)))))) (fun q890 => And.intro (ok_390 hw) (Exists.intro 415 (And.intro (rf_390_40 hw) (And.intro (ok_415 hw) (And.intro (vi_415 (((h).2 q890)).1) (And.intro (fun q889 => And.intro (fun q888 => (((((((h).2 q890)).2).1 q889)).1 q888)) (fun q888 => And.intro rfl (And.intro rfl (Exists.intro x6 (And.intro rfl ((((((((h).2 q890)).2).1 q889)).2 q888))))))) (fun q889 => And.intro (by decide) (And.intro (by decide) (And.intro (ok_390 hw) (And.intro (Nat.le_of_ble_eq_true rfl) ((((((h).2 q890)).2).2 q889)))))))))))))
theorem vX12_speak_0 {Γ : Gx} {d : Nat} {w : Wd} {Q : St → Prop} {σ : St} {x1 : Int32} {x2 : Int32} (hw : RunW w)
    (h : AV Γ (d + 1) mX12_speak w Q 15 [(0, .ref 390), (1, .int x1), (2, .int x2), (3, .int (0 : Int32)), (4, .int (0 : Int32))] (uI (uI σ 390 42 (0 : Int32)) 390 44 (0 : Int32))) :
    AV Γ (d + 1) mX12_speak w Q 0 [(0, .ref 390), (1, .int x1), (2, .int x2)] σ :=
  wp_sound (μ := mX12_speak) (T := tbX12) (is := isX12_speak) (sw := swX12_speak) (cu := cuX12_speak) tbX12_ok msX12_speak 11 _ _ _ _ _ _ _ (And.intro (ok_390 hw) (And.intro (ok_390 hw) (h)))
theorem vX12_speak_15 {Γ : Gx} {d : Nat} {w : Wd} {Q : St → Prop} {σ : St} {x1 : Int32} {x2 : Int32} {x3 : Int32} {x4 : Int32} (hw : RunW w)
    (h : (vp_in x1 24) ∧ (((gI σ 395 x1.toNatClampNeg) ≤ x3 → (vp_in x1 24) ∧ ((¬ x3 = (gI σ 395 x1.toNatClampNeg) → Q (uI σ 390 43 (0 : Int32))) ∧ (x3 = (gI σ 395 x1.toNatClampNeg) → Q (uI σ 390 43 (1 : Int32))))) ∧ (¬ (gI σ 395 x1.toNatClampNeg) ≤ x3 → ((x4 < (0 : Int32) → (vp_in x1 24) ∧ ((¬ x3 = (gI σ 395 x1.toNatClampNeg) → Q (uI σ 390 43 (0 : Int32))) ∧ (x3 = (gI σ 395 x1.toNatClampNeg) → Q (uI σ 390 43 (1 : Int32))))) ∧ (¬ x4 < (0 : Int32) → AV Γ (d + 1) mX12_speak w Q 36 [(0, .ref 390), (1, .int x1), (2, .int x2), (3, .int x3), (4, .int (-1 : Int32)), (5, .int (0 : Int32))] σ))))) :
    AV Γ (d + 1) mX12_speak w Q 15 [(0, .ref 390), (1, .int x1), (2, .int x2), (3, .int x3), (4, .int x4)] σ :=
  wp_sound (μ := mX12_speak) (T := tbX12) (is := isX12_speak) (sw := swX12_speak) (cu := cuX12_speak) tbX12_ok msX12_speak 20 _ _ _ _ _ _ _ (And.intro (ok_390 hw) (Exists.intro 395 (And.intro (rf_390_6 hw) (And.intro (ok_395 hw) (And.intro (vi_395 (h).1) (And.intro (fun q906 => And.intro (ok_390 hw) (Exists.intro 395 (And.intro (rf_390_6 hw) (And.intro (ok_395 hw) (And.intro (vi_395 ((((h).2).1 q906)).1) (And.intro (fun q903 => And.intro (ok_390 hw) (And.intro (Or.inl rfl) (And.intro rfl (And.intro rfl (And.intro rfl (((((((h).2).1 q906)).2).1 q903))))))) (fun q903 => And.intro (ok_390 hw) (And.intro (Or.inr rfl) (And.intro rfl (And.intro rfl (And.intro rfl (((((((h).2).1 q906)).2).2 q903))))))))))))) (fun q906 => And.intro (fun q905 => And.intro (ok_390 hw) (Exists.intro 395 (And.intro (rf_390_6 hw) (And.intro (ok_395 hw) (And.intro (vi_395 ((((((h).2).2 q906)).1 q905)).1) (And.intro (fun q904 => And.intro (ok_390 hw) (And.intro (Or.inl rfl) (And.intro rfl (And.intro rfl (And.intro rfl (((((((((h).2).2 q906)).1 q905)).2).1 q904))))))) (fun q904 => And.intro (ok_390 hw) (And.intro (Or.inr rfl) (And.intro rfl (And.intro rfl (And.intro rfl (((((((((h).2).2 q906)).1 q905)).2).2 q904))))))))))))) (fun q905 => (((((h).2).2 q906)).2 q905)))))))))
theorem vX12_speak_36 {Γ : Gx} {d : Nat} {w : Wd} {Q : St → Prop} {σ : St} {x1 : Int32} {x2 : Int32} {x3 : Int32} {x4 : Int32} {x5 : Int32} (hw : RunW w)
    (h : (((gI σ 390 0) ≤ x5 → ((x4 < (0 : Int32) → AV Γ (d + 1) mX12_speak w Q 15 [(0, .ref 390), (1, .int x1), (2, .int x2), (3, .int x3), (4, .int x4)] σ) ∧ (¬ x4 < (0 : Int32) → (vp_in x4 20) ∧ (vp_in x4 20) ∧ (((gI σ 393 x4.toNatClampNeg) < (0 : Int32) → AV Γ (d + 1) mX12_speak w Q 15 [(0, .ref 390), (1, .int x1), (2, .int x2), (3, .int (x3 + (gI σ 391 x4.toNatClampNeg))), (4, .int x4)] (uI σ 390 44 ((gI σ 390 44) ||| ((1 : Int32) <<< (x4 &&& (31 : Int32)))))) ∧ (¬ (gI σ 393 x4.toNatClampNeg) < (0 : Int32) → (vp_in x4 20) ∧ (vp_in (gI σ 390 42) 32) ∧ AV Γ (d + 1) mX12_speak w Q 15 [(0, .ref 390), (1, .int x1), (2, .int x2), (3, .int (x3 + (gI σ 391 x4.toNatClampNeg))), (4, .int x4)] (uI (uI (uI σ 390 44 ((gI σ 390 44) ||| ((1 : Int32) <<< (x4 &&& (31 : Int32))))) 416 (gI σ 390 42).toNatClampNeg (gI σ 393 x4.toNatClampNeg)) 390 42 ((gI σ 390 42) + (1 : Int32)))))))) ∧ (¬ (gI σ 390 0) ≤ x5 → SpI Γ d mX12_has [.int x2, .int x5] σ w (fun v2 s1 => ((v2 = (0 : Int32) → (((0 : Int32) = (0 : Int32) → AV Γ (d + 1) mX12_speak w Q 36 [(0, .ref 390), (1, .int x1), (2, .int x2), (3, .int x3), (4, .int x4), (5, .int (x5 + (1 : Int32)))] s1) ∧ (¬ (0 : Int32) = (0 : Int32) → ((x4 < (0 : Int32) → AV Γ (d + 1) mX12_speak w Q 36 [(0, .ref 390), (1, .int x1), (2, .int x2), (3, .int x3), (4, .int x5), (5, .int (x5 + (1 : Int32)))] s1) ∧ (¬ x4 < (0 : Int32) → (vp_in x5 20) ∧ (vp_in x4 20) ∧ (((gI s1 391 x5.toNatClampNeg) ≤ (gI s1 391 x4.toNatClampNeg) → AV Γ (d + 1) mX12_speak w Q 36 [(0, .ref 390), (1, .int x1), (2, .int x2), (3, .int x3), (4, .int x4), (5, .int (x5 + (1 : Int32)))] s1) ∧ (¬ (gI s1 391 x5.toNatClampNeg) ≤ (gI s1 391 x4.toNatClampNeg) → AV Γ (d + 1) mX12_speak w Q 36 [(0, .ref 390), (1, .int x1), (2, .int x2), (3, .int x3), (4, .int x5), (5, .int (x5 + (1 : Int32)))] s1))))))) ∧ (¬ v2 = (0 : Int32) → SpI Γ d mX12_isFit [.ref 390, .int x5, .int x1, .int x3] s1 w (fun v4 s3 => ((v4 = (0 : Int32) → (((0 : Int32) = (0 : Int32) → AV Γ (d + 1) mX12_speak w Q 36 [(0, .ref 390), (1, .int x1), (2, .int x2), (3, .int x3), (4, .int x4), (5, .int (x5 + (1 : Int32)))] s3) ∧ (¬ (0 : Int32) = (0 : Int32) → ((x4 < (0 : Int32) → AV Γ (d + 1) mX12_speak w Q 36 [(0, .ref 390), (1, .int x1), (2, .int x2), (3, .int x3), (4, .int x5), (5, .int (x5 + (1 : Int32)))] s3) ∧ (¬ x4 < (0 : Int32) → (vp_in x5 20) ∧ (vp_in x4 20) ∧ (((gI s3 391 x5.toNatClampNeg) ≤ (gI s3 391 x4.toNatClampNeg) → AV Γ (d + 1) mX12_speak w Q 36 [(0, .ref 390), (1, .int x1), (2, .int x2), (3, .int x3), (4, .int x4), (5, .int (x5 + (1 : Int32)))] s3) ∧ (¬ (gI s3 391 x5.toNatClampNeg) ≤ (gI s3 391 x4.toNatClampNeg) → AV Γ (d + 1) mX12_speak w Q 36 [(0, .ref 390), (1, .int x1), (2, .int x2), (3, .int x3), (4, .int x5), (5, .int (x5 + (1 : Int32)))] s3))))))) ∧ (¬ v4 = (0 : Int32) → (((1 : Int32) = (0 : Int32) → AV Γ (d + 1) mX12_speak w Q 36 [(0, .ref 390), (1, .int x1), (2, .int x2), (3, .int x3), (4, .int x4), (5, .int (x5 + (1 : Int32)))] s3) ∧ (¬ (1 : Int32) = (0 : Int32) → ((x4 < (0 : Int32) → AV Γ (d + 1) mX12_speak w Q 36 [(0, .ref 390), (1, .int x1), (2, .int x2), (3, .int x3), (4, .int x5), (5, .int (x5 + (1 : Int32)))] s3) ∧ (¬ x4 < (0 : Int32) → (vp_in x5 20) ∧ (vp_in x4 20) ∧ (((gI s3 391 x5.toNatClampNeg) ≤ (gI s3 391 x4.toNatClampNeg) → AV Γ (d + 1) mX12_speak w Q 36 [(0, .ref 390), (1, .int x1), (2, .int x2), (3, .int x3), (4, .int x4), (5, .int (x5 + (1 : Int32)))] s3) ∧ (¬ (gI s3 391 x5.toNatClampNeg) ≤ (gI s3 391 x4.toNatClampNeg) → AV Γ (d + 1) mX12_speak w Q 36 [(0, .ref 390), (1, .int x1), (2, .int x2), (3, .int x3), (4, .int x5), (5, .int (x5 + (1 : Int32)))] s3))))))))))))))) :
    AV Γ (d + 1) mX12_speak w Q 36 [(0, .ref 390), (1, .int x1), (2, .int x2), (3, .int x3), (4, .int x4), (5, .int x5)] σ :=
  wp_sound (μ := mX12_speak) (T := tbX12) (is := isX12_speak) (sw := swX12_speak) (cu := cuX12_speak) tbX12_ok msX12_speak 43 _ _ _ _ _ _ _ (And.intro (ok_390 hw) (And.intro (fun q919 => And.intro (fun q908 => ((((h).1 q919)).1 q908)) (fun q908 => And.intro (ok_390 hw) (And.intro (ok_390 hw) (And.intro (ok_390 hw) (Exists.intro 391 (And.intro (rf_390_1 hw) (And.intro (ok_391 hw) (And.intro (vi_391 (((((h).1 q919)).2 q908)).1) (And.intro (ok_390 hw) (Exists.intro 393 (And.intro (rf_390_3 hw) (And.intro (ok_393 hw) (And.intro (vi_393 ((((((h).1 q919)).2 q908)).2).1) (And.intro (fun q907 => ((((((((h).1 q919)).2 q908)).2).2).1 q907)) (fun q907 => And.intro (ok_390 hw) (Exists.intro 416 (And.intro (rf_390_41 hw) (And.intro (ok_390 hw) (And.intro (ok_390 hw) (Exists.intro 393 (And.intro (rf_390_3 hw) (And.intro (ok_393 hw) (And.intro (vi_393 (((((((((h).1 q919)).2 q908)).2).2).2 q907)).1) (And.intro (ok_416 hw) (And.intro (vi_416 ((((((((((h).1 q919)).2 q908)).2).2).2 q907)).2).1) (And.intro (ok_390 hw) (And.intro (ok_390 hw) (((((((((((h).1 q919)).2 q908)).2).2).2 q907)).2).2)))))))))))))))))))))))))))) (fun q919 => And.intro (Nat.le_of_ble_eq_true rfl) (And.intro (Nat.le_of_ble_eq_true rfl) (SpI.mono (((h).2 q919)) (fun v2 s1 q918 => And.intro (fun q917 => And.intro (fun q910 => ((((q918).1 q917)).1 q910)) (fun q910 => And.intro (fun q909 => ((((((q918).1 q917)).2 q910)).1 q909)) (fun q909 => And.intro (ok_390 hw) (Exists.intro 391 (And.intro (rf_390_1 hw) (And.intro (ok_391 hw) (And.intro (vi_391 (((((((q918).1 q917)).2 q910)).2 q909)).1) (And.intro (ok_390 hw) (Exists.intro 391 (And.intro (rf_390_1 hw) (And.intro (ok_391 hw) (And.intro (vi_391 ((((((((q918).1 q917)).2 q910)).2 q909)).2).1) (((((((((q918).1 q917)).2 q910)).2 q909)).2).2))))))))))))) (fun q917 => And.intro (ok_390 hw) (And.intro (Nat.le_of_ble_eq_true rfl) (SpI.mono (((q918).2 q917)) (fun v4 s3 q916 => And.intro (fun q915 => And.intro (fun q912 => ((((q916).1 q915)).1 q912)) (fun q912 => And.intro (fun q911 => ((((((q916).1 q915)).2 q912)).1 q911)) (fun q911 => And.intro (ok_390 hw) (Exists.intro 391 (And.intro (rf_390_1 hw) (And.intro (ok_391 hw) (And.intro (vi_391 (((((((q916).1 q915)).2 q912)).2 q911)).1) (And.intro (ok_390 hw) (Exists.intro 391 (And.intro (rf_390_1 hw) (And.intro (ok_391 hw) (And.intro (vi_391 ((((((((q916).1 q915)).2 q912)).2 q911)).2).1) (((((((((q916).1 q915)).2 q912)).2 q911)).2).2))))))))))))) (fun q915 => And.intro (fun q914 => ((((q916).2 q915)).1 q914)) (fun q914 => And.intro (fun q913 => ((((((q916).2 q915)).2 q914)).1 q913)) (fun q913 => And.intro (ok_390 hw) (Exists.intro 391 (And.intro (rf_390_1 hw) (And.intro (ok_391 hw) (And.intro (vi_391 (((((((q916).2 q915)).2 q914)).2 q913)).1) (And.intro (ok_390 hw) (Exists.intro 391 (And.intro (rf_390_1 hw) (And.intro (ok_391 hw) (And.intro (vi_391 ((((((((q916).2 q915)).2 q914)).2 q913)).2).1) (((((((((q916).2 q915)).2 q914)).2 q913)).2).2)))))))))))))))))))))))
theorem vX12_areSounds_0 {Γ : Gx} {d : Nat} {w : Wd} {Q : Int32 → St → Prop} {σ : St} {x1 : Int32} (hw : RunW w)
    (h : (vp_in x1 24) ∧ ((¬ (gI σ 390 42) = (gI σ 397 x1.toNatClampNeg) → AI Γ d mX12_areSounds w Q 21 [(0, .ref 390), (1, .int x1), (2, .int (0 : Int32)), (3, .int (0 : Int32))] σ) ∧ ((gI σ 390 42) = (gI σ 397 x1.toNatClampNeg) → AI Γ d mX12_areSounds w Q 21 [(0, .ref 390), (1, .int x1), (2, .int (1 : Int32)), (3, .int (0 : Int32))] σ))) :
    AI Γ d mX12_areSounds w Q 0 [(0, .ref 390), (1, .int x1)] σ :=
  wp_sound (μ := mX12_areSounds) (T := tbX12) (is := isX12_areSounds) (sw := swX12_areSounds) (cu := cuX12_areSounds) tbX12_ok msX12_areSounds 13 _ _ _ _ _ _ _ (And.intro (ok_390 hw) (And.intro (ok_390 hw) (Exists.intro 397 (And.intro (rf_390_8 hw) (And.intro (ok_397 hw) (And.intro (vi_397 (h).1) ((h).2)))))))
theorem vX12_areSounds_21 {Γ : Gx} {d : Nat} {w : Wd} {Q : Int32 → St → Prop} {σ : St} {x1 : Int32} {x2 : Int32} {x3 : Int32} (hw : RunW w)
    (h : (((gI σ 390 42) ≤ x3 → (x2 = 0 ∨ x2 = 1) ∧ Q x2 σ) ∧ (¬ (gI σ 390 42) ≤ x3 → ((x2 = (0 : Int32) → (x2 = 0 ∨ x2 = 1) ∧ Q x2 σ) ∧ (¬ x2 = (0 : Int32) → (vp_in x3 32) ∧ (vp_in (((8 : Int32) * x1) + x3) 192) ∧ ((¬ (gI σ 416 x3.toNatClampNeg) = (gI σ 398 (((8 : Int32) * x1) + x3).toNatClampNeg) → AI Γ d mX12_areSounds w Q 21 [(0, .ref 390), (1, .int x1), (2, .int (0 : Int32)), (3, .int (x3 + (1 : Int32)))] σ) ∧ ((gI σ 416 x3.toNatClampNeg) = (gI σ 398 (((8 : Int32) * x1) + x3).toNatClampNeg) → AI Γ d mX12_areSounds w Q 21 [(0, .ref 390), (1, .int x1), (2, .int (1 : Int32)), (3, .int (x3 + (1 : Int32)))] σ))))))) :
    AI Γ d mX12_areSounds w Q 21 [(0, .ref 390), (1, .int x1), (2, .int x2), (3, .int x3)] σ :=
  wp_sound (μ := mX12_areSounds) (T := tbX12) (is := isX12_areSounds) (sw := swX12_areSounds) (cu := cuX12_areSounds) tbX12_ok msX12_areSounds 25 _ _ _ _ _ _ _ (And.intro (ok_390 hw) (And.intro (fun q938 => And.intro (nb01 (((h).1 q938)).1) (And.intro rfl (Exists.intro x2 (And.intro rfl ((((h).1 q938)).2))))) (fun q938 => And.intro (fun q937 => And.intro (nb01 (((((h).2 q938)).1 q937)).1) (And.intro rfl (Exists.intro x2 (And.intro rfl ((((((h).2 q938)).1 q937)).2))))) (fun q937 => And.intro (ok_390 hw) (Exists.intro 416 (And.intro (rf_390_41 hw) (And.intro (ok_416 hw) (And.intro (vi_416 (((((h).2 q938)).2 q937)).1) (And.intro (ok_390 hw) (Exists.intro 398 (And.intro (rf_390_9 hw) (And.intro (ok_398 hw) (And.intro (vi_398 ((((((h).2 q938)).2 q937)).2).1) (((((((h).2 q938)).2 q937)).2).2))))))))))))))
theorem vX12_isRight_0 {Γ : Gx} {d : Nat} {w : Wd} {Q : Int32 → St → Prop} {σ : St} {x1 : Int32} {x2 : Int32} (hw : RunW w)
    (h : SpV Γ d mX12_speak [.ref 390, .int x1, .int x2] σ w (fun s1 => (((gI s1 390 43) = (0 : Int32) → Q (0 : Int32) s1) ∧ (¬ (gI s1 390 43) = (0 : Int32) → SpI Γ d mX12_areSounds [.ref 390, .int x1] s1 w (fun v3 s2 => ((v3 = (0 : Int32) → Q (0 : Int32) s2) ∧ (¬ v3 = (0 : Int32) → Q (1 : Int32) s2))))))) :
    AI Γ (d + 1) mX12_isRight w Q 0 [(0, .ref 390), (1, .int x1), (2, .int x2)] σ :=
  wp_sound (μ := mX12_isRight) (T := tbX12) (is := isX12_isRight) (sw := swX12_isRight) (cu := cuX12_isRight) tbX12_ok msX12_isRight 15 _ _ _ _ _ _ _ (And.intro (ok_390 hw) (And.intro (Nat.le_of_ble_eq_true rfl) (SpV.mono (h) (fun s1 q944 => And.intro (ok_390 hw) (And.intro (fun q943 => And.intro nb0 (And.intro rfl (Exists.intro (0 : Int32) (And.intro rfl (((q944).1 q943)))))) (fun q943 => And.intro (ok_390 hw) (And.intro (Nat.le_of_ble_eq_true rfl) (SpI.mono (((q944).2 q943)) (fun v3 s2 q942 => And.intro (fun q941 => And.intro nb0 (And.intro rfl (Exists.intro (0 : Int32) (And.intro rfl (((q942).1 q941)))))) (fun q941 => And.intro nb1 (And.intro rfl (Exists.intro (1 : Int32) (And.intro rfl (((q942).2 q941)))))))))))))))
theorem vX12_outAt_0 {Γ : Gx} {d : Nat} {w : Wd} {Q : Int32 → St → Prop} {σ : St} {x1 : Int32} (hw : RunW w)
    (h : ((¬ x1 = (-1 : Int32) → SpI Γ d mX12_in [.long x1.toInt64, .long (0 : Int64), .long (((gI σ 390 42) - (1 : Int32)).toInt64)] σ w (fun v2 s1 => ((v2 = (0 : Int32) → Q (-1 : Int32) s1) ∧ (¬ v2 = (0 : Int32) → (vp_in x1 32) ∧ Q (gI s1 416 x1.toNatClampNeg) s1)))) ∧ (x1 = (-1 : Int32) → Q (gI σ 390 42) σ))) :
    AI Γ (d + 1) mX12_outAt w Q 0 [(0, .ref 390), (1, .int x1)] σ :=
  wp_sound (μ := mX12_outAt) (T := tbX12) (is := isX12_outAt) (sw := swX12_outAt) (cu := cuX12_outAt) tbX12_ok msX12_outAt 20 _ _ _ _ _ _ _ (And.intro (fun q951 => And.intro (ok_390 hw) (And.intro (Nat.le_of_ble_eq_true rfl) (And.intro (Nat.le_of_ble_eq_true rfl) (SpI.mono (((h).1 q951)) (fun v2 s1 q950 => And.intro (fun q949 => And.intro rfl (And.intro rfl (Exists.intro (-1 : Int32) (And.intro rfl (((q950).1 q949)))))) (fun q949 => And.intro (ok_390 hw) (Exists.intro 416 (And.intro (rf_390_41 hw) (And.intro (ok_416 hw) (And.intro (vi_416 (((q950).2 q949)).1) (And.intro rfl (And.intro rfl (Exists.intro (gI s1 416 x1.toNatClampNeg) (And.intro rfl ((((q950).2 q949)).2))))))))))))))) (fun q951 => And.intro (ok_390 hw) (And.intro rfl (And.intro rfl (Exists.intro (gI σ 390 42) (And.intro rfl (((h).2 q951))))))))
theorem vX12_aloud_0 {Γ : Gx} {d : Nat} {w : Wd} {Q : Int32 → St → Prop} {σ : St} {x1 : Int32} {x2 : Int32} {x3 : Int32} (hw : RunW w)
    (h : SpI Γ d mX12_isWord [.ref 390, .int x1] σ w (fun v2 s1 => ((v2 = (0 : Int32) → Q (-1001 : Int32) s1) ∧ (¬ v2 = (0 : Int32) → SpI Γ d mX12_areSigns [.ref 390, .int x2] s1 w (fun v4 s3 => ((¬ v4 = (0 : Int32) → SpV Γ d mX12_speak [.ref 390, .int x1, .int x2] s3 w (fun s5 => SpI Γ d mX12_outAt [.ref 390, .int x3] s5 w (fun v7 s6 => Q v7 s6))) ∧ (v4 = (0 : Int32) → Q (-1001 : Int32) s3))))))) :
    AI Γ (d + 1) mX12_aloud w Q 0 [(0, .ref 390), (1, .int x1), (2, .int x2), (3, .int x3)] σ :=
  wp_sound (μ := mX12_aloud) (T := tbX12) (is := isX12_aloud) (sw := swX12_aloud) (cu := cuX12_aloud) tbX12_ok msX12_aloud 17 _ _ _ _ _ _ _ (And.intro (ok_390 hw) (And.intro (Nat.le_of_ble_eq_true rfl) (SpI.mono (h) (fun v2 s1 q960 => And.intro (fun q959 => And.intro rfl (And.intro rfl (Exists.intro (-1001 : Int32) (And.intro rfl (((q960).1 q959)))))) (fun q959 => And.intro (ok_390 hw) (And.intro (Nat.le_of_ble_eq_true rfl) (SpI.mono (((q960).2 q959)) (fun v4 s3 q958 => And.intro (fun q957 => And.intro (ok_390 hw) (And.intro (Nat.le_of_ble_eq_true rfl) (SpV.mono (((q958).1 q957)) (fun s5 q956 => And.intro (ok_390 hw) (And.intro (Nat.le_of_ble_eq_true rfl) (SpI.mono (q956) (fun v7 s6 q955 => And.intro rfl (And.intro rfl (Exists.intro v7 (And.intro rfl (q955))))))))))) (fun q957 => And.intro rfl (And.intro rfl (Exists.intro (-1001 : Int32) (And.intro rfl (((q958).2 q957))))))))))))))
theorem vX12_spell_0 {Γ : Gx} {d : Nat} {w : Wd} {Q : St → Prop} {σ : St} {x1 : Int32} {x2 : Int32} (hw : RunW w)
    (h : AV Γ (d + 1) mX12_spell w Q 12 [(0, .ref 390), (1, .int x1), (2, .int x2), (3, .int (0 : Int32))] (uI (uI σ 390 42 (0 : Int32)) 390 43 (1 : Int32))) :
    AV Γ (d + 1) mX12_spell w Q 0 [(0, .ref 390), (1, .int x1), (2, .int x2)] σ :=
  wp_sound (μ := mX12_spell) (T := tbX12) (is := isX12_spell) (sw := swX12_spell) (cu := cuX12_spell) tbX12_ok msX12_spell 9 _ _ _ _ _ _ _ (And.intro (ok_390 hw) (And.intro (ok_390 hw) (And.intro (Or.inr rfl) (h))))
theorem vX12_spell_12 {Γ : Gx} {d : Nat} {w : Wd} {Q : St → Prop} {σ : St} {x1 : Int32} {x2 : Int32} {x3 : Int32} (hw : RunW w)
    (h : (vp_in x1 24) ∧ (((gI σ 397 x1.toNatClampNeg) ≤ x3 → Q σ) ∧ (¬ (gI σ 397 x1.toNatClampNeg) ≤ x3 → (((gI σ 390 43) = (0 : Int32) → Q σ) ∧ (¬ (gI σ 390 43) = (0 : Int32) → AV Γ (d + 1) mX12_spell w Q 40 [(0, .ref 390), (1, .int x1), (2, .int x2), (3, .int x3), (4, .int (-1 : Int32)), (5, .int ((gI σ 390 0) - (1 : Int32)))] σ))))) :
    AV Γ (d + 1) mX12_spell w Q 12 [(0, .ref 390), (1, .int x1), (2, .int x2), (3, .int x3)] σ :=
  wp_sound (μ := mX12_spell) (T := tbX12) (is := isX12_spell) (sw := swX12_spell) (cu := cuX12_spell) tbX12_ok msX12_spell 17 _ _ _ _ _ _ _ (And.intro (ok_390 hw) (Exists.intro 397 (And.intro (rf_390_8 hw) (And.intro (ok_397 hw) (And.intro (vi_397 (h).1) (And.intro (fun q968 => And.intro rfl (And.intro rfl (And.intro rfl ((((h).2).1 q968))))) (fun q968 => And.intro (ok_390 hw) (And.intro (fun q967 => And.intro rfl (And.intro rfl (And.intro rfl ((((((h).2).2 q968)).1 q967))))) (fun q967 => And.intro (ok_390 hw) ((((((h).2).2 q968)).2 q967)))))))))))
theorem vX12_spell_40 {Γ : Gx} {d : Nat} {w : Wd} {Q : St → Prop} {σ : St} {x1 : Int32} {x2 : Int32} {x3 : Int32} {x4 : Int32} {x5 : Int32} (hw : RunW w)
    (h : ((x5 < (0 : Int32) → ((x4 < (0 : Int32) → AV Γ (d + 1) mX12_spell w Q 169 [(0, .ref 390), (1, .int x1), (2, .int x2), (3, .int x3), (4, .int x4), (5, .int (0 : Int32))] (uI σ 390 43 (0 : Int32))) ∧ (¬ x4 < (0 : Int32) → AV Γ (d + 1) mX12_spell w Q 169 [(0, .ref 390), (1, .int x1), (2, .int x2), (3, .int x3), (4, .int x4), (5, .int (0 : Int32))] (uI σ 390 43 (1 : Int32))))) ∧ (¬ x5 < (0 : Int32) → SpI Γ d mX12_has [.int x2, .int x5] σ w (fun v2 s1 => ((v2 = (0 : Int32) → (((0 : Int32) = (0 : Int32) → (((0 : Int32) = (0 : Int32) → AV Γ (d + 1) mX12_spell w Q 40 [(0, .ref 390), (1, .int x1), (2, .int x2), (3, .int x3), (4, .int x4), (5, .int (x5 + (-1 : Int32)))] s1) ∧ (¬ (0 : Int32) = (0 : Int32) → AV Γ (d + 1) mX12_spell w Q 40 [(0, .ref 390), (1, .int x1), (2, .int x2), (3, .int x3), (4, .int x5), (5, .int (x5 + (-1 : Int32)))] s1))) ∧ (¬ (0 : Int32) = (0 : Int32) → (vp_in x5 20) ∧ ((¬ (gI s1 394 x5.toNatClampNeg) = (1 : Int32) → (vp_in x5 20) ∧ ((¬ (gI s1 394 x5.toNatClampNeg) = (2 : Int32) → (((1 : Int32) = (0 : Int32) → AV Γ (d + 1) mX12_spell w Q 40 [(0, .ref 390), (1, .int x1), (2, .int x2), (3, .int x3), (4, .int x4), (5, .int (x5 + (-1 : Int32)))] s1) ∧ (¬ (1 : Int32) = (0 : Int32) → AV Γ (d + 1) mX12_spell w Q 40 [(0, .ref 390), (1, .int x1), (2, .int x2), (3, .int x3), (4, .int x5), (5, .int (x5 + (-1 : Int32)))] s1))) ∧ ((gI s1 394 x5.toNatClampNeg) = (2 : Int32) → (vp_in x1 24) ∧ ((¬ x3 = ((gI s1 397 x1.toNatClampNeg) - (1 : Int32)) → (((0 : Int32) = (0 : Int32) → AV Γ (d + 1) mX12_spell w Q 40 [(0, .ref 390), (1, .int x1), (2, .int x2), (3, .int x3), (4, .int x4), (5, .int (x5 + (-1 : Int32)))] s1) ∧ (¬ (0 : Int32) = (0 : Int32) → AV Γ (d + 1) mX12_spell w Q 40 [(0, .ref 390), (1, .int x1), (2, .int x2), (3, .int x3), (4, .int x5), (5, .int (x5 + (-1 : Int32)))] s1))) ∧ (x3 = ((gI s1 397 x1.toNatClampNeg) - (1 : Int32)) → (((1 : Int32) = (0 : Int32) → AV Γ (d + 1) mX12_spell w Q 40 [(0, .ref 390), (1, .int x1), (2, .int x2), (3, .int x3), (4, .int x4), (5, .int (x5 + (-1 : Int32)))] s1) ∧ (¬ (1 : Int32) = (0 : Int32) → AV Γ (d + 1) mX12_spell w Q 40 [(0, .ref 390), (1, .int x1), (2, .int x2), (3, .int x3), (4, .int x5), (5, .int (x5 + (-1 : Int32)))] s1))))))) ∧ ((gI s1 394 x5.toNatClampNeg) = (1 : Int32) → ((¬ x3 = (0 : Int32) → (((0 : Int32) = (0 : Int32) → AV Γ (d + 1) mX12_spell w Q 40 [(0, .ref 390), (1, .int x1), (2, .int x2), (3, .int x3), (4, .int x4), (5, .int (x5 + (-1 : Int32)))] s1) ∧ (¬ (0 : Int32) = (0 : Int32) → AV Γ (d + 1) mX12_spell w Q 40 [(0, .ref 390), (1, .int x1), (2, .int x2), (3, .int x3), (4, .int x5), (5, .int (x5 + (-1 : Int32)))] s1))) ∧ (x3 = (0 : Int32) → (vp_in x5 20) ∧ ((¬ (gI s1 394 x5.toNatClampNeg) = (2 : Int32) → (((1 : Int32) = (0 : Int32) → AV Γ (d + 1) mX12_spell w Q 40 [(0, .ref 390), (1, .int x1), (2, .int x2), (3, .int x3), (4, .int x4), (5, .int (x5 + (-1 : Int32)))] s1) ∧ (¬ (1 : Int32) = (0 : Int32) → AV Γ (d + 1) mX12_spell w Q 40 [(0, .ref 390), (1, .int x1), (2, .int x2), (3, .int x3), (4, .int x5), (5, .int (x5 + (-1 : Int32)))] s1))) ∧ ((gI s1 394 x5.toNatClampNeg) = (2 : Int32) → (vp_in x1 24) ∧ ((¬ x3 = ((gI s1 397 x1.toNatClampNeg) - (1 : Int32)) → (((0 : Int32) = (0 : Int32) → AV Γ (d + 1) mX12_spell w Q 40 [(0, .ref 390), (1, .int x1), (2, .int x2), (3, .int x3), (4, .int x4), (5, .int (x5 + (-1 : Int32)))] s1) ∧ (¬ (0 : Int32) = (0 : Int32) → AV Γ (d + 1) mX12_spell w Q 40 [(0, .ref 390), (1, .int x1), (2, .int x2), (3, .int x3), (4, .int x5), (5, .int (x5 + (-1 : Int32)))] s1))) ∧ (x3 = ((gI s1 397 x1.toNatClampNeg) - (1 : Int32)) → (((1 : Int32) = (0 : Int32) → AV Γ (d + 1) mX12_spell w Q 40 [(0, .ref 390), (1, .int x1), (2, .int x2), (3, .int x3), (4, .int x4), (5, .int (x5 + (-1 : Int32)))] s1) ∧ (¬ (1 : Int32) = (0 : Int32) → AV Γ (d + 1) mX12_spell w Q 40 [(0, .ref 390), (1, .int x1), (2, .int x2), (3, .int x3), (4, .int x5), (5, .int (x5 + (-1 : Int32)))] s1))))))))))))) ∧ (¬ v2 = (0 : Int32) → (vp_in x5 20) ∧ (vp_in (((8 : Int32) * x1) + x3) 192) ∧ ((¬ (gI s1 393 x5.toNatClampNeg) = (gI s1 398 (((8 : Int32) * x1) + x3).toNatClampNeg) → (((0 : Int32) = (0 : Int32) → (((0 : Int32) = (0 : Int32) → AV Γ (d + 1) mX12_spell w Q 40 [(0, .ref 390), (1, .int x1), (2, .int x2), (3, .int x3), (4, .int x4), (5, .int (x5 + (-1 : Int32)))] s1) ∧ (¬ (0 : Int32) = (0 : Int32) → AV Γ (d + 1) mX12_spell w Q 40 [(0, .ref 390), (1, .int x1), (2, .int x2), (3, .int x3), (4, .int x5), (5, .int (x5 + (-1 : Int32)))] s1))) ∧ (¬ (0 : Int32) = (0 : Int32) → (vp_in x5 20) ∧ ((¬ (gI s1 394 x5.toNatClampNeg) = (1 : Int32) → (vp_in x5 20) ∧ ((¬ (gI s1 394 x5.toNatClampNeg) = (2 : Int32) → (((1 : Int32) = (0 : Int32) → AV Γ (d + 1) mX12_spell w Q 40 [(0, .ref 390), (1, .int x1), (2, .int x2), (3, .int x3), (4, .int x4), (5, .int (x5 + (-1 : Int32)))] s1) ∧ (¬ (1 : Int32) = (0 : Int32) → AV Γ (d + 1) mX12_spell w Q 40 [(0, .ref 390), (1, .int x1), (2, .int x2), (3, .int x3), (4, .int x5), (5, .int (x5 + (-1 : Int32)))] s1))) ∧ ((gI s1 394 x5.toNatClampNeg) = (2 : Int32) → (vp_in x1 24) ∧ ((¬ x3 = ((gI s1 397 x1.toNatClampNeg) - (1 : Int32)) → (((0 : Int32) = (0 : Int32) → AV Γ (d + 1) mX12_spell w Q 40 [(0, .ref 390), (1, .int x1), (2, .int x2), (3, .int x3), (4, .int x4), (5, .int (x5 + (-1 : Int32)))] s1) ∧ (¬ (0 : Int32) = (0 : Int32) → AV Γ (d + 1) mX12_spell w Q 40 [(0, .ref 390), (1, .int x1), (2, .int x2), (3, .int x3), (4, .int x5), (5, .int (x5 + (-1 : Int32)))] s1))) ∧ (x3 = ((gI s1 397 x1.toNatClampNeg) - (1 : Int32)) → (((1 : Int32) = (0 : Int32) → AV Γ (d + 1) mX12_spell w Q 40 [(0, .ref 390), (1, .int x1), (2, .int x2), (3, .int x3), (4, .int x4), (5, .int (x5 + (-1 : Int32)))] s1) ∧ (¬ (1 : Int32) = (0 : Int32) → AV Γ (d + 1) mX12_spell w Q 40 [(0, .ref 390), (1, .int x1), (2, .int x2), (3, .int x3), (4, .int x5), (5, .int (x5 + (-1 : Int32)))] s1))))))) ∧ ((gI s1 394 x5.toNatClampNeg) = (1 : Int32) → ((¬ x3 = (0 : Int32) → (((0 : Int32) = (0 : Int32) → AV Γ (d + 1) mX12_spell w Q 40 [(0, .ref 390), (1, .int x1), (2, .int x2), (3, .int x3), (4, .int x4), (5, .int (x5 + (-1 : Int32)))] s1) ∧ (¬ (0 : Int32) = (0 : Int32) → AV Γ (d + 1) mX12_spell w Q 40 [(0, .ref 390), (1, .int x1), (2, .int x2), (3, .int x3), (4, .int x5), (5, .int (x5 + (-1 : Int32)))] s1))) ∧ (x3 = (0 : Int32) → (vp_in x5 20) ∧ ((¬ (gI s1 394 x5.toNatClampNeg) = (2 : Int32) → (((1 : Int32) = (0 : Int32) → AV Γ (d + 1) mX12_spell w Q 40 [(0, .ref 390), (1, .int x1), (2, .int x2), (3, .int x3), (4, .int x4), (5, .int (x5 + (-1 : Int32)))] s1) ∧ (¬ (1 : Int32) = (0 : Int32) → AV Γ (d + 1) mX12_spell w Q 40 [(0, .ref 390), (1, .int x1), (2, .int x2), (3, .int x3), (4, .int x5), (5, .int (x5 + (-1 : Int32)))] s1))) ∧ ((gI s1 394 x5.toNatClampNeg) = (2 : Int32) → (vp_in x1 24) ∧ ((¬ x3 = ((gI s1 397 x1.toNatClampNeg) - (1 : Int32)) → (((0 : Int32) = (0 : Int32) → AV Γ (d + 1) mX12_spell w Q 40 [(0, .ref 390), (1, .int x1), (2, .int x2), (3, .int x3), (4, .int x4), (5, .int (x5 + (-1 : Int32)))] s1) ∧ (¬ (0 : Int32) = (0 : Int32) → AV Γ (d + 1) mX12_spell w Q 40 [(0, .ref 390), (1, .int x1), (2, .int x2), (3, .int x3), (4, .int x5), (5, .int (x5 + (-1 : Int32)))] s1))) ∧ (x3 = ((gI s1 397 x1.toNatClampNeg) - (1 : Int32)) → (((1 : Int32) = (0 : Int32) → AV Γ (d + 1) mX12_spell w Q 40 [(0, .ref 390), (1, .int x1), (2, .int x2), (3, .int x3), (4, .int x4), (5, .int (x5 + (-1 : Int32)))] s1) ∧ (¬ (1 : Int32) = (0 : Int32) → AV Γ (d + 1) mX12_spell w Q 40 [(0, .ref 390), (1, .int x1), (2, .int x2), (3, .int x3), (4, .int x5), (5, .int (x5 + (-1 : Int32)))] s1))))))))))))) ∧ ((gI s1 393 x5.toNatClampNeg) = (gI s1 398 (((8 : Int32) * x1) + x3).toNatClampNeg) → (((1 : Int32) = (0 : Int32) → (((0 : Int32) = (0 : Int32) → AV Γ (d + 1) mX12_spell w Q 40 [(0, .ref 390), (1, .int x1), (2, .int x2), (3, .int x3), (4, .int x4), (5, .int (x5 + (-1 : Int32)))] s1) ∧ (¬ (0 : Int32) = (0 : Int32) → AV Γ (d + 1) mX12_spell w Q 40 [(0, .ref 390), (1, .int x1), (2, .int x2), (3, .int x3), (4, .int x5), (5, .int (x5 + (-1 : Int32)))] s1))) ∧ (¬ (1 : Int32) = (0 : Int32) → (vp_in x5 20) ∧ ((¬ (gI s1 394 x5.toNatClampNeg) = (1 : Int32) → (vp_in x5 20) ∧ ((¬ (gI s1 394 x5.toNatClampNeg) = (2 : Int32) → (((1 : Int32) = (0 : Int32) → AV Γ (d + 1) mX12_spell w Q 40 [(0, .ref 390), (1, .int x1), (2, .int x2), (3, .int x3), (4, .int x4), (5, .int (x5 + (-1 : Int32)))] s1) ∧ (¬ (1 : Int32) = (0 : Int32) → AV Γ (d + 1) mX12_spell w Q 40 [(0, .ref 390), (1, .int x1), (2, .int x2), (3, .int x3), (4, .int x5), (5, .int (x5 + (-1 : Int32)))] s1))) ∧ ((gI s1 394 x5.toNatClampNeg) = (2 : Int32) → (vp_in x1 24) ∧ ((¬ x3 = ((gI s1 397 x1.toNatClampNeg) - (1 : Int32)) → (((0 : Int32) = (0 : Int32) → AV Γ (d + 1) mX12_spell w Q 40 [(0, .ref 390), (1, .int x1), (2, .int x2), (3, .int x3), (4, .int x4), (5, .int (x5 + (-1 : Int32)))] s1) ∧ (¬ (0 : Int32) = (0 : Int32) → AV Γ (d + 1) mX12_spell w Q 40 [(0, .ref 390), (1, .int x1), (2, .int x2), (3, .int x3), (4, .int x5), (5, .int (x5 + (-1 : Int32)))] s1))) ∧ (x3 = ((gI s1 397 x1.toNatClampNeg) - (1 : Int32)) → (((1 : Int32) = (0 : Int32) → AV Γ (d + 1) mX12_spell w Q 40 [(0, .ref 390), (1, .int x1), (2, .int x2), (3, .int x3), (4, .int x4), (5, .int (x5 + (-1 : Int32)))] s1) ∧ (¬ (1 : Int32) = (0 : Int32) → AV Γ (d + 1) mX12_spell w Q 40 [(0, .ref 390), (1, .int x1), (2, .int x2), (3, .int x3), (4, .int x5), (5, .int (x5 + (-1 : Int32)))] s1))))))) ∧ ((gI s1 394 x5.toNatClampNeg) = (1 : Int32) → ((¬ x3 = (0 : Int32) → (((0 : Int32) = (0 : Int32) → AV Γ (d + 1) mX12_spell w Q 40 [(0, .ref 390), (1, .int x1), (2, .int x2), (3, .int x3), (4, .int x4), (5, .int (x5 + (-1 : Int32)))] s1) ∧ (¬ (0 : Int32) = (0 : Int32) → AV Γ (d + 1) mX12_spell w Q 40 [(0, .ref 390), (1, .int x1), (2, .int x2), (3, .int x3), (4, .int x5), (5, .int (x5 + (-1 : Int32)))] s1))) ∧ (x3 = (0 : Int32) → (vp_in x5 20) ∧ ((¬ (gI s1 394 x5.toNatClampNeg) = (2 : Int32) → (((1 : Int32) = (0 : Int32) → AV Γ (d + 1) mX12_spell w Q 40 [(0, .ref 390), (1, .int x1), (2, .int x2), (3, .int x3), (4, .int x4), (5, .int (x5 + (-1 : Int32)))] s1) ∧ (¬ (1 : Int32) = (0 : Int32) → AV Γ (d + 1) mX12_spell w Q 40 [(0, .ref 390), (1, .int x1), (2, .int x2), (3, .int x3), (4, .int x5), (5, .int (x5 + (-1 : Int32)))] s1))) ∧ ((gI s1 394 x5.toNatClampNeg) = (2 : Int32) → (vp_in x1 24) ∧ ((¬ x3 = ((gI s1 397 x1.toNatClampNeg) - (1 : Int32)) → (((0 : Int32) = (0 : Int32) → AV Γ (d + 1) mX12_spell w Q 40 [(0, .ref 390), (1, .int x1), (2, .int x2), (3, .int x3), (4, .int x4), (5, .int (x5 + (-1 : Int32)))] s1) ∧ (¬ (0 : Int32) = (0 : Int32) → AV Γ (d + 1) mX12_spell w Q 40 [(0, .ref 390), (1, .int x1), (2, .int x2), (3, .int x3), (4, .int x5), (5, .int (x5 + (-1 : Int32)))] s1))) ∧ (x3 = ((gI s1 397 x1.toNatClampNeg) - (1 : Int32)) → (((1 : Int32) = (0 : Int32) → AV Γ (d + 1) mX12_spell w Q 40 [(0, .ref 390), (1, .int x1), (2, .int x2), (3, .int x3), (4, .int x4), (5, .int (x5 + (-1 : Int32)))] s1) ∧ (¬ (1 : Int32) = (0 : Int32) → AV Γ (d + 1) mX12_spell w Q 40 [(0, .ref 390), (1, .int x1), (2, .int x2), (3, .int x3), (4, .int x5), (5, .int (x5 + (-1 : Int32)))] s1)))))))))))))))))))) :
    AV Γ (d + 1) mX12_spell w Q 40 [(0, .ref 390), (1, .int x1), (2, .int x2), (3, .int x3), (4, .int x4), (5, .int x5)] σ :=
  wp_sound (μ := mX12_spell) (T := tbX12) (is := isX12_spell) (sw := swX12_spell) (cu := cuX12_spell) tbX12_ok msX12_spell 57 _ _ _ _ _ _ _ (And.intro (fun q988 => And.intro (fun q969 => And.intro (ok_390 hw) (And.intro (Or.inl rfl) (((((h).1 q988)).1 q969)))) (fun q969 => And.intro (ok_390 hw) (And.intro (Or.inr rfl) (((((h).1 q988)).2 q969))))) (fun q988 => And.intro (Nat.le_of_ble_eq_true rfl) (And.intro (Nat.le_of_ble_eq_true rfl) (SpI.mono (((h).2 q988)) (fun v2 s1 q987 => And.intro (fun q986 => And.intro (fun q974 => ((((q987).1 q986)).1 q974)) (fun q974 => And.intro (ok_390 hw) (Exists.intro 394 (And.intro (rf_390_4 hw) (And.intro (ok_394 hw) (And.intro (vi_394 (((((q987).1 q986)).2 q974)).1) (And.intro (fun q973 => And.intro (ok_390 hw) (Exists.intro 394 (And.intro (rf_390_4 hw) (And.intro (ok_394 hw) (And.intro (vi_394 ((((((((q987).1 q986)).2 q974)).2).1 q973)).1) (And.intro (fun q970 => ((((((((((q987).1 q986)).2 q974)).2).1 q973)).2).1 q970)) (fun q970 => And.intro (ok_390 hw) (Exists.intro 397 (And.intro (rf_390_8 hw) (And.intro (ok_397 hw) (And.intro (vi_397 (((((((((((q987).1 q986)).2 q974)).2).1 q973)).2).2 q970)).1) ((((((((((((q987).1 q986)).2 q974)).2).1 q973)).2).2 q970)).2)))))))))))) (fun q973 => And.intro (fun q972 => (((((((((q987).1 q986)).2 q974)).2).2 q973)).1 q972)) (fun q972 => And.intro (ok_390 hw) (Exists.intro 394 (And.intro (rf_390_4 hw) (And.intro (ok_394 hw) (And.intro (vi_394 ((((((((((q987).1 q986)).2 q974)).2).2 q973)).2 q972)).1) (And.intro (fun q971 => ((((((((((((q987).1 q986)).2 q974)).2).2 q973)).2 q972)).2).1 q971)) (fun q971 => And.intro (ok_390 hw) (Exists.intro 397 (And.intro (rf_390_8 hw) (And.intro (ok_397 hw) (And.intro (vi_397 (((((((((((((q987).1 q986)).2 q974)).2).2 q973)).2 q972)).2).2 q971)).1) ((((((((((((((q987).1 q986)).2 q974)).2).2 q973)).2 q972)).2).2 q971)).2)))))))))))))))))))) (fun q986 => And.intro (ok_390 hw) (Exists.intro 393 (And.intro (rf_390_3 hw) (And.intro (ok_393 hw) (And.intro (vi_393 (((q987).2 q986)).1) (And.intro (ok_390 hw) (Exists.intro 398 (And.intro (rf_390_9 hw) (And.intro (ok_398 hw) (And.intro (vi_398 ((((q987).2 q986)).2).1) (And.intro (fun q985 => And.intro (fun q979 => ((((((((q987).2 q986)).2).2).1 q985)).1 q979)) (fun q979 => And.intro (ok_390 hw) (Exists.intro 394 (And.intro (rf_390_4 hw) (And.intro (ok_394 hw) (And.intro (vi_394 (((((((((q987).2 q986)).2).2).1 q985)).2 q979)).1) (And.intro (fun q978 => And.intro (ok_390 hw) (Exists.intro 394 (And.intro (rf_390_4 hw) (And.intro (ok_394 hw) (And.intro (vi_394 ((((((((((((q987).2 q986)).2).2).1 q985)).2 q979)).2).1 q978)).1) (And.intro (fun q975 => ((((((((((((((q987).2 q986)).2).2).1 q985)).2 q979)).2).1 q978)).2).1 q975)) (fun q975 => And.intro (ok_390 hw) (Exists.intro 397 (And.intro (rf_390_8 hw) (And.intro (ok_397 hw) (And.intro (vi_397 (((((((((((((((q987).2 q986)).2).2).1 q985)).2 q979)).2).1 q978)).2).2 q975)).1) ((((((((((((((((q987).2 q986)).2).2).1 q985)).2 q979)).2).1 q978)).2).2 q975)).2)))))))))))) (fun q978 => And.intro (fun q977 => (((((((((((((q987).2 q986)).2).2).1 q985)).2 q979)).2).2 q978)).1 q977)) (fun q977 => And.intro (ok_390 hw) (Exists.intro 394 (And.intro (rf_390_4 hw) (And.intro (ok_394 hw) (And.intro (vi_394 ((((((((((((((q987).2 q986)).2).2).1 q985)).2 q979)).2).2 q978)).2 q977)).1) (And.intro (fun q976 => ((((((((((((((((q987).2 q986)).2).2).1 q985)).2 q979)).2).2 q978)).2 q977)).2).1 q976)) (fun q976 => And.intro (ok_390 hw) (Exists.intro 397 (And.intro (rf_390_8 hw) (And.intro (ok_397 hw) (And.intro (vi_397 (((((((((((((((((q987).2 q986)).2).2).1 q985)).2 q979)).2).2 q978)).2 q977)).2).2 q976)).1) ((((((((((((((((((q987).2 q986)).2).2).1 q985)).2 q979)).2).2 q978)).2 q977)).2).2 q976)).2)))))))))))))))))))) (fun q985 => And.intro (fun q984 => ((((((((q987).2 q986)).2).2).2 q985)).1 q984)) (fun q984 => And.intro (ok_390 hw) (Exists.intro 394 (And.intro (rf_390_4 hw) (And.intro (ok_394 hw) (And.intro (vi_394 (((((((((q987).2 q986)).2).2).2 q985)).2 q984)).1) (And.intro (fun q983 => And.intro (ok_390 hw) (Exists.intro 394 (And.intro (rf_390_4 hw) (And.intro (ok_394 hw) (And.intro (vi_394 ((((((((((((q987).2 q986)).2).2).2 q985)).2 q984)).2).1 q983)).1) (And.intro (fun q980 => ((((((((((((((q987).2 q986)).2).2).2 q985)).2 q984)).2).1 q983)).2).1 q980)) (fun q980 => And.intro (ok_390 hw) (Exists.intro 397 (And.intro (rf_390_8 hw) (And.intro (ok_397 hw) (And.intro (vi_397 (((((((((((((((q987).2 q986)).2).2).2 q985)).2 q984)).2).1 q983)).2).2 q980)).1) ((((((((((((((((q987).2 q986)).2).2).2 q985)).2 q984)).2).1 q983)).2).2 q980)).2)))))))))))) (fun q983 => And.intro (fun q982 => (((((((((((((q987).2 q986)).2).2).2 q985)).2 q984)).2).2 q983)).1 q982)) (fun q982 => And.intro (ok_390 hw) (Exists.intro 394 (And.intro (rf_390_4 hw) (And.intro (ok_394 hw) (And.intro (vi_394 ((((((((((((((q987).2 q986)).2).2).2 q985)).2 q984)).2).2 q983)).2 q982)).1) (And.intro (fun q981 => ((((((((((((((((q987).2 q986)).2).2).2 q985)).2 q984)).2).2 q983)).2 q982)).2).1 q981)) (fun q981 => And.intro (ok_390 hw) (Exists.intro 397 (And.intro (rf_390_8 hw) (And.intro (ok_397 hw) (And.intro (vi_397 (((((((((((((((((q987).2 q986)).2).2).2 q985)).2 q984)).2).2 q983)).2 q982)).2).2 q981)).1) ((((((((((((((((((q987).2 q986)).2).2).2 q985)).2 q984)).2).2 q983)).2 q982)).2).2 q981)).2))))))))))))))))))))))))))))))))))))
theorem vX12_spell_169 {Γ : Gx} {d : Nat} {w : Wd} {Q : St → Prop} {σ : St} {x1 : Int32} {x2 : Int32} {x3 : Int32} {x4 : Int32} {x5 : Int32} (hw : RunW w)
    (h : (((gI σ 390 43) = (0 : Int32) → AV Γ (d + 1) mX12_spell w Q 12 [(0, .ref 390), (1, .int x1), (2, .int x2), (3, .int (x3 + (1 : Int32)))] σ) ∧ (¬ (gI σ 390 43) = (0 : Int32) → (vp_in x4 20) ∧ (((gI σ 391 x4.toNatClampNeg) ≤ x5 → AV Γ (d + 1) mX12_spell w Q 12 [(0, .ref 390), (1, .int x1), (2, .int x2), (3, .int (x3 + (1 : Int32)))] σ) ∧ (¬ (gI σ 391 x4.toNatClampNeg) ≤ x5 → (vp_in (((4 : Int32) * x4) + x5) 80) ∧ (vp_in (gI σ 390 42) 32) ∧ AV Γ (d + 1) mX12_spell w Q 169 [(0, .ref 390), (1, .int x1), (2, .int x2), (3, .int x3), (4, .int x4), (5, .int (x5 + (1 : Int32)))] (uI (uI σ 416 (gI σ 390 42).toNatClampNeg (gI σ 392 (((4 : Int32) * x4) + x5).toNatClampNeg)) 390 42 ((gI σ 390 42) + (1 : Int32)))))))) :
    AV Γ (d + 1) mX12_spell w Q 169 [(0, .ref 390), (1, .int x1), (2, .int x2), (3, .int x3), (4, .int x4), (5, .int x5)] σ :=
  wp_sound (μ := mX12_spell) (T := tbX12) (is := isX12_spell) (sw := swX12_spell) (cu := cuX12_spell) tbX12_ok msX12_spell 31 _ _ _ _ _ _ _ (And.intro (ok_390 hw) (And.intro (fun q990 => ((h).1 q990)) (fun q990 => And.intro (ok_390 hw) (Exists.intro 391 (And.intro (rf_390_1 hw) (And.intro (ok_391 hw) (And.intro (vi_391 (((h).2 q990)).1) (And.intro (fun q989 => (((((h).2 q990)).2).1 q989)) (fun q989 => And.intro (ok_390 hw) (Exists.intro 416 (And.intro (rf_390_41 hw) (And.intro (ok_390 hw) (And.intro (ok_390 hw) (Exists.intro 392 (And.intro (rf_390_2 hw) (And.intro (ok_392 hw) (And.intro (vi_392 ((((((h).2 q990)).2).2 q989)).1) (And.intro (ok_416 hw) (And.intro (vi_416 (((((((h).2 q990)).2).2 q989)).2).1) (And.intro (ok_390 hw) (And.intro (ok_390 hw) ((((((((h).2 q990)).2).2 q989)).2).2))))))))))))))))))))))
theorem vX12_isWell_0 {Γ : Gx} {d : Nat} {w : Wd} {Q : Int32 → St → Prop} {σ : St} {x1 : Int32} {x2 : Int32} (hw : RunW w)
    (h : SpV Γ d mX12_spell [.ref 390, .int x1, .int x2] σ w (fun s1 => (((gI s1 390 43) = (0 : Int32) → AI Γ (d + 1) mX12_isWell w Q 35 [(0, .ref 390), (1, .int x1), (3, .int (0 : Int32)), (4, .int (0 : Int32))] s1) ∧ (¬ (gI s1 390 43) = (0 : Int32) → (vp_in x1 24) ∧ ((¬ (gI s1 390 42) = (gI s1 395 x1.toNatClampNeg) → AI Γ (d + 1) mX12_isWell w Q 35 [(0, .ref 390), (1, .int x1), (3, .int (0 : Int32)), (4, .int (0 : Int32))] s1) ∧ ((gI s1 390 42) = (gI s1 395 x1.toNatClampNeg) → AI Γ (d + 1) mX12_isWell w Q 35 [(0, .ref 390), (1, .int x1), (3, .int (1 : Int32)), (4, .int (0 : Int32))] s1)))))) :
    AI Γ (d + 1) mX12_isWell w Q 0 [(0, .ref 390), (1, .int x1), (2, .int x2)] σ :=
  wp_sound (μ := mX12_isWell) (T := tbX12) (is := isX12_isWell) (sw := swX12_isWell) (cu := cuX12_isWell) tbX12_ok msX12_isWell 20 _ _ _ _ _ _ _ (And.intro (ok_390 hw) (And.intro (Nat.le_of_ble_eq_true rfl) (SpV.mono (h) (fun s1 q1016 => And.intro (ok_390 hw) (And.intro (fun q1015 => ((q1016).1 q1015)) (fun q1015 => And.intro (ok_390 hw) (And.intro (ok_390 hw) (Exists.intro 395 (And.intro (rf_390_6 hw) (And.intro (ok_395 hw) (And.intro (vi_395 (((q1016).2 q1015)).1) ((((q1016).2 q1015)).2))))))))))))
theorem vX12_isWell_35 {Γ : Gx} {d : Nat} {w : Wd} {Q : Int32 → St → Prop} {σ : St} {x1 : Int32} {x3 : Int32} {x4 : Int32} (hw : RunW w)
    (h : (((gI σ 390 42) ≤ x4 → (x3 = 0 ∨ x3 = 1) ∧ Q x3 σ) ∧ (¬ (gI σ 390 42) ≤ x4 → ((x3 = (0 : Int32) → (x3 = 0 ∨ x3 = 1) ∧ Q x3 σ) ∧ (¬ x3 = (0 : Int32) → (vp_in x4 32) ∧ (vp_in (((8 : Int32) * x1) + x4) 192) ∧ ((¬ (gI σ 416 x4.toNatClampNeg) = (gI σ 396 (((8 : Int32) * x1) + x4).toNatClampNeg) → AI Γ (d + 1) mX12_isWell w Q 35 [(0, .ref 390), (1, .int x1), (3, .int (0 : Int32)), (4, .int (x4 + (1 : Int32)))] σ) ∧ ((gI σ 416 x4.toNatClampNeg) = (gI σ 396 (((8 : Int32) * x1) + x4).toNatClampNeg) → AI Γ (d + 1) mX12_isWell w Q 35 [(0, .ref 390), (1, .int x1), (3, .int (1 : Int32)), (4, .int (x4 + (1 : Int32)))] σ))))))) :
    AI Γ (d + 1) mX12_isWell w Q 35 [(0, .ref 390), (1, .int x1), (3, .int x3), (4, .int x4)] σ :=
  wp_sound (μ := mX12_isWell) (T := tbX12) (is := isX12_isWell) (sw := swX12_isWell) (cu := cuX12_isWell) tbX12_ok msX12_isWell 25 _ _ _ _ _ _ _ (And.intro (ok_390 hw) (And.intro (fun q1018 => And.intro (nb01 (((h).1 q1018)).1) (And.intro rfl (Exists.intro x3 (And.intro rfl ((((h).1 q1018)).2))))) (fun q1018 => And.intro (fun q1017 => And.intro (nb01 (((((h).2 q1018)).1 q1017)).1) (And.intro rfl (Exists.intro x3 (And.intro rfl ((((((h).2 q1018)).1 q1017)).2))))) (fun q1017 => And.intro (ok_390 hw) (Exists.intro 416 (And.intro (rf_390_41 hw) (And.intro (ok_416 hw) (And.intro (vi_416 (((((h).2 q1018)).2 q1017)).1) (And.intro (ok_390 hw) (Exists.intro 396 (And.intro (rf_390_7 hw) (And.intro (ok_396 hw) (And.intro (vi_396 ((((((h).2 q1018)).2 q1017)).2).1) (((((((h).2 q1018)).2 q1017)).2).2))))))))))))))
theorem vX12_right_0 {Γ : Gx} {d : Nat} {w : Wd} {Q : Int32 → St → Prop} {σ : St} {x1 : Int32} {x2 : Int32} {x3 : Int32} (hw : RunW w)
    (h : SpI Γ d mX12_isWord [.ref 390, .int x1] σ w (fun v2 s1 => ((v2 = (0 : Int32) → Q (-1001 : Int32) s1) ∧ (¬ v2 = (0 : Int32) → SpI Γ d mX12_areSigns [.ref 390, .int x2] s1 w (fun v4 s3 => ((¬ v4 = (0 : Int32) → ((x3 = (0 : Int32) → SpI Γ d mX12_isRight [.ref 390, .int x1, .int x2] s3 w (fun v6 s5 => ((v6 = (0 : Int32) → Q (0 : Int32) s5) ∧ (¬ v6 = (0 : Int32) → Q (1 : Int32) s5)))) ∧ (¬ x3 = (0 : Int32) → ((x3 = (1 : Int32) → SpI Γ d mX12_isWell [.ref 390, .int x1, .int x2] s3 w (fun v8 s7 => ((v8 = (0 : Int32) → Q (0 : Int32) s7) ∧ (¬ v8 = (0 : Int32) → Q (1 : Int32) s7)))) ∧ (¬ x3 = (1 : Int32) → ((x3 = (2 : Int32) → SpJ Γ d mX12_findWays [.ref 390, .int x1, .int x2] s3 w (fun v10 s9 => (((lg_cmp v10 (0 : Int64)) ≤ (0 : Int32) → Q (0 : Int32) s9) ∧ (¬ (lg_cmp v10 (0 : Int64)) ≤ (0 : Int32) → Q (1 : Int32) s9)))) ∧ (¬ x3 = (2 : Int32) → Q (-1002 : Int32) s3))))))) ∧ (v4 = (0 : Int32) → Q (-1001 : Int32) s3))))))) :
    AI Γ (d + 1) mX12_right w Q 0 [(0, .ref 390), (1, .int x1), (2, .int x2), (3, .int x3)] σ :=
  wp_sound (μ := mX12_right) (T := tbX12) (is := isX12_right) (sw := swX12_right) (cu := cuX12_right) tbX12_ok msX12_right 21 _ _ _ _ _ _ _ (And.intro (ok_390 hw) (And.intro (Nat.le_of_ble_eq_true rfl) (SpI.mono (h) (fun v2 s1 q1035 => And.intro (fun q1034 => And.intro rfl (And.intro rfl (Exists.intro (-1001 : Int32) (And.intro rfl (((q1035).1 q1034)))))) (fun q1034 => And.intro (ok_390 hw) (And.intro (Nat.le_of_ble_eq_true rfl) (SpI.mono (((q1035).2 q1034)) (fun v4 s3 q1033 => And.intro (fun q1032 => And.intro (fun q1031 => And.intro (ok_390 hw) (And.intro (Nat.le_of_ble_eq_true rfl) (SpI.mono (((((q1033).1 q1032)).1 q1031)) (fun v6 s5 q1024 => And.intro (fun q1023 => And.intro rfl (And.intro rfl (Exists.intro (0 : Int32) (And.intro rfl (((q1024).1 q1023)))))) (fun q1023 => And.intro rfl (And.intro rfl (Exists.intro (1 : Int32) (And.intro rfl (((q1024).2 q1023)))))))))) (fun q1031 => And.intro (fun q1030 => And.intro (ok_390 hw) (And.intro (Nat.le_of_ble_eq_true rfl) (SpI.mono (((((((q1033).1 q1032)).2 q1031)).1 q1030)) (fun v8 s7 q1026 => And.intro (fun q1025 => And.intro rfl (And.intro rfl (Exists.intro (0 : Int32) (And.intro rfl (((q1026).1 q1025)))))) (fun q1025 => And.intro rfl (And.intro rfl (Exists.intro (1 : Int32) (And.intro rfl (((q1026).2 q1025)))))))))) (fun q1030 => And.intro (fun q1029 => And.intro (ok_390 hw) (And.intro (Nat.le_of_ble_eq_true rfl) (SpJ.mono (((((((((q1033).1 q1032)).2 q1031)).2 q1030)).1 q1029)) (fun v10 s9 q1028 => And.intro (fun q1027 => And.intro rfl (And.intro rfl (Exists.intro (0 : Int32) (And.intro rfl (((q1028).1 q1027)))))) (fun q1027 => And.intro rfl (And.intro rfl (Exists.intro (1 : Int32) (And.intro rfl (((q1028).2 q1027)))))))))) (fun q1029 => And.intro rfl (And.intro rfl (Exists.intro (-1002 : Int32) (And.intro rfl (((((((((q1033).1 q1032)).2 q1031)).2 q1030)).2 q1029))))))))) (fun q1032 => And.intro rfl (And.intro rfl (Exists.intro (-1001 : Int32) (And.intro rfl (((q1033).2 q1032))))))))))))))
theorem vX12_spelt_0 {Γ : Gx} {d : Nat} {w : Wd} {Q : Int32 → St → Prop} {σ : St} {x1 : Int32} {x2 : Int32} {x3 : Int32} (hw : RunW w)
    (h : SpI Γ d mX12_isWord [.ref 390, .int x1] σ w (fun v2 s1 => ((v2 = (0 : Int32) → Q (-1001 : Int32) s1) ∧ (¬ v2 = (0 : Int32) → SpI Γ d mX12_areSigns [.ref 390, .int x2] s1 w (fun v4 s3 => ((¬ v4 = (0 : Int32) → SpV Γ d mX12_spell [.ref 390, .int x1, .int x2] s3 w (fun s5 => SpI Γ d mX12_outAt [.ref 390, .int x3] s5 w (fun v7 s6 => Q v7 s6))) ∧ (v4 = (0 : Int32) → Q (-1001 : Int32) s3))))))) :
    AI Γ (d + 1) mX12_spelt w Q 0 [(0, .ref 390), (1, .int x1), (2, .int x2), (3, .int x3)] σ :=
  wp_sound (μ := mX12_spelt) (T := tbX12) (is := isX12_spelt) (sw := swX12_spelt) (cu := cuX12_spelt) tbX12_ok msX12_spelt 17 _ _ _ _ _ _ _ (And.intro (ok_390 hw) (And.intro (Nat.le_of_ble_eq_true rfl) (SpI.mono (h) (fun v2 s1 q1054 => And.intro (fun q1053 => And.intro rfl (And.intro rfl (Exists.intro (-1001 : Int32) (And.intro rfl (((q1054).1 q1053)))))) (fun q1053 => And.intro (ok_390 hw) (And.intro (Nat.le_of_ble_eq_true rfl) (SpI.mono (((q1054).2 q1053)) (fun v4 s3 q1052 => And.intro (fun q1051 => And.intro (ok_390 hw) (And.intro (Nat.le_of_ble_eq_true rfl) (SpV.mono (((q1052).1 q1051)) (fun s5 q1050 => And.intro (ok_390 hw) (And.intro (Nat.le_of_ble_eq_true rfl) (SpI.mono (q1050) (fun v7 s6 q1049 => And.intro rfl (And.intro rfl (Exists.intro v7 (And.intro rfl (q1049))))))))))) (fun q1051 => And.intro rfl (And.intro rfl (Exists.intro (-1001 : Int32) (And.intro rfl (((q1052).2 q1051))))))))))))))
theorem vX12_areLessons_0 {Γ : Gx} {d : Nat} {w : Wd} {Q : Int32 → St → Prop} {σ : St} {x1 : Int32} (hw : RunW w)
    (h : SpI Γ d mX12_in [.long x1.toInt64, .long (0 : Int64), .long ((((1 : Int32) <<< ((gI σ 390 10) &&& (31 : Int32))) - (1 : Int32)).toInt64)] σ w (fun v2 s1 => (v2 = 0 ∨ v2 = 1) ∧ Q v2 s1)) :
    AI Γ (d + 1) mX12_areLessons w Q 0 [(0, .ref 390), (1, .int x1)] σ :=
  wp_sound (μ := mX12_areLessons) (T := tbX12) (is := isX12_areLessons) (sw := swX12_areLessons) (cu := cuX12_areLessons) tbX12_ok msX12_areLessons 13 _ _ _ _ _ _ _ (And.intro (ok_390 hw) (And.intro (Nat.le_of_ble_eq_true rfl) (And.intro (Nat.le_of_ble_eq_true rfl) (SpI.mono (h) (fun v2 s1 q1061 => And.intro (nb01 (q1061).1) (And.intro rfl (Exists.intro v2 (And.intro rfl ((q1061).2)))))))))
theorem vX12_isClosed_0 {Γ : Gx} {d : Nat} {w : Wd} {Q : Int32 → St → Prop} {σ : St} {x1 : Int32}
    (h : AI Γ (d + 1) mX12_isClosed w Q 4 [(0, .ref 390), (1, .int x1), (2, .int (1 : Int32)), (3, .int (0 : Int32))] σ) :
    AI Γ (d + 1) mX12_isClosed w Q 0 [(0, .ref 390), (1, .int x1)] σ :=
  wp_sound (μ := mX12_isClosed) (T := tbX12) (is := isX12_isClosed) (sw := swX12_isClosed) (cu := cuX12_isClosed) tbX12_ok msX12_isClosed 5 _ _ _ _ _ _ _ (h)
theorem vX12_isClosed_4 {Γ : Gx} {d : Nat} {w : Wd} {Q : Int32 → St → Prop} {σ : St} {x1 : Int32} {x2 : Int32} {x3 : Int32} (hw : RunW w)
    (h : (((gI σ 390 10) ≤ x3 → (x2 = 0 ∨ x2 = 1) ∧ Q x2 σ) ∧ (¬ (gI σ 390 10) ≤ x3 → ((x2 = (0 : Int32) → AI Γ (d + 1) mX12_isClosed w Q 4 [(0, .ref 390), (1, .int x1), (2, .int (0 : Int32)), (3, .int (x3 + (1 : Int32)))] σ) ∧ (¬ x2 = (0 : Int32) → SpI Γ d mX12_has [.int x1, .int x3] σ w (fun v2 s1 => ((v2 = (0 : Int32) → AI Γ (d + 1) mX12_isClosed w Q 4 [(0, .ref 390), (1, .int x1), (2, .int (1 : Int32)), (3, .int (x3 + (1 : Int32)))] s1) ∧ (¬ v2 = (0 : Int32) → (vp_in ((3 : Int32) * x3) 21) ∧ ((¬ ((gI s1 399 ((3 : Int32) * x3).toNatClampNeg) &&& (x1 ^^^ (-1 : Int32))) = (0 : Int32) → AI Γ (d + 1) mX12_isClosed w Q 4 [(0, .ref 390), (1, .int x1), (2, .int (0 : Int32)), (3, .int (x3 + (1 : Int32)))] s1) ∧ (((gI s1 399 ((3 : Int32) * x3).toNatClampNeg) &&& (x1 ^^^ (-1 : Int32))) = (0 : Int32) → AI Γ (d + 1) mX12_isClosed w Q 4 [(0, .ref 390), (1, .int x1), (2, .int (1 : Int32)), (3, .int (x3 + (1 : Int32)))] s1)))))))))) :
    AI Γ (d + 1) mX12_isClosed w Q 4 [(0, .ref 390), (1, .int x1), (2, .int x2), (3, .int x3)] σ :=
  wp_sound (μ := mX12_isClosed) (T := tbX12) (is := isX12_isClosed) (sw := swX12_isClosed) (cu := cuX12_isClosed) tbX12_ok msX12_isClosed 27 _ _ _ _ _ _ _ (And.intro (ok_390 hw) (And.intro (fun q1066 => And.intro (nb01 (((h).1 q1066)).1) (And.intro rfl (Exists.intro x2 (And.intro rfl ((((h).1 q1066)).2))))) (fun q1066 => And.intro (fun q1065 => ((((h).2 q1066)).1 q1065)) (fun q1065 => And.intro (Nat.le_of_ble_eq_true rfl) (And.intro (Nat.le_of_ble_eq_true rfl) (SpI.mono (((((h).2 q1066)).2 q1065)) (fun v2 s1 q1064 => And.intro (fun q1063 => ((q1064).1 q1063)) (fun q1063 => And.intro (ok_390 hw) (Exists.intro 399 (And.intro (rf_390_11 hw) (And.intro (ok_399 hw) (And.intro (vi_399 (((q1064).2 q1063)).1) ((((q1064).2 q1063)).2)))))))))))))
theorem vX12_teach_0 {Γ : Gx} {d : Nat} {w : Wd} {Q : Int32 → St → Prop} {σ : St} {x1 : Int32} {x2 : Int32}
    (h : AI Γ (d + 1) mX12_teach w Q 5 [(0, .ref 390), (1, .int x1), (2, .int x2), (3, .int (0 : Int32)), (4, .int (0 : Int32))] σ) :
    AI Γ (d + 1) mX12_teach w Q 0 [(0, .ref 390), (1, .int x1), (2, .int x2)] σ :=
  wp_sound (μ := mX12_teach) (T := tbX12) (is := isX12_teach) (sw := swX12_teach) (cu := cuX12_teach) tbX12_ok msX12_teach 5 _ _ _ _ _ _ _ (h)
theorem vX12_teach_5 {Γ : Gx} {d : Nat} {w : Wd} {Q : Int32 → St → Prop} {σ : St} {x1 : Int32} {x2 : Int32} {x3 : Int32} {x4 : Int32} (hw : RunW w)
    (h : (((gI σ 390 10) ≤ x4 → Q x3 σ) ∧ (¬ (gI σ 390 10) ≤ x4 → SpI Γ d mX12_has [.int x1, .int x4] σ w (fun v2 s1 => ((v2 = (0 : Int32) → AI Γ (d + 1) mX12_teach w Q 5 [(0, .ref 390), (1, .int x1), (2, .int x2), (3, .int (x3 ||| (0 : Int32))), (4, .int (x4 + (1 : Int32)))] s1) ∧ (¬ v2 = (0 : Int32) → (vp_in (((3 : Int32) * x4) + x2) 21) ∧ AI Γ (d + 1) mX12_teach w Q 5 [(0, .ref 390), (1, .int x1), (2, .int x2), (3, .int (x3 ||| (gI s1 399 (((3 : Int32) * x4) + x2).toNatClampNeg))), (4, .int (x4 + (1 : Int32)))] s1)))))) :
    AI Γ (d + 1) mX12_teach w Q 5 [(0, .ref 390), (1, .int x1), (2, .int x2), (3, .int x3), (4, .int x4)] σ :=
  wp_sound (μ := mX12_teach) (T := tbX12) (is := isX12_teach) (sw := swX12_teach) (cu := cuX12_teach) tbX12_ok msX12_teach 23 _ _ _ _ _ _ _ (And.intro (ok_390 hw) (And.intro (fun q1073 => And.intro rfl (And.intro rfl (Exists.intro x3 (And.intro rfl (((h).1 q1073)))))) (fun q1073 => And.intro (Nat.le_of_ble_eq_true rfl) (And.intro (Nat.le_of_ble_eq_true rfl) (SpI.mono (((h).2 q1073)) (fun v2 s1 q1072 => And.intro (fun q1071 => ((q1072).1 q1071)) (fun q1071 => And.intro (ok_390 hw) (Exists.intro 399 (And.intro (rf_390_11 hw) (And.intro (ok_399 hw) (And.intro (vi_399 (((q1072).2 q1071)).1) ((((q1072).2 q1071)).2))))))))))))
theorem vX12_readsOf_0 {Γ : Gx} {d : Nat} {w : Wd} {Q : Int32 → St → Prop} {σ : St} {x1 : Int32} (hw : RunW w)
    (h : SpI Γ d mX12_teach [.ref 390, .int x1, .int (2 : Int32)] σ w (fun v2 s1 => SpI Γ d mX12_teach [.ref 390, .int x1, .int (1 : Int32)] s1 w (fun v4 s3 => AI Γ (d + 1) mX12_readsOf w Q 17 [(0, .ref 390), (2, .int v2), (3, .int v4), (4, .int (0 : Int32))] s3))) :
    AI Γ (d + 1) mX12_readsOf w Q 0 [(0, .ref 390), (1, .int x1)] σ :=
  wp_sound (μ := mX12_readsOf) (T := tbX12) (is := isX12_readsOf) (sw := swX12_readsOf) (cu := cuX12_readsOf) tbX12_ok msX12_readsOf 13 _ _ _ _ _ _ _ (And.intro (ok_390 hw) (And.intro (Nat.le_of_ble_eq_true rfl) (SpI.mono (h) (fun v2 s1 q1077 => And.intro (ok_390 hw) (And.intro (Nat.le_of_ble_eq_true rfl) (q1077))))))
theorem vX12_readsOf_17 {Γ : Gx} {d : Nat} {w : Wd} {Q : Int32 → St → Prop} {σ : St} {x2 : Int32} {x3 : Int32} {x4 : Int32} (hw : RunW w)
    (h : (((gI σ 390 5) ≤ x4 → Q x2 σ) ∧ (¬ (gI σ 390 5) ≤ x4 → SpI Γ d mX12_isRight [.ref 390, .int x4, .int x3] σ w (fun v2 s1 => ((v2 = (0 : Int32) → AI Γ (d + 1) mX12_readsOf w Q 17 [(0, .ref 390), (2, .int (x2 ||| (0 : Int32))), (3, .int x3), (4, .int (x4 + (1 : Int32)))] s1) ∧ (¬ v2 = (0 : Int32) → AI Γ (d + 1) mX12_readsOf w Q 17 [(0, .ref 390), (2, .int (x2 ||| ((1 : Int32) <<< (x4 &&& (31 : Int32))))), (3, .int x3), (4, .int (x4 + (1 : Int32)))] s1)))))) :
    AI Γ (d + 1) mX12_readsOf w Q 17 [(0, .ref 390), (2, .int x2), (3, .int x3), (4, .int x4)] σ :=
  wp_sound (μ := mX12_readsOf) (T := tbX12) (is := isX12_readsOf) (sw := swX12_readsOf) (cu := cuX12_readsOf) tbX12_ok msX12_readsOf 19 _ _ _ _ _ _ _ (And.intro (ok_390 hw) (And.intro (fun q1078 => And.intro rfl (And.intro rfl (Exists.intro x2 (And.intro rfl (((h).1 q1078)))))) (fun q1078 => And.intro (ok_390 hw) (And.intro (Nat.le_of_ble_eq_true rfl) (((h).2 q1078))))))
theorem vX12_taught_0 {Γ : Gx} {d : Nat} {w : Wd} {Q : Int32 → St → Prop} {σ : St} {x1 : Int32} (hw : RunW w)
    (h : SpI Γ d mX12_areLessons [.ref 390, .int x1] σ w (fun v2 s1 => ((¬ v2 = (0 : Int32) → SpI Γ d mX12_isClosed [.ref 390, .int x1] s1 w (fun v4 s3 => ((v4 = (0 : Int32) → Q (-1003 : Int32) s3) ∧ (¬ v4 = (0 : Int32) → SpI Γ d mX12_teach [.ref 390, .int x1, .int (1 : Int32)] s3 w (fun v6 s5 => Q v6 s5))))) ∧ (v2 = (0 : Int32) → Q (-1001 : Int32) s1)))) :
    AI Γ (d + 1) mX12_taught w Q 0 [(0, .ref 390), (1, .int x1)] σ :=
  wp_sound (μ := mX12_taught) (T := tbX12) (is := isX12_taught) (sw := swX12_taught) (cu := cuX12_taught) tbX12_ok msX12_taught 15 _ _ _ _ _ _ _ (And.intro (ok_390 hw) (And.intro (Nat.le_of_ble_eq_true rfl) (SpI.mono (h) (fun v2 s1 q1085 => And.intro (fun q1084 => And.intro (ok_390 hw) (And.intro (Nat.le_of_ble_eq_true rfl) (SpI.mono (((q1085).1 q1084)) (fun v4 s3 q1083 => And.intro (fun q1082 => And.intro rfl (And.intro rfl (Exists.intro (-1003 : Int32) (And.intro rfl (((q1083).1 q1082)))))) (fun q1082 => And.intro (ok_390 hw) (And.intro (Nat.le_of_ble_eq_true rfl) (SpI.mono (((q1083).2 q1082)) (fun v6 s5 q1081 => And.intro rfl (And.intro rfl (Exists.intro v6 (And.intro rfl (q1081)))))))))))) (fun q1084 => And.intro rfl (And.intro rfl (Exists.intro (-1001 : Int32) (And.intro rfl (((q1085).2 q1084))))))))))
theorem vX12_reads_0 {Γ : Gx} {d : Nat} {w : Wd} {Q : Int32 → St → Prop} {σ : St} {x1 : Int32} (hw : RunW w)
    (h : SpI Γ d mX12_areLessons [.ref 390, .int x1] σ w (fun v2 s1 => ((¬ v2 = (0 : Int32) → SpI Γ d mX12_isClosed [.ref 390, .int x1] s1 w (fun v4 s3 => ((v4 = (0 : Int32) → Q (-1003 : Int32) s3) ∧ (¬ v4 = (0 : Int32) → SpI Γ d mX12_readsOf [.ref 390, .int x1] s3 w (fun v6 s5 => Q v6 s5))))) ∧ (v2 = (0 : Int32) → Q (-1001 : Int32) s1)))) :
    AI Γ (d + 1) mX12_reads w Q 0 [(0, .ref 390), (1, .int x1)] σ :=
  wp_sound (μ := mX12_reads) (T := tbX12) (is := isX12_reads) (sw := swX12_reads) (cu := cuX12_reads) tbX12_ok msX12_reads 14 _ _ _ _ _ _ _ (And.intro (ok_390 hw) (And.intro (Nat.le_of_ble_eq_true rfl) (SpI.mono (h) (fun v2 s1 q1095 => And.intro (fun q1094 => And.intro (ok_390 hw) (And.intro (Nat.le_of_ble_eq_true rfl) (SpI.mono (((q1095).1 q1094)) (fun v4 s3 q1093 => And.intro (fun q1092 => And.intro rfl (And.intro rfl (Exists.intro (-1003 : Int32) (And.intro rfl (((q1093).1 q1092)))))) (fun q1092 => And.intro (ok_390 hw) (And.intro (Nat.le_of_ble_eq_true rfl) (SpI.mono (((q1093).2 q1092)) (fun v6 s5 q1091 => And.intro rfl (And.intro rfl (Exists.intro v6 (And.intro rfl (q1091)))))))))))) (fun q1094 => And.intro rfl (And.intro rfl (Exists.intro (-1001 : Int32) (And.intro rfl (((q1095).2 q1094))))))))))
theorem vX12_mixed_0 {Γ : Gx} {d : Nat} {w : Wd} {Q : Int32 → St → Prop} {σ : St} {x1 : Int32} {x2 : Int32} (hw : RunW w)
    (h : SpI Γ d mX12_isWord [.ref 390, .int x1] σ w (fun v2 s1 => ((v2 = (0 : Int32) → Q (-1001 : Int32) s1) ∧ (¬ v2 = (0 : Int32) → SpI Γ d mX12_areLessons [.ref 390, .int x2] s1 w (fun v4 s3 => ((¬ v4 = (0 : Int32) → SpI Γ d mX12_isClosed [.ref 390, .int x2] s3 w (fun v6 s5 => ((¬ v6 = (0 : Int32) → SpI Γ d mX12_teach [.ref 390, .int x2, .int (1 : Int32)] s5 w (fun v8 s7 => SpI Γ d mX12_isRight [.ref 390, .int x1, .int v8] s7 w (fun v10 s9 => ((¬ v10 = (0 : Int32) → AI Γ (d + 1) mX12_mixed w Q 65 [(0, .ref 390), (1, .int x1), (3, .int (0 : Int32)), (4, .int (0 : Int32)), (5, .int (0 : Int32))] s9) ∧ (v10 = (0 : Int32) → (((gI s9 390 43) = (0 : Int32) → AI Γ (d + 1) mX12_mixed w Q 65 [(0, .ref 390), (1, .int x1), (3, .int (0 : Int32)), (4, .int (0 : Int32)), (5, .int (0 : Int32))] s9) ∧ (¬ (gI s9 390 43) = (0 : Int32) → AI Γ (d + 1) mX12_mixed w Q 65 [(0, .ref 390), (1, .int x1), (3, .int (0 : Int32)), (4, .int (1 : Int32)), (5, .int (0 : Int32))] s9))))))) ∧ (v6 = (0 : Int32) → Q (-1003 : Int32) s5)))) ∧ (v4 = (0 : Int32) → Q (-1001 : Int32) s3))))))) :
    AI Γ (d + 1) mX12_mixed w Q 0 [(0, .ref 390), (1, .int x1), (2, .int x2)] σ :=
  wp_sound (μ := mX12_mixed) (T := tbX12) (is := isX12_mixed) (sw := swX12_mixed) (cu := cuX12_mixed) tbX12_ok msX12_mixed 31 _ _ _ _ _ _ _ (And.intro (ok_390 hw) (And.intro (Nat.le_of_ble_eq_true rfl) (SpI.mono (h) (fun v2 s1 q1109 => And.intro (fun q1108 => And.intro rfl (And.intro rfl (Exists.intro (-1001 : Int32) (And.intro rfl (((q1109).1 q1108)))))) (fun q1108 => And.intro (ok_390 hw) (And.intro (Nat.le_of_ble_eq_true rfl) (SpI.mono (((q1109).2 q1108)) (fun v4 s3 q1107 => And.intro (fun q1106 => And.intro (ok_390 hw) (And.intro (Nat.le_of_ble_eq_true rfl) (SpI.mono (((q1107).1 q1106)) (fun v6 s5 q1105 => And.intro (fun q1104 => And.intro (ok_390 hw) (And.intro (Nat.le_of_ble_eq_true rfl) (SpI.mono (((q1105).1 q1104)) (fun v8 s7 q1103 => And.intro (ok_390 hw) (And.intro (Nat.le_of_ble_eq_true rfl) (SpI.mono (q1103) (fun v10 s9 q1102 => And.intro (fun q1101 => ((q1102).1 q1101)) (fun q1101 => And.intro (ok_390 hw) (((q1102).2 q1101)))))))))) (fun q1104 => And.intro rfl (And.intro rfl (Exists.intro (-1003 : Int32) (And.intro rfl (((q1105).2 q1104)))))))))) (fun q1106 => And.intro rfl (And.intro rfl (Exists.intro (-1001 : Int32) (And.intro rfl (((q1107).2 q1106))))))))))))))
theorem vX12_mixed_65 {Γ : Gx} {d : Nat} {w : Wd} {Q : Int32 → St → Prop} {σ : St} {x1 : Int32} {x3 : Int32} {x4 : Int32} {x5 : Int32} (hw : RunW w)
    (h : (((gI σ 390 5) ≤ x5 → Q x3 σ) ∧ (¬ (gI σ 390 5) ≤ x5 → ((x4 = (0 : Int32) → Q x3 σ) ∧ (¬ x4 = (0 : Int32) → ((x5 = x1 → AI Γ (d + 1) mX12_mixed w Q 65 [(0, .ref 390), (1, .int x1), (3, .int (x3 ||| (0 : Int32))), (4, .int x4), (5, .int (x5 + (1 : Int32)))] σ) ∧ (¬ x5 = x1 → SpI Γ d mX12_areSounds [.ref 390, .int x5] σ w (fun v2 s1 => ((v2 = (0 : Int32) → AI Γ (d + 1) mX12_mixed w Q 65 [(0, .ref 390), (1, .int x1), (3, .int (x3 ||| (0 : Int32))), (4, .int x4), (5, .int (x5 + (1 : Int32)))] s1) ∧ (¬ v2 = (0 : Int32) → AI Γ (d + 1) mX12_mixed w Q 65 [(0, .ref 390), (1, .int x1), (3, .int (x3 ||| ((1 : Int32) <<< (x5 &&& (31 : Int32))))), (4, .int x4), (5, .int (x5 + (1 : Int32)))] s1)))))))))) :
    AI Γ (d + 1) mX12_mixed w Q 65 [(0, .ref 390), (1, .int x1), (3, .int x3), (4, .int x4), (5, .int x5)] σ :=
  wp_sound (μ := mX12_mixed) (T := tbX12) (is := isX12_mixed) (sw := swX12_mixed) (cu := cuX12_mixed) tbX12_ok msX12_mixed 23 _ _ _ _ _ _ _ (And.intro (ok_390 hw) (And.intro (fun q1112 => And.intro rfl (And.intro rfl (Exists.intro x3 (And.intro rfl (((h).1 q1112)))))) (fun q1112 => And.intro (fun q1111 => And.intro rfl (And.intro rfl (Exists.intro x3 (And.intro rfl (((((h).2 q1112)).1 q1111)))))) (fun q1111 => And.intro (fun q1110 => ((((((h).2 q1112)).2 q1111)).1 q1110)) (fun q1110 => And.intro (ok_390 hw) (And.intro (Nat.le_of_ble_eq_true rfl) (((((((h).2 q1112)).2 q1111)).2 q1110))))))))
theorem vX12_unknown_0 {Γ : Gx} {d : Nat} {w : Wd} {Q : Int32 → St → Prop} {σ : St} {x1 : Int32} {x2 : Int32} (hw : RunW w)
    (h : SpI Γ d mX12_isPage [.ref 390, .int x1] σ w (fun v2 s1 => ((v2 = (0 : Int32) → Q (-1001 : Int32) s1) ∧ (¬ v2 = (0 : Int32) → SpI Γ d mX12_areLessons [.ref 390, .int x2] s1 w (fun v4 s3 => ((¬ v4 = (0 : Int32) → SpI Γ d mX12_isClosed [.ref 390, .int x2] s3 w (fun v6 s5 => ((v6 = (0 : Int32) → Q (-1003 : Int32) s5) ∧ (¬ v6 = (0 : Int32) → (vp_in x1 8) ∧ SpI Γ d mX12_readsOf [.ref 390, .int x2] s5 w (fun v8 s7 => SpI Γ d mX12_bits [.int ((gI s5 402 x1.toNatClampNeg) &&& (v8 ^^^ (-1 : Int32)))] s7 w (fun v10 s9 => Q v10 s9)))))) ∧ (v4 = (0 : Int32) → Q (-1001 : Int32) s3))))))) :
    AI Γ (d + 1) mX12_unknown w Q 0 [(0, .ref 390), (1, .int x1), (2, .int x2)] σ :=
  wp_sound (μ := mX12_unknown) (T := tbX12) (is := isX12_unknown) (sw := swX12_unknown) (cu := cuX12_unknown) tbX12_ok msX12_unknown 26 _ _ _ _ _ _ _ (And.intro (ok_390 hw) (And.intro (Nat.le_of_ble_eq_true rfl) (SpI.mono (h) (fun v2 s1 q1132 => And.intro (fun q1131 => And.intro rfl (And.intro rfl (Exists.intro (-1001 : Int32) (And.intro rfl (((q1132).1 q1131)))))) (fun q1131 => And.intro (ok_390 hw) (And.intro (Nat.le_of_ble_eq_true rfl) (SpI.mono (((q1132).2 q1131)) (fun v4 s3 q1130 => And.intro (fun q1129 => And.intro (ok_390 hw) (And.intro (Nat.le_of_ble_eq_true rfl) (SpI.mono (((q1130).1 q1129)) (fun v6 s5 q1128 => And.intro (fun q1127 => And.intro rfl (And.intro rfl (Exists.intro (-1003 : Int32) (And.intro rfl (((q1128).1 q1127)))))) (fun q1127 => And.intro (ok_390 hw) (Exists.intro 402 (And.intro (rf_390_15 hw) (And.intro (ok_402 hw) (And.intro (vi_402 (((q1128).2 q1127)).1) (And.intro (ok_390 hw) (And.intro (Nat.le_of_ble_eq_true rfl) (SpI.mono ((((q1128).2 q1127)).2) (fun v8 s7 q1126 => And.intro (Nat.le_of_ble_eq_true rfl) (And.intro (Nat.le_of_ble_eq_true rfl) (SpI.mono (q1126) (fun v10 s9 q1125 => And.intro rfl (And.intro rfl (Exists.intro v10 (And.intro rfl (q1125)))))))))))))))))))) (fun q1129 => And.intro rfl (And.intro rfl (Exists.intro (-1001 : Int32) (And.intro rfl (((q1130).2 q1129))))))))))))))
theorem vX12_isFew_0 {Γ : Gx} {d : Nat} {w : Wd} {Q : Int32 → St → Prop} {σ : St} {x0 : Int32}
    (h : SpI Γ d mX12_in [.long x0.toInt64, .long (0 : Int64), .long (16 : Int64)] σ w (fun v2 s1 => (v2 = 0 ∨ v2 = 1) ∧ Q v2 s1)) :
    AI Γ (d + 1) mX12_isFew w Q 0 [(0, .int x0)] σ :=
  wp_sound (μ := mX12_isFew) (T := tbX12) (is := isX12_isFew) (sw := swX12_isFew) (cu := cuX12_isFew) tbX12_ok msX12_isFew 7 _ _ _ _ _ _ _ (And.intro (Nat.le_of_ble_eq_true rfl) (And.intro (Nat.le_of_ble_eq_true rfl) (SpI.mono (h) (fun v2 s1 q1141 => And.intro (nb01 (q1141).1) (And.intro rfl (Exists.intro v2 (And.intro rfl ((q1141).2))))))))
theorem vX12_fewest_0 {Γ : Gx} {d : Nat} {w : Wd} {Q : Int32 → St → Prop} {σ : St} {x1 : Int32} {x2 : Int32} (hw : RunW w)
    (h : SpI Γ d mX12_isPage [.ref 390, .int x1] σ w (fun v2 s1 => ((¬ v2 = (0 : Int32) → SpI Γ d mX12_isFew [.int x2] s1 w (fun v4 s3 => ((¬ v4 = (0 : Int32) → AI Γ (d + 1) mX12_fewest w Q 28 [(0, .ref 390), (1, .int x1), (2, .int x2), (3, .int (-1 : Int32)), (4, .int (0 : Int32))] s3) ∧ (v4 = (0 : Int32) → Q (-1002 : Int32) s3)))) ∧ (v2 = (0 : Int32) → Q (-1001 : Int32) s1)))) :
    AI Γ (d + 1) mX12_fewest w Q 0 [(0, .ref 390), (1, .int x1), (2, .int x2)] σ :=
  wp_sound (μ := mX12_fewest) (T := tbX12) (is := isX12_fewest) (sw := swX12_fewest) (cu := cuX12_fewest) tbX12_ok msX12_fewest 12 _ _ _ _ _ _ _ (And.intro (ok_390 hw) (And.intro (Nat.le_of_ble_eq_true rfl) (SpI.mono (h) (fun v2 s1 q1146 => And.intro (fun q1145 => And.intro (Nat.le_of_ble_eq_true rfl) (And.intro (Nat.le_of_ble_eq_true rfl) (SpI.mono (((q1146).1 q1145)) (fun v4 s3 q1144 => And.intro (fun q1143 => ((q1144).1 q1143)) (fun q1143 => And.intro rfl (And.intro rfl (Exists.intro (-1002 : Int32) (And.intro rfl (((q1144).2 q1143)))))))))) (fun q1145 => And.intro rfl (And.intro rfl (Exists.intro (-1001 : Int32) (And.intro rfl (((q1146).2 q1145))))))))))
theorem vX12_fewest_28 {Γ : Gx} {d : Nat} {w : Wd} {Q : Int32 → St → Prop} {σ : St} {x1 : Int32} {x2 : Int32} {x3 : Int32} {x4 : Int32} (hw : RunW w)
    (h : ((((1 : Int32) <<< ((gI σ 390 10) &&& (31 : Int32))) ≤ x4 → Q x3 σ) ∧ (¬ ((1 : Int32) <<< ((gI σ 390 10) &&& (31 : Int32))) ≤ x4 → ((x3 < (0 : Int32) → (((1 : Int32) = (0 : Int32) → AI Γ (d + 1) mX12_fewest w Q 28 [(0, .ref 390), (1, .int x1), (2, .int x2), (3, .int x3), (4, .int (x4 + (1 : Int32)))] σ) ∧ (¬ (1 : Int32) = (0 : Int32) → SpI Γ d mX12_isClosed [.ref 390, .int x4] σ w (fun v2 s1 => ((v2 = (0 : Int32) → AI Γ (d + 1) mX12_fewest w Q 28 [(0, .ref 390), (1, .int x1), (2, .int x2), (3, .int x3), (4, .int (x4 + (1 : Int32)))] s1) ∧ (¬ v2 = (0 : Int32) → (vp_in x1 8) ∧ SpI Γ d mX12_readsOf [.ref 390, .int x4] s1 w (fun v4 s3 => SpI Γ d mX12_bits [.int ((gI s1 402 x1.toNatClampNeg) &&& (v4 ^^^ (-1 : Int32)))] s3 w (fun v6 s5 => ((x2 < v6 → AI Γ (d + 1) mX12_fewest w Q 28 [(0, .ref 390), (1, .int x1), (2, .int x2), (3, .int x3), (4, .int (x4 + (1 : Int32)))] s5) ∧ (¬ x2 < v6 → AI Γ (d + 1) mX12_fewest w Q 28 [(0, .ref 390), (1, .int x1), (2, .int x2), (3, .int x4), (4, .int (x4 + (1 : Int32)))] s5)))))))))) ∧ (¬ x3 < (0 : Int32) → SpI Γ d mX12_bits [.int x4] σ w (fun v8 s7 => SpI Γ d mX12_bits [.int x3] s7 w (fun v10 s9 => ((v10 ≤ v8 → (((0 : Int32) = (0 : Int32) → AI Γ (d + 1) mX12_fewest w Q 28 [(0, .ref 390), (1, .int x1), (2, .int x2), (3, .int x3), (4, .int (x4 + (1 : Int32)))] s9) ∧ (¬ (0 : Int32) = (0 : Int32) → SpI Γ d mX12_isClosed [.ref 390, .int x4] s9 w (fun v12 s11 => ((v12 = (0 : Int32) → AI Γ (d + 1) mX12_fewest w Q 28 [(0, .ref 390), (1, .int x1), (2, .int x2), (3, .int x3), (4, .int (x4 + (1 : Int32)))] s11) ∧ (¬ v12 = (0 : Int32) → (vp_in x1 8) ∧ SpI Γ d mX12_readsOf [.ref 390, .int x4] s11 w (fun v14 s13 => SpI Γ d mX12_bits [.int ((gI s11 402 x1.toNatClampNeg) &&& (v14 ^^^ (-1 : Int32)))] s13 w (fun v16 s15 => ((x2 < v16 → AI Γ (d + 1) mX12_fewest w Q 28 [(0, .ref 390), (1, .int x1), (2, .int x2), (3, .int x3), (4, .int (x4 + (1 : Int32)))] s15) ∧ (¬ x2 < v16 → AI Γ (d + 1) mX12_fewest w Q 28 [(0, .ref 390), (1, .int x1), (2, .int x2), (3, .int x4), (4, .int (x4 + (1 : Int32)))] s15)))))))))) ∧ (¬ v10 ≤ v8 → (((1 : Int32) = (0 : Int32) → AI Γ (d + 1) mX12_fewest w Q 28 [(0, .ref 390), (1, .int x1), (2, .int x2), (3, .int x3), (4, .int (x4 + (1 : Int32)))] s9) ∧ (¬ (1 : Int32) = (0 : Int32) → SpI Γ d mX12_isClosed [.ref 390, .int x4] s9 w (fun v18 s17 => ((v18 = (0 : Int32) → AI Γ (d + 1) mX12_fewest w Q 28 [(0, .ref 390), (1, .int x1), (2, .int x2), (3, .int x3), (4, .int (x4 + (1 : Int32)))] s17) ∧ (¬ v18 = (0 : Int32) → (vp_in x1 8) ∧ SpI Γ d mX12_readsOf [.ref 390, .int x4] s17 w (fun v20 s19 => SpI Γ d mX12_bits [.int ((gI s17 402 x1.toNatClampNeg) &&& (v20 ^^^ (-1 : Int32)))] s19 w (fun v22 s21 => ((x2 < v22 → AI Γ (d + 1) mX12_fewest w Q 28 [(0, .ref 390), (1, .int x1), (2, .int x2), (3, .int x3), (4, .int (x4 + (1 : Int32)))] s21) ∧ (¬ x2 < v22 → AI Γ (d + 1) mX12_fewest w Q 28 [(0, .ref 390), (1, .int x1), (2, .int x2), (3, .int x4), (4, .int (x4 + (1 : Int32)))] s21)))))))))))))))))) :
    AI Γ (d + 1) mX12_fewest w Q 28 [(0, .ref 390), (1, .int x1), (2, .int x2), (3, .int x3), (4, .int x4)] σ :=
  wp_sound (μ := mX12_fewest) (T := tbX12) (is := isX12_fewest) (sw := swX12_fewest) (cu := cuX12_fewest) tbX12_ok msX12_fewest 41 _ _ _ _ _ _ _ (And.intro (ok_390 hw) (And.intro (fun q1163 => And.intro rfl (And.intro rfl (Exists.intro x3 (And.intro rfl (((h).1 q1163)))))) (fun q1163 => And.intro (fun q1162 => And.intro (fun q1150 => ((((((h).2 q1163)).1 q1162)).1 q1150)) (fun q1150 => And.intro (ok_390 hw) (And.intro (Nat.le_of_ble_eq_true rfl) (SpI.mono (((((((h).2 q1163)).1 q1162)).2 q1150)) (fun v2 s1 q1149 => And.intro (fun q1148 => ((q1149).1 q1148)) (fun q1148 => And.intro (ok_390 hw) (Exists.intro 402 (And.intro (rf_390_15 hw) (And.intro (ok_402 hw) (And.intro (vi_402 (((q1149).2 q1148)).1) (And.intro (ok_390 hw) (And.intro (Nat.le_of_ble_eq_true rfl) (SpI.mono ((((q1149).2 q1148)).2) (fun v4 s3 q1147 => And.intro (Nat.le_of_ble_eq_true rfl) (And.intro (Nat.le_of_ble_eq_true rfl) (q1147)))))))))))))))) (fun q1162 => And.intro (Nat.le_of_ble_eq_true rfl) (And.intro (Nat.le_of_ble_eq_true rfl) (SpI.mono (((((h).2 q1163)).2 q1162)) (fun v8 s7 q1161 => And.intro (Nat.le_of_ble_eq_true rfl) (And.intro (Nat.le_of_ble_eq_true rfl) (SpI.mono (q1161) (fun v10 s9 q1160 => And.intro (fun q1159 => And.intro (fun q1154 => ((((q1160).1 q1159)).1 q1154)) (fun q1154 => And.intro (ok_390 hw) (And.intro (Nat.le_of_ble_eq_true rfl) (SpI.mono (((((q1160).1 q1159)).2 q1154)) (fun v12 s11 q1153 => And.intro (fun q1152 => ((q1153).1 q1152)) (fun q1152 => And.intro (ok_390 hw) (Exists.intro 402 (And.intro (rf_390_15 hw) (And.intro (ok_402 hw) (And.intro (vi_402 (((q1153).2 q1152)).1) (And.intro (ok_390 hw) (And.intro (Nat.le_of_ble_eq_true rfl) (SpI.mono ((((q1153).2 q1152)).2) (fun v14 s13 q1151 => And.intro (Nat.le_of_ble_eq_true rfl) (And.intro (Nat.le_of_ble_eq_true rfl) (q1151)))))))))))))))) (fun q1159 => And.intro (fun q1158 => ((((q1160).2 q1159)).1 q1158)) (fun q1158 => And.intro (ok_390 hw) (And.intro (Nat.le_of_ble_eq_true rfl) (SpI.mono (((((q1160).2 q1159)).2 q1158)) (fun v18 s17 q1157 => And.intro (fun q1156 => ((q1157).1 q1156)) (fun q1156 => And.intro (ok_390 hw) (Exists.intro 402 (And.intro (rf_390_15 hw) (And.intro (ok_402 hw) (And.intro (vi_402 (((q1157).2 q1156)).1) (And.intro (ok_390 hw) (And.intro (Nat.le_of_ble_eq_true rfl) (SpI.mono ((((q1157).2 q1156)).2) (fun v20 s19 q1155 => And.intro (Nat.le_of_ble_eq_true rfl) (And.intro (Nat.le_of_ble_eq_true rfl) (q1155))))))))))))))))))))))))))
theorem vX12_met_0 {Γ : Gx} {d : Nat} {w : Wd} {Q : Int32 → St → Prop} {σ : St} {x1 : Int32}
    (h : AI Γ (d + 1) mX12_met w Q 4 [(0, .ref 390), (1, .int x1), (2, .int (0 : Int32)), (3, .int (0 : Int32))] σ) :
    AI Γ (d + 1) mX12_met w Q 0 [(0, .ref 390), (1, .int x1)] σ :=
  wp_sound (μ := mX12_met) (T := tbX12) (is := isX12_met) (sw := swX12_met) (cu := cuX12_met) tbX12_ok msX12_met 5 _ _ _ _ _ _ _ (h)
theorem vX12_met_4 {Γ : Gx} {d : Nat} {w : Wd} {Q : Int32 → St → Prop} {σ : St} {x1 : Int32} {x2 : Int32} {x3 : Int32} (hw : RunW w)
    (h : (((gI σ 390 12) ≤ x3 → Q x2 σ) ∧ (¬ (gI σ 390 12) ≤ x3 → SpI Γ d mX12_has [.int x1, .int x3] σ w (fun v2 s1 => ((v2 = (0 : Int32) → AI Γ (d + 1) mX12_met w Q 4 [(0, .ref 390), (1, .int x1), (2, .int (x2 ||| (0 : Int32))), (3, .int (x3 + (1 : Int32)))] s1) ∧ (¬ v2 = (0 : Int32) → (vp_in x3 8) ∧ AI Γ (d + 1) mX12_met w Q 4 [(0, .ref 390), (1, .int x1), (2, .int (x2 ||| (gI s1 402 x3.toNatClampNeg))), (3, .int (x3 + (1 : Int32)))] s1)))))) :
    AI Γ (d + 1) mX12_met w Q 4 [(0, .ref 390), (1, .int x1), (2, .int x2), (3, .int x3)] σ :=
  wp_sound (μ := mX12_met) (T := tbX12) (is := isX12_met) (sw := swX12_met) (cu := cuX12_met) tbX12_ok msX12_met 19 _ _ _ _ _ _ _ (And.intro (ok_390 hw) (And.intro (fun q1187 => And.intro rfl (And.intro rfl (Exists.intro x2 (And.intro rfl (((h).1 q1187)))))) (fun q1187 => And.intro (Nat.le_of_ble_eq_true rfl) (And.intro (Nat.le_of_ble_eq_true rfl) (SpI.mono (((h).2 q1187)) (fun v2 s1 q1186 => And.intro (fun q1185 => ((q1186).1 q1185)) (fun q1185 => And.intro (ok_390 hw) (Exists.intro 402 (And.intro (rf_390_15 hw) (And.intro (ok_402 hw) (And.intro (vi_402 (((q1186).2 q1185)).1) ((((q1186).2 q1185)).2))))))))))))
theorem vX12_stepTo_0 {Γ : Gx} {d : Nat} {w : Wd} {Q : Int32 → St → Prop} {σ : St} {x1 : Int32} {x2 : Int32} {x3 : Int32} (hw : RunW w)
    (h : (((100 : Int32) ≤ x2 → SpI Γ d mX12_has [.int (x1 / (128 : Int32)), .int (x2 - (100 : Int32))] σ w (fun v2 s1 => ((¬ v2 = (0 : Int32) → (((0 : Int32) = (0 : Int32) → Q (-1 : Int32) s1) ∧ (¬ (0 : Int32) = (0 : Int32) → Q (x1 ||| ((128 : Int32) <<< ((x2 - (100 : Int32)) &&& (31 : Int32)))) s1))) ∧ (v2 = (0 : Int32) → (vp_in (x2 - (100 : Int32)) 8) ∧ (vp_in (x1 - x1 / (128 : Int32) * (128 : Int32)) 128) ∧ SpI Γ d mX12_met [.ref 390, .int (x1 / (128 : Int32))] s1 w (fun v4 s3 => SpI Γ d mX12_bits [.int (((gI s1 402 (x2 - (100 : Int32)).toNatClampNeg) &&& ((gI s1 418 (x1 - x1 / (128 : Int32) * (128 : Int32)).toNatClampNeg) ^^^ (-1 : Int32))) &&& (v4 ^^^ (-1 : Int32)))] s3 w (fun v6 s5 => ((x3 < v6 → (((0 : Int32) = (0 : Int32) → Q (-1 : Int32) s5) ∧ (¬ (0 : Int32) = (0 : Int32) → Q (x1 ||| ((128 : Int32) <<< ((x2 - (100 : Int32)) &&& (31 : Int32)))) s5))) ∧ (¬ x3 < v6 → (((1 : Int32) = (0 : Int32) → Q (-1 : Int32) s5) ∧ (¬ (1 : Int32) = (0 : Int32) → Q (x1 ||| ((128 : Int32) <<< ((x2 - (100 : Int32)) &&& (31 : Int32)))) s5)))))))))) ∧ (¬ (100 : Int32) ≤ x2 → SpI Γ d mX12_has [.int (x1 - x1 / (128 : Int32) * (128 : Int32)), .int x2] σ w (fun v8 s7 => ((¬ v8 = (0 : Int32) → (((0 : Int32) = (0 : Int32) → Q (-1 : Int32) s7) ∧ (¬ (0 : Int32) = (0 : Int32) → Q (x1 ||| ((1 : Int32) <<< (x2 &&& (31 : Int32)))) s7))) ∧ (v8 = (0 : Int32) → (vp_in ((3 : Int32) * x2) 21) ∧ ((¬ ((gI s7 399 ((3 : Int32) * x2).toNatClampNeg) &&& ((x1 - x1 / (128 : Int32) * (128 : Int32)) ^^^ (-1 : Int32))) = (0 : Int32) → (((0 : Int32) = (0 : Int32) → Q (-1 : Int32) s7) ∧ (¬ (0 : Int32) = (0 : Int32) → Q (x1 ||| ((1 : Int32) <<< (x2 &&& (31 : Int32)))) s7))) ∧ (((gI s7 399 ((3 : Int32) * x2).toNatClampNeg) &&& ((x1 - x1 / (128 : Int32) * (128 : Int32)) ^^^ (-1 : Int32))) = (0 : Int32) → (((1 : Int32) = (0 : Int32) → Q (-1 : Int32) s7) ∧ (¬ (1 : Int32) = (0 : Int32) → Q (x1 ||| ((1 : Int32) <<< (x2 &&& (31 : Int32)))) s7)))))))))) :
    AI Γ (d + 1) mX12_stepTo w Q 0 [(0, .ref 390), (1, .int x1), (2, .int x2), (3, .int x3)] σ :=
  wp_sound (μ := mX12_stepTo) (T := tbX12) (is := isX12_stepTo) (sw := swX12_stepTo) (cu := cuX12_stepTo) tbX12_ok msX12_stepTo 52 _ _ _ _ _ _ _ (And.intro (by decide) (And.intro (by decide) (And.intro (fun q1205 => And.intro (Nat.le_of_ble_eq_true rfl) (And.intro (Nat.le_of_ble_eq_true rfl) (SpI.mono (((h).1 q1205)) (fun v2 s1 q1198 => And.intro (fun q1197 => And.intro (fun q1191 => And.intro rfl (And.intro rfl (Exists.intro (-1 : Int32) (And.intro rfl (((((q1198).1 q1197)).1 q1191)))))) (fun q1191 => And.intro rfl (And.intro rfl (Exists.intro (x1 ||| ((128 : Int32) <<< ((x2 - (100 : Int32)) &&& (31 : Int32)))) (And.intro rfl (((((q1198).1 q1197)).2 q1191))))))) (fun q1197 => And.intro (ok_390 hw) (Exists.intro 402 (And.intro (rf_390_15 hw) (And.intro (ok_402 hw) (And.intro (vi_402 (((q1198).2 q1197)).1) (And.intro (ok_390 hw) (Exists.intro 418 (And.intro (rf_390_46 hw) (And.intro (ok_418 hw) (And.intro (vi_418 ((((q1198).2 q1197)).2).1) (And.intro (ok_390 hw) (And.intro (Nat.le_of_ble_eq_true rfl) (SpI.mono (((((q1198).2 q1197)).2).2) (fun v4 s3 q1196 => And.intro (Nat.le_of_ble_eq_true rfl) (And.intro (Nat.le_of_ble_eq_true rfl) (SpI.mono (q1196) (fun v6 s5 q1195 => And.intro (fun q1194 => And.intro (fun q1192 => And.intro rfl (And.intro rfl (Exists.intro (-1 : Int32) (And.intro rfl (((((q1195).1 q1194)).1 q1192)))))) (fun q1192 => And.intro rfl (And.intro rfl (Exists.intro (x1 ||| ((128 : Int32) <<< ((x2 - (100 : Int32)) &&& (31 : Int32)))) (And.intro rfl (((((q1195).1 q1194)).2 q1192))))))) (fun q1194 => And.intro (fun q1193 => And.intro rfl (And.intro rfl (Exists.intro (-1 : Int32) (And.intro rfl (((((q1195).2 q1194)).1 q1193)))))) (fun q1193 => And.intro rfl (And.intro rfl (Exists.intro (x1 ||| ((128 : Int32) <<< ((x2 - (100 : Int32)) &&& (31 : Int32)))) (And.intro rfl (((((q1195).2 q1194)).2 q1193)))))))))))))))))))))))))))) (fun q1205 => And.intro (Nat.le_of_ble_eq_true rfl) (And.intro (Nat.le_of_ble_eq_true rfl) (SpI.mono (((h).2 q1205)) (fun v8 s7 q1204 => And.intro (fun q1203 => And.intro (fun q1199 => And.intro rfl (And.intro rfl (Exists.intro (-1 : Int32) (And.intro rfl (((((q1204).1 q1203)).1 q1199)))))) (fun q1199 => And.intro rfl (And.intro rfl (Exists.intro (x1 ||| ((1 : Int32) <<< (x2 &&& (31 : Int32)))) (And.intro rfl (((((q1204).1 q1203)).2 q1199))))))) (fun q1203 => And.intro (ok_390 hw) (Exists.intro 399 (And.intro (rf_390_11 hw) (And.intro (ok_399 hw) (And.intro (vi_399 (((q1204).2 q1203)).1) (And.intro (fun q1202 => And.intro (fun q1200 => And.intro rfl (And.intro rfl (Exists.intro (-1 : Int32) (And.intro rfl ((((((((q1204).2 q1203)).2).1 q1202)).1 q1200)))))) (fun q1200 => And.intro rfl (And.intro rfl (Exists.intro (x1 ||| ((1 : Int32) <<< (x2 &&& (31 : Int32)))) (And.intro rfl ((((((((q1204).2 q1203)).2).1 q1202)).2 q1200))))))) (fun q1202 => And.intro (fun q1201 => And.intro rfl (And.intro rfl (Exists.intro (-1 : Int32) (And.intro rfl ((((((((q1204).2 q1203)).2).2 q1202)).1 q1201)))))) (fun q1201 => And.intro rfl (And.intro rfl (Exists.intro (x1 ||| ((1 : Int32) <<< (x2 &&& (31 : Int32)))) (And.intro rfl ((((((((q1204).2 q1203)).2).2 q1202)).2 q1201))))))))))))))))))))
theorem vX12_findCourses_0 {Γ : Gx} {d : Nat} {w : Wd} {Q : St → Prop} {σ : St} {x1 : Int32} {x2 : Int32}
    (h : AV Γ (d + 1) mX12_findCourses w Q 2 [(0, .ref 390), (1, .int x1), (2, .int x2), (3, .int (0 : Int32))] σ) :
    AV Γ (d + 1) mX12_findCourses w Q 0 [(0, .ref 390), (1, .int x1), (2, .int x2)] σ :=
  wp_sound (μ := mX12_findCourses) (T := tbX12) (is := isX12_findCourses) (sw := swX12_findCourses) (cu := cuX12_findCourses) tbX12_ok msX12_findCourses 3 _ _ _ _ _ _ _ (h)
theorem vX12_findCourses_2 {Γ : Gx} {d : Nat} {w : Wd} {Q : St → Prop} {σ : St} {x1 : Int32} {x2 : Int32} {x3 : Int32} (hw : RunW w)
    (h : ((((1 : Int32) <<< ((gI σ 390 10) &&& (31 : Int32))) ≤ x3 → AV Γ (d + 1) mX12_findCourses w Q 42 [(0, .ref 390), (1, .int x1), (2, .int x2), (3, .int (((128 : Int32) * ((1 : Int32) <<< ((gI σ 390 12) &&& (31 : Int32)))) - (1 : Int32)))] σ) ∧ (¬ ((1 : Int32) <<< ((gI σ 390 10) &&& (31 : Int32))) ≤ x3 → SpI Γ d mX12_readsOf [.ref 390, .int x3] σ w (fun v2 s1 => (vp_in x3 128) ∧ AV Γ (d + 1) mX12_findCourses w Q 2 [(0, .ref 390), (1, .int x1), (2, .int x2), (3, .int (x3 + (1 : Int32)))] (uI s1 418 x3.toNatClampNeg v2))))) :
    AV Γ (d + 1) mX12_findCourses w Q 2 [(0, .ref 390), (1, .int x1), (2, .int x2), (3, .int x3)] σ :=
  wp_sound (μ := mX12_findCourses) (T := tbX12) (is := isX12_findCourses) (sw := swX12_findCourses) (cu := cuX12_findCourses) tbX12_ok msX12_findCourses 16 _ _ _ _ _ _ _ (And.intro (ok_390 hw) (And.intro (fun q1222 => And.intro (ok_390 hw) (((h).1 q1222))) (fun q1222 => And.intro (ok_390 hw) (Exists.intro 418 (And.intro (rf_390_46 hw) (And.intro (ok_390 hw) (And.intro (Nat.le_of_ble_eq_true rfl) (SpI.mono (((h).2 q1222)) (fun v2 s1 q1221 => And.intro (ok_418 hw) (And.intro (vi_418 (q1221).1) ((q1221).2)))))))))))
theorem vX12_findCourses_42 {Γ : Gx} {d : Nat} {w : Wd} {Q : St → Prop} {σ : St} {x1 : Int32} {x2 : Int32} {x3 : Int32} (hw : RunW w)
    (h : ((x3 < (0 : Int32) → Q σ) ∧ (¬ x3 < (0 : Int32) → SpI Γ d mX12_has [.int (x3 / (128 : Int32)), .int x1] σ w (fun v2 s1 => ((v2 = (0 : Int32) → ((¬ (1000 : Int32) = (1000 : Int32) → AV Γ (d + 1) mX12_findCourses w Q 99 [(0, .ref 390), (1, .int x1), (2, .int x2), (3, .int x3), (4, .int (1000 : Int32)), (5, .int (0 : Int32)), (6, .int (0 : Int32))] s1) ∧ ((1000 : Int32) = (1000 : Int32) → ((((1 : Int32) <<< ((gI s1 390 10) &&& (31 : Int32))) ≤ (x3 - x3 / (128 : Int32) * (128 : Int32)) → AV Γ (d + 1) mX12_findCourses w Q 99 [(0, .ref 390), (1, .int x1), (2, .int x2), (3, .int x3), (4, .int (1000 : Int32)), (5, .int (0 : Int32)), (6, .int (0 : Int32))] s1) ∧ (¬ ((1 : Int32) <<< ((gI s1 390 10) &&& (31 : Int32))) ≤ (x3 - x3 / (128 : Int32) * (128 : Int32)) → AV Γ (d + 1) mX12_findCourses w Q 99 [(0, .ref 390), (1, .int x1), (2, .int x2), (3, .int x3), (4, .int (1000 : Int32)), (5, .int (1 : Int32)), (6, .int (0 : Int32))] s1))))) ∧ (¬ v2 = (0 : Int32) → ((¬ (0 : Int32) = (1000 : Int32) → AV Γ (d + 1) mX12_findCourses w Q 99 [(0, .ref 390), (1, .int x1), (2, .int x2), (3, .int x3), (4, .int (0 : Int32)), (5, .int (0 : Int32)), (6, .int (0 : Int32))] s1) ∧ ((0 : Int32) = (1000 : Int32) → ((((1 : Int32) <<< ((gI s1 390 10) &&& (31 : Int32))) ≤ (x3 - x3 / (128 : Int32) * (128 : Int32)) → AV Γ (d + 1) mX12_findCourses w Q 99 [(0, .ref 390), (1, .int x1), (2, .int x2), (3, .int x3), (4, .int (0 : Int32)), (5, .int (0 : Int32)), (6, .int (0 : Int32))] s1) ∧ (¬ ((1 : Int32) <<< ((gI s1 390 10) &&& (31 : Int32))) ≤ (x3 - x3 / (128 : Int32) * (128 : Int32)) → AV Γ (d + 1) mX12_findCourses w Q 99 [(0, .ref 390), (1, .int x1), (2, .int x2), (3, .int x3), (4, .int (0 : Int32)), (5, .int (1 : Int32)), (6, .int (0 : Int32))] s1)))))))))) :
    AV Γ (d + 1) mX12_findCourses w Q 42 [(0, .ref 390), (1, .int x1), (2, .int x2), (3, .int x3)] σ :=
  wp_sound (μ := mX12_findCourses) (T := tbX12) (is := isX12_findCourses) (sw := swX12_findCourses) (cu := cuX12_findCourses) tbX12_ok msX12_findCourses 28 _ _ _ _ _ _ _ (And.intro (fun q1227 => And.intro rfl (And.intro rfl (And.intro rfl (((h).1 q1227))))) (fun q1227 => And.intro (by decide) (And.intro (Nat.le_of_ble_eq_true rfl) (And.intro (Nat.le_of_ble_eq_true rfl) (SpI.mono (((h).2 q1227)) (fun v2 s1 q1226 => And.intro (fun q1225 => And.intro (fun q1223 => ((((q1226).1 q1225)).1 q1223)) (fun q1223 => And.intro (by decide) (And.intro (ok_390 hw) (((((q1226).1 q1225)).2 q1223))))) (fun q1225 => And.intro (fun q1224 => ((((q1226).2 q1225)).1 q1224)) (fun q1224 => And.intro (by decide) (And.intro (ok_390 hw) (((((q1226).2 q1225)).2 q1224)))))))))))
theorem vX12_findCourses_99 {Γ : Gx} {d : Nat} {w : Wd} {Q : St → Prop} {σ : St} {x1 : Int32} {x2 : Int32} {x3 : Int32} {x4 : Int32} {x5 : Int32} {x6 : Int32} (hw : RunW w)
    (h : (((gI σ 390 10) ≤ x6 → AV Γ (d + 1) mX12_findCourses w Q 167 [(0, .ref 390), (1, .int x1), (2, .int x2), (3, .int x3), (4, .int x4), (5, .int x5), (6, .int (0 : Int32))] σ) ∧ (¬ (gI σ 390 10) ≤ x6 → ((x5 = (0 : Int32) → AV Γ (d + 1) mX12_findCourses w Q 167 [(0, .ref 390), (1, .int x1), (2, .int x2), (3, .int x3), (4, .int x4), (5, .int x5), (6, .int (0 : Int32))] σ) ∧ (¬ x5 = (0 : Int32) → SpI Γ d mX12_stepTo [.ref 390, .int x3, .int x6, .int x2] σ w (fun v2 s1 => ((v2 < (0 : Int32) → AV Γ (d + 1) mX12_findCourses w Q 99 [(0, .ref 390), (1, .int x1), (2, .int x2), (3, .int x3), (4, .int x4), (5, .int x5), (6, .int (x6 + (1 : Int32)))] s1) ∧ (¬ v2 < (0 : Int32) → (vp_in v2 32768) ∧ ((x4 ≤ ((gI s1 417 v2.toNatClampNeg) + (1 : Int32)) → AV Γ (d + 1) mX12_findCourses w Q 99 [(0, .ref 390), (1, .int x1), (2, .int x2), (3, .int x3), (4, .int x4), (5, .int x5), (6, .int (x6 + (1 : Int32)))] s1) ∧ (¬ x4 ≤ ((gI s1 417 v2.toNatClampNeg) + (1 : Int32)) → (vp_in v2 32768) ∧ AV Γ (d + 1) mX12_findCourses w Q 99 [(0, .ref 390), (1, .int x1), (2, .int x2), (3, .int x3), (4, .int ((gI s1 417 v2.toNatClampNeg) + (1 : Int32))), (5, .int x5), (6, .int (x6 + (1 : Int32)))] s1)))))))))) :
    AV Γ (d + 1) mX12_findCourses w Q 99 [(0, .ref 390), (1, .int x1), (2, .int x2), (3, .int x3), (4, .int x4), (5, .int x5), (6, .int x6)] σ :=
  wp_sound (μ := mX12_findCourses) (T := tbX12) (is := isX12_findCourses) (sw := swX12_findCourses) (cu := cuX12_findCourses) tbX12_ok msX12_findCourses 33 _ _ _ _ _ _ _ (And.intro (ok_390 hw) (And.intro (fun q1232 => ((h).1 q1232)) (fun q1232 => And.intro (fun q1231 => ((((h).2 q1232)).1 q1231)) (fun q1231 => And.intro (ok_390 hw) (And.intro (Nat.le_of_ble_eq_true rfl) (SpI.mono (((((h).2 q1232)).2 q1231)) (fun v2 s1 q1230 => And.intro (fun q1229 => ((q1230).1 q1229)) (fun q1229 => And.intro (ok_390 hw) (Exists.intro 417 (And.intro (rf_390_45 hw) (And.intro (ok_417 hw) (And.intro (vi_417 (((q1230).2 q1229)).1) (And.intro (fun q1228 => (((((q1230).2 q1229)).2).1 q1228)) (fun q1228 => And.intro (ok_390 hw) (Exists.intro 417 (And.intro (rf_390_45 hw) (And.intro (ok_417 hw) (And.intro (vi_417 ((((((q1230).2 q1229)).2).2 q1228)).1) (((((((q1230).2 q1229)).2).2 q1228)).2)))))))))))))))))))
theorem vX12_findCourses_167 {Γ : Gx} {d : Nat} {w : Wd} {Q : St → Prop} {σ : St} {x1 : Int32} {x2 : Int32} {x3 : Int32} {x4 : Int32} {x5 : Int32} {x6 : Int32} (hw : RunW w)
    (h : (((gI σ 390 12) ≤ x6 → (vp_in x3 32768) ∧ AV Γ (d + 1) mX12_findCourses w Q 42 [(0, .ref 390), (1, .int x1), (2, .int x2), (3, .int (x3 + (-1 : Int32)))] (uI σ 417 x3.toNatClampNeg x4)) ∧ (¬ (gI σ 390 12) ≤ x6 → ((x5 = (0 : Int32) → (vp_in x3 32768) ∧ AV Γ (d + 1) mX12_findCourses w Q 42 [(0, .ref 390), (1, .int x1), (2, .int x2), (3, .int (x3 + (-1 : Int32)))] (uI σ 417 x3.toNatClampNeg x4)) ∧ (¬ x5 = (0 : Int32) → SpI Γ d mX12_stepTo [.ref 390, .int x3, .int ((100 : Int32) + x6), .int x2] σ w (fun v2 s1 => ((v2 < (0 : Int32) → AV Γ (d + 1) mX12_findCourses w Q 167 [(0, .ref 390), (1, .int x1), (2, .int x2), (3, .int x3), (4, .int x4), (5, .int x5), (6, .int (x6 + (1 : Int32)))] s1) ∧ (¬ v2 < (0 : Int32) → (vp_in v2 32768) ∧ ((x4 ≤ ((gI s1 417 v2.toNatClampNeg) + (1 : Int32)) → AV Γ (d + 1) mX12_findCourses w Q 167 [(0, .ref 390), (1, .int x1), (2, .int x2), (3, .int x3), (4, .int x4), (5, .int x5), (6, .int (x6 + (1 : Int32)))] s1) ∧ (¬ x4 ≤ ((gI s1 417 v2.toNatClampNeg) + (1 : Int32)) → (vp_in v2 32768) ∧ AV Γ (d + 1) mX12_findCourses w Q 167 [(0, .ref 390), (1, .int x1), (2, .int x2), (3, .int x3), (4, .int ((gI s1 417 v2.toNatClampNeg) + (1 : Int32))), (5, .int x5), (6, .int (x6 + (1 : Int32)))] s1)))))))))) :
    AV Γ (d + 1) mX12_findCourses w Q 167 [(0, .ref 390), (1, .int x1), (2, .int x2), (3, .int x3), (4, .int x4), (5, .int x5), (6, .int x6)] σ :=
  wp_sound (μ := mX12_findCourses) (T := tbX12) (is := isX12_findCourses) (sw := swX12_findCourses) (cu := cuX12_findCourses) tbX12_ok msX12_findCourses 35 _ _ _ _ _ _ _ (And.intro (ok_390 hw) (And.intro (fun q1237 => And.intro (ok_390 hw) (Exists.intro 417 (And.intro (rf_390_45 hw) (And.intro (ok_417 hw) (And.intro (vi_417 (((h).1 q1237)).1) ((((h).1 q1237)).2)))))) (fun q1237 => And.intro (fun q1236 => And.intro (ok_390 hw) (Exists.intro 417 (And.intro (rf_390_45 hw) (And.intro (ok_417 hw) (And.intro (vi_417 (((((h).2 q1237)).1 q1236)).1) ((((((h).2 q1237)).1 q1236)).2)))))) (fun q1236 => And.intro (ok_390 hw) (And.intro (Nat.le_of_ble_eq_true rfl) (SpI.mono (((((h).2 q1237)).2 q1236)) (fun v2 s1 q1235 => And.intro (fun q1234 => ((q1235).1 q1234)) (fun q1234 => And.intro (ok_390 hw) (Exists.intro 417 (And.intro (rf_390_45 hw) (And.intro (ok_417 hw) (And.intro (vi_417 (((q1235).2 q1234)).1) (And.intro (fun q1233 => (((((q1235).2 q1234)).2).1 q1233)) (fun q1233 => And.intro (ok_390 hw) (Exists.intro 417 (And.intro (rf_390_45 hw) (And.intro (ok_417 hw) (And.intro (vi_417 ((((((q1235).2 q1234)).2).2 q1233)).1) (((((((q1235).2 q1234)).2).2 q1233)).2)))))))))))))))))))
theorem vX12_course_0 {Γ : Gx} {d : Nat} {w : Wd} {Q : Int32 → St → Prop} {σ : St} {x1 : Int32} {x2 : Int32} {x3 : Int32} (hw : RunW w)
    (h : SpI Γ d mX12_isPage [.ref 390, .int x1] σ w (fun v2 s1 => ((¬ v2 = (0 : Int32) → SpI Γ d mX12_isFew [.int x2] s1 w (fun v4 s3 => ((¬ v4 = (0 : Int32) → SpV Γ d mX12_findCourses [.ref 390, .int x1, .int x2] s3 w (fun s5 => (vp_in (0 : Int32) 32768) ∧ (((gI s5 417 (0 : Int32).toNatClampNeg) < (1000 : Int32) → ((¬ x3 = (-1 : Int32) → (vp_in (0 : Int32) 32768) ∧ SpI Γ d mX12_in [.long x3.toInt64, .long (0 : Int64), .long (((gI s5 417 (0 : Int32).toNatClampNeg) - (1 : Int32)).toInt64)] s5 w (fun v7 s6 => ((¬ v7 = (0 : Int32) → AI Γ (d + 1) mX12_course w Q 84 [(0, .ref 390), (2, .int x2), (3, .int x3), (4, .int (0 : Int32)), (5, .int (0 : Int32)), (6, .int (0 : Int32))] s6) ∧ (v7 = (0 : Int32) → Q (-1 : Int32) s6)))) ∧ (x3 = (-1 : Int32) → (vp_in (0 : Int32) 32768) ∧ Q (gI s5 417 (0 : Int32).toNatClampNeg) s5))) ∧ (¬ (gI s5 417 (0 : Int32).toNatClampNeg) < (1000 : Int32) → Q (-1 : Int32) s5)))) ∧ (v4 = (0 : Int32) → Q (-1002 : Int32) s3)))) ∧ (v2 = (0 : Int32) → Q (-1001 : Int32) s1)))) :
    AI Γ (d + 1) mX12_course w Q 0 [(0, .ref 390), (1, .int x1), (2, .int x2), (3, .int x3)] σ :=
  wp_sound (μ := mX12_course) (T := tbX12) (is := isX12_course) (sw := swX12_course) (cu := cuX12_course) tbX12_ok msX12_course 39 _ _ _ _ _ _ _ (And.intro (ok_390 hw) (And.intro (Nat.le_of_ble_eq_true rfl) (SpI.mono (h) (fun v2 s1 q1263 => And.intro (fun q1262 => And.intro (Nat.le_of_ble_eq_true rfl) (And.intro (Nat.le_of_ble_eq_true rfl) (SpI.mono (((q1263).1 q1262)) (fun v4 s3 q1261 => And.intro (fun q1260 => And.intro (ok_390 hw) (And.intro (Nat.le_of_ble_eq_true rfl) (SpV.mono (((q1261).1 q1260)) (fun s5 q1259 => And.intro (ok_390 hw) (Exists.intro 417 (And.intro (rf_390_45 hw) (And.intro (ok_417 hw) (And.intro (vi_417 (q1259).1) (And.intro (fun q1258 => And.intro (fun q1257 => And.intro (ok_390 hw) (Exists.intro 417 (And.intro (rf_390_45 hw) (And.intro (ok_417 hw) (And.intro (vi_417 ((((((q1259).2).1 q1258)).1 q1257)).1) (And.intro (Nat.le_of_ble_eq_true rfl) (And.intro (Nat.le_of_ble_eq_true rfl) (SpI.mono (((((((q1259).2).1 q1258)).1 q1257)).2) (fun v7 s6 q1256 => And.intro (fun q1255 => ((q1256).1 q1255)) (fun q1255 => And.intro rfl (And.intro rfl (Exists.intro (-1 : Int32) (And.intro rfl (((q1256).2 q1255))))))))))))))) (fun q1257 => And.intro (ok_390 hw) (Exists.intro 417 (And.intro (rf_390_45 hw) (And.intro (ok_417 hw) (And.intro (vi_417 ((((((q1259).2).1 q1258)).2 q1257)).1) (And.intro rfl (And.intro rfl (Exists.intro (gI s5 417 (0 : Int32).toNatClampNeg) (And.intro rfl (((((((q1259).2).1 q1258)).2 q1257)).2))))))))))) (fun q1258 => And.intro rfl (And.intro rfl (Exists.intro (-1 : Int32) (And.intro rfl ((((q1259).2).2 q1258))))))))))))))) (fun q1260 => And.intro rfl (And.intro rfl (Exists.intro (-1002 : Int32) (And.intro rfl (((q1261).2 q1260)))))))))) (fun q1262 => And.intro rfl (And.intro rfl (Exists.intro (-1001 : Int32) (And.intro rfl (((q1263).2 q1262))))))))))
theorem vX12_course_84 {Γ : Gx} {d : Nat} {w : Wd} {Q : Int32 → St → Prop} {σ : St} {x2 : Int32} {x3 : Int32} {x4 : Int32} {x5 : Int32} {x6 : Int32}
    (h : ((x3 < x6 → Q x5 σ) ∧ (¬ x3 < x6 → AI Γ (d + 1) mX12_course w Q 96 [(0, .ref 390), (2, .int x2), (3, .int x3), (4, .int x4), (5, .int (-1 : Int32)), (6, .int x6), (7, .int (-1 : Int32))] σ))) :
    AI Γ (d + 1) mX12_course w Q 84 [(0, .ref 390), (2, .int x2), (3, .int x3), (4, .int x4), (5, .int x5), (6, .int x6)] σ :=
  wp_sound (μ := mX12_course) (T := tbX12) (is := isX12_course) (sw := swX12_course) (cu := cuX12_course) tbX12_ok msX12_course 8 _ _ _ _ _ _ _ (And.intro (fun q1264 => And.intro rfl (And.intro rfl (Exists.intro x5 (And.intro rfl (((h).1 q1264)))))) (fun q1264 => ((h).2 q1264)))
theorem vX12_course_96 {Γ : Gx} {d : Nat} {w : Wd} {Q : Int32 → St → Prop} {σ : St} {x2 : Int32} {x3 : Int32} {x4 : Int32} {x5 : Int32} {x6 : Int32} {x7 : Int32} (hw : RunW w)
    (h : ((x7 < (0 : Int32) → ((¬ (x5 + (1 : Int32)) = (gI σ 390 10) → SpI Γ d mX12_stepTo [.ref 390, .int x4, .int (x5 + (1 : Int32)), .int x2] σ w (fun v2 s1 => AI Γ (d + 1) mX12_course w Q 96 [(0, .ref 390), (2, .int x2), (3, .int x3), (4, .int x4), (5, .int (x5 + (1 : Int32))), (6, .int x6), (7, .int v2)] s1)) ∧ ((x5 + (1 : Int32)) = (gI σ 390 10) → SpI Γ d mX12_stepTo [.ref 390, .int x4, .int (100 : Int32), .int x2] σ w (fun v4 s3 => AI Γ (d + 1) mX12_course w Q 96 [(0, .ref 390), (2, .int x2), (3, .int x3), (4, .int x4), (5, .int (100 : Int32)), (6, .int x6), (7, .int v4)] s3)))) ∧ (¬ x7 < (0 : Int32) → (vp_in x7 32768) ∧ (vp_in x4 32768) ∧ ((((gI σ 417 x7.toNatClampNeg) + (1 : Int32)) = (gI σ 417 x4.toNatClampNeg) → AI Γ (d + 1) mX12_course w Q 84 [(0, .ref 390), (2, .int x2), (3, .int x3), (4, .int x7), (5, .int x5), (6, .int (x6 + (1 : Int32)))] σ) ∧ (¬ ((gI σ 417 x7.toNatClampNeg) + (1 : Int32)) = (gI σ 417 x4.toNatClampNeg) → ((¬ (x5 + (1 : Int32)) = (gI σ 390 10) → SpI Γ d mX12_stepTo [.ref 390, .int x4, .int (x5 + (1 : Int32)), .int x2] σ w (fun v6 s5 => AI Γ (d + 1) mX12_course w Q 96 [(0, .ref 390), (2, .int x2), (3, .int x3), (4, .int x4), (5, .int (x5 + (1 : Int32))), (6, .int x6), (7, .int v6)] s5)) ∧ ((x5 + (1 : Int32)) = (gI σ 390 10) → SpI Γ d mX12_stepTo [.ref 390, .int x4, .int (100 : Int32), .int x2] σ w (fun v8 s7 => AI Γ (d + 1) mX12_course w Q 96 [(0, .ref 390), (2, .int x2), (3, .int x3), (4, .int x4), (5, .int (100 : Int32)), (6, .int x6), (7, .int v8)] s7)))))))) :
    AI Γ (d + 1) mX12_course w Q 96 [(0, .ref 390), (2, .int x2), (3, .int x3), (4, .int x4), (5, .int x5), (6, .int x6), (7, .int x7)] σ :=
  wp_sound (μ := mX12_course) (T := tbX12) (is := isX12_course) (sw := swX12_course) (cu := cuX12_course) tbX12_ok msX12_course 29 _ _ _ _ _ _ _ (And.intro (fun q1268 => And.intro (ok_390 hw) (And.intro (fun q1265 => And.intro (ok_390 hw) (And.intro (Nat.le_of_ble_eq_true rfl) (((((h).1 q1268)).1 q1265)))) (fun q1265 => And.intro (ok_390 hw) (And.intro (Nat.le_of_ble_eq_true rfl) (((((h).1 q1268)).2 q1265)))))) (fun q1268 => And.intro (ok_390 hw) (Exists.intro 417 (And.intro (rf_390_45 hw) (And.intro (ok_417 hw) (And.intro (vi_417 (((h).2 q1268)).1) (And.intro (ok_390 hw) (Exists.intro 417 (And.intro (rf_390_45 hw) (And.intro (ok_417 hw) (And.intro (vi_417 ((((h).2 q1268)).2).1) (And.intro (fun q1267 => ((((((h).2 q1268)).2).2).1 q1267)) (fun q1267 => And.intro (ok_390 hw) (And.intro (fun q1266 => And.intro (ok_390 hw) (And.intro (Nat.le_of_ble_eq_true rfl) (((((((((h).2 q1268)).2).2).2 q1267)).1 q1266)))) (fun q1266 => And.intro (ok_390 hw) (And.intro (Nat.le_of_ble_eq_true rfl) (((((((((h).2 q1268)).2).2).2 q1267)).2 q1266))))))))))))))))))
theorem vX12_behind_0 {Γ : Gx} {d : Nat} {w : Wd} {Q : Int32 → St → Prop} {σ : St} {x1 : Int32}
    (h : AI Γ d mX12_behind w Q 8 [(0, .ref 390), (2, .int ((1 : Int32) <<< (x1 &&& (31 : Int32)))), (3, .int (x1 + (1 : Int32)))] σ) :
    AI Γ d mX12_behind w Q 0 [(0, .ref 390), (1, .int x1)] σ :=
  wp_sound (μ := mX12_behind) (T := tbX12) (is := isX12_behind) (sw := swX12_behind) (cu := cuX12_behind) tbX12_ok msX12_behind 9 _ _ _ _ _ _ _ (h)
theorem vX12_behind_8 {Γ : Gx} {d : Nat} {w : Wd} {Q : Int32 → St → Prop} {σ : St} {x2 : Int32} {x3 : Int32} (hw : RunW w)
    (h : (((gI σ 390 10) ≤ x3 → Q x2 σ) ∧ (¬ (gI σ 390 10) ≤ x3 → (vp_in ((3 : Int32) * x3) 21) ∧ ((((gI σ 399 ((3 : Int32) * x3).toNatClampNeg) &&& x2) = (0 : Int32) → AI Γ d mX12_behind w Q 8 [(0, .ref 390), (2, .int (x2 ||| (0 : Int32))), (3, .int (x3 + (1 : Int32)))] σ) ∧ (¬ ((gI σ 399 ((3 : Int32) * x3).toNatClampNeg) &&& x2) = (0 : Int32) → AI Γ d mX12_behind w Q 8 [(0, .ref 390), (2, .int (x2 ||| ((1 : Int32) <<< (x3 &&& (31 : Int32))))), (3, .int (x3 + (1 : Int32)))] σ))))) :
    AI Γ d mX12_behind w Q 8 [(0, .ref 390), (2, .int x2), (3, .int x3)] σ :=
  wp_sound (μ := mX12_behind) (T := tbX12) (is := isX12_behind) (sw := swX12_behind) (cu := cuX12_behind) tbX12_ok msX12_behind 23 _ _ _ _ _ _ _ (And.intro (ok_390 hw) (And.intro (fun q1283 => And.intro rfl (And.intro rfl (Exists.intro x2 (And.intro rfl (((h).1 q1283)))))) (fun q1283 => And.intro (ok_390 hw) (Exists.intro 399 (And.intro (rf_390_11 hw) (And.intro (ok_399 hw) (And.intro (vi_399 (((h).2 q1283)).1) ((((h).2 q1283)).2))))))))
theorem vX12_hangs_0 {Γ : Gx} {d : Nat} {w : Wd} {Q : Int32 → St → Prop} {σ : St} {x1 : Int32} (hw : RunW w)
    (h : SpI Γ d mX12_isWord [.ref 390, .int x1] σ w (fun v2 s1 => ((¬ v2 = (0 : Int32) → SpI Γ d mX12_readsOf [.ref 390, .int (((1 : Int32) <<< ((gI s1 390 10) &&& (31 : Int32))) - (1 : Int32))] s1 w (fun v4 s3 => SpI Γ d mX12_has [.int v4, .int x1] s3 w (fun v6 s5 => ((¬ v6 = (0 : Int32) → AI Γ (d + 1) mX12_hangs w Q 40 [(0, .ref 390), (1, .int x1), (2, .int (((1 : Int32) <<< ((gI s1 390 10) &&& (31 : Int32))) - (1 : Int32))), (3, .int (0 : Int32)), (4, .int (0 : Int32))] s5) ∧ (v6 = (0 : Int32) → Q (-1 : Int32) s5))))) ∧ (v2 = (0 : Int32) → Q (-1001 : Int32) s1)))) :
    AI Γ (d + 1) mX12_hangs w Q 0 [(0, .ref 390), (1, .int x1)] σ :=
  wp_sound (μ := mX12_hangs) (T := tbX12) (is := isX12_hangs) (sw := swX12_hangs) (cu := cuX12_hangs) tbX12_ok msX12_hangs 22 _ _ _ _ _ _ _ (And.intro (ok_390 hw) (And.intro (Nat.le_of_ble_eq_true rfl) (SpI.mono (h) (fun v2 s1 q1289 => And.intro (fun q1288 => And.intro (ok_390 hw) (And.intro (ok_390 hw) (And.intro (Nat.le_of_ble_eq_true rfl) (SpI.mono (((q1289).1 q1288)) (fun v4 s3 q1287 => And.intro (Nat.le_of_ble_eq_true rfl) (And.intro (Nat.le_of_ble_eq_true rfl) (SpI.mono (q1287) (fun v6 s5 q1286 => And.intro (fun q1285 => ((q1286).1 q1285)) (fun q1285 => And.intro rfl (And.intro rfl (Exists.intro (-1 : Int32) (And.intro rfl (((q1286).2 q1285)))))))))))))) (fun q1288 => And.intro rfl (And.intro rfl (Exists.intro (-1001 : Int32) (And.intro rfl (((q1289).2 q1288))))))))))
theorem vX12_hangs_40 {Γ : Gx} {d : Nat} {w : Wd} {Q : Int32 → St → Prop} {σ : St} {x1 : Int32} {x2 : Int32} {x3 : Int32} {x4 : Int32} (hw : RunW w)
    (h : (((gI σ 390 10) ≤ x4 → Q x3 σ) ∧ (¬ (gI σ 390 10) ≤ x4 → SpI Γ d mX12_behind [.ref 390, .int x4] σ w (fun v2 s1 => SpI Γ d mX12_readsOf [.ref 390, .int (x2 &&& (v2 ^^^ (-1 : Int32)))] s1 w (fun v4 s3 => SpI Γ d mX12_has [.int v4, .int x1] s3 w (fun v6 s5 => ((v6 = (0 : Int32) → AI Γ (d + 1) mX12_hangs w Q 40 [(0, .ref 390), (1, .int x1), (2, .int x2), (3, .int (x3 ||| ((1 : Int32) <<< (x4 &&& (31 : Int32))))), (4, .int (x4 + (1 : Int32)))] s5) ∧ (¬ v6 = (0 : Int32) → AI Γ (d + 1) mX12_hangs w Q 40 [(0, .ref 390), (1, .int x1), (2, .int x2), (3, .int (x3 ||| (0 : Int32))), (4, .int (x4 + (1 : Int32)))] s5)))))))) :
    AI Γ (d + 1) mX12_hangs w Q 40 [(0, .ref 390), (1, .int x1), (2, .int x2), (3, .int x3), (4, .int x4)] σ :=
  wp_sound (μ := mX12_hangs) (T := tbX12) (is := isX12_hangs) (sw := swX12_hangs) (cu := cuX12_hangs) tbX12_ok msX12_hangs 25 _ _ _ _ _ _ _ (And.intro (ok_390 hw) (And.intro (fun q1292 => And.intro rfl (And.intro rfl (Exists.intro x3 (And.intro rfl (((h).1 q1292)))))) (fun q1292 => And.intro (ok_390 hw) (And.intro (Nat.le_of_ble_eq_true rfl) (SpI.mono (((h).2 q1292)) (fun v2 s1 q1291 => And.intro (ok_390 hw) (And.intro (Nat.le_of_ble_eq_true rfl) (SpI.mono (q1291) (fun v4 s3 q1290 => And.intro (Nat.le_of_ble_eq_true rfl) (And.intro (Nat.le_of_ble_eq_true rfl) (q1290)))))))))))
theorem vX12_beginPupils_0 {Γ : Gx} {d : Nat} {w : Wd} {Q : St → Prop} {σ : St}
    (h : AV Γ d mX12_beginPupils w Q 2 [(0, .ref 390), (1, .int (0 : Int32))] σ) :
    AV Γ d mX12_beginPupils w Q 0 [(0, .ref 390)] σ :=
  wp_sound (μ := mX12_beginPupils) (T := tbX12) (is := isX12_beginPupils) (sw := swX12_beginPupils) (cu := cuX12_beginPupils) tbX12_ok msX12_beginPupils 3 _ _ _ _ _ _ _ (h)
theorem vX12_beginPupils_2 {Γ : Gx} {d : Nat} {w : Wd} {Q : St → Prop} {σ : St} {x1 : Int32} (hw : RunW w)
    (h : (((3 : Int32) ≤ x1 → AV Γ d mX12_beginPupils w Q 29 [(0, .ref 390), (1, .int (0 : Int32))] σ) ∧ (¬ (3 : Int32) ≤ x1 → (vp_in x1 3) ∧ (vp_in x1 3) ∧ AV Γ d mX12_beginPupils w Q 2 [(0, .ref 390), (1, .int (x1 + (1 : Int32)))] (uI (uI σ 419 x1.toNatClampNeg (0 : Int32)) 420 x1.toNatClampNeg (0 : Int32))))) :
    AV Γ d mX12_beginPupils w Q 2 [(0, .ref 390), (1, .int x1)] σ :=
  wp_sound (μ := mX12_beginPupils) (T := tbX12) (is := isX12_beginPupils) (sw := swX12_beginPupils) (cu := cuX12_beginPupils) tbX12_ok msX12_beginPupils 16 _ _ _ _ _ _ _ (And.intro (fun q1301 => ((h).1 q1301)) (fun q1301 => And.intro (ok_390 hw) (Exists.intro 419 (And.intro (rf_390_48 hw) (And.intro (ok_419 hw) (And.intro (vi_419 (((h).2 q1301)).1) (And.intro (ok_390 hw) (Exists.intro 420 (And.intro (rf_390_49 hw) (And.intro (ok_420 hw) (And.intro (vi_420 ((((h).2 q1301)).2).1) (((((h).2 q1301)).2).2))))))))))))
theorem vX12_beginPupils_29 {Γ : Gx} {d : Nat} {w : Wd} {Q : St → Prop} {σ : St} {x1 : Int32} (hw : RunW w)
    (h : (((132 : Int32) ≤ x1 → Q σ) ∧ (¬ (132 : Int32) ≤ x1 → (vp_in x1 132) ∧ (vp_in x1 132) ∧ AV Γ d mX12_beginPupils w Q 29 [(0, .ref 390), (1, .int (x1 + (1 : Int32)))] (uI (uI σ 421 x1.toNatClampNeg (0 : Int32)) 422 x1.toNatClampNeg (0 : Int32))))) :
    AV Γ d mX12_beginPupils w Q 29 [(0, .ref 390), (1, .int x1)] σ :=
  wp_sound (μ := mX12_beginPupils) (T := tbX12) (is := isX12_beginPupils) (sw := swX12_beginPupils) (cu := cuX12_beginPupils) tbX12_ok msX12_beginPupils 16 _ _ _ _ _ _ _ (And.intro (fun q1302 => And.intro rfl (And.intro rfl (And.intro rfl (((h).1 q1302))))) (fun q1302 => And.intro (ok_390 hw) (Exists.intro 421 (And.intro (rf_390_50 hw) (And.intro (ok_421 hw) (And.intro (vi_421 (((h).2 q1302)).1) (And.intro (ok_390 hw) (Exists.intro 422 (And.intro (rf_390_51 hw) (And.intro (ok_422 hw) (And.intro (vi_422 ((((h).2 q1302)).2).1) (((((h).2 q1302)).2).2))))))))))))
theorem vX12_isPupil_0 {Γ : Gx} {d : Nat} {w : Wd} {Q : Int32 → St → Prop} {σ : St} {x0 : Int32}
    (h : SpI Γ d mX12_in [.long x0.toInt64, .long (0 : Int64), .long (2 : Int64)] σ w (fun v2 s1 => (v2 = 0 ∨ v2 = 1) ∧ Q v2 s1)) :
    AI Γ (d + 1) mX12_isPupil w Q 0 [(0, .int x0)] σ :=
  wp_sound (μ := mX12_isPupil) (T := tbX12) (is := isX12_isPupil) (sw := swX12_isPupil) (cu := cuX12_isPupil) tbX12_ok msX12_isPupil 7 _ _ _ _ _ _ _ (And.intro (Nat.le_of_ble_eq_true rfl) (And.intro (Nat.le_of_ble_eq_true rfl) (SpI.mono (h) (fun v2 s1 q1305 => And.intro (nb01 (q1305).1) (And.intro rfl (Exists.intro v2 (And.intro rfl ((q1305).2))))))))
theorem vX12_isHeld_0 {Γ : Gx} {d : Nat} {w : Wd} {Q : Int32 → St → Prop} {σ : St} {x1 : Int32} {x2 : Int32} (hw : RunW w)
    (h : (vp_in (((44 : Int32) * x1) + x2) 132) ∧ (((gI σ 421 (((44 : Int32) * x1) + x2).toNatClampNeg) ≤ (0 : Int32) → Q (0 : Int32) σ) ∧ (¬ (gI σ 421 (((44 : Int32) * x1) + x2).toNatClampNeg) ≤ (0 : Int32) → (vp_in x1 3) ∧ (vp_in (((44 : Int32) * x1) + x2) 132) ∧ (vp_in (((44 : Int32) * x1) + x2) 132) ∧ (((gI σ 421 (((44 : Int32) * x1) + x2).toNatClampNeg) < ((gI σ 419 x1.toNatClampNeg) - (gI σ 422 (((44 : Int32) * x1) + x2).toNatClampNeg)) → Q (0 : Int32) σ) ∧ (¬ (gI σ 421 (((44 : Int32) * x1) + x2).toNatClampNeg) < ((gI σ 419 x1.toNatClampNeg) - (gI σ 422 (((44 : Int32) * x1) + x2).toNatClampNeg)) → Q (1 : Int32) σ))))) :
    AI Γ d mX12_isHeld w Q 0 [(0, .ref 390), (1, .int x1), (2, .int x2)] σ :=
  wp_sound (μ := mX12_isHeld) (T := tbX12) (is := isX12_isHeld) (sw := swX12_isHeld) (cu := cuX12_isHeld) tbX12_ok msX12_isHeld 29 _ _ _ _ _ _ _ (And.intro (ok_390 hw) (Exists.intro 421 (And.intro (rf_390_50 hw) (And.intro (ok_421 hw) (And.intro (vi_421 (h).1) (And.intro (fun q1308 => And.intro nb0 (And.intro rfl (Exists.intro (0 : Int32) (And.intro rfl ((((h).2).1 q1308)))))) (fun q1308 => And.intro (ok_390 hw) (Exists.intro 419 (And.intro (rf_390_48 hw) (And.intro (ok_419 hw) (And.intro (vi_419 ((((h).2).2 q1308)).1) (And.intro (ok_390 hw) (Exists.intro 422 (And.intro (rf_390_51 hw) (And.intro (ok_422 hw) (And.intro (vi_422 (((((h).2).2 q1308)).2).1) (And.intro (ok_390 hw) (Exists.intro 421 (And.intro (rf_390_50 hw) (And.intro (ok_421 hw) (And.intro (vi_421 ((((((h).2).2 q1308)).2).2).1) (And.intro (fun q1307 => And.intro nb0 (And.intro rfl (Exists.intro (0 : Int32) (And.intro rfl (((((((((h).2).2 q1308)).2).2).2).1 q1307)))))) (fun q1307 => And.intro nb1 (And.intro rfl (Exists.intro (1 : Int32) (And.intro rfl (((((((((h).2).2 q1308)).2).2).2).2 q1307))))))))))))))))))))))))))))
theorem vX12_heldSigns_0 {Γ : Gx} {d : Nat} {w : Wd} {Q : Int32 → St → Prop} {σ : St} {x1 : Int32}
    (h : AI Γ (d + 1) mX12_heldSigns w Q 4 [(0, .ref 390), (1, .int x1), (2, .int (0 : Int32)), (3, .int (0 : Int32))] σ) :
    AI Γ (d + 1) mX12_heldSigns w Q 0 [(0, .ref 390), (1, .int x1)] σ :=
  wp_sound (μ := mX12_heldSigns) (T := tbX12) (is := isX12_heldSigns) (sw := swX12_heldSigns) (cu := cuX12_heldSigns) tbX12_ok msX12_heldSigns 5 _ _ _ _ _ _ _ (h)
theorem vX12_heldSigns_4 {Γ : Gx} {d : Nat} {w : Wd} {Q : Int32 → St → Prop} {σ : St} {x1 : Int32} {x2 : Int32} {x3 : Int32} (hw : RunW w)
    (h : (((gI σ 390 0) ≤ x3 → Q x2 σ) ∧ (¬ (gI σ 390 0) ≤ x3 → SpI Γ d mX12_isHeld [.ref 390, .int x1, .int x3] σ w (fun v2 s1 => ((v2 = (0 : Int32) → AI Γ (d + 1) mX12_heldSigns w Q 4 [(0, .ref 390), (1, .int x1), (2, .int (x2 ||| (0 : Int32))), (3, .int (x3 + (1 : Int32)))] s1) ∧ (¬ v2 = (0 : Int32) → AI Γ (d + 1) mX12_heldSigns w Q 4 [(0, .ref 390), (1, .int x1), (2, .int (x2 ||| ((1 : Int32) <<< (x3 &&& (31 : Int32))))), (3, .int (x3 + (1 : Int32)))] s1)))))) :
    AI Γ (d + 1) mX12_heldSigns w Q 4 [(0, .ref 390), (1, .int x1), (2, .int x2), (3, .int x3)] σ :=
  wp_sound (μ := mX12_heldSigns) (T := tbX12) (is := isX12_heldSigns) (sw := swX12_heldSigns) (cu := cuX12_heldSigns) tbX12_ok msX12_heldSigns 19 _ _ _ _ _ _ _ (And.intro (ok_390 hw) (And.intro (fun q1311 => And.intro rfl (And.intro rfl (Exists.intro x2 (And.intro rfl (((h).1 q1311)))))) (fun q1311 => And.intro (ok_390 hw) (And.intro (Nat.le_of_ble_eq_true rfl) (((h).2 q1311))))))
theorem vX12_heldWords_0 {Γ : Gx} {d : Nat} {w : Wd} {Q : Int32 → St → Prop} {σ : St} {x1 : Int32}
    (h : AI Γ (d + 1) mX12_heldWords w Q 4 [(0, .ref 390), (1, .int x1), (2, .int (0 : Int32)), (3, .int (0 : Int32))] σ) :
    AI Γ (d + 1) mX12_heldWords w Q 0 [(0, .ref 390), (1, .int x1)] σ :=
  wp_sound (μ := mX12_heldWords) (T := tbX12) (is := isX12_heldWords) (sw := swX12_heldWords) (cu := cuX12_heldWords) tbX12_ok msX12_heldWords 5 _ _ _ _ _ _ _ (h)
theorem vX12_heldWords_4 {Γ : Gx} {d : Nat} {w : Wd} {Q : Int32 → St → Prop} {σ : St} {x1 : Int32} {x2 : Int32} {x3 : Int32} (hw : RunW w)
    (h : (((gI σ 390 5) ≤ x3 → Q x2 σ) ∧ (¬ (gI σ 390 5) ≤ x3 → SpI Γ d mX12_isHeld [.ref 390, .int x1, .int ((20 : Int32) + x3)] σ w (fun v2 s1 => ((v2 = (0 : Int32) → AI Γ (d + 1) mX12_heldWords w Q 4 [(0, .ref 390), (1, .int x1), (2, .int (x2 ||| (0 : Int32))), (3, .int (x3 + (1 : Int32)))] s1) ∧ (¬ v2 = (0 : Int32) → AI Γ (d + 1) mX12_heldWords w Q 4 [(0, .ref 390), (1, .int x1), (2, .int (x2 ||| ((1 : Int32) <<< (x3 &&& (31 : Int32))))), (3, .int (x3 + (1 : Int32)))] s1)))))) :
    AI Γ (d + 1) mX12_heldWords w Q 4 [(0, .ref 390), (1, .int x1), (2, .int x2), (3, .int x3)] σ :=
  wp_sound (μ := mX12_heldWords) (T := tbX12) (is := isX12_heldWords) (sw := swX12_heldWords) (cu := cuX12_heldWords) tbX12_ok msX12_heldWords 21 _ _ _ _ _ _ _ (And.intro (ok_390 hw) (And.intro (fun q1313 => And.intro rfl (And.intro rfl (Exists.intro x2 (And.intro rfl (((h).1 q1313)))))) (fun q1313 => And.intro (ok_390 hw) (And.intro (Nat.le_of_ble_eq_true rfl) (((h).2 q1313))))))
theorem vX12_use_0 {Γ : Gx} {d : Nat} {w : Wd} {Q : St → Prop} {σ : St} {x1 : Int32} {x2 : Int32} (hw : RunW w)
    (h : SpI Γ d mX12_isHeld [.ref 390, .int x1, .int x2] σ w (fun v2 s1 => ((v2 = (0 : Int32) → (vp_in (((44 : Int32) * x1) + x2) 132) ∧ ((((2 : Int32) * (gI s1 421 (((44 : Int32) * x1) + x2).toNatClampNeg)) ≤ (999 : Int32) → (vp_in (((44 : Int32) * x1) + x2) 132) ∧ ((v2 = (0 : Int32) → (vp_in (((44 : Int32) * x1) + x2) 132) ∧ (vp_in x1 3) ∧ (vp_in (((44 : Int32) * x1) + x2) 132) ∧ Q (uI (uI s1 421 (((44 : Int32) * x1) + x2).toNatClampNeg (gI s1 390 47)) 422 (((44 : Int32) * x1) + x2).toNatClampNeg (gI s1 419 x1.toNatClampNeg))) ∧ (¬ v2 = (0 : Int32) → (vp_in (((44 : Int32) * x1) + x2) 132) ∧ (vp_in x1 3) ∧ (vp_in (((44 : Int32) * x1) + x2) 132) ∧ Q (uI (uI s1 421 (((44 : Int32) * x1) + x2).toNatClampNeg ((2 : Int32) * (gI s1 421 (((44 : Int32) * x1) + x2).toNatClampNeg))) 422 (((44 : Int32) * x1) + x2).toNatClampNeg (gI s1 419 x1.toNatClampNeg))))) ∧ (¬ ((2 : Int32) * (gI s1 421 (((44 : Int32) * x1) + x2).toNatClampNeg)) ≤ (999 : Int32) → ((v2 = (0 : Int32) → (vp_in (((44 : Int32) * x1) + x2) 132) ∧ (vp_in x1 3) ∧ (vp_in (((44 : Int32) * x1) + x2) 132) ∧ Q (uI (uI s1 421 (((44 : Int32) * x1) + x2).toNatClampNeg (gI s1 390 47)) 422 (((44 : Int32) * x1) + x2).toNatClampNeg (gI s1 419 x1.toNatClampNeg))) ∧ (¬ v2 = (0 : Int32) → (vp_in (((44 : Int32) * x1) + x2) 132) ∧ (vp_in x1 3) ∧ (vp_in (((44 : Int32) * x1) + x2) 132) ∧ Q (uI (uI s1 421 (((44 : Int32) * x1) + x2).toNatClampNeg (999 : Int32)) 422 (((44 : Int32) * x1) + x2).toNatClampNeg (gI s1 419 x1.toNatClampNeg))))))) ∧ (¬ v2 = (0 : Int32) → (vp_in (((44 : Int32) * x1) + x2) 132) ∧ (vp_in x1 3) ∧ ((¬ (gI s1 422 (((44 : Int32) * x1) + x2).toNatClampNeg) = (gI s1 419 x1.toNatClampNeg) → (vp_in (((44 : Int32) * x1) + x2) 132) ∧ ((((2 : Int32) * (gI s1 421 (((44 : Int32) * x1) + x2).toNatClampNeg)) ≤ (999 : Int32) → (vp_in (((44 : Int32) * x1) + x2) 132) ∧ ((v2 = (0 : Int32) → (vp_in (((44 : Int32) * x1) + x2) 132) ∧ (vp_in x1 3) ∧ (vp_in (((44 : Int32) * x1) + x2) 132) ∧ Q (uI (uI s1 421 (((44 : Int32) * x1) + x2).toNatClampNeg (gI s1 390 47)) 422 (((44 : Int32) * x1) + x2).toNatClampNeg (gI s1 419 x1.toNatClampNeg))) ∧ (¬ v2 = (0 : Int32) → (vp_in (((44 : Int32) * x1) + x2) 132) ∧ (vp_in x1 3) ∧ (vp_in (((44 : Int32) * x1) + x2) 132) ∧ Q (uI (uI s1 421 (((44 : Int32) * x1) + x2).toNatClampNeg ((2 : Int32) * (gI s1 421 (((44 : Int32) * x1) + x2).toNatClampNeg))) 422 (((44 : Int32) * x1) + x2).toNatClampNeg (gI s1 419 x1.toNatClampNeg))))) ∧ (¬ ((2 : Int32) * (gI s1 421 (((44 : Int32) * x1) + x2).toNatClampNeg)) ≤ (999 : Int32) → ((v2 = (0 : Int32) → (vp_in (((44 : Int32) * x1) + x2) 132) ∧ (vp_in x1 3) ∧ (vp_in (((44 : Int32) * x1) + x2) 132) ∧ Q (uI (uI s1 421 (((44 : Int32) * x1) + x2).toNatClampNeg (gI s1 390 47)) 422 (((44 : Int32) * x1) + x2).toNatClampNeg (gI s1 419 x1.toNatClampNeg))) ∧ (¬ v2 = (0 : Int32) → (vp_in (((44 : Int32) * x1) + x2) 132) ∧ (vp_in x1 3) ∧ (vp_in (((44 : Int32) * x1) + x2) 132) ∧ Q (uI (uI s1 421 (((44 : Int32) * x1) + x2).toNatClampNeg (999 : Int32)) 422 (((44 : Int32) * x1) + x2).toNatClampNeg (gI s1 419 x1.toNatClampNeg))))))) ∧ ((gI s1 422 (((44 : Int32) * x1) + x2).toNatClampNeg) = (gI s1 419 x1.toNatClampNeg) → Q s1)))))) :
    AV Γ (d + 1) mX12_use w Q 0 [(0, .ref 390), (1, .int x1), (2, .int x2)] σ :=
  wp_sound (μ := mX12_use) (T := tbX12) (is := isX12_use) (sw := swX12_use) (cu := cuX12_use) tbX12_ok msX12_use 55 _ _ _ _ _ _ _ (And.intro (ok_390 hw) (And.intro (Nat.le_of_ble_eq_true rfl) (SpI.mono (h) (fun v2 s1 q1323 => And.intro (fun q1322 => And.intro (ok_390 hw) (Exists.intro 421 (And.intro (rf_390_50 hw) (And.intro (ok_421 hw) (And.intro (vi_421 (((q1323).1 q1322)).1) (And.intro (fun q1317 => And.intro (ok_390 hw) (Exists.intro 421 (And.intro (rf_390_50 hw) (And.intro (ok_421 hw) (And.intro (vi_421 ((((((q1323).1 q1322)).2).1 q1317)).1) (And.intro (ok_390 hw) (Exists.intro 421 (And.intro (rf_390_50 hw) (And.intro (fun q1315 => And.intro (ok_390 hw) (And.intro (ok_421 hw) (And.intro (vi_421 (((((((((q1323).1 q1322)).2).1 q1317)).2).1 q1315)).1) (And.intro (ok_390 hw) (Exists.intro 422 (And.intro (rf_390_51 hw) (And.intro (ok_390 hw) (Exists.intro 419 (And.intro (rf_390_48 hw) (And.intro (ok_419 hw) (And.intro (vi_419 ((((((((((q1323).1 q1322)).2).1 q1317)).2).1 q1315)).2).1) (And.intro (ok_422 hw) (And.intro (vi_422 (((((((((((q1323).1 q1322)).2).1 q1317)).2).1 q1315)).2).2).1) (And.intro rfl (And.intro rfl (And.intro rfl ((((((((((((q1323).1 q1322)).2).1 q1317)).2).1 q1315)).2).2).2))))))))))))))))) (fun q1315 => And.intro (ok_421 hw) (And.intro (vi_421 (((((((((q1323).1 q1322)).2).1 q1317)).2).2 q1315)).1) (And.intro (ok_390 hw) (Exists.intro 422 (And.intro (rf_390_51 hw) (And.intro (ok_390 hw) (Exists.intro 419 (And.intro (rf_390_48 hw) (And.intro (ok_419 hw) (And.intro (vi_419 ((((((((((q1323).1 q1322)).2).1 q1317)).2).2 q1315)).2).1) (And.intro (ok_422 hw) (And.intro (vi_422 (((((((((((q1323).1 q1322)).2).1 q1317)).2).2 q1315)).2).2).1) (And.intro rfl (And.intro rfl (And.intro rfl ((((((((((((q1323).1 q1322)).2).1 q1317)).2).2 q1315)).2).2).2))))))))))))))))))))))))) (fun q1317 => And.intro (ok_390 hw) (Exists.intro 421 (And.intro (rf_390_50 hw) (And.intro (fun q1316 => And.intro (ok_390 hw) (And.intro (ok_421 hw) (And.intro (vi_421 ((((((((q1323).1 q1322)).2).2 q1317)).1 q1316)).1) (And.intro (ok_390 hw) (Exists.intro 422 (And.intro (rf_390_51 hw) (And.intro (ok_390 hw) (Exists.intro 419 (And.intro (rf_390_48 hw) (And.intro (ok_419 hw) (And.intro (vi_419 (((((((((q1323).1 q1322)).2).2 q1317)).1 q1316)).2).1) (And.intro (ok_422 hw) (And.intro (vi_422 ((((((((((q1323).1 q1322)).2).2 q1317)).1 q1316)).2).2).1) (And.intro rfl (And.intro rfl (And.intro rfl (((((((((((q1323).1 q1322)).2).2 q1317)).1 q1316)).2).2).2))))))))))))))))) (fun q1316 => And.intro (ok_421 hw) (And.intro (vi_421 ((((((((q1323).1 q1322)).2).2 q1317)).2 q1316)).1) (And.intro (ok_390 hw) (Exists.intro 422 (And.intro (rf_390_51 hw) (And.intro (ok_390 hw) (Exists.intro 419 (And.intro (rf_390_48 hw) (And.intro (ok_419 hw) (And.intro (vi_419 (((((((((q1323).1 q1322)).2).2 q1317)).2 q1316)).2).1) (And.intro (ok_422 hw) (And.intro (vi_422 ((((((((((q1323).1 q1322)).2).2 q1317)).2 q1316)).2).2).1) (And.intro rfl (And.intro rfl (And.intro rfl (((((((((((q1323).1 q1322)).2).2 q1317)).2 q1316)).2).2).2)))))))))))))))))))))))))) (fun q1322 => And.intro (ok_390 hw) (Exists.intro 422 (And.intro (rf_390_51 hw) (And.intro (ok_422 hw) (And.intro (vi_422 (((q1323).2 q1322)).1) (And.intro (ok_390 hw) (Exists.intro 419 (And.intro (rf_390_48 hw) (And.intro (ok_419 hw) (And.intro (vi_419 ((((q1323).2 q1322)).2).1) (And.intro (fun q1321 => And.intro (ok_390 hw) (Exists.intro 421 (And.intro (rf_390_50 hw) (And.intro (ok_421 hw) (And.intro (vi_421 (((((((q1323).2 q1322)).2).2).1 q1321)).1) (And.intro (fun q1320 => And.intro (ok_390 hw) (Exists.intro 421 (And.intro (rf_390_50 hw) (And.intro (ok_421 hw) (And.intro (vi_421 ((((((((((q1323).2 q1322)).2).2).1 q1321)).2).1 q1320)).1) (And.intro (ok_390 hw) (Exists.intro 421 (And.intro (rf_390_50 hw) (And.intro (fun q1318 => And.intro (ok_390 hw) (And.intro (ok_421 hw) (And.intro (vi_421 (((((((((((((q1323).2 q1322)).2).2).1 q1321)).2).1 q1320)).2).1 q1318)).1) (And.intro (ok_390 hw) (Exists.intro 422 (And.intro (rf_390_51 hw) (And.intro (ok_390 hw) (Exists.intro 419 (And.intro (rf_390_48 hw) (And.intro (ok_419 hw) (And.intro (vi_419 ((((((((((((((q1323).2 q1322)).2).2).1 q1321)).2).1 q1320)).2).1 q1318)).2).1) (And.intro (ok_422 hw) (And.intro (vi_422 (((((((((((((((q1323).2 q1322)).2).2).1 q1321)).2).1 q1320)).2).1 q1318)).2).2).1) (And.intro rfl (And.intro rfl (And.intro rfl ((((((((((((((((q1323).2 q1322)).2).2).1 q1321)).2).1 q1320)).2).1 q1318)).2).2).2))))))))))))))))) (fun q1318 => And.intro (ok_421 hw) (And.intro (vi_421 (((((((((((((q1323).2 q1322)).2).2).1 q1321)).2).1 q1320)).2).2 q1318)).1) (And.intro (ok_390 hw) (Exists.intro 422 (And.intro (rf_390_51 hw) (And.intro (ok_390 hw) (Exists.intro 419 (And.intro (rf_390_48 hw) (And.intro (ok_419 hw) (And.intro (vi_419 ((((((((((((((q1323).2 q1322)).2).2).1 q1321)).2).1 q1320)).2).2 q1318)).2).1) (And.intro (ok_422 hw) (And.intro (vi_422 (((((((((((((((q1323).2 q1322)).2).2).1 q1321)).2).1 q1320)).2).2 q1318)).2).2).1) (And.intro rfl (And.intro rfl (And.intro rfl ((((((((((((((((q1323).2 q1322)).2).2).1 q1321)).2).1 q1320)).2).2 q1318)).2).2).2))))))))))))))))))))))))) (fun q1320 => And.intro (ok_390 hw) (Exists.intro 421 (And.intro (rf_390_50 hw) (And.intro (fun q1319 => And.intro (ok_390 hw) (And.intro (ok_421 hw) (And.intro (vi_421 ((((((((((((q1323).2 q1322)).2).2).1 q1321)).2).2 q1320)).1 q1319)).1) (And.intro (ok_390 hw) (Exists.intro 422 (And.intro (rf_390_51 hw) (And.intro (ok_390 hw) (Exists.intro 419 (And.intro (rf_390_48 hw) (And.intro (ok_419 hw) (And.intro (vi_419 (((((((((((((q1323).2 q1322)).2).2).1 q1321)).2).2 q1320)).1 q1319)).2).1) (And.intro (ok_422 hw) (And.intro (vi_422 ((((((((((((((q1323).2 q1322)).2).2).1 q1321)).2).2 q1320)).1 q1319)).2).2).1) (And.intro rfl (And.intro rfl (And.intro rfl (((((((((((((((q1323).2 q1322)).2).2).1 q1321)).2).2 q1320)).1 q1319)).2).2).2))))))))))))))))) (fun q1319 => And.intro (ok_421 hw) (And.intro (vi_421 ((((((((((((q1323).2 q1322)).2).2).1 q1321)).2).2 q1320)).2 q1319)).1) (And.intro (ok_390 hw) (Exists.intro 422 (And.intro (rf_390_51 hw) (And.intro (ok_390 hw) (Exists.intro 419 (And.intro (rf_390_48 hw) (And.intro (ok_419 hw) (And.intro (vi_419 (((((((((((((q1323).2 q1322)).2).2).1 q1321)).2).2 q1320)).2 q1319)).2).1) (And.intro (ok_422 hw) (And.intro (vi_422 ((((((((((((((q1323).2 q1322)).2).2).1 q1321)).2).2 q1320)).2 q1319)).2).2).1) (And.intro rfl (And.intro rfl (And.intro rfl (((((((((((((((q1323).2 q1322)).2).2).1 q1321)).2).2 q1320)).2 q1319)).2).2).2)))))))))))))))))))))))))) (fun q1321 => And.intro rfl (And.intro rfl (And.intro rfl (((((((q1323).2 q1322)).2).2).2 q1321))))))))))))))))))))
theorem vX12_useAll_0 {Γ : Gx} {d : Nat} {w : Wd} {Q : St → Prop} {σ : St} {x1 : Int32} {x2 : Int32} {x3 : Int32}
    (h : AV Γ (d + 1) mX12_useAll w Q 3 [(0, .ref 390), (1, .int x1), (2, .int x2), (3, .int x3), (4, .int (0 : Int32))] σ) :
    AV Γ (d + 1) mX12_useAll w Q 0 [(0, .ref 390), (1, .int x1), (2, .int x2), (3, .int x3)] σ :=
  wp_sound (μ := mX12_useAll) (T := tbX12) (is := isX12_useAll) (sw := swX12_useAll) (cu := cuX12_useAll) tbX12_ok msX12_useAll 3 _ _ _ _ _ _ _ (h)
theorem vX12_useAll_3 {Γ : Gx} {d : Nat} {w : Wd} {Q : St → Prop} {σ : St} {x1 : Int32} {x2 : Int32} {x3 : Int32} {x4 : Int32} (hw : RunW w)
    (h : (((gI σ 390 0) ≤ x4 → AV Γ (d + 1) mX12_useAll w Q 37 [(0, .ref 390), (1, .int x1), (3, .int x3), (4, .int (0 : Int32))] σ) ∧ (¬ (gI σ 390 0) ≤ x4 → SpI Γ d mX12_has [.int x2, .int x4] σ w (fun v2 s1 => ((v2 = (0 : Int32) → AV Γ (d + 1) mX12_useAll w Q 3 [(0, .ref 390), (1, .int x1), (2, .int x2), (3, .int x3), (4, .int (x4 + (1 : Int32)))] s1) ∧ (¬ v2 = (0 : Int32) → SpV Γ d mX12_use [.ref 390, .int x1, .int x4] s1 w (fun s3 => AV Γ (d + 1) mX12_useAll w Q 3 [(0, .ref 390), (1, .int x1), (2, .int x2), (3, .int x3), (4, .int (x4 + (1 : Int32)))] s3))))))) :
    AV Γ (d + 1) mX12_useAll w Q 3 [(0, .ref 390), (1, .int x1), (2, .int x2), (3, .int x3), (4, .int x4)] σ :=
  wp_sound (μ := mX12_useAll) (T := tbX12) (is := isX12_useAll) (sw := swX12_useAll) (cu := cuX12_useAll) tbX12_ok msX12_useAll 15 _ _ _ _ _ _ _ (And.intro (ok_390 hw) (And.intro (fun q1335 => ((h).1 q1335)) (fun q1335 => And.intro (Nat.le_of_ble_eq_true rfl) (And.intro (Nat.le_of_ble_eq_true rfl) (SpI.mono (((h).2 q1335)) (fun v2 s1 q1334 => And.intro (fun q1333 => ((q1334).1 q1333)) (fun q1333 => And.intro (ok_390 hw) (And.intro (Nat.le_of_ble_eq_true rfl) (((q1334).2 q1333))))))))))
theorem vX12_useAll_37 {Γ : Gx} {d : Nat} {w : Wd} {Q : St → Prop} {σ : St} {x1 : Int32} {x3 : Int32} {x4 : Int32} (hw : RunW w)
    (h : (((gI σ 390 5) ≤ x4 → Q σ) ∧ (¬ (gI σ 390 5) ≤ x4 → SpI Γ d mX12_has [.int x3, .int x4] σ w (fun v2 s1 => ((v2 = (0 : Int32) → AV Γ (d + 1) mX12_useAll w Q 37 [(0, .ref 390), (1, .int x1), (3, .int x3), (4, .int (x4 + (1 : Int32)))] s1) ∧ (¬ v2 = (0 : Int32) → SpV Γ d mX12_use [.ref 390, .int x1, .int ((20 : Int32) + x4)] s1 w (fun s3 => AV Γ (d + 1) mX12_useAll w Q 37 [(0, .ref 390), (1, .int x1), (3, .int x3), (4, .int (x4 + (1 : Int32)))] s3))))))) :
    AV Γ (d + 1) mX12_useAll w Q 37 [(0, .ref 390), (1, .int x1), (3, .int x3), (4, .int x4)] σ :=
  wp_sound (μ := mX12_useAll) (T := tbX12) (is := isX12_useAll) (sw := swX12_useAll) (cu := cuX12_useAll) tbX12_ok msX12_useAll 17 _ _ _ _ _ _ _ (And.intro (ok_390 hw) (And.intro (fun q1338 => And.intro rfl (And.intro rfl (And.intro rfl (((h).1 q1338))))) (fun q1338 => And.intro (Nat.le_of_ble_eq_true rfl) (And.intro (Nat.le_of_ble_eq_true rfl) (SpI.mono (((h).2 q1338)) (fun v2 s1 q1337 => And.intro (fun q1336 => ((q1337).1 q1336)) (fun q1336 => And.intro (ok_390 hw) (And.intro (Nat.le_of_ble_eq_true rfl) (((q1337).2 q1336))))))))))
theorem vX12_base_0 {Γ : Gx} {d : Nat} {w : Wd} {Q : Int32 → St → Prop} {σ : St} {x1 : Int32} (hw : RunW w)
    (h : SpI Γ d mX12_in [.long x1.toInt64, .long (1 : Int64), .long (30 : Int64)] σ w (fun v2 s1 => ((¬ v2 = (0 : Int32) → Q (gI s1 390 47) (uI s1 390 47 x1)) ∧ (v2 = (0 : Int32) → Q (-1002 : Int32) s1)))) :
    AI Γ (d + 1) mX12_base w Q 0 [(0, .ref 390), (1, .int x1)] σ :=
  wp_sound (μ := mX12_base) (T := tbX12) (is := isX12_base) (sw := swX12_base) (cu := cuX12_base) tbX12_ok msX12_base 15 _ _ _ _ _ _ _ (And.intro (Nat.le_of_ble_eq_true rfl) (And.intro (Nat.le_of_ble_eq_true rfl) (SpI.mono (h) (fun v2 s1 q1346 => And.intro (fun q1345 => And.intro (ok_390 hw) (And.intro (ok_390 hw) (And.intro rfl (And.intro rfl (Exists.intro (gI s1 390 47) (And.intro rfl (((q1346).1 q1345)))))))) (fun q1345 => And.intro rfl (And.intro rfl (Exists.intro (-1002 : Int32) (And.intro rfl (((q1346).2 q1345))))))))))
theorem vX12_lacking_0 {Γ : Gx} {d : Nat} {w : Wd} {Q : Int32 → St → Prop} {σ : St} {x1 : Int32} {x2 : Int32} (hw : RunW w)
    (h : (vp_in (((3 : Int32) * x2) + (1 : Int32)) 21) ∧ SpI Γ d mX12_heldSigns [.ref 390, .int x1] σ w (fun v2 s1 => SpI Γ d mX12_bits [.int ((gI σ 399 (((3 : Int32) * x2) + (1 : Int32)).toNatClampNeg) &&& (v2 ^^^ (-1 : Int32)))] s1 w (fun v4 s3 => (vp_in (((3 : Int32) * x2) + (2 : Int32)) 21) ∧ SpI Γ d mX12_heldWords [.ref 390, .int x1] s3 w (fun v6 s5 => SpI Γ d mX12_bits [.int ((gI s3 399 (((3 : Int32) * x2) + (2 : Int32)).toNatClampNeg) &&& (v6 ^^^ (-1 : Int32)))] s5 w (fun v8 s7 => Q (v4 + v8) s7))))) :
    AI Γ (d + 1) mX12_lacking w Q 0 [(0, .ref 390), (1, .int x1), (2, .int x2)] σ :=
  wp_sound (μ := mX12_lacking) (T := tbX12) (is := isX12_lacking) (sw := swX12_lacking) (cu := cuX12_lacking) tbX12_ok msX12_lacking 33 _ _ _ _ _ _ _ (And.intro (ok_390 hw) (Exists.intro 399 (And.intro (rf_390_11 hw) (And.intro (ok_399 hw) (And.intro (vi_399 (h).1) (And.intro (ok_390 hw) (And.intro (Nat.le_of_ble_eq_true rfl) (SpI.mono ((h).2) (fun v2 s1 q1352 => And.intro (Nat.le_of_ble_eq_true rfl) (And.intro (Nat.le_of_ble_eq_true rfl) (SpI.mono (q1352) (fun v4 s3 q1351 => And.intro (ok_390 hw) (Exists.intro 399 (And.intro (rf_390_11 hw) (And.intro (ok_399 hw) (And.intro (vi_399 (q1351).1) (And.intro (ok_390 hw) (And.intro (Nat.le_of_ble_eq_true rfl) (SpI.mono ((q1351).2) (fun v6 s5 q1350 => And.intro (Nat.le_of_ble_eq_true rfl) (And.intro (Nat.le_of_ble_eq_true rfl) (SpI.mono (q1350) (fun v8 s7 q1349 => And.intro rfl (And.intro rfl (Exists.intro (v4 + v8) (And.intro rfl (q1349)))))))))))))))))))))))))))
theorem vX12_take_0 {Γ : Gx} {d : Nat} {w : Wd} {Q : Int32 → St → Prop} {σ : St} {x1 : Int32} {x2 : Int32} (hw : RunW w)
    (h : SpI Γ d mX12_isPupil [.int x1] σ w (fun v2 s1 => ((v2 = (0 : Int32) → Q (-1001 : Int32) s1) ∧ (¬ v2 = (0 : Int32) → SpI Γ d mX12_isLesson [.ref 390, .int x2] s1 w (fun v4 s3 => ((¬ v4 = (0 : Int32) → (vp_in ((3 : Int32) * x2) 21) ∧ (vp_in x1 3) ∧ ((((gI s3 399 ((3 : Int32) * x2).toNatClampNeg) &&& ((gI s3 420 x1.toNatClampNeg) ^^^ (-1 : Int32))) = (0 : Int32) → SpI Γ d mX12_lacking [.ref 390, .int x1, .int x2] s3 w (fun v6 s5 => (vp_in x1 3) ∧ (vp_in x1 3) ∧ (vp_in (((3 : Int32) * x2) + (1 : Int32)) 21) ∧ (vp_in (((3 : Int32) * x2) + (2 : Int32)) 21) ∧ SpV Γ d mX12_useAll [.ref 390, .int x1, .int (gI s5 399 (((3 : Int32) * x2) + (1 : Int32)).toNatClampNeg), .int (gI s5 399 (((3 : Int32) * x2) + (2 : Int32)).toNatClampNeg)] (uI s5 420 x1.toNatClampNeg ((gI s5 420 x1.toNatClampNeg) ||| ((1 : Int32) <<< (x2 &&& (31 : Int32))))) w (fun s7 => Q v6 s7))) ∧ (¬ ((gI s3 399 ((3 : Int32) * x2).toNatClampNeg) &&& ((gI s3 420 x1.toNatClampNeg) ^^^ (-1 : Int32))) = (0 : Int32) → Q (-1003 : Int32) s3))) ∧ (v4 = (0 : Int32) → Q (-1001 : Int32) s3))))))) :
    AI Γ (d + 1) mX12_take w Q 0 [(0, .ref 390), (1, .int x1), (2, .int x2)] σ :=
  wp_sound (μ := mX12_take) (T := tbX12) (is := isX12_take) (sw := swX12_take) (cu := cuX12_take) tbX12_ok msX12_take 58 _ _ _ _ _ _ _ (And.intro (Nat.le_of_ble_eq_true rfl) (And.intro (Nat.le_of_ble_eq_true rfl) (SpI.mono (h) (fun v2 s1 q1363 => And.intro (fun q1362 => And.intro rfl (And.intro rfl (Exists.intro (-1001 : Int32) (And.intro rfl (((q1363).1 q1362)))))) (fun q1362 => And.intro (ok_390 hw) (And.intro (Nat.le_of_ble_eq_true rfl) (SpI.mono (((q1363).2 q1362)) (fun v4 s3 q1361 => And.intro (fun q1360 => And.intro (ok_390 hw) (Exists.intro 399 (And.intro (rf_390_11 hw) (And.intro (ok_399 hw) (And.intro (vi_399 (((q1361).1 q1360)).1) (And.intro (ok_390 hw) (Exists.intro 420 (And.intro (rf_390_49 hw) (And.intro (ok_420 hw) (And.intro (vi_420 ((((q1361).1 q1360)).2).1) (And.intro (fun q1359 => And.intro (ok_390 hw) (And.intro (Nat.le_of_ble_eq_true rfl) (SpI.mono (((((((q1361).1 q1360)).2).2).1 q1359)) (fun v6 s5 q1358 => And.intro (ok_390 hw) (Exists.intro 420 (And.intro (rf_390_49 hw) (And.intro (ok_420 hw) (And.intro (vi_420 (q1358).1) (And.intro (ok_420 hw) (And.intro (vi_420 ((q1358).2).1) (And.intro (ok_390 hw) (Exists.intro 399 (And.intro (rf_390_11 hw) (And.intro (ok_399 hw) (And.intro (vi_399 (((q1358).2).2).1) (And.intro (ok_390 hw) (Exists.intro 399 (And.intro (rf_390_11 hw) (And.intro (ok_399 hw) (And.intro (vi_399 ((((q1358).2).2).2).1) (And.intro (ok_390 hw) (And.intro (Nat.le_of_ble_eq_true rfl) (SpV.mono (((((q1358).2).2).2).2) (fun s7 q1357 => And.intro rfl (And.intro rfl (Exists.intro v6 (And.intro rfl (q1357)))))))))))))))))))))))))))) (fun q1359 => And.intro rfl (And.intro rfl (Exists.intro (-1003 : Int32) (And.intro rfl (((((((q1361).1 q1360)).2).2).2 q1359))))))))))))))))) (fun q1360 => And.intro rfl (And.intro rfl (Exists.intro (-1001 : Int32) (And.intro rfl (((q1361).2 q1360))))))))))))))
theorem vX12_meetsOf_0 {Γ : Gx} {d : Nat} {w : Wd} {Q : Int32 → St → Prop} {σ : St} {x1 : Int32} {x2 : Int32} (hw : RunW w)
    (h : SpI Γ d mX12_heldSigns [.ref 390, .int x1] σ w (fun v2 s1 => SpI Γ d mX12_heldWords [.ref 390, .int x1] s1 w (fun v4 s3 => AI Γ (d + 1) mX12_meetsOf w Q 24 [(0, .ref 390), (2, .int x2), (3, .int v2), (4, .int v4), (5, .int (0 : Int32)), (6, .int (0 : Int32))] (uI s3 390 52 (0 : Int32))))) :
    AI Γ (d + 1) mX12_meetsOf w Q 0 [(0, .ref 390), (1, .int x1), (2, .int x2)] σ :=
  wp_sound (μ := mX12_meetsOf) (T := tbX12) (is := isX12_meetsOf) (sw := swX12_meetsOf) (cu := cuX12_meetsOf) tbX12_ok msX12_meetsOf 16 _ _ _ _ _ _ _ (And.intro (ok_390 hw) (And.intro (Nat.le_of_ble_eq_true rfl) (SpI.mono (h) (fun v2 s1 q1372 => And.intro (ok_390 hw) (And.intro (Nat.le_of_ble_eq_true rfl) (SpI.mono (q1372) (fun v4 s3 q1371 => And.intro (ok_390 hw) (q1371))))))))
theorem vX12_meetsOf_24 {Γ : Gx} {d : Nat} {w : Wd} {Q : Int32 → St → Prop} {σ : St} {x2 : Int32} {x3 : Int32} {x4 : Int32} {x5 : Int32} {x6 : Int32} (hw : RunW w)
    (h : (((gI σ 390 5) ≤ x6 → Q x5 σ) ∧ (¬ (gI σ 390 5) ≤ x6 → (vp_in x2 8) ∧ SpI Γ d mX12_has [.int (gI σ 402 x2.toNatClampNeg), .int x6] σ w (fun v2 s1 => ((v2 = (0 : Int32) → AI Γ (d + 1) mX12_meetsOf w Q 24 [(0, .ref 390), (2, .int x2), (3, .int x3), (4, .int x4), (5, .int x5), (6, .int (x6 + (1 : Int32)))] s1) ∧ (¬ v2 = (0 : Int32) → SpI Γ d mX12_has [.int x4, .int x6] s1 w (fun v4 s3 => ((¬ v4 = (0 : Int32) → AI Γ (d + 1) mX12_meetsOf w Q 24 [(0, .ref 390), (2, .int x2), (3, .int x3), (4, .int x4), (5, .int x5), (6, .int (x6 + (1 : Int32)))] s3) ∧ (v4 = (0 : Int32) → SpI Γ d mX12_isRight [.ref 390, .int x6, .int x3] s3 w (fun v6 s5 => ((v6 = (0 : Int32) → ((v6 = (0 : Int32) → AI Γ (d + 1) mX12_meetsOf w Q 24 [(0, .ref 390), (2, .int x2), (3, .int x3), (4, .int x4), (5, .int (x5 + (1 : Int32))), (6, .int (x6 + (1 : Int32)))] (uI s5 390 52 ((gI s5 390 52) ||| (0 : Int32)))) ∧ (¬ v6 = (0 : Int32) → AI Γ (d + 1) mX12_meetsOf w Q 24 [(0, .ref 390), (2, .int x2), (3, .int x3), (4, .int x4), (5, .int (x5 + (0 : Int32))), (6, .int (x6 + (1 : Int32)))] (uI s5 390 52 ((gI s5 390 52) ||| (0 : Int32)))))) ∧ (¬ v6 = (0 : Int32) → ((v6 = (0 : Int32) → AI Γ (d + 1) mX12_meetsOf w Q 24 [(0, .ref 390), (2, .int x2), (3, .int x3), (4, .int x4), (5, .int (x5 + (1 : Int32))), (6, .int (x6 + (1 : Int32)))] (uI s5 390 52 ((gI s5 390 52) ||| (gI s5 390 44)))) ∧ (¬ v6 = (0 : Int32) → AI Γ (d + 1) mX12_meetsOf w Q 24 [(0, .ref 390), (2, .int x2), (3, .int x3), (4, .int x4), (5, .int (x5 + (0 : Int32))), (6, .int (x6 + (1 : Int32)))] (uI s5 390 52 ((gI s5 390 52) ||| (gI s5 390 44))))))))))))))))) :
    AI Γ (d + 1) mX12_meetsOf w Q 24 [(0, .ref 390), (2, .int x2), (3, .int x3), (4, .int x4), (5, .int x5), (6, .int x6)] σ :=
  wp_sound (μ := mX12_meetsOf) (T := tbX12) (is := isX12_meetsOf) (sw := swX12_meetsOf) (cu := cuX12_meetsOf) tbX12_ok msX12_meetsOf 40 _ _ _ _ _ _ _ (And.intro (ok_390 hw) (And.intro (fun q1379 => And.intro rfl (And.intro rfl (Exists.intro x5 (And.intro rfl (((h).1 q1379)))))) (fun q1379 => And.intro (ok_390 hw) (Exists.intro 402 (And.intro (rf_390_15 hw) (And.intro (ok_402 hw) (And.intro (vi_402 (((h).2 q1379)).1) (And.intro (Nat.le_of_ble_eq_true rfl) (And.intro (Nat.le_of_ble_eq_true rfl) (SpI.mono ((((h).2 q1379)).2) (fun v2 s1 q1378 => And.intro (fun q1377 => ((q1378).1 q1377)) (fun q1377 => And.intro (Nat.le_of_ble_eq_true rfl) (And.intro (Nat.le_of_ble_eq_true rfl) (SpI.mono (((q1378).2 q1377)) (fun v4 s3 q1376 => And.intro (fun q1375 => ((q1376).1 q1375)) (fun q1375 => And.intro (ok_390 hw) (And.intro (Nat.le_of_ble_eq_true rfl) (SpI.mono (((q1376).2 q1375)) (fun v6 s5 q1374 => And.intro (ok_390 hw) (And.intro (fun q1373 => And.intro (ok_390 hw) (((q1374).1 q1373))) (fun q1373 => And.intro (ok_390 hw) (And.intro (ok_390 hw) (((q1374).2 q1373))))))))))))))))))))))))
theorem vX12_read_0 {Γ : Gx} {d : Nat} {w : Wd} {Q : Int32 → St → Prop} {σ : St} {x1 : Int32} {x2 : Int32} (hw : RunW w)
    (h : SpI Γ d mX12_isPupil [.int x1] σ w (fun v2 s1 => ((v2 = (0 : Int32) → Q (-1001 : Int32) s1) ∧ (¬ v2 = (0 : Int32) → SpI Γ d mX12_isPage [.ref 390, .int x2] s1 w (fun v4 s3 => ((¬ v4 = (0 : Int32) → SpI Γ d mX12_meetsOf [.ref 390, .int x1, .int x2] s3 w (fun v6 s5 => (vp_in x2 8) ∧ SpV Γ d mX12_useAll [.ref 390, .int x1, .int (gI s5 390 52), .int (gI s5 402 x2.toNatClampNeg)] s5 w (fun s7 => Q v6 s7))) ∧ (v4 = (0 : Int32) → Q (-1001 : Int32) s3))))))) :
    AI Γ (d + 1) mX12_read w Q 0 [(0, .ref 390), (1, .int x1), (2, .int x2)] σ :=
  wp_sound (μ := mX12_read) (T := tbX12) (is := isX12_read) (sw := swX12_read) (cu := cuX12_read) tbX12_ok msX12_read 24 _ _ _ _ _ _ _ (And.intro (Nat.le_of_ble_eq_true rfl) (And.intro (Nat.le_of_ble_eq_true rfl) (SpI.mono (h) (fun v2 s1 q1394 => And.intro (fun q1393 => And.intro rfl (And.intro rfl (Exists.intro (-1001 : Int32) (And.intro rfl (((q1394).1 q1393)))))) (fun q1393 => And.intro (ok_390 hw) (And.intro (Nat.le_of_ble_eq_true rfl) (SpI.mono (((q1394).2 q1393)) (fun v4 s3 q1392 => And.intro (fun q1391 => And.intro (ok_390 hw) (And.intro (Nat.le_of_ble_eq_true rfl) (SpI.mono (((q1392).1 q1391)) (fun v6 s5 q1390 => And.intro (ok_390 hw) (And.intro (ok_390 hw) (Exists.intro 402 (And.intro (rf_390_15 hw) (And.intro (ok_402 hw) (And.intro (vi_402 (q1390).1) (And.intro (ok_390 hw) (And.intro (Nat.le_of_ble_eq_true rfl) (SpV.mono ((q1390).2) (fun s7 q1389 => And.intro rfl (And.intro rfl (Exists.intro v6 (And.intro rfl (q1389))))))))))))))))) (fun q1391 => And.intro rfl (And.intro rfl (Exists.intro (-1001 : Int32) (And.intro rfl (((q1392).2 q1391))))))))))))))
theorem vX12_rest_0 {Γ : Gx} {d : Nat} {w : Wd} {Q : Int32 → St → Prop} {σ : St} {x1 : Int32} {x2 : Int32} (hw : RunW w)
    (h : SpI Γ d mX12_isPupil [.int x1] σ w (fun v2 s1 => ((¬ v2 = (0 : Int32) → SpI Γ d mX12_in [.long x2.toInt64, .long (1 : Int64), .long (999 : Int64)] s1 w (fun v4 s3 => ((v4 = (0 : Int32) → Q (-1002 : Int32) s3) ∧ (¬ v4 = (0 : Int32) → (vp_in x1 3) ∧ ((((gI s3 419 x1.toNatClampNeg) + x2) ≤ (9999 : Int32) → (vp_in x1 3) ∧ (vp_in x1 3) ∧ (vp_in x1 3) ∧ Q (gI (uI s3 419 x1.toNatClampNeg ((gI s3 419 x1.toNatClampNeg) + x2)) 419 x1.toNatClampNeg) (uI s3 419 x1.toNatClampNeg ((gI s3 419 x1.toNatClampNeg) + x2))) ∧ (¬ ((gI s3 419 x1.toNatClampNeg) + x2) ≤ (9999 : Int32) → Q (-1002 : Int32) s3)))))) ∧ (v2 = (0 : Int32) → Q (-1001 : Int32) s1)))) :
    AI Γ (d + 1) mX12_rest w Q 0 [(0, .ref 390), (1, .int x1), (2, .int x2)] σ :=
  wp_sound (μ := mX12_rest) (T := tbX12) (is := isX12_rest) (sw := swX12_rest) (cu := cuX12_rest) tbX12_ok msX12_rest 31 _ _ _ _ _ _ _ (And.intro (Nat.le_of_ble_eq_true rfl) (And.intro (Nat.le_of_ble_eq_true rfl) (SpI.mono (h) (fun v2 s1 q1405 => And.intro (fun q1404 => And.intro (Nat.le_of_ble_eq_true rfl) (And.intro (Nat.le_of_ble_eq_true rfl) (SpI.mono (((q1405).1 q1404)) (fun v4 s3 q1403 => And.intro (fun q1402 => And.intro rfl (And.intro rfl (Exists.intro (-1002 : Int32) (And.intro rfl (((q1403).1 q1402)))))) (fun q1402 => And.intro (ok_390 hw) (Exists.intro 419 (And.intro (rf_390_48 hw) (And.intro (ok_419 hw) (And.intro (vi_419 (((q1403).2 q1402)).1) (And.intro (fun q1401 => And.intro (ok_390 hw) (Exists.intro 419 (And.intro (rf_390_48 hw) (And.intro (ok_419 hw) (And.intro (vi_419 ((((((q1403).2 q1402)).2).1 q1401)).1) (And.intro (ok_419 hw) (And.intro (vi_419 (((((((q1403).2 q1402)).2).1 q1401)).2).1) (And.intro (ok_390 hw) (Exists.intro 419 (And.intro (rf_390_48 hw) (And.intro (ok_419 hw) (And.intro (vi_419 ((((((((q1403).2 q1402)).2).1 q1401)).2).2).1) (And.intro rfl (And.intro rfl (Exists.intro (gI (uI s3 419 x1.toNatClampNeg ((gI s3 419 x1.toNatClampNeg) + x2)) 419 x1.toNatClampNeg) (And.intro rfl (((((((((q1403).2 q1402)).2).1 q1401)).2).2).2))))))))))))))))) (fun q1401 => And.intro rfl (And.intro rfl (Exists.intro (-1002 : Int32) (And.intro rfl ((((((q1403).2 q1402)).2).2 q1401)))))))))))))))) (fun q1404 => And.intro rfl (And.intro rfl (Exists.intro (-1001 : Int32) (And.intro rfl (((q1405).2 q1404))))))))))
theorem vX12_about_0 {Γ : Gx} {d : Nat} {w : Wd} {Q : Int32 → St → Prop} {σ : St} {x1 : Int32} {x2 : Int32} (hw : RunW w)
    (h : SpI Γ d mX12_isPupil [.int x1] σ w (fun v2 s1 => ((¬ v2 = (0 : Int32) → ((x2 = (0 : Int32) → (vp_in x1 3) ∧ Q (gI s1 419 x1.toNatClampNeg) s1) ∧ (¬ x2 = (0 : Int32) → ((x2 = (1 : Int32) → (vp_in x1 3) ∧ Q (gI s1 420 x1.toNatClampNeg) s1) ∧ (¬ x2 = (1 : Int32) → ((x2 = (2 : Int32) → SpI Γ d mX12_heldSigns [.ref 390, .int x1] s1 w (fun v4 s3 => Q v4 s3)) ∧ (¬ x2 = (2 : Int32) → ((x2 = (3 : Int32) → SpI Γ d mX12_heldWords [.ref 390, .int x1] s1 w (fun v6 s5 => Q v6 s5)) ∧ (¬ x2 = (3 : Int32) → Q (-1002 : Int32) s1))))))))) ∧ (v2 = (0 : Int32) → Q (-1001 : Int32) s1)))) :
    AI Γ (d + 1) mX12_about w Q 0 [(0, .ref 390), (1, .int x1), (2, .int x2)] σ :=
  wp_sound (μ := mX12_about) (T := tbX12) (is := isX12_about) (sw := swX12_about) (cu := cuX12_about) tbX12_ok msX12_about 11 _ _ _ _ _ _ _ (And.intro (Nat.le_of_ble_eq_true rfl) (And.intro (Nat.le_of_ble_eq_true rfl) (SpI.mono (h) (fun v2 s1 q1418 => And.intro (fun q1417 => And.intro (fun q1416 => And.intro (ok_390 hw) (Exists.intro 419 (And.intro (rf_390_48 hw) (And.intro (ok_419 hw) (And.intro (vi_419 (((((q1418).1 q1417)).1 q1416)).1) (And.intro rfl (And.intro rfl (Exists.intro (gI s1 419 x1.toNatClampNeg) (And.intro rfl ((((((q1418).1 q1417)).1 q1416)).2)))))))))) (fun q1416 => And.intro (fun q1415 => And.intro (ok_390 hw) (Exists.intro 420 (And.intro (rf_390_49 hw) (And.intro (ok_420 hw) (And.intro (vi_420 (((((((q1418).1 q1417)).2 q1416)).1 q1415)).1) (And.intro rfl (And.intro rfl (Exists.intro (gI s1 420 x1.toNatClampNeg) (And.intro rfl ((((((((q1418).1 q1417)).2 q1416)).1 q1415)).2)))))))))) (fun q1415 => And.intro (fun q1414 => And.intro (ok_390 hw) (And.intro (Nat.le_of_ble_eq_true rfl) (SpI.mono (((((((((q1418).1 q1417)).2 q1416)).2 q1415)).1 q1414)) (fun v4 s3 q1411 => And.intro rfl (And.intro rfl (Exists.intro v4 (And.intro rfl (q1411)))))))) (fun q1414 => And.intro (fun q1413 => And.intro (ok_390 hw) (And.intro (Nat.le_of_ble_eq_true rfl) (SpI.mono (((((((((((q1418).1 q1417)).2 q1416)).2 q1415)).2 q1414)).1 q1413)) (fun v6 s5 q1412 => And.intro rfl (And.intro rfl (Exists.intro v6 (And.intro rfl (q1412)))))))) (fun q1413 => And.intro rfl (And.intro rfl (Exists.intro (-1002 : Int32) (And.intro rfl (((((((((((q1418).1 q1417)).2 q1416)).2 q1415)).2 q1414)).2 q1413)))))))))) (fun q1417 => And.intro rfl (And.intro rfl (Exists.intro (-1001 : Int32) (And.intro rfl (((q1418).2 q1417))))))))))
theorem vX12_span_0 {Γ : Gx} {d : Nat} {w : Wd} {Q : Int32 → St → Prop} {σ : St} {x1 : Int32} {x2 : Int32} {x3 : Int32} (hw : RunW w)
    (h : SpI Γ d mX12_isPupil [.int x1] σ w (fun v2 s1 => ((v2 = (0 : Int32) → Q (-1001 : Int32) s1) ∧ (¬ v2 = (0 : Int32) → ((x2 = (0 : Int32) → SpI Γ d mX12_isSign [.ref 390, .int x3] s1 w (fun v4 s3 => ((¬ v4 = (0 : Int32) → ((x2 = (0 : Int32) → (vp_in (((44 : Int32) * x1) + x3) 132) ∧ Q (gI s3 421 (((44 : Int32) * x1) + x3).toNatClampNeg) s3) ∧ (¬ x2 = (0 : Int32) → (vp_in (((44 : Int32) * x1) + ((20 : Int32) + x3)) 132) ∧ Q (gI s3 421 (((44 : Int32) * x1) + ((20 : Int32) + x3)).toNatClampNeg) s3))) ∧ (v4 = (0 : Int32) → Q (-1001 : Int32) s3)))) ∧ (¬ x2 = (0 : Int32) → SpI Γ d mX12_isWord [.ref 390, .int x3] s1 w (fun v6 s5 => ((v6 = (0 : Int32) → Q (-1001 : Int32) s5) ∧ (¬ v6 = (0 : Int32) → ((x2 = (0 : Int32) → (vp_in (((44 : Int32) * x1) + x3) 132) ∧ Q (gI s5 421 (((44 : Int32) * x1) + x3).toNatClampNeg) s5) ∧ (¬ x2 = (0 : Int32) → (vp_in (((44 : Int32) * x1) + ((20 : Int32) + x3)) 132) ∧ Q (gI s5 421 (((44 : Int32) * x1) + ((20 : Int32) + x3)).toNatClampNeg) s5))))))))))) :
    AI Γ (d + 1) mX12_span w Q 0 [(0, .ref 390), (1, .int x1), (2, .int x2), (3, .int x3)] σ :=
  wp_sound (μ := mX12_span) (T := tbX12) (is := isX12_span) (sw := swX12_span) (cu := cuX12_span) tbX12_ok msX12_span 25 _ _ _ _ _ _ _ (And.intro (Nat.le_of_ble_eq_true rfl) (And.intro (Nat.le_of_ble_eq_true rfl) (SpI.mono (h) (fun v2 s1 q1435 => And.intro (fun q1434 => And.intro rfl (And.intro rfl (Exists.intro (-1001 : Int32) (And.intro rfl (((q1435).1 q1434)))))) (fun q1434 => And.intro (fun q1433 => And.intro (ok_390 hw) (And.intro (Nat.le_of_ble_eq_true rfl) (SpI.mono (((((q1435).2 q1434)).1 q1433)) (fun v4 s3 q1429 => And.intro (fun q1428 => And.intro (ok_390 hw) (Exists.intro 421 (And.intro (rf_390_50 hw) (And.intro (fun q1427 => And.intro (ok_421 hw) (And.intro (vi_421 (((((q1429).1 q1428)).1 q1427)).1) (And.intro rfl (And.intro rfl (Exists.intro (gI s3 421 (((44 : Int32) * x1) + x3).toNatClampNeg) (And.intro rfl ((((((q1429).1 q1428)).1 q1427)).2))))))) (fun q1427 => And.intro (ok_421 hw) (And.intro (vi_421 (((((q1429).1 q1428)).2 q1427)).1) (And.intro rfl (And.intro rfl (Exists.intro (gI s3 421 (((44 : Int32) * x1) + ((20 : Int32) + x3)).toNatClampNeg) (And.intro rfl ((((((q1429).1 q1428)).2 q1427)).2))))))))))) (fun q1428 => And.intro rfl (And.intro rfl (Exists.intro (-1001 : Int32) (And.intro rfl (((q1429).2 q1428)))))))))) (fun q1433 => And.intro (ok_390 hw) (And.intro (Nat.le_of_ble_eq_true rfl) (SpI.mono (((((q1435).2 q1434)).2 q1433)) (fun v6 s5 q1432 => And.intro (fun q1431 => And.intro rfl (And.intro rfl (Exists.intro (-1001 : Int32) (And.intro rfl (((q1432).1 q1431)))))) (fun q1431 => And.intro (ok_390 hw) (Exists.intro 421 (And.intro (rf_390_50 hw) (And.intro (fun q1430 => And.intro (ok_421 hw) (And.intro (vi_421 (((((q1432).2 q1431)).1 q1430)).1) (And.intro rfl (And.intro rfl (Exists.intro (gI s5 421 (((44 : Int32) * x1) + x3).toNatClampNeg) (And.intro rfl ((((((q1432).2 q1431)).1 q1430)).2))))))) (fun q1430 => And.intro (ok_421 hw) (And.intro (vi_421 (((((q1432).2 q1431)).2 q1430)).1) (And.intro rfl (And.intro rfl (Exists.intro (gI s5 421 (((44 : Int32) * x1) + ((20 : Int32) + x3)).toNatClampNeg) (And.intro rfl ((((((q1432).2 q1431)).2 q1430)).2))))))))))))))))))))
theorem vX12_meets_0 {Γ : Gx} {d : Nat} {w : Wd} {Q : Int32 → St → Prop} {σ : St} {x1 : Int32} {x2 : Int32} (hw : RunW w)
    (h : SpI Γ d mX12_isPupil [.int x1] σ w (fun v2 s1 => ((v2 = (0 : Int32) → Q (-1001 : Int32) s1) ∧ (¬ v2 = (0 : Int32) → SpI Γ d mX12_isPage [.ref 390, .int x2] s1 w (fun v4 s3 => ((v4 = (0 : Int32) → Q (-1001 : Int32) s3) ∧ (¬ v4 = (0 : Int32) → SpI Γ d mX12_meetsOf [.ref 390, .int x1, .int x2] s3 w (fun v6 s5 => Q v6 s5)))))))) :
    AI Γ (d + 1) mX12_meets w Q 0 [(0, .ref 390), (1, .int x1), (2, .int x2)] σ :=
  wp_sound (μ := mX12_meets) (T := tbX12) (is := isX12_meets) (sw := swX12_meets) (cu := cuX12_meets) tbX12_ok msX12_meets 14 _ _ _ _ _ _ _ (And.intro (Nat.le_of_ble_eq_true rfl) (And.intro (Nat.le_of_ble_eq_true rfl) (SpI.mono (h) (fun v2 s1 q1449 => And.intro (fun q1448 => And.intro rfl (And.intro rfl (Exists.intro (-1001 : Int32) (And.intro rfl (((q1449).1 q1448)))))) (fun q1448 => And.intro (ok_390 hw) (And.intro (Nat.le_of_ble_eq_true rfl) (SpI.mono (((q1449).2 q1448)) (fun v4 s3 q1447 => And.intro (fun q1446 => And.intro rfl (And.intro rfl (Exists.intro (-1001 : Int32) (And.intro rfl (((q1447).1 q1446)))))) (fun q1446 => And.intro (ok_390 hw) (And.intro (Nat.le_of_ble_eq_true rfl) (SpI.mono (((q1447).2 q1446)) (fun v6 s5 q1445 => And.intro rfl (And.intro rfl (Exists.intro v6 (And.intro rfl (q1445))))))))))))))))
theorem vX12_next_0 {Γ : Gx} {d : Nat} {w : Wd} {Q : Int32 → St → Prop} {σ : St} {x1 : Int32} {x2 : Int32}
    (h : SpI Γ d mX12_isPupil [.int x1] σ w (fun v2 s1 => ((¬ v2 = (0 : Int32) → SpI Γ d mX12_isFew [.int x2] s1 w (fun v4 s3 => ((¬ v4 = (0 : Int32) → AI Γ (d + 1) mX12_next w Q 24 [(0, .ref 390), (1, .int x1), (2, .int x2), (3, .int (0 : Int32))] s3) ∧ (v4 = (0 : Int32) → Q (-1002 : Int32) s3)))) ∧ (v2 = (0 : Int32) → Q (-1001 : Int32) s1)))) :
    AI Γ (d + 1) mX12_next w Q 0 [(0, .ref 390), (1, .int x1), (2, .int x2)] σ :=
  wp_sound (μ := mX12_next) (T := tbX12) (is := isX12_next) (sw := swX12_next) (cu := cuX12_next) tbX12_ok msX12_next 9 _ _ _ _ _ _ _ (And.intro (Nat.le_of_ble_eq_true rfl) (And.intro (Nat.le_of_ble_eq_true rfl) (SpI.mono (h) (fun v2 s1 q1458 => And.intro (fun q1457 => And.intro (Nat.le_of_ble_eq_true rfl) (And.intro (Nat.le_of_ble_eq_true rfl) (SpI.mono (((q1458).1 q1457)) (fun v4 s3 q1456 => And.intro (fun q1455 => ((q1456).1 q1455)) (fun q1455 => And.intro rfl (And.intro rfl (Exists.intro (-1002 : Int32) (And.intro rfl (((q1456).2 q1455)))))))))) (fun q1457 => And.intro rfl (And.intro rfl (Exists.intro (-1001 : Int32) (And.intro rfl (((q1458).2 q1457))))))))))
theorem vX12_next_24 {Γ : Gx} {d : Nat} {w : Wd} {Q : Int32 → St → Prop} {σ : St} {x1 : Int32} {x2 : Int32} {x3 : Int32} (hw : RunW w)
    (h : (((gI σ 390 10) ≤ x3 → AI Γ (d + 1) mX12_next w Q 70 [(0, .ref 390), (1, .int x1), (2, .int x2), (3, .int (-1 : Int32)), (4, .int (0 : Int32)), (5, .int (0 : Int32))] σ) ∧ (¬ (gI σ 390 10) ≤ x3 → (vp_in x1 3) ∧ SpI Γ d mX12_has [.int (gI σ 420 x1.toNatClampNeg), .int x3] σ w (fun v2 s1 => ((v2 = (0 : Int32) → AI Γ (d + 1) mX12_next w Q 24 [(0, .ref 390), (1, .int x1), (2, .int x2), (3, .int (x3 + (1 : Int32)))] s1) ∧ (¬ v2 = (0 : Int32) → SpI Γ d mX12_lacking [.ref 390, .int x1, .int x3] s1 w (fun v4 s3 => ((v4 ≤ (0 : Int32) → AI Γ (d + 1) mX12_next w Q 24 [(0, .ref 390), (1, .int x1), (2, .int x2), (3, .int (x3 + (1 : Int32)))] s3) ∧ (¬ v4 ≤ (0 : Int32) → Q x3 s3))))))))) :
    AI Γ (d + 1) mX12_next w Q 24 [(0, .ref 390), (1, .int x1), (2, .int x2), (3, .int x3)] σ :=
  wp_sound (μ := mX12_next) (T := tbX12) (is := isX12_next) (sw := swX12_next) (cu := cuX12_next) tbX12_ok msX12_next 19 _ _ _ _ _ _ _ (And.intro (ok_390 hw) (And.intro (fun q1463 => ((h).1 q1463)) (fun q1463 => And.intro (ok_390 hw) (Exists.intro 420 (And.intro (rf_390_49 hw) (And.intro (ok_420 hw) (And.intro (vi_420 (((h).2 q1463)).1) (And.intro (Nat.le_of_ble_eq_true rfl) (And.intro (Nat.le_of_ble_eq_true rfl) (SpI.mono ((((h).2 q1463)).2) (fun v2 s1 q1462 => And.intro (fun q1461 => ((q1462).1 q1461)) (fun q1461 => And.intro (ok_390 hw) (And.intro (Nat.le_of_ble_eq_true rfl) (SpI.mono (((q1462).2 q1461)) (fun v4 s3 q1460 => And.intro (fun q1459 => ((q1460).1 q1459)) (fun q1459 => And.intro rfl (And.intro rfl (Exists.intro x3 (And.intro rfl (((q1460).2 q1459)))))))))))))))))))))
theorem vX12_next_70 {Γ : Gx} {d : Nat} {w : Wd} {Q : Int32 → St → Prop} {σ : St} {x1 : Int32} {x2 : Int32} {x3 : Int32} {x4 : Int32} {x5 : Int32} (hw : RunW w)
    (h : (((gI σ 390 12) ≤ x5 → ((x3 < (0 : Int32) → AI Γ (d + 1) mX12_next w Q 126 [(0, .ref 390), (1, .int x1), (5, .int (0 : Int32))] σ) ∧ (¬ x3 < (0 : Int32) → Q ((100 : Int32) + x3) σ))) ∧ (¬ (gI σ 390 12) ≤ x5 → SpI Γ d mX12_meetsOf [.ref 390, .int x1, .int x5] σ w (fun v2 s1 => ((x2 < v2 → AI Γ (d + 1) mX12_next w Q 70 [(0, .ref 390), (1, .int x1), (2, .int x2), (3, .int x3), (4, .int x4), (5, .int (x5 + (1 : Int32)))] s1) ∧ (¬ x2 < v2 → ((v2 ≤ x4 → AI Γ (d + 1) mX12_next w Q 70 [(0, .ref 390), (1, .int x1), (2, .int x2), (3, .int x3), (4, .int x4), (5, .int (x5 + (1 : Int32)))] s1) ∧ (¬ v2 ≤ x4 → AI Γ (d + 1) mX12_next w Q 70 [(0, .ref 390), (1, .int x1), (2, .int x2), (3, .int x5), (4, .int v2), (5, .int (x5 + (1 : Int32)))] s1)))))))) :
    AI Γ (d + 1) mX12_next w Q 70 [(0, .ref 390), (1, .int x1), (2, .int x2), (3, .int x3), (4, .int x4), (5, .int x5)] σ :=
  wp_sound (μ := mX12_next) (T := tbX12) (is := isX12_next) (sw := swX12_next) (cu := cuX12_next) tbX12_ok msX12_next 22 _ _ _ _ _ _ _ (And.intro (ok_390 hw) (And.intro (fun q1465 => And.intro (fun q1464 => ((((h).1 q1465)).1 q1464)) (fun q1464 => And.intro rfl (And.intro rfl (Exists.intro ((100 : Int32) + x3) (And.intro rfl (((((h).1 q1465)).2 q1464))))))) (fun q1465 => And.intro (ok_390 hw) (And.intro (Nat.le_of_ble_eq_true rfl) (((h).2 q1465))))))
theorem vX12_next_126 {Γ : Gx} {d : Nat} {w : Wd} {Q : Int32 → St → Prop} {σ : St} {x1 : Int32} {x5 : Int32} (hw : RunW w)
    (h : (((gI σ 390 10) ≤ x5 → Q (-1 : Int32) σ) ∧ (¬ (gI σ 390 10) ≤ x5 → (vp_in x1 3) ∧ SpI Γ d mX12_has [.int (gI σ 420 x1.toNatClampNeg), .int x5] σ w (fun v2 s1 => ((¬ v2 = (0 : Int32) → AI Γ (d + 1) mX12_next w Q 126 [(0, .ref 390), (1, .int x1), (5, .int (x5 + (1 : Int32)))] s1) ∧ (v2 = (0 : Int32) → (vp_in ((3 : Int32) * x5) 21) ∧ (vp_in x1 3) ∧ ((¬ ((gI s1 399 ((3 : Int32) * x5).toNatClampNeg) &&& ((gI s1 420 x1.toNatClampNeg) ^^^ (-1 : Int32))) = (0 : Int32) → AI Γ (d + 1) mX12_next w Q 126 [(0, .ref 390), (1, .int x1), (5, .int (x5 + (1 : Int32)))] s1) ∧ (((gI s1 399 ((3 : Int32) * x5).toNatClampNeg) &&& ((gI s1 420 x1.toNatClampNeg) ^^^ (-1 : Int32))) = (0 : Int32) → Q x5 s1)))))))) :
    AI Γ (d + 1) mX12_next w Q 126 [(0, .ref 390), (1, .int x1), (5, .int x5)] σ :=
  wp_sound (μ := mX12_next) (T := tbX12) (is := isX12_next) (sw := swX12_next) (cu := cuX12_next) tbX12_ok msX12_next 28 _ _ _ _ _ _ _ (And.intro (ok_390 hw) (And.intro (fun q1469 => And.intro rfl (And.intro rfl (Exists.intro (-1 : Int32) (And.intro rfl (((h).1 q1469)))))) (fun q1469 => And.intro (ok_390 hw) (Exists.intro 420 (And.intro (rf_390_49 hw) (And.intro (ok_420 hw) (And.intro (vi_420 (((h).2 q1469)).1) (And.intro (Nat.le_of_ble_eq_true rfl) (And.intro (Nat.le_of_ble_eq_true rfl) (SpI.mono ((((h).2 q1469)).2) (fun v2 s1 q1468 => And.intro (fun q1467 => ((q1468).1 q1467)) (fun q1467 => And.intro (ok_390 hw) (Exists.intro 399 (And.intro (rf_390_11 hw) (And.intro (ok_399 hw) (And.intro (vi_399 (((q1468).2 q1467)).1) (And.intro (ok_390 hw) (Exists.intro 420 (And.intro (rf_390_49 hw) (And.intro (ok_420 hw) (And.intro (vi_420 ((((q1468).2 q1467)).2).1) (And.intro (fun q1466 => ((((((q1468).2 q1467)).2).2).1 q1466)) (fun q1466 => And.intro rfl (And.intro rfl (Exists.intro x5 (And.intro rfl (((((((q1468).2 q1467)).2).2).2 q1466))))))))))))))))))))))))))))
theorem vX12_forAll_0 {Γ : Gx} {d : Nat} {w : Wd} {Q : Int32 → St → Prop} {σ : St}
    (h : AI Γ (d + 1) mX12_forAll w Q 6 [(0, .ref 390), (1, .int (-1 : Int32)), (2, .int (0 : Int32)), (3, .int (0 : Int32))] σ) :
    AI Γ (d + 1) mX12_forAll w Q 0 [(0, .ref 390)] σ :=
  wp_sound (μ := mX12_forAll) (T := tbX12) (is := isX12_forAll) (sw := swX12_forAll) (cu := cuX12_forAll) tbX12_ok msX12_forAll 7 _ _ _ _ _ _ _ (h)
theorem vX12_forAll_6 {Γ : Gx} {d : Nat} {w : Wd} {Q : Int32 → St → Prop} {σ : St} {x1 : Int32} {x2 : Int32} {x3 : Int32} (hw : RunW w)
    (h : (((gI σ 390 12) ≤ x3 → Q x1 σ) ∧ (¬ (gI σ 390 12) ≤ x3 → AI Γ (d + 1) mX12_forAll w Q 20 [(0, .ref 390), (1, .int x1), (2, .int x2), (3, .int x3), (4, .int (0 : Int32)), (5, .int (0 : Int32))] σ))) :
    AI Γ (d + 1) mX12_forAll w Q 6 [(0, .ref 390), (1, .int x1), (2, .int x2), (3, .int x3)] σ :=
  wp_sound (μ := mX12_forAll) (T := tbX12) (is := isX12_forAll) (sw := swX12_forAll) (cu := cuX12_forAll) tbX12_ok msX12_forAll 9 _ _ _ _ _ _ _ (And.intro (ok_390 hw) (And.intro (fun q1485 => And.intro rfl (And.intro rfl (Exists.intro x1 (And.intro rfl (((h).1 q1485)))))) (fun q1485 => ((h).2 q1485))))
theorem vX12_forAll_20 {Γ : Gx} {d : Nat} {w : Wd} {Q : Int32 → St → Prop} {σ : St} {x1 : Int32} {x2 : Int32} {x3 : Int32} {x4 : Int32} {x5 : Int32} (hw : RunW w)
    (h : (((3 : Int32) ≤ x5 → ((x1 < (0 : Int32) → AI Γ (d + 1) mX12_forAll w Q 6 [(0, .ref 390), (1, .int x3), (2, .int x4), (3, .int (x3 + (1 : Int32)))] σ) ∧ (¬ x1 < (0 : Int32) → ((x2 ≤ x4 → AI Γ (d + 1) mX12_forAll w Q 6 [(0, .ref 390), (1, .int x1), (2, .int x2), (3, .int (x3 + (1 : Int32)))] σ) ∧ (¬ x2 ≤ x4 → AI Γ (d + 1) mX12_forAll w Q 6 [(0, .ref 390), (1, .int x3), (2, .int x4), (3, .int (x3 + (1 : Int32)))] σ))))) ∧ (¬ (3 : Int32) ≤ x5 → SpI Γ d mX12_meetsOf [.ref 390, .int x5, .int x3] σ w (fun v2 s1 => AI Γ (d + 1) mX12_forAll w Q 20 [(0, .ref 390), (1, .int x1), (2, .int x2), (3, .int x3), (4, .int (x4 + v2)), (5, .int (x5 + (1 : Int32)))] s1)))) :
    AI Γ (d + 1) mX12_forAll w Q 20 [(0, .ref 390), (1, .int x1), (2, .int x2), (3, .int x3), (4, .int x4), (5, .int x5)] σ :=
  wp_sound (μ := mX12_forAll) (T := tbX12) (is := isX12_forAll) (sw := swX12_forAll) (cu := cuX12_forAll) tbX12_ok msX12_forAll 15 _ _ _ _ _ _ _ (And.intro (fun q1486 => ((h).1 q1486)) (fun q1486 => And.intro (ok_390 hw) (And.intro (Nat.le_of_ble_eq_true rfl) (((h).2 q1486)))))
theorem vX12_keep_0 {Γ : Gx} {d : Nat} {w : Wd} {Q : Int32 → St → Prop} {σ : St} {x1 : Int32}
    (h : SpI Γ d mX12_in [.long x1.toInt64, .long (0 : Int64), .long (1 : Int64)] σ w (fun v2 s1 => ((¬ v2 = (0 : Int32) → AI Γ (d + 1) mX12_keep w Q 22 [(0, .ref 390), (1, .int x1), (2, .int ((280 : Int32) * x1)), (3, .int (0 : Int32))] s1) ∧ (v2 = (0 : Int32) → Q (-1001 : Int32) s1)))) :
    AI Γ (d + 1) mX12_keep w Q 0 [(0, .ref 390), (1, .int x1)] σ :=
  wp_sound (μ := mX12_keep) (T := tbX12) (is := isX12_keep) (sw := swX12_keep) (cu := cuX12_keep) tbX12_ok msX12_keep 13 _ _ _ _ _ _ _ (And.intro (Nat.le_of_ble_eq_true rfl) (And.intro (Nat.le_of_ble_eq_true rfl) (SpI.mono (h) (fun v2 s1 q1490 => And.intro (fun q1489 => ((q1490).1 q1489)) (fun q1489 => And.intro rfl (And.intro rfl (Exists.intro (-1001 : Int32) (And.intro rfl (((q1490).2 q1489))))))))))
theorem vX12_keep_22 {Γ : Gx} {d : Nat} {w : Wd} {Q : Int32 → St → Prop} {σ : St} {x1 : Int32} {x2 : Int32} {x3 : Int32} (hw : RunW w)
    (h : (((3 : Int32) ≤ x3 → (vp_in (x2 + (6 : Int32)) 560) ∧ AI Γ (d + 1) mX12_keep w Q 78 [(0, .ref 390), (1, .int x1), (2, .int x2), (3, .int (0 : Int32))] (uI σ 423 (x2 + (6 : Int32)).toNatClampNeg (gI σ 390 47))) ∧ (¬ (3 : Int32) ≤ x3 → (vp_in x3 3) ∧ (vp_in (x2 + x3) 560) ∧ (vp_in x3 3) ∧ (vp_in ((x2 + (3 : Int32)) + x3) 560) ∧ AI Γ (d + 1) mX12_keep w Q 22 [(0, .ref 390), (1, .int x1), (2, .int x2), (3, .int (x3 + (1 : Int32)))] (uI (uI σ 423 (x2 + x3).toNatClampNeg (gI σ 419 x3.toNatClampNeg)) 423 ((x2 + (3 : Int32)) + x3).toNatClampNeg (gI σ 420 x3.toNatClampNeg))))) :
    AI Γ (d + 1) mX12_keep w Q 22 [(0, .ref 390), (1, .int x1), (2, .int x2), (3, .int x3)] σ :=
  wp_sound (μ := mX12_keep) (T := tbX12) (is := isX12_keep) (sw := swX12_keep) (cu := cuX12_keep) tbX12_ok msX12_keep 28 _ _ _ _ _ _ _ (And.intro (fun q1491 => And.intro (ok_390 hw) (Exists.intro 423 (And.intro (rf_390_53 hw) (And.intro (ok_390 hw) (And.intro (ok_423 hw) (And.intro (vi_423 (((h).1 q1491)).1) ((((h).1 q1491)).2))))))) (fun q1491 => And.intro (ok_390 hw) (Exists.intro 423 (And.intro (rf_390_53 hw) (And.intro (ok_390 hw) (Exists.intro 419 (And.intro (rf_390_48 hw) (And.intro (ok_419 hw) (And.intro (vi_419 (((h).2 q1491)).1) (And.intro (ok_423 hw) (And.intro (vi_423 ((((h).2 q1491)).2).1) (And.intro (ok_390 hw) (Exists.intro 423 (And.intro (rf_390_53 hw) (And.intro (ok_390 hw) (Exists.intro 420 (And.intro (rf_390_49 hw) (And.intro (ok_420 hw) (And.intro (vi_420 (((((h).2 q1491)).2).2).1) (And.intro (ok_423 hw) (And.intro (vi_423 ((((((h).2 q1491)).2).2).2).1) (((((((h).2 q1491)).2).2).2).2))))))))))))))))))))))
theorem vX12_keep_78 {Γ : Gx} {d : Nat} {w : Wd} {Q : Int32 → St → Prop} {σ : St} {x1 : Int32} {x2 : Int32} {x3 : Int32} (hw : RunW w)
    (h : (((132 : Int32) ≤ x3 → (vp_in x1 2) ∧ Q (1 : Int32) (uI σ 424 x1.toNatClampNeg (1 : Int32))) ∧ (¬ (132 : Int32) ≤ x3 → (vp_in x3 132) ∧ (vp_in ((x2 + (7 : Int32)) + x3) 560) ∧ (vp_in x3 132) ∧ (vp_in ((x2 + (139 : Int32)) + x3) 560) ∧ AI Γ (d + 1) mX12_keep w Q 78 [(0, .ref 390), (1, .int x1), (2, .int x2), (3, .int (x3 + (1 : Int32)))] (uI (uI σ 423 ((x2 + (7 : Int32)) + x3).toNatClampNeg (gI σ 421 x3.toNatClampNeg)) 423 ((x2 + (139 : Int32)) + x3).toNatClampNeg (gI σ 422 x3.toNatClampNeg))))) :
    AI Γ (d + 1) mX12_keep w Q 78 [(0, .ref 390), (1, .int x1), (2, .int x2), (3, .int x3)] σ :=
  wp_sound (μ := mX12_keep) (T := tbX12) (is := isX12_keep) (sw := swX12_keep) (cu := cuX12_keep) tbX12_ok msX12_keep 30 _ _ _ _ _ _ _ (And.intro (fun q1492 => And.intro (ok_390 hw) (Exists.intro 424 (And.intro (rf_390_54 hw) (And.intro (ok_424 hw).1 (And.intro (Or.inr (And.intro (ok_424 hw).2 (by decide))) (And.intro (vi_424 (((h).1 q1492)).1) (And.intro rfl (And.intro rfl (Exists.intro (1 : Int32) (And.intro rfl ((((h).1 q1492)).2))))))))))) (fun q1492 => And.intro (ok_390 hw) (Exists.intro 423 (And.intro (rf_390_53 hw) (And.intro (ok_390 hw) (Exists.intro 421 (And.intro (rf_390_50 hw) (And.intro (ok_421 hw) (And.intro (vi_421 (((h).2 q1492)).1) (And.intro (ok_423 hw) (And.intro (vi_423 ((((h).2 q1492)).2).1) (And.intro (ok_390 hw) (Exists.intro 423 (And.intro (rf_390_53 hw) (And.intro (ok_390 hw) (Exists.intro 422 (And.intro (rf_390_51 hw) (And.intro (ok_422 hw) (And.intro (vi_422 (((((h).2 q1492)).2).2).1) (And.intro (ok_423 hw) (And.intro (vi_423 ((((((h).2 q1492)).2).2).2).1) (((((((h).2 q1492)).2).2).2).2))))))))))))))))))))))
theorem vX12_goBack_0 {Γ : Gx} {d : Nat} {w : Wd} {Q : Int32 → St → Prop} {σ : St} {x1 : Int32} (hw : RunW w)
    (h : SpI Γ d mX12_in [.long x1.toInt64, .long (0 : Int64), .long (1 : Int64)] σ w (fun v2 s1 => ((¬ v2 = (0 : Int32) → (vp_in x1 2) ∧ ((¬ (gI s1 424 x1.toNatClampNeg) = (0 : Int32) → AI Γ (d + 1) mX12_goBack w Q 35 [(0, .ref 390), (2, .int ((280 : Int32) * x1)), (3, .int (0 : Int32))] s1) ∧ ((gI s1 424 x1.toNatClampNeg) = (0 : Int32) → Q (-1003 : Int32) s1))) ∧ (v2 = (0 : Int32) → Q (-1001 : Int32) s1)))) :
    AI Γ (d + 1) mX12_goBack w Q 0 [(0, .ref 390), (1, .int x1)] σ :=
  wp_sound (μ := mX12_goBack) (T := tbX12) (is := isX12_goBack) (sw := swX12_goBack) (cu := cuX12_goBack) tbX12_ok msX12_goBack 18 _ _ _ _ _ _ _ (And.intro (Nat.le_of_ble_eq_true rfl) (And.intro (Nat.le_of_ble_eq_true rfl) (SpI.mono (h) (fun v2 s1 q1499 => And.intro (fun q1498 => And.intro (ok_390 hw) (Exists.intro 424 (And.intro (rf_390_54 hw) (And.intro (ok_424 hw).1 (And.intro (Or.inr (ok_424 hw).2) (And.intro (vi_424 (((q1499).1 q1498)).1) (And.intro (fun q1497 => (((((q1499).1 q1498)).2).1 q1497)) (fun q1497 => And.intro rfl (And.intro rfl (Exists.intro (-1003 : Int32) (And.intro rfl ((((((q1499).1 q1498)).2).2 q1497))))))))))))) (fun q1498 => And.intro rfl (And.intro rfl (Exists.intro (-1001 : Int32) (And.intro rfl (((q1499).2 q1498))))))))))
theorem vX12_goBack_35 {Γ : Gx} {d : Nat} {w : Wd} {Q : Int32 → St → Prop} {σ : St} {x2 : Int32} {x3 : Int32} (hw : RunW w)
    (h : (((3 : Int32) ≤ x3 → (vp_in (x2 + (6 : Int32)) 560) ∧ AI Γ (d + 1) mX12_goBack w Q 91 [(0, .ref 390), (2, .int x2), (3, .int (0 : Int32))] (uI σ 390 47 (gI σ 423 (x2 + (6 : Int32)).toNatClampNeg))) ∧ (¬ (3 : Int32) ≤ x3 → (vp_in (x2 + x3) 560) ∧ (vp_in x3 3) ∧ (vp_in ((x2 + (3 : Int32)) + x3) 560) ∧ (vp_in x3 3) ∧ AI Γ (d + 1) mX12_goBack w Q 35 [(0, .ref 390), (2, .int x2), (3, .int (x3 + (1 : Int32)))] (uI (uI σ 419 x3.toNatClampNeg (gI σ 423 (x2 + x3).toNatClampNeg)) 420 x3.toNatClampNeg (gI σ 423 ((x2 + (3 : Int32)) + x3).toNatClampNeg))))) :
    AI Γ (d + 1) mX12_goBack w Q 35 [(0, .ref 390), (2, .int x2), (3, .int x3)] σ :=
  wp_sound (μ := mX12_goBack) (T := tbX12) (is := isX12_goBack) (sw := swX12_goBack) (cu := cuX12_goBack) tbX12_ok msX12_goBack 28 _ _ _ _ _ _ _ (And.intro (fun q1500 => And.intro (ok_390 hw) (Exists.intro 423 (And.intro (rf_390_53 hw) (And.intro (ok_423 hw) (And.intro (vi_423 (((h).1 q1500)).1) (And.intro (ok_390 hw) ((((h).1 q1500)).2))))))) (fun q1500 => And.intro (ok_390 hw) (Exists.intro 419 (And.intro (rf_390_48 hw) (And.intro (ok_390 hw) (Exists.intro 423 (And.intro (rf_390_53 hw) (And.intro (ok_423 hw) (And.intro (vi_423 (((h).2 q1500)).1) (And.intro (ok_419 hw) (And.intro (vi_419 ((((h).2 q1500)).2).1) (And.intro (ok_390 hw) (Exists.intro 420 (And.intro (rf_390_49 hw) (And.intro (ok_390 hw) (Exists.intro 423 (And.intro (rf_390_53 hw) (And.intro (ok_423 hw) (And.intro (vi_423 (((((h).2 q1500)).2).2).1) (And.intro (ok_420 hw) (And.intro (vi_420 ((((((h).2 q1500)).2).2).2).1) (((((((h).2 q1500)).2).2).2).2))))))))))))))))))))))
theorem vX12_goBack_91 {Γ : Gx} {d : Nat} {w : Wd} {Q : Int32 → St → Prop} {σ : St} {x2 : Int32} {x3 : Int32} (hw : RunW w)
    (h : (((132 : Int32) ≤ x3 → Q (1 : Int32) σ) ∧ (¬ (132 : Int32) ≤ x3 → (vp_in ((x2 + (7 : Int32)) + x3) 560) ∧ (vp_in x3 132) ∧ (vp_in ((x2 + (139 : Int32)) + x3) 560) ∧ (vp_in x3 132) ∧ AI Γ (d + 1) mX12_goBack w Q 91 [(0, .ref 390), (2, .int x2), (3, .int (x3 + (1 : Int32)))] (uI (uI σ 421 x3.toNatClampNeg (gI σ 423 ((x2 + (7 : Int32)) + x3).toNatClampNeg)) 422 x3.toNatClampNeg (gI σ 423 ((x2 + (139 : Int32)) + x3).toNatClampNeg))))) :
    AI Γ (d + 1) mX12_goBack w Q 91 [(0, .ref 390), (2, .int x2), (3, .int x3)] σ :=
  wp_sound (μ := mX12_goBack) (T := tbX12) (is := isX12_goBack) (sw := swX12_goBack) (cu := cuX12_goBack) tbX12_ok msX12_goBack 30 _ _ _ _ _ _ _ (And.intro (fun q1501 => And.intro rfl (And.intro rfl (Exists.intro (1 : Int32) (And.intro rfl (((h).1 q1501)))))) (fun q1501 => And.intro (ok_390 hw) (Exists.intro 421 (And.intro (rf_390_50 hw) (And.intro (ok_390 hw) (Exists.intro 423 (And.intro (rf_390_53 hw) (And.intro (ok_423 hw) (And.intro (vi_423 (((h).2 q1501)).1) (And.intro (ok_421 hw) (And.intro (vi_421 ((((h).2 q1501)).2).1) (And.intro (ok_390 hw) (Exists.intro 422 (And.intro (rf_390_51 hw) (And.intro (ok_390 hw) (Exists.intro 423 (And.intro (rf_390_53 hw) (And.intro (ok_423 hw) (And.intro (vi_423 (((((h).2 q1501)).2).2).1) (And.intro (ok_422 hw) (And.intro (vi_422 ((((((h).2 q1501)).2).2).2).1) (((((((h).2 q1501)).2).2).2).2))))))))))))))))))))))
end
section
def isJ6_bitCount_0f7a4 : Is := [(0, .iload_n 0, 1, 0, 0, 1), (1, .iload_n 0, 1, 0, 0, 2), (2, .iconst 1, 1, 1, 0, 3), (3, .iushr, 1, 0, 0, 4), (4, .ldc_w 265, 3, 0, 0, 7), (7, .iand, 1, 0, 0, 8), (8, .isub, 1, 0, 0, 9), (9, .istore_n 0, 1, 0, 0, 10), (10, .iload_n 0, 1, 0, 0, 11), (11, .ldc_w 266, 3, 0, 0, 14), (14, .iand, 1, 0, 0, 15), (15, .iload_n 0, 1, 0, 0, 16), (16, .iconst 2, 1, 2, 0, 17), (17, .iushr, 1, 0, 0, 18), (18, .ldc_w 266, 3, 0, 0, 21), (21, .iand, 1, 0, 0, 22), (22, .iadd, 1, 0, 0, 23), (23, .istore_n 0, 1, 0, 0, 24), (24, .iload_n 0, 1, 0, 0, 25), (25, .iload_n 0, 1, 0, 0, 26), (26, .iconst 4, 1, 4, 0, 27), (27, .iushr, 1, 0, 0, 28), (28, .iadd, 1, 0, 0, 29), (29, .ldc_w 267, 3, 0, 0, 32), (32, .iand, 1, 0, 0, 33), (33, .istore_n 0, 1, 0, 0, 34), (34, .iload_n 0, 1, 0, 0, 35), (35, .iload_n 0, 1, 0, 0, 36), (36, .bipush 8, 2, 8, 0, 38), (38, .iushr, 1, 0, 0, 39), (39, .iadd, 1, 0, 0, 40), (40, .istore_n 0, 1, 0, 0, 41), (41, .iload_n 0, 1, 0, 0, 42), (42, .iload_n 0, 1, 0, 0, 43), (43, .bipush 16, 2, 16, 0, 45), (45, .iushr, 1, 0, 0, 46), (46, .iadd, 1, 0, 0, 47), (47, .istore_n 0, 1, 0, 0, 48), (48, .iload_n 0, 1, 0, 0, 49), (49, .bipush 63, 2, 63, 0, 51), (51, .iand, 1, 0, 0, 52), (52, .ireturn, 1, 0, 0, 53)]
def swJ6_bitCount_0f7a4 : Sw := []
def cuJ6_bitCount_0f7a4 : Cu := []
set_option maxRecDepth 100000 in
theorem msJ6_bitCount_0f7a4 : msOK mJ6_bitCount_0f7a4 isJ6_bitCount_0f7a4 swJ6_bitCount_0f7a4 := msOK_of (by decide +kernel)
def isJ9_max_7cf53 : Is := [(0, .iload_n 0, 1, 0, 0, 1), (1, .iload_n 1, 1, 0, 0, 2), (2, .if_icmp .lt 7, 3, 0, 9, 5), (5, .iload_n 0, 1, 0, 0, 6), (6, .goto 4, 3, 0, 10, 9), (9, .iload_n 1, 1, 0, 0, 10), (10, .ireturn, 1, 0, 0, 11)]
def swJ9_max_7cf53 : Sw := []
def cuJ9_max_7cf53 : Cu := []
set_option maxRecDepth 100000 in
theorem msJ9_max_7cf53 : msOK mJ9_max_7cf53 isJ9_max_7cf53 swJ9_max_7cf53 := msOK_of (by decide +kernel)
def isJ9_min_7cf53 : Is := [(0, .iload_n 0, 1, 0, 0, 1), (1, .iload_n 1, 1, 0, 0, 2), (2, .if_icmp .gt 7, 3, 0, 9, 5), (5, .iload_n 0, 1, 0, 0, 6), (6, .goto 4, 3, 0, 10, 9), (9, .iload_n 1, 1, 0, 0, 10), (10, .ireturn, 1, 0, 0, 11)]
def swJ9_min_7cf53 : Sw := []
def cuJ9_min_7cf53 : Cu := []
set_option maxRecDepth 100000 in
theorem msJ9_min_7cf53 : msOK mJ9_min_7cf53 isJ9_min_7cf53 swJ9_min_7cf53 := msOK_of (by decide +kernel)
def isJ7_fill_53178 : Is := [(0, .iconst 0, 1, 0, 0, 1), (1, .istore_n 2, 1, 0, 0, 2), (2, .aload_n 0, 1, 0, 0, 3), (3, .arraylength, 1, 0, 0, 4), (4, .istore_n 3, 1, 0, 0, 5), (5, .iload_n 2, 1, 0, 0, 6), (6, .iload_n 3, 1, 0, 0, 7), (7, .if_icmp .ge 13, 3, 0, 20, 10), (10, .aload_n 0, 1, 0, 0, 11), (11, .iload_n 2, 1, 0, 0, 12), (12, .iload_n 1, 1, 0, 0, 13), (13, .iastore, 1, 0, 0, 14), (14, .iinc 2 1, 3, 1, 0, 17), (17, .goto (-12), 3, 0, 5, 20), (20, .return_, 1, 0, 0, 21)]
def swJ7_fill_53178 : Sw := []
def cuJ7_fill_53178 : Cu := [(5, [0, 1, 2, 3])]
set_option maxRecDepth 100000 in
theorem msJ7_fill_53178 : msOK mJ7_fill_53178 isJ7_fill_53178 swJ7_fill_53178 := msOK_of (by decide +kernel)
def isJ7_fill_d0a16 : Is := [(0, .iconst 0, 1, 0, 0, 1), (1, .istore_n 3, 1, 0, 0, 2), (2, .aload_n 0, 1, 0, 0, 3), (3, .arraylength, 1, 0, 0, 4), (4, .istore 4, 2, 0, 0, 6), (6, .iload_n 3, 1, 0, 0, 7), (7, .iload 4, 2, 0, 0, 9), (9, .if_icmp .ge 13, 3, 0, 22, 12), (12, .aload_n 0, 1, 0, 0, 13), (13, .iload_n 3, 1, 0, 0, 14), (14, .lload_n 1, 1, 0, 0, 15), (15, .lastore, 1, 0, 0, 16), (16, .iinc 3 1, 3, 1, 0, 19), (19, .goto (-13), 3, 0, 6, 22), (22, .return_, 1, 0, 0, 23)]
def swJ7_fill_d0a16 : Sw := []
def cuJ7_fill_d0a16 : Cu := [(6, [0, 1, 3, 4])]
set_option maxRecDepth 100000 in
theorem msJ7_fill_d0a16 : msOK mJ7_fill_d0a16 isJ7_fill_d0a16 swJ7_fill_d0a16 := msOK_of (by decide +kernel)
def isJ0_length_8abf5 : Is := [(0, .aload_n 0, 1, 0, 0, 1), (1, .getfield 9, 3, 0, 0, 4), (4, .arraylength, 1, 0, 0, 5), (5, .aload_n 0, 1, 0, 0, 6), (6, .invokevirtual 335, 3, 0, 0, 9), (9, .ishr, 1, 0, 0, 10), (10, .ireturn, 1, 0, 0, 11)]
def swJ0_length_8abf5 : Sw := []
def cuJ0_length_8abf5 : Cu := []
set_option maxRecDepth 100000 in
theorem msJ0_length_8abf5 : msOK mJ0_length_8abf5 isJ0_length_8abf5 swJ0_length_8abf5 := msOK_of (by decide +kernel)
def isJ0_coder_7d493 : Is := [(0, .getstatic 38, 3, 0, 0, 3), (3, .ifCond .eq 10, 3, 0, 13, 6), (6, .aload_n 0, 1, 0, 0, 7), (7, .getfield 15, 3, 0, 0, 10), (10, .goto 4, 3, 0, 14, 13), (13, .iconst 1, 1, 1, 0, 14), (14, .ireturn, 1, 0, 0, 15)]
def swJ0_coder_7d493 : Sw := []
def cuJ0_coder_7d493 : Cu := []
set_option maxRecDepth 100000 in
theorem msJ0_coder_7d493 : msOK mJ0_coder_7d493 isJ0_coder_7d493 swJ0_coder_7d493 := msOK_of (by decide +kernel)
def isJ0_isLatin1_aae02 : Is := [(0, .getstatic 38, 3, 0, 0, 3), (3, .ifCond .eq 14, 3, 0, 17, 6), (6, .aload_n 0, 1, 0, 0, 7), (7, .getfield 15, 3, 0, 0, 10), (10, .ifCond .ne 7, 3, 0, 17, 13), (13, .iconst 1, 1, 1, 0, 14), (14, .goto 4, 3, 0, 18, 17), (17, .iconst 0, 1, 0, 0, 18), (18, .ireturn, 1, 0, 0, 19)]
def swJ0_isLatin1_aae02 : Sw := []
def cuJ0_isLatin1_aae02 : Cu := []
set_option maxRecDepth 100000 in
theorem msJ0_isLatin1_aae02 : msOK mJ0_isLatin1_aae02 isJ0_isLatin1_aae02 swJ0_isLatin1_aae02 := msOK_of (by decide +kernel)
def isJ0_charAt_5068e : Is := [(0, .aload_n 0, 1, 0, 0, 1), (1, .invokevirtual 492, 3, 0, 0, 4), (4, .ifCond .eq 12, 3, 0, 16, 7), (7, .aload_n 0, 1, 0, 0, 8), (8, .getfield 9, 3, 0, 0, 11), (11, .iload_n 1, 1, 0, 0, 12), (12, .invokestatic 495, 3, 0, 0, 15), (15, .ireturn, 1, 0, 0, 16), (16, .aload_n 0, 1, 0, 0, 17), (17, .getfield 9, 3, 0, 0, 20), (20, .iload_n 1, 1, 0, 0, 21), (21, .invokestatic 498, 3, 0, 0, 24), (24, .ireturn, 1, 0, 0, 25)]
def swJ0_charAt_5068e : Sw := []
def cuJ0_charAt_5068e : Cu := []
set_option maxRecDepth 100000 in
theorem msJ0_charAt_5068e : msOK mJ0_charAt_5068e isJ0_charAt_5068e swJ0_charAt_5068e := msOK_of (by decide +kernel)
def isJ0_checkIndex_df160 : Is := [(0, .iload_n 0, 1, 0, 0, 1), (1, .iload_n 1, 1, 0, 0, 2), (2, .getstatic 1053, 3, 0, 0, 5), (5, .invokestatic 1059, 3, 0, 0, 8), (8, .pop, 1, 0, 0, 9), (9, .return_, 1, 0, 0, 10)]
def swJ0_checkIndex_df160 : Sw := []
def cuJ0_checkIndex_df160 : Cu := []
set_option maxRecDepth 100000 in
theorem msJ0_checkIndex_df160 : msOK mJ0_checkIndex_df160 isJ0_checkIndex_df160 swJ0_checkIndex_df160 := msOK_of (by decide +kernel)
def isJ1_charAt_3b067 : Is := [(0, .iload_n 1, 1, 0, 0, 1), (1, .aload_n 0, 1, 0, 0, 2), (2, .arraylength, 1, 0, 0, 3), (3, .invokestatic 9, 3, 0, 0, 6), (6, .aload_n 0, 1, 0, 0, 7), (7, .iload_n 1, 1, 0, 0, 8), (8, .baload, 1, 0, 0, 9), (9, .sipush 255, 3, 255, 0, 12), (12, .iand, 1, 0, 0, 13), (13, .i2c, 1, 0, 0, 14), (14, .ireturn, 1, 0, 0, 15)]
def swJ1_charAt_3b067 : Sw := []
def cuJ1_charAt_3b067 : Cu := []
set_option maxRecDepth 100000 in
theorem msJ1_charAt_3b067 : msOK mJ1_charAt_3b067 isJ1_charAt_3b067 swJ1_charAt_3b067 := msOK_of (by decide +kernel)
def isJ3_checkIndex_8e157 : Is := [(0, .iload_n 0, 1, 0, 0, 1), (1, .ifCond .lt 8, 3, 0, 9, 4), (4, .iload_n 0, 1, 0, 0, 5), (5, .iload_n 1, 1, 0, 0, 6), (6, .if_icmp .lt 10, 3, 0, 16, 9), (9, .aload_n 2, 1, 0, 0, 10), (10, .iload_n 0, 1, 0, 0, 11), (11, .iload_n 1, 1, 0, 0, 12), (12, .invokestatic 95, 3, 0, 0, 15), (15, .athrow, 1, 0, 0, 16), (16, .iload_n 0, 1, 0, 0, 17), (17, .ireturn, 1, 0, 0, 18)]
def swJ3_checkIndex_8e157 : Sw := []
def cuJ3_checkIndex_8e157 : Cu := []
set_option maxRecDepth 100000 in
theorem msJ3_checkIndex_8e157 : msOK mJ3_checkIndex_8e157 isJ3_checkIndex_8e157 swJ3_checkIndex_8e157 := msOK_of (by decide +kernel)
end
section
theorem vJ6_bitCount_0f7a4_0 {Γ : Gx} {d : Nat} {w : Wd} {Q : Int32 → St → Prop} {σ : St} {x0 : Int32}
    (h : Q ((((((((x0 - ((x0.toUInt32 >>> ((1 : Int32).toUInt32 &&& Int32.toUInt32 31)).toInt32 &&& (1431655765 : Int32))) &&& (858993459 : Int32)) + (((x0 - ((x0.toUInt32 >>> ((1 : Int32).toUInt32 &&& Int32.toUInt32 31)).toInt32 &&& (1431655765 : Int32))).toUInt32 >>> ((2 : Int32).toUInt32 &&& Int32.toUInt32 31)).toInt32 &&& (858993459 : Int32))) + ((((x0 - ((x0.toUInt32 >>> ((1 : Int32).toUInt32 &&& Int32.toUInt32 31)).toInt32 &&& (1431655765 : Int32))) &&& (858993459 : Int32)) + (((x0 - ((x0.toUInt32 >>> ((1 : Int32).toUInt32 &&& Int32.toUInt32 31)).toInt32 &&& (1431655765 : Int32))).toUInt32 >>> ((2 : Int32).toUInt32 &&& Int32.toUInt32 31)).toInt32 &&& (858993459 : Int32))).toUInt32 >>> ((4 : Int32).toUInt32 &&& Int32.toUInt32 31)).toInt32) &&& (252645135 : Int32)) + ((((((x0 - ((x0.toUInt32 >>> ((1 : Int32).toUInt32 &&& Int32.toUInt32 31)).toInt32 &&& (1431655765 : Int32))) &&& (858993459 : Int32)) + (((x0 - ((x0.toUInt32 >>> ((1 : Int32).toUInt32 &&& Int32.toUInt32 31)).toInt32 &&& (1431655765 : Int32))).toUInt32 >>> ((2 : Int32).toUInt32 &&& Int32.toUInt32 31)).toInt32 &&& (858993459 : Int32))) + ((((x0 - ((x0.toUInt32 >>> ((1 : Int32).toUInt32 &&& Int32.toUInt32 31)).toInt32 &&& (1431655765 : Int32))) &&& (858993459 : Int32)) + (((x0 - ((x0.toUInt32 >>> ((1 : Int32).toUInt32 &&& Int32.toUInt32 31)).toInt32 &&& (1431655765 : Int32))).toUInt32 >>> ((2 : Int32).toUInt32 &&& Int32.toUInt32 31)).toInt32 &&& (858993459 : Int32))).toUInt32 >>> ((4 : Int32).toUInt32 &&& Int32.toUInt32 31)).toInt32) &&& (252645135 : Int32)).toUInt32 >>> ((8 : Int32).toUInt32 &&& Int32.toUInt32 31)).toInt32) + (((((((x0 - ((x0.toUInt32 >>> ((1 : Int32).toUInt32 &&& Int32.toUInt32 31)).toInt32 &&& (1431655765 : Int32))) &&& (858993459 : Int32)) + (((x0 - ((x0.toUInt32 >>> ((1 : Int32).toUInt32 &&& Int32.toUInt32 31)).toInt32 &&& (1431655765 : Int32))).toUInt32 >>> ((2 : Int32).toUInt32 &&& Int32.toUInt32 31)).toInt32 &&& (858993459 : Int32))) + ((((x0 - ((x0.toUInt32 >>> ((1 : Int32).toUInt32 &&& Int32.toUInt32 31)).toInt32 &&& (1431655765 : Int32))) &&& (858993459 : Int32)) + (((x0 - ((x0.toUInt32 >>> ((1 : Int32).toUInt32 &&& Int32.toUInt32 31)).toInt32 &&& (1431655765 : Int32))).toUInt32 >>> ((2 : Int32).toUInt32 &&& Int32.toUInt32 31)).toInt32 &&& (858993459 : Int32))).toUInt32 >>> ((4 : Int32).toUInt32 &&& Int32.toUInt32 31)).toInt32) &&& (252645135 : Int32)) + ((((((x0 - ((x0.toUInt32 >>> ((1 : Int32).toUInt32 &&& Int32.toUInt32 31)).toInt32 &&& (1431655765 : Int32))) &&& (858993459 : Int32)) + (((x0 - ((x0.toUInt32 >>> ((1 : Int32).toUInt32 &&& Int32.toUInt32 31)).toInt32 &&& (1431655765 : Int32))).toUInt32 >>> ((2 : Int32).toUInt32 &&& Int32.toUInt32 31)).toInt32 &&& (858993459 : Int32))) + ((((x0 - ((x0.toUInt32 >>> ((1 : Int32).toUInt32 &&& Int32.toUInt32 31)).toInt32 &&& (1431655765 : Int32))) &&& (858993459 : Int32)) + (((x0 - ((x0.toUInt32 >>> ((1 : Int32).toUInt32 &&& Int32.toUInt32 31)).toInt32 &&& (1431655765 : Int32))).toUInt32 >>> ((2 : Int32).toUInt32 &&& Int32.toUInt32 31)).toInt32 &&& (858993459 : Int32))).toUInt32 >>> ((4 : Int32).toUInt32 &&& Int32.toUInt32 31)).toInt32) &&& (252645135 : Int32)).toUInt32 >>> ((8 : Int32).toUInt32 &&& Int32.toUInt32 31)).toInt32).toUInt32 >>> ((16 : Int32).toUInt32 &&& Int32.toUInt32 31)).toInt32) &&& (63 : Int32)) σ) :
    AI Γ d mJ6_bitCount_0f7a4 w Q 0 [(0, .int x0)] σ :=
  wp_sound (μ := mJ6_bitCount_0f7a4) (T := tbJ6) (is := isJ6_bitCount_0f7a4) (sw := swJ6_bitCount_0f7a4) (cu := cuJ6_bitCount_0f7a4) tbJ6_ok msJ6_bitCount_0f7a4 43 _ _ _ _ _ _ _ (And.intro rfl (And.intro rfl (Exists.intro ((((((((x0 - ((x0.toUInt32 >>> ((1 : Int32).toUInt32 &&& Int32.toUInt32 31)).toInt32 &&& (1431655765 : Int32))) &&& (858993459 : Int32)) + (((x0 - ((x0.toUInt32 >>> ((1 : Int32).toUInt32 &&& Int32.toUInt32 31)).toInt32 &&& (1431655765 : Int32))).toUInt32 >>> ((2 : Int32).toUInt32 &&& Int32.toUInt32 31)).toInt32 &&& (858993459 : Int32))) + ((((x0 - ((x0.toUInt32 >>> ((1 : Int32).toUInt32 &&& Int32.toUInt32 31)).toInt32 &&& (1431655765 : Int32))) &&& (858993459 : Int32)) + (((x0 - ((x0.toUInt32 >>> ((1 : Int32).toUInt32 &&& Int32.toUInt32 31)).toInt32 &&& (1431655765 : Int32))).toUInt32 >>> ((2 : Int32).toUInt32 &&& Int32.toUInt32 31)).toInt32 &&& (858993459 : Int32))).toUInt32 >>> ((4 : Int32).toUInt32 &&& Int32.toUInt32 31)).toInt32) &&& (252645135 : Int32)) + ((((((x0 - ((x0.toUInt32 >>> ((1 : Int32).toUInt32 &&& Int32.toUInt32 31)).toInt32 &&& (1431655765 : Int32))) &&& (858993459 : Int32)) + (((x0 - ((x0.toUInt32 >>> ((1 : Int32).toUInt32 &&& Int32.toUInt32 31)).toInt32 &&& (1431655765 : Int32))).toUInt32 >>> ((2 : Int32).toUInt32 &&& Int32.toUInt32 31)).toInt32 &&& (858993459 : Int32))) + ((((x0 - ((x0.toUInt32 >>> ((1 : Int32).toUInt32 &&& Int32.toUInt32 31)).toInt32 &&& (1431655765 : Int32))) &&& (858993459 : Int32)) + (((x0 - ((x0.toUInt32 >>> ((1 : Int32).toUInt32 &&& Int32.toUInt32 31)).toInt32 &&& (1431655765 : Int32))).toUInt32 >>> ((2 : Int32).toUInt32 &&& Int32.toUInt32 31)).toInt32 &&& (858993459 : Int32))).toUInt32 >>> ((4 : Int32).toUInt32 &&& Int32.toUInt32 31)).toInt32) &&& (252645135 : Int32)).toUInt32 >>> ((8 : Int32).toUInt32 &&& Int32.toUInt32 31)).toInt32) + (((((((x0 - ((x0.toUInt32 >>> ((1 : Int32).toUInt32 &&& Int32.toUInt32 31)).toInt32 &&& (1431655765 : Int32))) &&& (858993459 : Int32)) + (((x0 - ((x0.toUInt32 >>> ((1 : Int32).toUInt32 &&& Int32.toUInt32 31)).toInt32 &&& (1431655765 : Int32))).toUInt32 >>> ((2 : Int32).toUInt32 &&& Int32.toUInt32 31)).toInt32 &&& (858993459 : Int32))) + ((((x0 - ((x0.toUInt32 >>> ((1 : Int32).toUInt32 &&& Int32.toUInt32 31)).toInt32 &&& (1431655765 : Int32))) &&& (858993459 : Int32)) + (((x0 - ((x0.toUInt32 >>> ((1 : Int32).toUInt32 &&& Int32.toUInt32 31)).toInt32 &&& (1431655765 : Int32))).toUInt32 >>> ((2 : Int32).toUInt32 &&& Int32.toUInt32 31)).toInt32 &&& (858993459 : Int32))).toUInt32 >>> ((4 : Int32).toUInt32 &&& Int32.toUInt32 31)).toInt32) &&& (252645135 : Int32)) + ((((((x0 - ((x0.toUInt32 >>> ((1 : Int32).toUInt32 &&& Int32.toUInt32 31)).toInt32 &&& (1431655765 : Int32))) &&& (858993459 : Int32)) + (((x0 - ((x0.toUInt32 >>> ((1 : Int32).toUInt32 &&& Int32.toUInt32 31)).toInt32 &&& (1431655765 : Int32))).toUInt32 >>> ((2 : Int32).toUInt32 &&& Int32.toUInt32 31)).toInt32 &&& (858993459 : Int32))) + ((((x0 - ((x0.toUInt32 >>> ((1 : Int32).toUInt32 &&& Int32.toUInt32 31)).toInt32 &&& (1431655765 : Int32))) &&& (858993459 : Int32)) + (((x0 - ((x0.toUInt32 >>> ((1 : Int32).toUInt32 &&& Int32.toUInt32 31)).toInt32 &&& (1431655765 : Int32))).toUInt32 >>> ((2 : Int32).toUInt32 &&& Int32.toUInt32 31)).toInt32 &&& (858993459 : Int32))).toUInt32 >>> ((4 : Int32).toUInt32 &&& Int32.toUInt32 31)).toInt32) &&& (252645135 : Int32)).toUInt32 >>> ((8 : Int32).toUInt32 &&& Int32.toUInt32 31)).toInt32).toUInt32 >>> ((16 : Int32).toUInt32 &&& Int32.toUInt32 31)).toInt32) &&& (63 : Int32)) (And.intro rfl (h)))))
theorem vJ9_max_7cf53_0 {Γ : Gx} {d : Nat} {w : Wd} {Q : Int32 → St → Prop} {σ : St} {x0 : Int32} {x1 : Int32}
    (h : ((x0 < x1 → Q x1 σ) ∧ (¬ x0 < x1 → Q x0 σ))) :
    AI Γ d mJ9_max_7cf53 w Q 0 [(0, .int x0), (1, .int x1)] σ :=
  wp_sound (μ := mJ9_max_7cf53) (T := tbJ9) (is := isJ9_max_7cf53) (sw := swJ9_max_7cf53) (cu := cuJ9_max_7cf53) tbJ9_ok msJ9_max_7cf53 7 _ _ _ _ _ _ _ (And.intro (fun q1507 => And.intro rfl (And.intro rfl (Exists.intro x1 (And.intro rfl (((h).1 q1507)))))) (fun q1507 => And.intro rfl (And.intro rfl (Exists.intro x0 (And.intro rfl (((h).2 q1507)))))))
theorem vJ9_min_7cf53_0 {Γ : Gx} {d : Nat} {w : Wd} {Q : Int32 → St → Prop} {σ : St} {x0 : Int32} {x1 : Int32}
    (h : ((x1 < x0 → Q x1 σ) ∧ (¬ x1 < x0 → Q x0 σ))) :
    AI Γ d mJ9_min_7cf53 w Q 0 [(0, .int x0), (1, .int x1)] σ :=
  wp_sound (μ := mJ9_min_7cf53) (T := tbJ9) (is := isJ9_min_7cf53) (sw := swJ9_min_7cf53) (cu := cuJ9_min_7cf53) tbJ9_ok msJ9_min_7cf53 7 _ _ _ _ _ _ _ (And.intro (fun q1509 => And.intro rfl (And.intro rfl (Exists.intro x1 (And.intro rfl (((h).1 q1509)))))) (fun q1509 => And.intro rfl (And.intro rfl (Exists.intro x0 (And.intro rfl (((h).2 q1509)))))))
theorem vJ7_fill_53178_0 {Γ : Gx} {d : Nat} {w : Wd} {Q : St → Prop} {σ : St} {o0 : Nat} {x1 : Int32} (h1 : o0 < w.1) (h2 : 20 ≤ (kd o0).1) (h3 : (kd o0).1 ≤ 28)
    (h : AV Γ d mJ7_fill_53178 w Q 5 [(0, .ref o0), (1, .int x1), (2, .int (0 : Int32)), (3, .int (nI (kd o0).2))] σ) :
    AV Γ d mJ7_fill_53178 w Q 0 [(0, .ref o0), (1, .int x1)] σ :=
  wp_sound (μ := mJ7_fill_53178) (T := tbJ7) (is := isJ7_fill_53178) (sw := swJ7_fill_53178) (cu := cuJ7_fill_53178) tbJ7_ok msJ7_fill_53178 6 _ _ _ _ _ _ _ (And.intro h1 (And.intro h2 (And.intro h3 (h))))
theorem vJ7_fill_53178_5 {Γ : Gx} {d : Nat} {w : Wd} {Q : St → Prop} {σ : St} {o0 : Nat} {x1 : Int32} {x2 : Int32} {x3 : Int32} (h1 : okO w o0 20)
    (h : ((x3 ≤ x2 → Q σ) ∧ (¬ x3 ≤ x2 → (vp_in x2 (kd o0).2) ∧ AV Γ d mJ7_fill_53178 w Q 5 [(0, .ref o0), (1, .int x1), (2, .int (x2 + (1 : Int32))), (3, .int x3)] (uI σ o0 x2.toNatClampNeg x1)))) :
    AV Γ d mJ7_fill_53178 w Q 5 [(0, .ref o0), (1, .int x1), (2, .int x2), (3, .int x3)] σ :=
  wp_sound (μ := mJ7_fill_53178) (T := tbJ7) (is := isJ7_fill_53178) (sw := swJ7_fill_53178) (cu := cuJ7_fill_53178) tbJ7_ok msJ7_fill_53178 10 _ _ _ _ _ _ _ (And.intro (fun q1511 => And.intro rfl (And.intro rfl (And.intro rfl (((h).1 q1511))))) (fun q1511 => And.intro h1 (((h).2 q1511))))
theorem vJ7_fill_d0a16_0 {Γ : Gx} {d : Nat} {w : Wd} {Q : St → Prop} {σ : St} {o0 : Nat} {y1 : Int64} (h1 : o0 < w.1) (h2 : 20 ≤ (kd o0).1) (h3 : (kd o0).1 ≤ 28)
    (h : AV Γ d mJ7_fill_d0a16 w Q 6 [(0, .ref o0), (1, .long y1), (3, .int (0 : Int32)), (4, .int (nI (kd o0).2))] σ) :
    AV Γ d mJ7_fill_d0a16 w Q 0 [(0, .ref o0), (1, .long y1)] σ :=
  wp_sound (μ := mJ7_fill_d0a16) (T := tbJ7) (is := isJ7_fill_d0a16) (sw := swJ7_fill_d0a16) (cu := cuJ7_fill_d0a16) tbJ7_ok msJ7_fill_d0a16 6 _ _ _ _ _ _ _ (And.intro h1 (And.intro h2 (And.intro h3 (h))))
theorem vJ7_fill_d0a16_6 {Γ : Gx} {d : Nat} {w : Wd} {Q : St → Prop} {σ : St} {o0 : Nat} {y1 : Int64} {x3 : Int32} {x4 : Int32} (h1 : okO w o0 21)
    (h : ((x4 ≤ x3 → Q σ) ∧ (¬ x4 ≤ x3 → (vp_in x3 (kd o0).2) ∧ AV Γ d mJ7_fill_d0a16 w Q 6 [(0, .ref o0), (1, .long y1), (3, .int (x3 + (1 : Int32))), (4, .int x4)] (uJ σ o0 x3.toNatClampNeg y1)))) :
    AV Γ d mJ7_fill_d0a16 w Q 6 [(0, .ref o0), (1, .long y1), (3, .int x3), (4, .int x4)] σ :=
  wp_sound (μ := mJ7_fill_d0a16) (T := tbJ7) (is := isJ7_fill_d0a16) (sw := swJ7_fill_d0a16) (cu := cuJ7_fill_d0a16) tbJ7_ok msJ7_fill_d0a16 10 _ _ _ _ _ _ _ (And.intro (fun q1513 => And.intro rfl (And.intro rfl (And.intro rfl (((h).1 q1513))))) (fun q1513 => And.intro h1 (((h).2 q1513))))
theorem vJ0_length_8abf5_0 {Γ : Gx} {d : Nat} {w : Wd} {Q : Int32 → St → Prop} {σ : St} {x0 : Nat} (h1 : 1 ≤ x0) (h2 : x0 ≤ 9) (h3 : 20 ≤ (x0 + 19)) (h4 : (x0 + 19) ≤ 28)
    (h : SpI Γ d mJ0_coder_7d493 [.retAddr x0] σ w (fun v2 s1 => Q ((nI (txL.getD ((x0 + 19) - 20) 0)) >>> (v2 &&& (31 : Int32))) s1)) :
    AI Γ (d + 1) mJ0_length_8abf5 w Q 0 [(0, .retAddr x0)] σ :=
  wp_sound (μ := mJ0_length_8abf5) (T := tbJ0) (is := isJ0_length_8abf5) (sw := swJ0_length_8abf5) (cu := cuJ0_length_8abf5) tbJ0_ok msJ0_length_8abf5 8 _ _ _ _ _ _ _ (And.intro h1 (And.intro h2 (And.intro h3 (And.intro h4 (And.intro h1 (And.intro h2 (And.intro (Nat.le_of_ble_eq_true rfl) (SpI.mono (h) (fun v2 s1 q1515 => And.intro rfl (And.intro rfl (Exists.intro ((nI (txL.getD ((x0 + 19) - 20) 0)) >>> (v2 &&& (31 : Int32))) (And.intro rfl (q1515)))))))))))))
theorem vJ0_coder_7d493_0 {Γ : Gx} {d : Nat} {w : Wd} {Q : Int32 → St → Prop} {σ : St} {x0 : Nat} (h1 : 1 ≤ x0) (h2 : x0 ≤ 9)
    (h : (((1 : Int32) = (0 : Int32) → narrow .byte (.int (1 : Int32)) = .int (1 : Int32) ∧ Q (1 : Int32) σ) ∧ (¬ (1 : Int32) = (0 : Int32) → narrow .byte (.int (0 : Int32)) = .int (0 : Int32) ∧ Q (0 : Int32) σ))) :
    AI Γ d mJ0_coder_7d493 w Q 0 [(0, .retAddr x0)] σ :=
  wp_sound (μ := mJ0_coder_7d493) (T := tbJ0) (is := isJ0_coder_7d493) (sw := swJ0_coder_7d493) (cu := cuJ0_coder_7d493) tbJ0_ok msJ0_coder_7d493 7 _ _ _ _ _ _ _ (And.intro (fun q1517 => And.intro (((h).1 q1517)).1 (And.intro rfl (Exists.intro (1 : Int32) (And.intro rfl ((((h).1 q1517)).2))))) (fun q1517 => And.intro h1 (And.intro h2 (And.intro (((h).2 q1517)).1 (And.intro rfl (Exists.intro (0 : Int32) (And.intro rfl ((((h).2 q1517)).2))))))))
theorem vJ0_isLatin1_aae02_0 {Γ : Gx} {d : Nat} {w : Wd} {Q : Int32 → St → Prop} {σ : St} {x0 : Nat} (h1 : 1 ≤ x0) (h2 : x0 ≤ 9)
    (h : (((1 : Int32) = (0 : Int32) → Q (0 : Int32) σ) ∧ (¬ (1 : Int32) = (0 : Int32) → ((¬ (0 : Int32) = (0 : Int32) → Q (0 : Int32) σ) ∧ ((0 : Int32) = (0 : Int32) → Q (1 : Int32) σ))))) :
    AI Γ d mJ0_isLatin1_aae02 w Q 0 [(0, .retAddr x0)] σ :=
  wp_sound (μ := mJ0_isLatin1_aae02) (T := tbJ0) (is := isJ0_isLatin1_aae02) (sw := swJ0_isLatin1_aae02) (cu := cuJ0_isLatin1_aae02) tbJ0_ok msJ0_isLatin1_aae02 9 _ _ _ _ _ _ _ (And.intro (fun q1520 => And.intro nb0 (And.intro rfl (Exists.intro (0 : Int32) (And.intro rfl (((h).1 q1520)))))) (fun q1520 => And.intro h1 (And.intro h2 (And.intro (fun q1519 => And.intro nb0 (And.intro rfl (Exists.intro (0 : Int32) (And.intro rfl (((((h).2 q1520)).1 q1519)))))) (fun q1519 => And.intro nb1 (And.intro rfl (Exists.intro (1 : Int32) (And.intro rfl (((((h).2 q1520)).2 q1519))))))))))
theorem vJ0_charAt_5068e_0 {Γ : Gx} {d : Nat} {w : Wd} {Q : Int32 → St → Prop} {σ : St} {x0 : Nat} {x1 : Int32} (h1 : 1 ≤ x0) (h2 : x0 ≤ 9)
    (h : SpI Γ d mJ0_isLatin1_aae02 [.retAddr x0] σ w (fun v2 s1 => ((v2 = (0 : Int32) → False) ∧ (¬ v2 = (0 : Int32) → SpI Γ d mJ1_charAt_3b067 [.retAddr (x0 + 19), .int x1] s1 w (fun v4 s3 => narrow .char (.int v4) = .int v4 ∧ Q v4 s3))))) :
    AI Γ (d + 1) mJ0_charAt_5068e w Q 0 [(0, .retAddr x0), (1, .int x1)] σ :=
  wp_sound (μ := mJ0_charAt_5068e) (T := tbJ0) (is := isJ0_charAt_5068e) (sw := swJ0_charAt_5068e) (cu := cuJ0_charAt_5068e) tbJ0_ok msJ0_charAt_5068e 9 _ _ _ _ _ _ _ (And.intro h1 (And.intro h2 (And.intro (Nat.le_of_ble_eq_true rfl) (SpI.mono (h) (fun v2 s1 q1525 => And.intro (fun q1524 => And.intro h1 (And.intro h2 (((q1525).1 q1524)))) (fun q1524 => And.intro h1 (And.intro h2 (And.intro (Nat.le_of_ble_eq_true rfl) (And.intro (Nat.le_of_ble_eq_true rfl) (SpI.mono (((q1525).2 q1524)) (fun v4 s3 q1523 => And.intro (q1523).1 (And.intro rfl (Exists.intro v4 (And.intro rfl ((q1523).2)))))))))))))))
theorem vJ0_checkIndex_df160_0 {Γ : Gx} {d : Nat} {w : Wd} {Q : St → Prop} {σ : St} {x0 : Int32} {x1 : Int32}
    (h : (SpI Γ d mJ3_checkIndex_8e157 [.int x0, .int x1, .null] σ w (fun v2 s1 => Q s1) ∧ SpI Γ d mJ3_checkIndex_8e157 [.int x0, .int x1, .retAddr 40] σ w (fun v4 s3 => Q s3))) :
    AV Γ (d + 1) mJ0_checkIndex_df160 w Q 0 [(0, .int x0), (1, .int x1)] σ :=
  wp_sound (μ := mJ0_checkIndex_df160) (T := tbJ0) (is := isJ0_checkIndex_df160) (sw := swJ0_checkIndex_df160) (cu := cuJ0_checkIndex_df160) tbJ0_ok msJ0_checkIndex_df160 7 _ _ _ _ _ _ _ (And.intro (And.intro (Nat.le_of_ble_eq_true rfl) (And.intro (Nat.le_of_ble_eq_true rfl) (SpI.mono ((h).1) (fun v2 s1 q1529 => And.intro rfl (And.intro rfl (And.intro rfl (q1529))))))) (And.intro (Nat.le_of_ble_eq_true rfl) (And.intro (Nat.le_of_ble_eq_true rfl) (SpI.mono ((h).2) (fun v4 s3 q1530 => And.intro rfl (And.intro rfl (And.intro rfl (q1530))))))))
theorem vJ1_charAt_3b067_0 {Γ : Gx} {d : Nat} {w : Wd} {Q : Int32 → St → Prop} {σ : St} {x0 : Nat} {x1 : Int32} (h1 : 20 ≤ x0) (h2 : x0 ≤ 28)
    (h : SpV Γ d mJ0_checkIndex_df160 [.int x1, .int (nI (txL.getD (x0 - 20) 0))] σ w (fun s1 => (vp_in x1 (txL.getD (x0 - 20) 0)) ∧ narrow .char (.int (((((txB.getD (x0 - 20) []).getD x1.toNatClampNeg 0) &&& (255 : Int32)).toUInt32 % 65536).toInt32)) = .int (((((txB.getD (x0 - 20) []).getD x1.toNatClampNeg 0) &&& (255 : Int32)).toUInt32 % 65536).toInt32) ∧ Q (((((txB.getD (x0 - 20) []).getD x1.toNatClampNeg 0) &&& (255 : Int32)).toUInt32 % 65536).toInt32) s1)) :
    AI Γ (d + 1) mJ1_charAt_3b067 w Q 0 [(0, .retAddr x0), (1, .int x1)] σ :=
  wp_sound (μ := mJ1_charAt_3b067) (T := tbJ1) (is := isJ1_charAt_3b067) (sw := swJ1_charAt_3b067) (cu := cuJ1_charAt_3b067) tbJ1_ok msJ1_charAt_3b067 12 _ _ _ _ _ _ _ (And.intro h1 (And.intro h2 (And.intro (Nat.le_of_ble_eq_true rfl) (And.intro (Nat.le_of_ble_eq_true rfl) (SpV.mono (h) (fun s1 q1533 => And.intro h1 (And.intro h2 (And.intro (q1533).1 (And.intro ((q1533).2).1 (And.intro rfl (Exists.intro (((((txB.getD (x0 - 20) []).getD x1.toNatClampNeg 0) &&& (255 : Int32)).toUInt32 % 65536).toInt32) (And.intro rfl (((q1533).2).2)))))))))))))
theorem vJ3_checkIndex_8e157_0 {Γ : Gx} {d : Nat} {w : Wd} {Q : Int32 → St → Prop} {σ : St} {x0 : Int32} {x1 : Int32} {o2 : Nat}
    (h : ((x0 < (0 : Int32) → False) ∧ (¬ x0 < (0 : Int32) → ((x0 < x1 → Q x0 σ) ∧ (¬ x0 < x1 → False))))) :
    AI Γ (d + 1) mJ3_checkIndex_8e157 w Q 0 [(0, .int x0), (1, .int x1), (2, .ref o2)] σ :=
  wp_sound (μ := mJ3_checkIndex_8e157) (T := tbJ3) (is := isJ3_checkIndex_8e157) (sw := swJ3_checkIndex_8e157) (cu := cuJ3_checkIndex_8e157) tbJ3_ok msJ3_checkIndex_8e157 10 _ _ _ _ _ _ _ (And.intro (fun q1536 => ((h).1 q1536)) (fun q1536 => And.intro (fun q1535 => And.intro rfl (And.intro rfl (Exists.intro x0 (And.intro rfl (((((h).2 q1536)).1 q1535)))))) (fun q1535 => ((((h).2 q1536)).2 q1535))))
end
