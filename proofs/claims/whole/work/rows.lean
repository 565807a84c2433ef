section
-- ===== PART A: goes FIRST, ahead of the names: the tables' words, and 'selects' of the private methods out of them =====
/-- a private method of a class that the tables say can be made, by its rows of tables_1 -/
def lw_okq (q : MethodName × Nat) : Prop := (q.1.cls ≠ "java/lang/invoke/MethodHandle" ∧ q.1.cls ≠ "java/lang/invoke/VarHandle") ∧ Cond.instantiable q.1.cls q.2 ∈ tables_1 ∧ Cond.privateMethod q.1 ∈ tables_1 ∧ Cond.instanceMethod q.1 ∈ tables_1
theorem lw_p0 : lw_okq (⟨"FirstReader$Parser", "skipBlanks", "()V"⟩, 8) := ⟨⟨by decide +kernel, by decide +kernel⟩, List.mem_of_getElem? (i := 31) (by decide +kernel), List.mem_of_getElem? (i := 409) (by decide +kernel), List.mem_of_getElem? (i := 410) (by decide +kernel)⟩
theorem lw_p1 : lw_okq (⟨"FirstReader$Parser", "parseClause", "()V"⟩, 8) := ⟨⟨by decide +kernel, by decide +kernel⟩, List.mem_of_getElem? (i := 31) (by decide +kernel), List.mem_of_getElem? (i := 413) (by decide +kernel), List.mem_of_getElem? (i := 414) (by decide +kernel)⟩
theorem lw_p2 : lw_okq (⟨"FirstReader$Parser", "acceptsWord", "(Ljava/lang/String;)Z"⟩, 8) := ⟨⟨by decide +kernel, by decide +kernel⟩, List.mem_of_getElem? (i := 31) (by decide +kernel), List.mem_of_getElem? (i := 418) (by decide +kernel), List.mem_of_getElem? (i := 419) (by decide +kernel)⟩
theorem lw_p3 : lw_okq (⟨"FirstReader$Parser", "lettersEnd", "()I"⟩, 8) := ⟨⟨by decide +kernel, by decide +kernel⟩, List.mem_of_getElem? (i := 31) (by decide +kernel), List.mem_of_getElem? (i := 422) (by decide +kernel), List.mem_of_getElem? (i := 423) (by decide +kernel)⟩
theorem lw_p4 : lw_okq (⟨"FirstReader$Parser", "parseSign", "(I)V"⟩, 8) := ⟨⟨by decide +kernel, by decide +kernel⟩, List.mem_of_getElem? (i := 31) (by decide +kernel), List.mem_of_getElem? (i := 477) (by decide +kernel), List.mem_of_getElem? (i := 478) (by decide +kernel)⟩
theorem lw_p5 : lw_okq (⟨"FirstReader$Parser", "fail", "(II)V"⟩, 8) := ⟨⟨by decide +kernel, by decide +kernel⟩, List.mem_of_getElem? (i := 31) (by decide +kernel), List.mem_of_getElem? (i := 481) (by decide +kernel), List.mem_of_getElem? (i := 482) (by decide +kernel)⟩
theorem lw_p6 : lw_okq (⟨"FirstReader$Parser", "parseLetters", "([I)I"⟩, 8) := ⟨⟨by decide +kernel, by decide +kernel⟩, List.mem_of_getElem? (i := 31) (by decide +kernel), List.mem_of_getElem? (i := 485) (by decide +kernel), List.mem_of_getElem? (i := 486) (by decide +kernel)⟩
theorem lw_p7 : lw_okq (⟨"FirstReader$Parser", "accepts", "(I)Z"⟩, 8) := ⟨⟨by decide +kernel, by decide +kernel⟩, List.mem_of_getElem? (i := 31) (by decide +kernel), List.mem_of_getElem? (i := 492) (by decide +kernel), List.mem_of_getElem? (i := 493) (by decide +kernel)⟩
theorem lw_p8 : lw_okq (⟨"FirstReader$Parser", "look", "()I"⟩, 8) := ⟨⟨by decide +kernel, by decide +kernel⟩, List.mem_of_getElem? (i := 31) (by decide +kernel), List.mem_of_getElem? (i := 496) (by decide +kernel), List.mem_of_getElem? (i := 497) (by decide +kernel)⟩
theorem lw_p9 : lw_okq (⟨"FirstReader$Parser", "parseNumber", "(I)I"⟩, 8) := ⟨⟨by decide +kernel, by decide +kernel⟩, List.mem_of_getElem? (i := 31) (by decide +kernel), List.mem_of_getElem? (i := 500) (by decide +kernel), List.mem_of_getElem? (i := 501) (by decide +kernel)⟩
theorem lw_p10 : lw_okq (⟨"FirstReader$Parser", "parseWord", "(I)V"⟩, 8) := ⟨⟨by decide +kernel, by decide +kernel⟩, List.mem_of_getElem? (i := 31) (by decide +kernel), List.mem_of_getElem? (i := 510) (by decide +kernel), List.mem_of_getElem? (i := 511) (by decide +kernel)⟩
theorem lw_p11 : lw_okq (⟨"FirstReader$Parser", "wordAhead", "()I"⟩, 8) := ⟨⟨by decide +kernel, by decide +kernel⟩, List.mem_of_getElem? (i := 31) (by decide +kernel), List.mem_of_getElem? (i := 514) (by decide +kernel), List.mem_of_getElem? (i := 515) (by decide +kernel)⟩
theorem lw_p12 : lw_okq (⟨"FirstReader$Parser", "parseSound", "(LFirstReader$Word;)V"⟩, 8) := ⟨⟨by decide +kernel, by decide +kernel⟩, List.mem_of_getElem? (i := 31) (by decide +kernel), List.mem_of_getElem? (i := 518) (by decide +kernel), List.mem_of_getElem? (i := 519) (by decide +kernel)⟩
theorem lw_p13 : lw_okq (⟨"FirstReader$Parser", "parseLesson", "(I)V"⟩, 8) := ⟨⟨by decide +kernel, by decide +kernel⟩, List.mem_of_getElem? (i := 31) (by decide +kernel), List.mem_of_getElem? (i := 523) (by decide +kernel), List.mem_of_getElem? (i := 524) (by decide +kernel)⟩
theorem lw_p14 : lw_okq (⟨"FirstReader$Parser", "parseList", "(I)I"⟩, 8) := ⟨⟨by decide +kernel, by decide +kernel⟩, List.mem_of_getElem? (i := 31) (by decide +kernel), List.mem_of_getElem? (i := 528) (by decide +kernel), List.mem_of_getElem? (i := 529) (by decide +kernel)⟩
theorem lw_p15 : lw_okq (⟨"FirstReader$Parser", "parsePage", "(I)V"⟩, 8) := ⟨⟨by decide +kernel, by decide +kernel⟩, List.mem_of_getElem? (i := 31) (by decide +kernel), List.mem_of_getElem? (i := 535) (by decide +kernel), List.mem_of_getElem? (i := 536) (by decide +kernel)⟩
def lw_privs_1 : List (MethodName × Nat) := [(⟨"FirstReader$Parser", "skipBlanks", "()V"⟩, 8), (⟨"FirstReader$Parser", "parseClause", "()V"⟩, 8), (⟨"FirstReader$Parser", "acceptsWord", "(Ljava/lang/String;)Z"⟩, 8), (⟨"FirstReader$Parser", "lettersEnd", "()I"⟩, 8), (⟨"FirstReader$Parser", "parseSign", "(I)V"⟩, 8), (⟨"FirstReader$Parser", "fail", "(II)V"⟩, 8), (⟨"FirstReader$Parser", "parseLetters", "([I)I"⟩, 8), (⟨"FirstReader$Parser", "accepts", "(I)Z"⟩, 8), (⟨"FirstReader$Parser", "look", "()I"⟩, 8), (⟨"FirstReader$Parser", "parseNumber", "(I)I"⟩, 8), (⟨"FirstReader$Parser", "parseWord", "(I)V"⟩, 8), (⟨"FirstReader$Parser", "wordAhead", "()I"⟩, 8), (⟨"FirstReader$Parser", "parseSound", "(LFirstReader$Word;)V"⟩, 8), (⟨"FirstReader$Parser", "parseLesson", "(I)V"⟩, 8), (⟨"FirstReader$Parser", "parseList", "(I)I"⟩, 8), (⟨"FirstReader$Parser", "parsePage", "(I)V"⟩, 8)]
theorem lw_r1 : ∀ q ∈ lw_privs_1, lw_okq q := List.forall_mem_cons.mpr ⟨lw_p0, List.forall_mem_cons.mpr ⟨lw_p1, List.forall_mem_cons.mpr ⟨lw_p2, List.forall_mem_cons.mpr ⟨lw_p3, List.forall_mem_cons.mpr ⟨lw_p4, List.forall_mem_cons.mpr ⟨lw_p5, List.forall_mem_cons.mpr ⟨lw_p6, List.forall_mem_cons.mpr ⟨lw_p7, List.forall_mem_cons.mpr ⟨lw_p8, List.forall_mem_cons.mpr ⟨lw_p9, List.forall_mem_cons.mpr ⟨lw_p10, List.forall_mem_cons.mpr ⟨lw_p11, List.forall_mem_cons.mpr ⟨lw_p12, List.forall_mem_cons.mpr ⟨lw_p13, List.forall_mem_cons.mpr ⟨lw_p14, List.forall_mem_cons.mpr ⟨lw_p15, fun _ h => absurd h List.not_mem_nil⟩⟩⟩⟩⟩⟩⟩⟩⟩⟩⟩⟩⟩⟩⟩⟩
theorem lw_p16 : lw_okq (⟨"FirstReader$Parser", "parsePageWord", "(I)V"⟩, 8) := ⟨⟨by decide +kernel, by decide +kernel⟩, List.mem_of_getElem? (i := 31) (by decide +kernel), List.mem_of_getElem? (i := 539) (by decide +kernel), List.mem_of_getElem? (i := 540) (by decide +kernel)⟩
theorem lw_p17 : lw_okq (⟨"FirstReader$Primer", "signsStandingAt", "(LFirstReader$Word;I)I"⟩, 14) := ⟨⟨by decide +kernel, by decide +kernel⟩, List.mem_of_getElem? (i := 67) (by decide +kernel), List.mem_of_getElem? (i := 547) (by decide +kernel), List.mem_of_getElem? (i := 548) (by decide +kernel)⟩
theorem lw_p18 : lw_okq (⟨"FirstReader", "isSign", "(I)Z"⟩, 9) := ⟨⟨by decide +kernel, by decide +kernel⟩, List.mem_of_getElem? (i := 23) (by decide +kernel), List.mem_of_getElem? (i := 580) (by decide +kernel), List.mem_of_getElem? (i := 581) (by decide +kernel)⟩
theorem lw_p19 : lw_okq (⟨"FirstReader", "isWord", "(I)Z"⟩, 9) := ⟨⟨by decide +kernel, by decide +kernel⟩, List.mem_of_getElem? (i := 23) (by decide +kernel), List.mem_of_getElem? (i := 591) (by decide +kernel), List.mem_of_getElem? (i := 592) (by decide +kernel)⟩
theorem lw_p20 : lw_okq (⟨"FirstReader", "isLesson", "(I)Z"⟩, 9) := ⟨⟨by decide +kernel, by decide +kernel⟩, List.mem_of_getElem? (i := 23) (by decide +kernel), List.mem_of_getElem? (i := 599) (by decide +kernel), List.mem_of_getElem? (i := 600) (by decide +kernel)⟩
theorem lw_p21 : lw_okq (⟨"FirstReader", "isPage", "(I)Z"⟩, 9) := ⟨⟨by decide +kernel, by decide +kernel⟩, List.mem_of_getElem? (i := 23) (by decide +kernel), List.mem_of_getElem? (i := 607) (by decide +kernel), List.mem_of_getElem? (i := 608) (by decide +kernel)⟩
theorem lw_p22 : lw_okq (⟨"FirstReader", "areSigns", "(I)Z"⟩, 9) := ⟨⟨by decide +kernel, by decide +kernel⟩, List.mem_of_getElem? (i := 23) (by decide +kernel), List.mem_of_getElem? (i := 623) (by decide +kernel), List.mem_of_getElem? (i := 624) (by decide +kernel)⟩
theorem lw_p23 : lw_okq (⟨"FirstReader$Cuts", "waysBehind", "(LFirstReader$Sign;LFirstReader$Word;II)J"⟩, 3) := ⟨⟨by decide +kernel, by decide +kernel⟩, List.mem_of_getElem? (i := 288) (by decide +kernel), List.mem_of_getElem? (i := 635) (by decide +kernel), List.mem_of_getElem? (i := 636) (by decide +kernel)⟩
theorem lw_p24 : lw_okq (⟨"FirstReader$Cuts", "firstThatGoesOn", "(LFirstReader$Primer;LFirstReader$Word;III)I"⟩, 3) := ⟨⟨by decide +kernel, by decide +kernel⟩, List.mem_of_getElem? (i := 288) (by decide +kernel), List.mem_of_getElem? (i := 652) (by decide +kernel), List.mem_of_getElem? (i := 653) (by decide +kernel)⟩
theorem lw_p25 : lw_okq (⟨"FirstReader$Spelling", "append", "(LFirstReader$Sign;)V"⟩, 3) := ⟨⟨by decide +kernel, by decide +kernel⟩, List.mem_of_getElem? (i := 269) (by decide +kernel), List.mem_of_getElem? (i := 687) (by decide +kernel), List.mem_of_getElem? (i := 688) (by decide +kernel)⟩
theorem lw_p26 : lw_okq (⟨"FirstReader", "areLessons", "(I)Z"⟩, 9) := ⟨⟨by decide +kernel, by decide +kernel⟩, List.mem_of_getElem? (i := 23) (by decide +kernel), List.mem_of_getElem? (i := 700) (by decide +kernel), List.mem_of_getElem? (i := 701) (by decide +kernel)⟩
theorem lw_p27 : lw_okq (⟨"FirstReader$Primer", "unionOf", "([II)I"⟩, 14) := ⟨⟨by decide +kernel, by decide +kernel⟩, List.mem_of_getElem? (i := 67) (by decide +kernel), List.mem_of_getElem? (i := 716) (by decide +kernel), List.mem_of_getElem? (i := 717) (by decide +kernel)⟩
theorem lw_p28 : lw_okq (⟨"FirstReader$Course", "arrive", "(III)V"⟩, 10) := ⟨⟨by decide +kernel, by decide +kernel⟩, List.mem_of_getElem? (i := 773) (by decide +kernel), List.mem_of_getElem? (i := 818) (by decide +kernel), List.mem_of_getElem? (i := 819) (by decide +kernel)⟩
theorem lw_p29 : lw_okq (⟨"FirstReader$Course", "goOnFrom", "(I)V"⟩, 10) := ⟨⟨by decide +kernel, by decide +kernel⟩, List.mem_of_getElem? (i := 773) (by decide +kernel), List.mem_of_getElem? (i := 823) (by decide +kernel), List.mem_of_getElem? (i := 824) (by decide +kernel)⟩
theorem lw_p30 : lw_okq (⟨"FirstReader$Course", "metIn", "(I)I"⟩, 10) := ⟨⟨by decide +kernel, by decide +kernel⟩, List.mem_of_getElem? (i := 773) (by decide +kernel), List.mem_of_getElem? (i := 827) (by decide +kernel), List.mem_of_getElem? (i := 828) (by decide +kernel)⟩
theorem lw_p31 : lw_okq (⟨"FirstReader$Course", "isNew", "(I)Z"⟩, 10) := ⟨⟨by decide +kernel, by decide +kernel⟩, List.mem_of_getElem? (i := 773) (by decide +kernel), List.mem_of_getElem? (i := 834) (by decide +kernel), List.mem_of_getElem? (i := 835) (by decide +kernel)⟩
def lw_privs_2 : List (MethodName × Nat) := [(⟨"FirstReader$Parser", "parsePageWord", "(I)V"⟩, 8), (⟨"FirstReader$Primer", "signsStandingAt", "(LFirstReader$Word;I)I"⟩, 14), (⟨"FirstReader", "isSign", "(I)Z"⟩, 9), (⟨"FirstReader", "isWord", "(I)Z"⟩, 9), (⟨"FirstReader", "isLesson", "(I)Z"⟩, 9), (⟨"FirstReader", "isPage", "(I)Z"⟩, 9), (⟨"FirstReader", "areSigns", "(I)Z"⟩, 9), (⟨"FirstReader$Cuts", "waysBehind", "(LFirstReader$Sign;LFirstReader$Word;II)J"⟩, 3), (⟨"FirstReader$Cuts", "firstThatGoesOn", "(LFirstReader$Primer;LFirstReader$Word;III)I"⟩, 3), (⟨"FirstReader$Spelling", "append", "(LFirstReader$Sign;)V"⟩, 3), (⟨"FirstReader", "areLessons", "(I)Z"⟩, 9), (⟨"FirstReader$Primer", "unionOf", "([II)I"⟩, 14), (⟨"FirstReader$Course", "arrive", "(III)V"⟩, 10), (⟨"FirstReader$Course", "goOnFrom", "(I)V"⟩, 10), (⟨"FirstReader$Course", "metIn", "(I)I"⟩, 10), (⟨"FirstReader$Course", "isNew", "(I)Z"⟩, 10)]
theorem lw_r2 : ∀ q ∈ lw_privs_2, lw_okq q := List.forall_mem_cons.mpr ⟨lw_p16, List.forall_mem_cons.mpr ⟨lw_p17, List.forall_mem_cons.mpr ⟨lw_p18, List.forall_mem_cons.mpr ⟨lw_p19, List.forall_mem_cons.mpr ⟨lw_p20, List.forall_mem_cons.mpr ⟨lw_p21, List.forall_mem_cons.mpr ⟨lw_p22, List.forall_mem_cons.mpr ⟨lw_p23, List.forall_mem_cons.mpr ⟨lw_p24, List.forall_mem_cons.mpr ⟨lw_p25, List.forall_mem_cons.mpr ⟨lw_p26, List.forall_mem_cons.mpr ⟨lw_p27, List.forall_mem_cons.mpr ⟨lw_p28, List.forall_mem_cons.mpr ⟨lw_p29, List.forall_mem_cons.mpr ⟨lw_p30, List.forall_mem_cons.mpr ⟨lw_p31, fun _ h => absurd h List.not_mem_nil⟩⟩⟩⟩⟩⟩⟩⟩⟩⟩⟩⟩⟩⟩⟩⟩
theorem lw_p32 : lw_okq (⟨"FirstReader$Course", "writeSteps", "()V"⟩, 10) := ⟨⟨by decide +kernel, by decide +kernel⟩, List.mem_of_getElem? (i := 773) (by decide +kernel), List.mem_of_getElem? (i := 839) (by decide +kernel), List.mem_of_getElem? (i := 840) (by decide +kernel)⟩
theorem lw_p33 : lw_okq (⟨"FirstReader", "missingOf", "(LFirstReader$Pupil;I)I"⟩, 9) := ⟨⟨by decide +kernel, by decide +kernel⟩, List.mem_of_getElem? (i := 23) (by decide +kernel), List.mem_of_getElem? (i := 867) (by decide +kernel), List.mem_of_getElem? (i := 868) (by decide +kernel)⟩
theorem lw_p34 : lw_okq (⟨"FirstReader", "unknownFor", "(LFirstReader$Pupil;I)I"⟩, 9) := ⟨⟨by decide +kernel, by decide +kernel⟩, List.mem_of_getElem? (i := 23) (by decide +kernel), List.mem_of_getElem? (i := 909) (by decide +kernel), List.mem_of_getElem? (i := 910) (by decide +kernel)⟩
theorem lw_p35 : lw_okq (⟨"FirstReader", "lessonToTakeAgain", "(LFirstReader$Pupil;)I"⟩, 9) := ⟨⟨by decide +kernel, by decide +kernel⟩, List.mem_of_getElem? (i := 23) (by decide +kernel), List.mem_of_getElem? (i := 918) (by decide +kernel), List.mem_of_getElem? (i := 919) (by decide +kernel)⟩
theorem lw_p36 : lw_okq (⟨"FirstReader", "pageToRead", "(LFirstReader$Pupil;I)I"⟩, 9) := ⟨⟨by decide +kernel, by decide +kernel⟩, List.mem_of_getElem? (i := 23) (by decide +kernel), List.mem_of_getElem? (i := 922) (by decide +kernel), List.mem_of_getElem? (i := 923) (by decide +kernel)⟩
theorem lw_p37 : lw_okq (⟨"FirstReader", "lessonToTake", "(LFirstReader$Pupil;)I"⟩, 9) := ⟨⟨by decide +kernel, by decide +kernel⟩, List.mem_of_getElem? (i := 23) (by decide +kernel), List.mem_of_getElem? (i := 926) (by decide +kernel), List.mem_of_getElem? (i := 927) (by decide +kernel)⟩
theorem lw_p38 : lw_okq (⟨"FirstReaderModel", "beginPupils", "()V"⟩, 55) := ⟨⟨by decide +kernel, by decide +kernel⟩, List.mem_of_getElem? (i := 960) (by decide +kernel), List.mem_of_getElem? (i := 967) (by decide +kernel), List.mem_of_getElem? (i := 968) (by decide +kernel)⟩
theorem lw_p39 : lw_okq (⟨"FirstReaderModel", "here", "()I"⟩, 55) := ⟨⟨by decide +kernel, by decide +kernel⟩, List.mem_of_getElem? (i := 960) (by decide +kernel), List.mem_of_getElem? (i := 1151) (by decide +kernel), List.mem_of_getElem? (i := 1152) (by decide +kernel)⟩
theorem lw_p40 : lw_okq (⟨"FirstReaderModel", "takeClause", "()I"⟩, 55) := ⟨⟨by decide +kernel, by decide +kernel⟩, List.mem_of_getElem? (i := 960) (by decide +kernel), List.mem_of_getElem? (i := 1155) (by decide +kernel), List.mem_of_getElem? (i := 1156) (by decide +kernel)⟩
theorem lw_p41 : lw_okq (⟨"FirstReaderModel", "readWord", "()V"⟩, 55) := ⟨⟨by decide +kernel, by decide +kernel⟩, List.mem_of_getElem? (i := 960) (by decide +kernel), List.mem_of_getElem? (i := 1159) (by decide +kernel), List.mem_of_getElem? (i := 1160) (by decide +kernel)⟩
theorem lw_p42 : lw_okq (⟨"FirstReaderModel", "fails", "(II)I"⟩, 55) := ⟨⟨by decide +kernel, by decide +kernel⟩, List.mem_of_getElem? (i := 960) (by decide +kernel), List.mem_of_getElem? (i := 1175) (by decide +kernel), List.mem_of_getElem? (i := 1176) (by decide +kernel)⟩
theorem lw_p43 : lw_okq (⟨"FirstReaderModel", "takeSign", "(I)I"⟩, 55) := ⟨⟨by decide +kernel, by decide +kernel⟩, List.mem_of_getElem? (i := 960) (by decide +kernel), List.mem_of_getElem? (i := 1179) (by decide +kernel), List.mem_of_getElem? (i := 1180) (by decide +kernel)⟩
theorem lw_p44 : lw_okq (⟨"FirstReaderModel", "takeNumber", "(I)I"⟩, 55) := ⟨⟨by decide +kernel, by decide +kernel⟩, List.mem_of_getElem? (i := 960) (by decide +kernel), List.mem_of_getElem? (i := 1183) (by decide +kernel), List.mem_of_getElem? (i := 1184) (by decide +kernel)⟩
theorem lw_p45 : lw_okq (⟨"FirstReaderModel", "takeWord", "(I)I"⟩, 55) := ⟨⟨by decide +kernel, by decide +kernel⟩, List.mem_of_getElem? (i := 960) (by decide +kernel), List.mem_of_getElem? (i := 1190) (by decide +kernel), List.mem_of_getElem? (i := 1191) (by decide +kernel)⟩
theorem lw_p46 : lw_okq (⟨"FirstReaderModel", "wordOf", "(II)I"⟩, 55) := ⟨⟨by decide +kernel, by decide +kernel⟩, List.mem_of_getElem? (i := 960) (by decide +kernel), List.mem_of_getElem? (i := 1194) (by decide +kernel), List.mem_of_getElem? (i := 1195) (by decide +kernel)⟩
theorem lw_p47 : lw_okq (⟨"FirstReaderModel", "takeLesson", "(I)I"⟩, 55) := ⟨⟨by decide +kernel, by decide +kernel⟩, List.mem_of_getElem? (i := 960) (by decide +kernel), List.mem_of_getElem? (i := 1198) (by decide +kernel), List.mem_of_getElem? (i := 1199) (by decide +kernel)⟩
def lw_privs_3 : List (MethodName × Nat) := [(⟨"FirstReader$Course", "writeSteps", "()V"⟩, 10), (⟨"FirstReader", "missingOf", "(LFirstReader$Pupil;I)I"⟩, 9), (⟨"FirstReader", "unknownFor", "(LFirstReader$Pupil;I)I"⟩, 9), (⟨"FirstReader", "lessonToTakeAgain", "(LFirstReader$Pupil;)I"⟩, 9), (⟨"FirstReader", "pageToRead", "(LFirstReader$Pupil;I)I"⟩, 9), (⟨"FirstReader", "lessonToTake", "(LFirstReader$Pupil;)I"⟩, 9), (⟨"FirstReaderModel", "beginPupils", "()V"⟩, 55), (⟨"FirstReaderModel", "here", "()I"⟩, 55), (⟨"FirstReaderModel", "takeClause", "()I"⟩, 55), (⟨"FirstReaderModel", "readWord", "()V"⟩, 55), (⟨"FirstReaderModel", "fails", "(II)I"⟩, 55), (⟨"FirstReaderModel", "takeSign", "(I)I"⟩, 55), (⟨"FirstReaderModel", "takeNumber", "(I)I"⟩, 55), (⟨"FirstReaderModel", "takeWord", "(I)I"⟩, 55), (⟨"FirstReaderModel", "wordOf", "(II)I"⟩, 55), (⟨"FirstReaderModel", "takeLesson", "(I)I"⟩, 55)]
theorem lw_r3 : ∀ q ∈ lw_privs_3, lw_okq q := List.forall_mem_cons.mpr ⟨lw_p32, List.forall_mem_cons.mpr ⟨lw_p33, List.forall_mem_cons.mpr ⟨lw_p34, List.forall_mem_cons.mpr ⟨lw_p35, List.forall_mem_cons.mpr ⟨lw_p36, List.forall_mem_cons.mpr ⟨lw_p37, List.forall_mem_cons.mpr ⟨lw_p38, List.forall_mem_cons.mpr ⟨lw_p39, List.forall_mem_cons.mpr ⟨lw_p40, List.forall_mem_cons.mpr ⟨lw_p41, List.forall_mem_cons.mpr ⟨lw_p42, List.forall_mem_cons.mpr ⟨lw_p43, List.forall_mem_cons.mpr ⟨lw_p44, List.forall_mem_cons.mpr ⟨lw_p45, List.forall_mem_cons.mpr ⟨lw_p46, List.forall_mem_cons.mpr ⟨lw_p47, fun _ h => absurd h List.not_mem_nil⟩⟩⟩⟩⟩⟩⟩⟩⟩⟩⟩⟩⟩⟩⟩⟩
theorem lw_p48 : lw_okq (⟨"FirstReaderModel", "takeList", "(I)I"⟩, 55) := ⟨⟨by decide +kernel, by decide +kernel⟩, List.mem_of_getElem? (i := 960) (by decide +kernel), List.mem_of_getElem? (i := 1202) (by decide +kernel), List.mem_of_getElem? (i := 1203) (by decide +kernel)⟩
theorem lw_p49 : lw_okq (⟨"FirstReaderModel", "takePage", "(I)I"⟩, 55) := ⟨⟨by decide +kernel, by decide +kernel⟩, List.mem_of_getElem? (i := 960) (by decide +kernel), List.mem_of_getElem? (i := 1209) (by decide +kernel), List.mem_of_getElem? (i := 1210) (by decide +kernel)⟩
theorem lw_p50 : lw_okq (⟨"FirstReaderModel", "keepPrimer", "()V"⟩, 55) := ⟨⟨by decide +kernel, by decide +kernel⟩, List.mem_of_getElem? (i := 960) (by decide +kernel), List.mem_of_getElem? (i := 1213) (by decide +kernel), List.mem_of_getElem? (i := 1214) (by decide +kernel)⟩
theorem lw_p51 : lw_okq (⟨"FirstReaderModel", "isSign", "(I)Z"⟩, 55) := ⟨⟨by decide +kernel, by decide +kernel⟩, List.mem_of_getElem? (i := 960) (by decide +kernel), List.mem_of_getElem? (i := 1225) (by decide +kernel), List.mem_of_getElem? (i := 1226) (by decide +kernel)⟩
theorem lw_p52 : lw_okq (⟨"FirstReaderModel", "isWord", "(I)Z"⟩, 55) := ⟨⟨by decide +kernel, by decide +kernel⟩, List.mem_of_getElem? (i := 960) (by decide +kernel), List.mem_of_getElem? (i := 1235) (by decide +kernel), List.mem_of_getElem? (i := 1236) (by decide +kernel)⟩
theorem lw_p53 : lw_okq (⟨"FirstReaderModel", "isLesson", "(I)Z"⟩, 55) := ⟨⟨by decide +kernel, by decide +kernel⟩, List.mem_of_getElem? (i := 960) (by decide +kernel), List.mem_of_getElem? (i := 1247) (by decide +kernel), List.mem_of_getElem? (i := 1248) (by decide +kernel)⟩
theorem lw_p54 : lw_okq (⟨"FirstReaderModel", "isPage", "(I)Z"⟩, 55) := ⟨⟨by decide +kernel, by decide +kernel⟩, List.mem_of_getElem? (i := 960) (by decide +kernel), List.mem_of_getElem? (i := 1255) (by decide +kernel), List.mem_of_getElem? (i := 1256) (by decide +kernel)⟩
theorem lw_p55 : lw_okq (⟨"FirstReaderModel", "isFit", "(III)Z"⟩, 55) := ⟨⟨by decide +kernel, by decide +kernel⟩, List.mem_of_getElem? (i := 960) (by decide +kernel), List.mem_of_getElem? (i := 1268) (by decide +kernel), List.mem_of_getElem? (i := 1269) (by decide +kernel)⟩
theorem lw_p56 : lw_okq (⟨"FirstReaderModel", "areSigns", "(I)Z"⟩, 55) := ⟨⟨by decide +kernel, by decide +kernel⟩, List.mem_of_getElem? (i := 960) (by decide +kernel), List.mem_of_getElem? (i := 1276) (by decide +kernel), List.mem_of_getElem? (i := 1277) (by decide +kernel)⟩
theorem lw_p57 : lw_okq (⟨"FirstReaderModel", "findWays", "(II)J"⟩, 55) := ⟨⟨by decide +kernel, by decide +kernel⟩, List.mem_of_getElem? (i := 960) (by decide +kernel), List.mem_of_getElem? (i := 1280) (by decide +kernel), List.mem_of_getElem? (i := 1281) (by decide +kernel)⟩
theorem lw_p58 : lw_okq (⟨"FirstReaderModel", "leads", "(IIIII)I"⟩, 55) := ⟨⟨by decide +kernel, by decide +kernel⟩, List.mem_of_getElem? (i := 960) (by decide +kernel), List.mem_of_getElem? (i := 1284) (by decide +kernel), List.mem_of_getElem? (i := 1285) (by decide +kernel)⟩
theorem lw_p59 : lw_okq (⟨"FirstReaderModel", "speak", "(II)V"⟩, 55) := ⟨⟨by decide +kernel, by decide +kernel⟩, List.mem_of_getElem? (i := 960) (by decide +kernel), List.mem_of_getElem? (i := 1297) (by decide +kernel), List.mem_of_getElem? (i := 1298) (by decide +kernel)⟩
theorem lw_p60 : lw_okq (⟨"FirstReaderModel", "outAt", "(I)I"⟩, 55) := ⟨⟨by decide +kernel, by decide +kernel⟩, List.mem_of_getElem? (i := 960) (by decide +kernel), List.mem_of_getElem? (i := 1301) (by decide +kernel), List.mem_of_getElem? (i := 1302) (by decide +kernel)⟩
theorem lw_p61 : lw_okq (⟨"FirstReaderModel", "isRight", "(II)Z"⟩, 55) := ⟨⟨by decide +kernel, by decide +kernel⟩, List.mem_of_getElem? (i := 960) (by decide +kernel), List.mem_of_getElem? (i := 1309) (by decide +kernel), List.mem_of_getElem? (i := 1310) (by decide +kernel)⟩
theorem lw_p62 : lw_okq (⟨"FirstReaderModel", "areSounds", "(I)Z"⟩, 55) := ⟨⟨by decide +kernel, by decide +kernel⟩, List.mem_of_getElem? (i := 960) (by decide +kernel), List.mem_of_getElem? (i := 1313) (by decide +kernel), List.mem_of_getElem? (i := 1314) (by decide +kernel)⟩
theorem lw_p63 : lw_okq (⟨"FirstReaderModel", "isWell", "(II)Z"⟩, 55) := ⟨⟨by decide +kernel, by decide +kernel⟩, List.mem_of_getElem? (i := 960) (by decide +kernel), List.mem_of_getElem? (i := 1317) (by decide +kernel), List.mem_of_getElem? (i := 1318) (by decide +kernel)⟩
def lw_privs_4 : List (MethodName × Nat) := [(⟨"FirstReaderModel", "takeList", "(I)I"⟩, 55), (⟨"FirstReaderModel", "takePage", "(I)I"⟩, 55), (⟨"FirstReaderModel", "keepPrimer", "()V"⟩, 55), (⟨"FirstReaderModel", "isSign", "(I)Z"⟩, 55), (⟨"FirstReaderModel", "isWord", "(I)Z"⟩, 55), (⟨"FirstReaderModel", "isLesson", "(I)Z"⟩, 55), (⟨"FirstReaderModel", "isPage", "(I)Z"⟩, 55), (⟨"FirstReaderModel", "isFit", "(III)Z"⟩, 55), (⟨"FirstReaderModel", "areSigns", "(I)Z"⟩, 55), (⟨"FirstReaderModel", "findWays", "(II)J"⟩, 55), (⟨"FirstReaderModel", "leads", "(IIIII)I"⟩, 55), (⟨"FirstReaderModel", "speak", "(II)V"⟩, 55), (⟨"FirstReaderModel", "outAt", "(I)I"⟩, 55), (⟨"FirstReaderModel", "isRight", "(II)Z"⟩, 55), (⟨"FirstReaderModel", "areSounds", "(I)Z"⟩, 55), (⟨"FirstReaderModel", "isWell", "(II)Z"⟩, 55)]
theorem lw_r4 : ∀ q ∈ lw_privs_4, lw_okq q := List.forall_mem_cons.mpr ⟨lw_p48, List.forall_mem_cons.mpr ⟨lw_p49, List.forall_mem_cons.mpr ⟨lw_p50, List.forall_mem_cons.mpr ⟨lw_p51, List.forall_mem_cons.mpr ⟨lw_p52, List.forall_mem_cons.mpr ⟨lw_p53, List.forall_mem_cons.mpr ⟨lw_p54, List.forall_mem_cons.mpr ⟨lw_p55, List.forall_mem_cons.mpr ⟨lw_p56, List.forall_mem_cons.mpr ⟨lw_p57, List.forall_mem_cons.mpr ⟨lw_p58, List.forall_mem_cons.mpr ⟨lw_p59, List.forall_mem_cons.mpr ⟨lw_p60, List.forall_mem_cons.mpr ⟨lw_p61, List.forall_mem_cons.mpr ⟨lw_p62, List.forall_mem_cons.mpr ⟨lw_p63, fun _ h => absurd h List.not_mem_nil⟩⟩⟩⟩⟩⟩⟩⟩⟩⟩⟩⟩⟩⟩⟩⟩
theorem lw_p64 : lw_okq (⟨"FirstReaderModel", "spell", "(II)V"⟩, 55) := ⟨⟨by decide +kernel, by decide +kernel⟩, List.mem_of_getElem? (i := 960) (by decide +kernel), List.mem_of_getElem? (i := 1321) (by decide +kernel), List.mem_of_getElem? (i := 1322) (by decide +kernel)⟩
theorem lw_p65 : lw_okq (⟨"FirstReaderModel", "areLessons", "(I)Z"⟩, 55) := ⟨⟨by decide +kernel, by decide +kernel⟩, List.mem_of_getElem? (i := 960) (by decide +kernel), List.mem_of_getElem? (i := 1333) (by decide +kernel), List.mem_of_getElem? (i := 1334) (by decide +kernel)⟩
theorem lw_p66 : lw_okq (⟨"FirstReaderModel", "isClosed", "(I)Z"⟩, 55) := ⟨⟨by decide +kernel, by decide +kernel⟩, List.mem_of_getElem? (i := 960) (by decide +kernel), List.mem_of_getElem? (i := 1337) (by decide +kernel), List.mem_of_getElem? (i := 1338) (by decide +kernel)⟩
theorem lw_p67 : lw_okq (⟨"FirstReaderModel", "teach", "(II)I"⟩, 55) := ⟨⟨by decide +kernel, by decide +kernel⟩, List.mem_of_getElem? (i := 960) (by decide +kernel), List.mem_of_getElem? (i := 1341) (by decide +kernel), List.mem_of_getElem? (i := 1342) (by decide +kernel)⟩
theorem lw_p68 : lw_okq (⟨"FirstReaderModel", "readsOf", "(I)I"⟩, 55) := ⟨⟨by decide +kernel, by decide +kernel⟩, List.mem_of_getElem? (i := 960) (by decide +kernel), List.mem_of_getElem? (i := 1349) (by decide +kernel), List.mem_of_getElem? (i := 1350) (by decide +kernel)⟩
theorem lw_p69 : lw_okq (⟨"FirstReaderModel", "findCourses", "(II)V"⟩, 55) := ⟨⟨by decide +kernel, by decide +kernel⟩, List.mem_of_getElem? (i := 960) (by decide +kernel), List.mem_of_getElem? (i := 1376) (by decide +kernel), List.mem_of_getElem? (i := 1377) (by decide +kernel)⟩
theorem lw_p70 : lw_okq (⟨"FirstReaderModel", "stepTo", "(III)I"⟩, 55) := ⟨⟨by decide +kernel, by decide +kernel⟩, List.mem_of_getElem? (i := 960) (by decide +kernel), List.mem_of_getElem? (i := 1380) (by decide +kernel), List.mem_of_getElem? (i := 1381) (by decide +kernel)⟩
theorem lw_p71 : lw_okq (⟨"FirstReaderModel", "met", "(I)I"⟩, 55) := ⟨⟨by decide +kernel, by decide +kernel⟩, List.mem_of_getElem? (i := 960) (by decide +kernel), List.mem_of_getElem? (i := 1384) (by decide +kernel), List.mem_of_getElem? (i := 1385) (by decide +kernel)⟩
theorem lw_p72 : lw_okq (⟨"FirstReaderModel", "behind", "(I)I"⟩, 55) := ⟨⟨by decide +kernel, by decide +kernel⟩, List.mem_of_getElem? (i := 960) (by decide +kernel), List.mem_of_getElem? (i := 1392) (by decide +kernel), List.mem_of_getElem? (i := 1393) (by decide +kernel)⟩
theorem lw_p73 : lw_okq (⟨"FirstReaderModel", "lacking", "(II)I"⟩, 55) := ⟨⟨by decide +kernel, by decide +kernel⟩, List.mem_of_getElem? (i := 960) (by decide +kernel), List.mem_of_getElem? (i := 1408) (by decide +kernel), List.mem_of_getElem? (i := 1409) (by decide +kernel)⟩
theorem lw_p74 : lw_okq (⟨"FirstReaderModel", "heldSigns", "(I)I"⟩, 55) := ⟨⟨by decide +kernel, by decide +kernel⟩, List.mem_of_getElem? (i := 960) (by decide +kernel), List.mem_of_getElem? (i := 1412) (by decide +kernel), List.mem_of_getElem? (i := 1413) (by decide +kernel)⟩
theorem lw_p75 : lw_okq (⟨"FirstReaderModel", "isHeld", "(II)Z"⟩, 55) := ⟨⟨by decide +kernel, by decide +kernel⟩, List.mem_of_getElem? (i := 960) (by decide +kernel), List.mem_of_getElem? (i := 1416) (by decide +kernel), List.mem_of_getElem? (i := 1417) (by decide +kernel)⟩
theorem lw_p76 : lw_okq (⟨"FirstReaderModel", "heldWords", "(I)I"⟩, 55) := ⟨⟨by decide +kernel, by decide +kernel⟩, List.mem_of_getElem? (i := 960) (by decide +kernel), List.mem_of_getElem? (i := 1420) (by decide +kernel), List.mem_of_getElem? (i := 1421) (by decide +kernel)⟩
theorem lw_p77 : lw_okq (⟨"FirstReaderModel", "useAll", "(III)V"⟩, 55) := ⟨⟨by decide +kernel, by decide +kernel⟩, List.mem_of_getElem? (i := 960) (by decide +kernel), List.mem_of_getElem? (i := 1424) (by decide +kernel), List.mem_of_getElem? (i := 1425) (by decide +kernel)⟩
theorem lw_p78 : lw_okq (⟨"FirstReaderModel", "use", "(II)V"⟩, 55) := ⟨⟨by decide +kernel, by decide +kernel⟩, List.mem_of_getElem? (i := 960) (by decide +kernel), List.mem_of_getElem? (i := 1428) (by decide +kernel), List.mem_of_getElem? (i := 1429) (by decide +kernel)⟩
theorem lw_p79 : lw_okq (⟨"FirstReaderModel", "meetsOf", "(II)I"⟩, 55) := ⟨⟨by decide +kernel, by decide +kernel⟩, List.mem_of_getElem? (i := 960) (by decide +kernel), List.mem_of_getElem? (i := 1436) (by decide +kernel), List.mem_of_getElem? (i := 1437) (by decide +kernel)⟩
def lw_privs_5 : List (MethodName × Nat) := [(⟨"FirstReaderModel", "spell", "(II)V"⟩, 55), (⟨"FirstReaderModel", "areLessons", "(I)Z"⟩, 55), (⟨"FirstReaderModel", "isClosed", "(I)Z"⟩, 55), (⟨"FirstReaderModel", "teach", "(II)I"⟩, 55), (⟨"FirstReaderModel", "readsOf", "(I)I"⟩, 55), (⟨"FirstReaderModel", "findCourses", "(II)V"⟩, 55), (⟨"FirstReaderModel", "stepTo", "(III)I"⟩, 55), (⟨"FirstReaderModel", "met", "(I)I"⟩, 55), (⟨"FirstReaderModel", "behind", "(I)I"⟩, 55), (⟨"FirstReaderModel", "lacking", "(II)I"⟩, 55), (⟨"FirstReaderModel", "heldSigns", "(I)I"⟩, 55), (⟨"FirstReaderModel", "isHeld", "(II)Z"⟩, 55), (⟨"FirstReaderModel", "heldWords", "(I)I"⟩, 55), (⟨"FirstReaderModel", "useAll", "(III)V"⟩, 55), (⟨"FirstReaderModel", "use", "(II)V"⟩, 55), (⟨"FirstReaderModel", "meetsOf", "(II)I"⟩, 55)]
theorem lw_r5 : ∀ q ∈ lw_privs_5, lw_okq q := List.forall_mem_cons.mpr ⟨lw_p64, List.forall_mem_cons.mpr ⟨lw_p65, List.forall_mem_cons.mpr ⟨lw_p66, List.forall_mem_cons.mpr ⟨lw_p67, List.forall_mem_cons.mpr ⟨lw_p68, List.forall_mem_cons.mpr ⟨lw_p69, List.forall_mem_cons.mpr ⟨lw_p70, List.forall_mem_cons.mpr ⟨lw_p71, List.forall_mem_cons.mpr ⟨lw_p72, List.forall_mem_cons.mpr ⟨lw_p73, List.forall_mem_cons.mpr ⟨lw_p74, List.forall_mem_cons.mpr ⟨lw_p75, List.forall_mem_cons.mpr ⟨lw_p76, List.forall_mem_cons.mpr ⟨lw_p77, List.forall_mem_cons.mpr ⟨lw_p78, List.forall_mem_cons.mpr ⟨lw_p79, fun _ h => absurd h List.not_mem_nil⟩⟩⟩⟩⟩⟩⟩⟩⟩⟩⟩⟩⟩⟩⟩⟩
def lw_privs : List (MethodName × Nat) := lw_privs_1 ++ (lw_privs_2 ++ (lw_privs_3 ++ (lw_privs_4 ++ (lw_privs_5))))
def lw_tbl : List Cond := k2_sels lw_privs ++ tables_1
theorem lw_privs_ok : ∀ q ∈ lw_privs, lw_okq q := by
  show ∀ q ∈ lw_privs_1 ++ (lw_privs_2 ++ (lw_privs_3 ++ (lw_privs_4 ++ (lw_privs_5)))), lw_okq q
  exact List.forall_mem_append.mpr ⟨lw_r1, List.forall_mem_append.mpr ⟨lw_r2, List.forall_mem_append.mpr ⟨lw_r3, List.forall_mem_append.mpr ⟨lw_r4, lw_r5⟩⟩⟩⟩
end
section
def RX0 : String := "FirstReader$Course"
def TX0 : u_T := fun k => match k with
  | 0 => ("FirstReader$Course", "states", "[I", true)
  | 1 => ("FirstReader$Course", "cameFrom", "[I", true)
  | 2 => ("FirstReader$Course", "seen", "[J", true)
  | 3 => ("FirstReader$Course", "stateCount", "I", false)
  | 4 => ("FirstReader$Course", "told", "LFirstReader$Primer;", false)
  | 5 => ("FirstReader$Course", "page", "I", false)
  | 6 => ("FirstReader$Course", "mostUnknown", "I", false)
  | 7 => ("FirstReader$Course", "lastState", "I", false)
  | 8 => ("FirstReader$Course", "steps", "[I", true)
  | _ => ("FirstReader$Course", "length", "I", false)
def tyX0 : Nat → FieldType := fun k => match k with
  | 0 => .array .int
  | 1 => .array .int
  | 2 => .array .long
  | 3 => .int
  | 4 => .object "FirstReader$Primer"
  | 5 => .int
  | 6 => .int
  | 7 => .int
  | 8 => .array .int
  | _ => .int
theorem nmX0 : ∀ a, a < 10 → ∀ b, b < 10 → a ≠ b → (TX0 a).2.1 ≠ (TX0 b).2.1 := by decide +kernel
theorem tyX0_ok : ∀ k, k < 10 → parseFieldDescriptor (TX0 k).2.2.1 = some (tyX0 k) := by decide +kernel
abbrev cX0_init : ByteArray := prog_2_method_1_code
def yX0_init : MethodName := ⟨RX0, "<init>", "()V"⟩
abbrev cX0_forget : ByteArray := prog_2_method_2_code
def yX0_forget : MethodName := ⟨RX0, "forget", "()V"⟩
abbrev cX0_find : ByteArray := prog_2_method_3_code
def yX0_find : MethodName := ⟨RX0, "find", "(LFirstReader$Primer;II)V"⟩
abbrev cX0_goOnFrom : ByteArray := prog_2_method_4_code
def yX0_goOnFrom : MethodName := ⟨RX0, "goOnFrom", "(I)V"⟩
abbrev cX0_isNew : ByteArray := prog_2_method_5_code
def yX0_isNew : MethodName := ⟨RX0, "isNew", "(I)Z"⟩
abbrev cX0_arrive : ByteArray := prog_2_method_6_code
def yX0_arrive : MethodName := ⟨RX0, "arrive", "(III)V"⟩
abbrev cX0_writeSteps : ByteArray := prog_2_method_7_code
def yX0_writeSteps : MethodName := ⟨RX0, "writeSteps", "()V"⟩
abbrev cX0_stepOf : ByteArray := prog_2_method_8_code
def yX0_stepOf : MethodName := ⟨RX0, "stepOf", "(I)I"⟩
abbrev cX0_lessonsIn : ByteArray := prog_2_method_9_code
def yX0_lessonsIn : MethodName := ⟨RX0, "lessonsIn", "(I)I"⟩
abbrev cX0_metIn : ByteArray := prog_2_method_10_code
def yX0_metIn : MethodName := ⟨RX0, "metIn", "(I)I"⟩
def RX1 : String := "FirstReader$Cuts"
def TX1 : u_T := fun k => match k with
  | 0 => ("FirstReader$Cuts", "ways", "[J", true)
  | 1 => ("FirstReader$Cuts", "first", "[I", true)
  | _ => ("FirstReader$Cuts", "length", "I", false)
def tyX1 : Nat → FieldType := fun k => match k with
  | 0 => .array .long
  | 1 => .array .int
  | _ => .int
theorem nmX1 : ∀ a, a < 3 → ∀ b, b < 3 → a ≠ b → (TX1 a).2.1 ≠ (TX1 b).2.1 := by decide +kernel
theorem tyX1_ok : ∀ k, k < 3 → parseFieldDescriptor (TX1 k).2.2.1 = some (tyX1 k) := by decide +kernel
abbrev cX1_init : ByteArray := prog_3_method_1_code
def yX1_init : MethodName := ⟨RX1, "<init>", "()V"⟩
abbrev cX1_inAll : ByteArray := prog_3_method_2_code
def yX1_inAll : MethodName := ⟨RX1, "inAll", "()J"⟩
abbrev cX1_countWays : ByteArray := prog_3_method_3_code
def yX1_countWays : MethodName := ⟨RX1, "countWays", "(LFirstReader$Primer;LFirstReader$Word;I)V"⟩
abbrev cX1_waysBehind : ByteArray := prog_3_method_4_code
def yX1_waysBehind : MethodName := ⟨RX1, "waysBehind", "(LFirstReader$Sign;LFirstReader$Word;II)J"⟩
abbrev cX1_findFirst : ByteArray := prog_3_method_5_code
def yX1_findFirst : MethodName := ⟨RX1, "findFirst", "(LFirstReader$Primer;LFirstReader$Word;I)V"⟩
abbrev cX1_firstThatGoesOn : ByteArray := prog_3_method_6_code
def yX1_firstThatGoesOn : MethodName := ⟨RX1, "firstThatGoesOn", "(LFirstReader$Primer;LFirstReader$Word;III)I"⟩
def RX2 : String := "FirstReader$Memory"
def TX2 : u_T := fun k => match k with
  | 0 => ("FirstReader$Memory", "spans", "[I", true)
  | _ => ("FirstReader$Memory", "lastDays", "[I", true)
def tyX2 : Nat → FieldType := fun k => match k with
  | 0 => .array .int
  | _ => .array .int
theorem nmX2 : ∀ a, a < 2 → ∀ b, b < 2 → a ≠ b → (TX2 a).2.1 ≠ (TX2 b).2.1 := by decide +kernel
theorem tyX2_ok : ∀ k, k < 2 → parseFieldDescriptor (TX2 k).2.2.1 = some (tyX2 k) := by decide +kernel
abbrev cX2_init : ByteArray := prog_4_method_1_code
def yX2_init : MethodName := ⟨RX2, "<init>", "(I)V"⟩
abbrev cX2_clear : ByteArray := prog_4_method_2_code
def yX2_clear : MethodName := ⟨RX2, "clear", "()V"⟩
abbrev cX2_becomeLike : ByteArray := prog_4_method_3_code
def yX2_becomeLike : MethodName := ⟨RX2, "becomeLike", "(LFirstReader$Memory;)V"⟩
abbrev cX2_heldOn : ByteArray := prog_4_method_4_code
def yX2_heldOn : MethodName := ⟨RX2, "heldOn", "(I)I"⟩
abbrev cX2_use : ByteArray := prog_4_method_5_code
def yX2_use : MethodName := ⟨RX2, "use", "(III)V"⟩
def RX3 : String := "FirstReader$Parser"
def TX3 : u_T := fun k => match k with
  | 0 => ("FirstReader$Parser", "text", "[B", true)
  | 1 => ("FirstReader$Parser", "length", "I", false)
  | 2 => ("FirstReader$Parser", "at", "I", false)
  | 3 => ("FirstReader$Parser", "numberAt", "I", false)
  | 4 => ("FirstReader$Parser", "draft", "LFirstReader$Primer;", false)
  | 5 => ("FirstReader$Parser", "clauses", "I", false)
  | 6 => ("FirstReader$Parser", "fault", "I", false)
  | _ => ("FirstReader$Parser", "faultAt", "I", false)
def tyX3 : Nat → FieldType := fun k => match k with
  | 0 => .array .byte
  | 1 => .int
  | 2 => .int
  | 3 => .int
  | 4 => .object "FirstReader$Primer"
  | 5 => .int
  | 6 => .int
  | _ => .int
theorem nmX3 : ∀ a, a < 8 → ∀ b, b < 8 → a ≠ b → (TX3 a).2.1 ≠ (TX3 b).2.1 := by decide +kernel
theorem tyX3_ok : ∀ k, k < 8 → parseFieldDescriptor (TX3 k).2.2.1 = some (tyX3 k) := by decide +kernel
abbrev cX3_init : ByteArray := prog_5_method_1_code
def yX3_init : MethodName := ⟨RX3, "<init>", "()V"⟩
abbrev cX3_append : ByteArray := prog_5_method_2_code
def yX3_append : MethodName := ⟨RX3, "append", "(B)V"⟩
abbrev cX3_parse : ByteArray := prog_5_method_3_code
def yX3_parse : MethodName := ⟨RX3, "parse", "(LFirstReader$Primer;)V"⟩
abbrev cX3_parseClause : ByteArray := prog_5_method_4_code
def yX3_parseClause : MethodName := ⟨RX3, "parseClause", "()V"⟩
abbrev cX3_parseSign : ByteArray := prog_5_method_5_code
def yX3_parseSign : MethodName := ⟨RX3, "parseSign", "(I)V"⟩
abbrev cX3_parseWord : ByteArray := prog_5_method_6_code
def yX3_parseWord : MethodName := ⟨RX3, "parseWord", "(I)V"⟩
abbrev cX3_parseSound : ByteArray := prog_5_method_7_code
def yX3_parseSound : MethodName := ⟨RX3, "parseSound", "(LFirstReader$Word;)V"⟩
abbrev cX3_parseLesson : ByteArray := prog_5_method_8_code
def yX3_parseLesson : MethodName := ⟨RX3, "parseLesson", "(I)V"⟩
abbrev cX3_parsePage : ByteArray := prog_5_method_9_code
def yX3_parsePage : MethodName := ⟨RX3, "parsePage", "(I)V"⟩
abbrev cX3_parsePageWord : ByteArray := prog_5_method_10_code
def yX3_parsePageWord : MethodName := ⟨RX3, "parsePageWord", "(I)V"⟩
abbrev cX3_parseList : ByteArray := prog_5_method_11_code
def yX3_parseList : MethodName := ⟨RX3, "parseList", "(I)I"⟩
abbrev cX3_parseNumber : ByteArray := prog_5_method_12_code
def yX3_parseNumber : MethodName := ⟨RX3, "parseNumber", "(I)I"⟩
abbrev cX3_parseLetters : ByteArray := prog_5_method_13_code
def yX3_parseLetters : MethodName := ⟨RX3, "parseLetters", "([I)I"⟩
abbrev cX3_wordAhead : ByteArray := prog_5_method_14_code
def yX3_wordAhead : MethodName := ⟨RX3, "wordAhead", "()I"⟩
abbrev cX3_acceptsWord : ByteArray := prog_5_method_15_code
def yX3_acceptsWord : MethodName := ⟨RX3, "acceptsWord", "(Ljava/lang/String;)Z"⟩
abbrev cX3_accepts : ByteArray := prog_5_method_16_code
def yX3_accepts : MethodName := ⟨RX3, "accepts", "(I)Z"⟩
abbrev cX3_lettersEnd : ByteArray := prog_5_method_17_code
def yX3_lettersEnd : MethodName := ⟨RX3, "lettersEnd", "()I"⟩
abbrev cX3_skipBlanks : ByteArray := prog_5_method_18_code
def yX3_skipBlanks : MethodName := ⟨RX3, "skipBlanks", "()V"⟩
abbrev cX3_look : ByteArray := prog_5_method_19_code
def yX3_look : MethodName := ⟨RX3, "look", "()I"⟩
abbrev cX3_isLetter : ByteArray := prog_5_method_20_code
def yX3_isLetter : MethodName := ⟨RX3, "isLetter", "(I)Z"⟩
abbrev cX3_isFigure : ByteArray := prog_5_method_21_code
def yX3_isFigure : MethodName := ⟨RX3, "isFigure", "(I)Z"⟩
abbrev cX3_fail : ByteArray := prog_5_method_22_code
def yX3_fail : MethodName := ⟨RX3, "fail", "(II)V"⟩
def RX4 : String := "FirstReader$Primer"
def TX4 : u_T := fun k => match k with
  | 0 => ("FirstReader$Primer", "signs", "[LFirstReader$Sign;", true)
  | 1 => ("FirstReader$Primer", "signCount", "I", false)
  | 2 => ("FirstReader$Primer", "words", "[LFirstReader$Word;", true)
  | 3 => ("FirstReader$Primer", "wordCount", "I", false)
  | 4 => ("FirstReader$Primer", "lessonAfter", "[I", true)
  | 5 => ("FirstReader$Primer", "lessonSigns", "[I", true)
  | 6 => ("FirstReader$Primer", "lessonSight", "[I", true)
  | 7 => ("FirstReader$Primer", "lessonCount", "I", false)
  | 8 => ("FirstReader$Primer", "pageWords", "[[I", true)
  | 9 => ("FirstReader$Primer", "pageLength", "[I", true)
  | 10 => ("FirstReader$Primer", "pageSet", "[I", true)
  | 11 => ("FirstReader$Primer", "pageCount", "I", false)
  | 12 => ("FirstReader$Primer", "speech", "LFirstReader$Speech;", true)
  | _ => ("FirstReader$Primer", "readBySet", "[I", true)
def tyX4 : Nat → FieldType := fun k => match k with
  | 0 => .array (.object "FirstReader$Sign")
  | 1 => .int
  | 2 => .array (.object "FirstReader$Word")
  | 3 => .int
  | 4 => .array .int
  | 5 => .array .int
  | 6 => .array .int
  | 7 => .int
  | 8 => .array (.array .int)
  | 9 => .array .int
  | 10 => .array .int
  | 11 => .int
  | 12 => .object "FirstReader$Speech"
  | _ => .array .int
theorem nmX4 : ∀ a, a < 14 → ∀ b, b < 14 → a ≠ b → (TX4 a).2.1 ≠ (TX4 b).2.1 := by decide +kernel
theorem tyX4_ok : ∀ k, k < 14 → parseFieldDescriptor (TX4 k).2.2.1 = some (tyX4 k) := by decide +kernel
abbrev cX4_init : ByteArray := prog_6_method_1_code
def yX4_init : MethodName := ⟨RX4, "<init>", "()V"⟩
abbrev cX4_clear : ByteArray := prog_6_method_2_code
def yX4_clear : MethodName := ⟨RX4, "clear", "()V"⟩
abbrev cX4_settle : ByteArray := prog_6_method_3_code
def yX4_settle : MethodName := ⟨RX4, "settle", "()V"⟩
abbrev cX4_signsStandingAt : ByteArray := prog_6_method_4_code
def yX4_signsStandingAt : MethodName := ⟨RX4, "signsStandingAt", "(LFirstReader$Word;I)I"⟩
abbrev cX4_allLessons : ByteArray := prog_6_method_5_code
def yX4_allLessons : MethodName := ⟨RX4, "allLessons", "()I"⟩
abbrev cX4_mayFollow : ByteArray := prog_6_method_6_code
def yX4_mayFollow : MethodName := ⟨RX4, "mayFollow", "(II)Z"⟩
abbrev cX4_isClosed : ByteArray := prog_6_method_7_code
def yX4_isClosed : MethodName := ⟨RX4, "isClosed", "(I)Z"⟩
abbrev cX4_withAllBehind : ByteArray := prog_6_method_8_code
def yX4_withAllBehind : MethodName := ⟨RX4, "withAllBehind", "(I)I"⟩
abbrev cX4_signsOf : ByteArray := prog_6_method_9_code
def yX4_signsOf : MethodName := ⟨RX4, "signsOf", "(I)I"⟩
abbrev cX4_unionOf : ByteArray := prog_6_method_10_code
def yX4_unionOf : MethodName := ⟨RX4, "unionOf", "([II)I"⟩
abbrev cX4_readBy : ByteArray := prog_6_method_11_code
def yX4_readBy : MethodName := ⟨RX4, "readBy", "(I)I"⟩
abbrev cX4_readAmong : ByteArray := prog_6_method_12_code
def yX4_readAmong : MethodName := ⟨RX4, "readAmong", "(III)I"⟩
abbrev cX4_unknownOn : ByteArray := prog_6_method_13_code
def yX4_unknownOn : MethodName := ⟨RX4, "unknownOn", "(II)I"⟩
abbrev cX4_takenFor : ByteArray := prog_6_method_14_code
def yX4_takenFor : MethodName := ⟨RX4, "takenFor", "(LFirstReader$Word;I)I"⟩
def RX5 : String := "FirstReader$Pupil"
def TX5 : u_T := fun k => match k with
  | 0 => ("FirstReader$Pupil", "day", "I", false)
  | 1 => ("FirstReader$Pupil", "lessons", "I", false)
  | 2 => ("FirstReader$Pupil", "signs", "LFirstReader$Memory;", true)
  | _ => ("FirstReader$Pupil", "words", "LFirstReader$Memory;", true)
def tyX5 : Nat → FieldType := fun k => match k with
  | 0 => .int
  | 1 => .int
  | 2 => .object "FirstReader$Memory"
  | _ => .object "FirstReader$Memory"
theorem nmX5 : ∀ a, a < 4 → ∀ b, b < 4 → a ≠ b → (TX5 a).2.1 ≠ (TX5 b).2.1 := by decide +kernel
theorem tyX5_ok : ∀ k, k < 4 → parseFieldDescriptor (TX5 k).2.2.1 = some (tyX5 k) := by decide +kernel
abbrev cX5_init : ByteArray := prog_7_method_1_code
def yX5_init : MethodName := ⟨RX5, "<init>", "()V"⟩
abbrev cX5_heldSigns : ByteArray := prog_7_method_2_code
def yX5_heldSigns : MethodName := ⟨RX5, "heldSigns", "()I"⟩
abbrev cX5_heldWords : ByteArray := prog_7_method_3_code
def yX5_heldWords : MethodName := ⟨RX5, "heldWords", "()I"⟩
abbrev cX5_beginAnew : ByteArray := prog_7_method_4_code
def yX5_beginAnew : MethodName := ⟨RX5, "beginAnew", "()V"⟩
abbrev cX5_becomeLike : ByteArray := prog_7_method_5_code
def yX5_becomeLike : MethodName := ⟨RX5, "becomeLike", "(LFirstReader$Pupil;)V"⟩
def RX6 : String := "FirstReader$School"
def TX6 : u_T := fun k => match k with
  | 0 => ("FirstReader$School", "pupils", "[LFirstReader$Pupil;", true)
  | _ => ("FirstReader$School", "base", "I", false)
def tyX6 : Nat → FieldType := fun k => match k with
  | 0 => .array (.object "FirstReader$Pupil")
  | _ => .int
theorem nmX6 : ∀ a, a < 2 → ∀ b, b < 2 → a ≠ b → (TX6 a).2.1 ≠ (TX6 b).2.1 := by decide +kernel
theorem tyX6_ok : ∀ k, k < 2 → parseFieldDescriptor (TX6 k).2.2.1 = some (tyX6 k) := by decide +kernel
abbrev cX6_init : ByteArray := prog_8_method_1_code
def yX6_init : MethodName := ⟨RX6, "<init>", "()V"⟩
abbrev cX6_beginAnew : ByteArray := prog_8_method_2_code
def yX6_beginAnew : MethodName := ⟨RX6, "beginAnew", "()V"⟩
abbrev cX6_becomeLike : ByteArray := prog_8_method_3_code
def yX6_becomeLike : MethodName := ⟨RX6, "becomeLike", "(LFirstReader$School;)V"⟩
def RX7 : String := "FirstReader$Sign"
def TX7 : u_T := fun k => match k with
  | 0 => ("FirstReader$Sign", "letters", "[I", true)
  | 1 => ("FirstReader$Sign", "length", "I", false)
  | 2 => ("FirstReader$Sign", "sound", "I", false)
  | _ => ("FirstReader$Sign", "place", "I", false)
def tyX7 : Nat → FieldType := fun k => match k with
  | 0 => .array .int
  | 1 => .int
  | 2 => .int
  | _ => .int
theorem nmX7 : ∀ a, a < 4 → ∀ b, b < 4 → a ≠ b → (TX7 a).2.1 ≠ (TX7 b).2.1 := by decide +kernel
theorem tyX7_ok : ∀ k, k < 4 → parseFieldDescriptor (TX7 k).2.2.1 = some (tyX7 k) := by decide +kernel
abbrev cX7_init : ByteArray := prog_9_method_1_code
def yX7_init : MethodName := ⟨RX7, "<init>", "()V"⟩
abbrev cX7_standsAt : ByteArray := prog_9_method_2_code
def yX7_standsAt : MethodName := ⟨RX7, "standsAt", "(LFirstReader$Word;I)Z"⟩
def RX8 : String := "FirstReader$Speech"
def TX8 : u_T := fun k => match k with
  | 0 => ("FirstReader$Speech", "sounds", "[I", true)
  | 1 => ("FirstReader$Speech", "count", "I", false)
  | 2 => ("FirstReader$Speech", "signs", "I", false)
  | 3 => ("FirstReader$Speech", "cameToEnd", "Z", false)
  | _ => ("FirstReader$Speech", "isRight", "Z", false)
def tyX8 : Nat → FieldType := fun k => match k with
  | 0 => .array .int
  | 1 => .int
  | 2 => .int
  | 3 => .boolean
  | _ => .boolean
theorem nmX8 : ∀ a, a < 5 → ∀ b, b < 5 → a ≠ b → (TX8 a).2.1 ≠ (TX8 b).2.1 := by decide +kernel
theorem tyX8_ok : ∀ k, k < 5 → parseFieldDescriptor (TX8 k).2.2.1 = some (tyX8 k) := by decide +kernel
abbrev cX8_init : ByteArray := prog_10_method_1_code
def yX8_init : MethodName := ⟨RX8, "<init>", "()V"⟩
abbrev cX8_say : ByteArray := prog_10_method_2_code
def yX8_say : MethodName := ⟨RX8, "say", "(LFirstReader$Primer;LFirstReader$Word;I)V"⟩
abbrev cX8_longest : ByteArray := prog_10_method_3_code
def yX8_longest : MethodName := ⟨RX8, "longest", "(LFirstReader$Primer;I)I"⟩
def RX9 : String := "FirstReader$Spelling"
def TX9 : u_T := fun k => match k with
  | 0 => ("FirstReader$Spelling", "letters", "[I", true)
  | 1 => ("FirstReader$Spelling", "count", "I", false)
  | _ => ("FirstReader$Spelling", "isWell", "Z", false)
def tyX9 : Nat → FieldType := fun k => match k with
  | 0 => .array .int
  | 1 => .int
  | _ => .boolean
theorem nmX9 : ∀ a, a < 3 → ∀ b, b < 3 → a ≠ b → (TX9 a).2.1 ≠ (TX9 b).2.1 := by decide +kernel
theorem tyX9_ok : ∀ k, k < 3 → parseFieldDescriptor (TX9 k).2.2.1 = some (tyX9 k) := by decide +kernel
abbrev cX9_init : ByteArray := prog_11_method_1_code
def yX9_init : MethodName := ⟨RX9, "<init>", "()V"⟩
abbrev cX9_spell : ByteArray := prog_11_method_2_code
def yX9_spell : MethodName := ⟨RX9, "spell", "(LFirstReader$Primer;LFirstReader$Word;I)V"⟩
abbrev cX9_firstFor : ByteArray := prog_11_method_3_code
def yX9_firstFor : MethodName := ⟨RX9, "firstFor", "(LFirstReader$Primer;LFirstReader$Word;II)I"⟩
abbrev cX9_append : ByteArray := prog_11_method_4_code
def yX9_append : MethodName := ⟨RX9, "append", "(LFirstReader$Sign;)V"⟩
def RX10 : String := "FirstReader$Word"
def TX10 : u_T := fun k => match k with
  | 0 => ("FirstReader$Word", "letters", "[I", true)
  | 1 => ("FirstReader$Word", "length", "I", false)
  | 2 => ("FirstReader$Word", "sounds", "[I", true)
  | 3 => ("FirstReader$Word", "soundCount", "I", false)
  | _ => ("FirstReader$Word", "fitting", "[I", true)
def tyX10 : Nat → FieldType := fun k => match k with
  | 0 => .array .int
  | 1 => .int
  | 2 => .array .int
  | 3 => .int
  | _ => .array .int
theorem nmX10 : ∀ a, a < 5 → ∀ b, b < 5 → a ≠ b → (TX10 a).2.1 ≠ (TX10 b).2.1 := by decide +kernel
theorem tyX10_ok : ∀ k, k < 5 → parseFieldDescriptor (TX10 k).2.2.1 = some (tyX10 k) := by decide +kernel
abbrev cX10_init : ByteArray := prog_12_method_1_code
def yX10_init : MethodName := ⟨RX10, "<init>", "()V"⟩
def RX11 : String := "FirstReader"
def TX11 : u_T := fun k => match k with
  | 0 => ("FirstReader", "parser", "LFirstReader$Parser;", true)
  | 1 => ("FirstReader", "told", "LFirstReader$Primer;", false)
  | 2 => ("FirstReader", "draft", "LFirstReader$Primer;", false)
  | 3 => ("FirstReader", "spelling", "LFirstReader$Spelling;", true)
  | 4 => ("FirstReader", "cuts", "LFirstReader$Cuts;", true)
  | 5 => ("FirstReader", "school", "LFirstReader$School;", true)
  | 6 => ("FirstReader", "images", "[LFirstReader$School;", true)
  | 7 => ("FirstReader", "imagesKept", "I", false)
  | _ => ("FirstReader", "shortest", "LFirstReader$Course;", false)
def tyX11 : Nat → FieldType := fun k => match k with
  | 0 => .object "FirstReader$Parser"
  | 1 => .object "FirstReader$Primer"
  | 2 => .object "FirstReader$Primer"
  | 3 => .object "FirstReader$Spelling"
  | 4 => .object "FirstReader$Cuts"
  | 5 => .object "FirstReader$School"
  | 6 => .array (.object "FirstReader$School")
  | 7 => .int
  | _ => .object "FirstReader$Course"
theorem nmX11 : ∀ a, a < 9 → ∀ b, b < 9 → a ≠ b → (TX11 a).2.1 ≠ (TX11 b).2.1 := by decide +kernel
theorem tyX11_ok : ∀ k, k < 9 → parseFieldDescriptor (TX11 k).2.2.1 = some (tyX11 k) := by decide +kernel
abbrev cX11_init : ByteArray := prog_1_method_1_code
def yX11_init : MethodName := ⟨RX11, "<init>", "()V"⟩
abbrev cX11_feed : ByteArray := prog_1_method_2_code
def yX11_feed : MethodName := ⟨RX11, "feed", "(IJ)I"⟩
abbrev cX11_primer : ByteArray := prog_1_method_3_code
def yX11_primer : MethodName := ⟨RX11, "primer", "()I"⟩
abbrev cX11_fault : ByteArray := prog_1_method_4_code
def yX11_fault : MethodName := ⟨RX11, "fault", "()I"⟩
abbrev cX11_sign : ByteArray := prog_1_method_5_code
def yX11_sign : MethodName := ⟨RX11, "sign", "(II)I"⟩
abbrev cX11_word : ByteArray := prog_1_method_6_code
def yX11_word : MethodName := ⟨RX11, "word", "(II)I"⟩
abbrev cX11_lesson : ByteArray := prog_1_method_7_code
def yX11_lesson : MethodName := ⟨RX11, "lesson", "(II)I"⟩
abbrev cX11_page : ByteArray := prog_1_method_8_code
def yX11_page : MethodName := ⟨RX11, "page", "(II)I"⟩
abbrev cX11_count : ByteArray := prog_1_method_9_code
def yX11_count : MethodName := ⟨RX11, "count", "(I)I"⟩
abbrev cX11_fits : ByteArray := prog_1_method_10_code
def yX11_fits : MethodName := ⟨RX11, "fits", "(III)I"⟩
abbrev cX11_ways : ByteArray := prog_1_method_11_code
def yX11_ways : MethodName := ⟨RX11, "ways", "(II)J"⟩
abbrev cX11_cut : ByteArray := prog_1_method_12_code
def yX11_cut : MethodName := ⟨RX11, "cut", "(III)I"⟩
abbrev cX11_aloud : ByteArray := prog_1_method_13_code
def yX11_aloud : MethodName := ⟨RX11, "aloud", "(III)I"⟩
abbrev cX11_right : ByteArray := prog_1_method_14_code
def yX11_right : MethodName := ⟨RX11, "right", "(III)I"⟩
abbrev cX11_spelt : ByteArray := prog_1_method_15_code
def yX11_spelt : MethodName := ⟨RX11, "spelt", "(III)I"⟩
abbrev cX11_taught : ByteArray := prog_1_method_16_code
def yX11_taught : MethodName := ⟨RX11, "taught", "(I)I"⟩
abbrev cX11_reads : ByteArray := prog_1_method_17_code
def yX11_reads : MethodName := ⟨RX11, "reads", "(I)I"⟩
abbrev cX11_mixed : ByteArray := prog_1_method_18_code
def yX11_mixed : MethodName := ⟨RX11, "mixed", "(II)I"⟩
abbrev cX11_unknown : ByteArray := prog_1_method_19_code
def yX11_unknown : MethodName := ⟨RX11, "unknown", "(II)I"⟩
abbrev cX11_fewest : ByteArray := prog_1_method_20_code
def yX11_fewest : MethodName := ⟨RX11, "fewest", "(II)I"⟩
abbrev cX11_course : ByteArray := prog_1_method_21_code
def yX11_course : MethodName := ⟨RX11, "course", "(III)I"⟩
abbrev cX11_hangs : ByteArray := prog_1_method_22_code
def yX11_hangs : MethodName := ⟨RX11, "hangs", "(I)I"⟩
abbrev cX11_base : ByteArray := prog_1_method_23_code
def yX11_base : MethodName := ⟨RX11, "base", "(I)I"⟩
abbrev cX11_take : ByteArray := prog_1_method_24_code
def yX11_take : MethodName := ⟨RX11, "take", "(II)I"⟩
abbrev cX11_read : ByteArray := prog_1_method_25_code
def yX11_read : MethodName := ⟨RX11, "read", "(II)I"⟩
abbrev cX11_rest : ByteArray := prog_1_method_26_code
def yX11_rest : MethodName := ⟨RX11, "rest", "(II)I"⟩
abbrev cX11_about : ByteArray := prog_1_method_27_code
def yX11_about : MethodName := ⟨RX11, "about", "(II)I"⟩
abbrev cX11_span : ByteArray := prog_1_method_28_code
def yX11_span : MethodName := ⟨RX11, "span", "(IZI)I"⟩
abbrev cX11_meets : ByteArray := prog_1_method_29_code
def yX11_meets : MethodName := ⟨RX11, "meets", "(II)I"⟩
abbrev cX11_next : ByteArray := prog_1_method_30_code
def yX11_next : MethodName := ⟨RX11, "next", "(II)I"⟩
abbrev cX11_forAll : ByteArray := prog_1_method_31_code
def yX11_forAll : MethodName := ⟨RX11, "forAll", "()I"⟩
abbrev cX11_keep : ByteArray := prog_1_method_32_code
def yX11_keep : MethodName := ⟨RX11, "keep", "(I)I"⟩
abbrev cX11_goBack : ByteArray := prog_1_method_33_code
def yX11_goBack : MethodName := ⟨RX11, "goBack", "(I)I"⟩
abbrev cX11_lessonToTakeAgain : ByteArray := prog_1_method_34_code
def yX11_lessonToTakeAgain : MethodName := ⟨RX11, "lessonToTakeAgain", "(LFirstReader$Pupil;)I"⟩
abbrev cX11_pageToRead : ByteArray := prog_1_method_35_code
def yX11_pageToRead : MethodName := ⟨RX11, "pageToRead", "(LFirstReader$Pupil;I)I"⟩
abbrev cX11_lessonToTake : ByteArray := prog_1_method_36_code
def yX11_lessonToTake : MethodName := ⟨RX11, "lessonToTake", "(LFirstReader$Pupil;)I"⟩
abbrev cX11_missingOf : ByteArray := prog_1_method_37_code
def yX11_missingOf : MethodName := ⟨RX11, "missingOf", "(LFirstReader$Pupil;I)I"⟩
abbrev cX11_unknownFor : ByteArray := prog_1_method_38_code
def yX11_unknownFor : MethodName := ⟨RX11, "unknownFor", "(LFirstReader$Pupil;I)I"⟩
abbrev cX11_isSign : ByteArray := prog_1_method_39_code
def yX11_isSign : MethodName := ⟨RX11, "isSign", "(I)Z"⟩
abbrev cX11_isWord : ByteArray := prog_1_method_40_code
def yX11_isWord : MethodName := ⟨RX11, "isWord", "(I)Z"⟩
abbrev cX11_isLesson : ByteArray := prog_1_method_41_code
def yX11_isLesson : MethodName := ⟨RX11, "isLesson", "(I)Z"⟩
abbrev cX11_isPage : ByteArray := prog_1_method_42_code
def yX11_isPage : MethodName := ⟨RX11, "isPage", "(I)Z"⟩
abbrev cX11_areSigns : ByteArray := prog_1_method_43_code
def yX11_areSigns : MethodName := ⟨RX11, "areSigns", "(I)Z"⟩
abbrev cX11_areLessons : ByteArray := prog_1_method_44_code
def yX11_areLessons : MethodName := ⟨RX11, "areLessons", "(I)Z"⟩
abbrev cX11_isPupil : ByteArray := prog_1_method_45_code
def yX11_isPupil : MethodName := ⟨RX11, "isPupil", "(I)Z"⟩
abbrev cX11_isImage : ByteArray := prog_1_method_46_code
def yX11_isImage : MethodName := ⟨RX11, "isImage", "(I)Z"⟩
abbrev cX11_isOutsideUnknown : ByteArray := prog_1_method_47_code
def yX11_isOutsideUnknown : MethodName := ⟨RX11, "isOutsideUnknown", "(I)Z"⟩
abbrev cX11_at : ByteArray := prog_1_method_48_code
def yX11_at : MethodName := ⟨RX11, "at", "([III)I"⟩
abbrev cX11_bit : ByteArray := prog_1_method_49_code
def yX11_bit : MethodName := ⟨RX11, "bit", "(Z)I"⟩
abbrev cX11_areAlike : ByteArray := prog_1_method_50_code
def yX11_areAlike : MethodName := ⟨RX11, "areAlike", "([II[II)Z"⟩
def RX12 : String := "FirstReaderModel"
def TX12 : u_T := fun k => match k with
  | 0 => ("FirstReaderModel", "signs", "I", false)
  | 1 => ("FirstReaderModel", "signSize", "[I", true)
  | 2 => ("FirstReaderModel", "signLetter", "[I", true)
  | 3 => ("FirstReaderModel", "signSound", "[I", true)
  | 4 => ("FirstReaderModel", "signSide", "[I", true)
  | 5 => ("FirstReaderModel", "words", "I", false)
  | 6 => ("FirstReaderModel", "wordSize", "[I", true)
  | 7 => ("FirstReaderModel", "wordLetter", "[I", true)
  | 8 => ("FirstReaderModel", "wordSounds", "[I", true)
  | 9 => ("FirstReaderModel", "wordSound", "[I", true)
  | 10 => ("FirstReaderModel", "lessons", "I", false)
  | 11 => ("FirstReaderModel", "lessonRow", "[I", true)
  | 12 => ("FirstReaderModel", "pages", "I", false)
  | 13 => ("FirstReaderModel", "pageSize", "[I", true)
  | 14 => ("FirstReaderModel", "pageWord", "[I", true)
  | 15 => ("FirstReaderModel", "pageSet", "[I", true)
  | 16 => ("FirstReaderModel", "text", "[I", true)
  | 17 => ("FirstReaderModel", "texted", "I", false)
  | 18 => ("FirstReaderModel", "faultPlace", "I", false)
  | 19 => ("FirstReaderModel", "at0", "I", false)
  | 20 => ("FirstReaderModel", "said", "J", false)
  | 21 => ("FirstReaderModel", "wordEnd", "I", false)
  | 22 => ("FirstReaderModel", "number", "I", false)
  | 23 => ("FirstReaderModel", "numberAt", "I", false)
  | 24 => ("FirstReaderModel", "readSigns", "I", false)
  | 25 => ("FirstReaderModel", "rSignSize", "[I", true)
  | 26 => ("FirstReaderModel", "rSignLetter", "[I", true)
  | 27 => ("FirstReaderModel", "rSignSound", "[I", true)
  | 28 => ("FirstReaderModel", "rSignSide", "[I", true)
  | 29 => ("FirstReaderModel", "readWords", "I", false)
  | 30 => ("FirstReaderModel", "rWordSize", "[I", true)
  | 31 => ("FirstReaderModel", "rWordLetter", "[I", true)
  | 32 => ("FirstReaderModel", "rWordSounds", "[I", true)
  | 33 => ("FirstReaderModel", "rWordSound", "[I", true)
  | 34 => ("FirstReaderModel", "readLessons", "I", false)
  | 35 => ("FirstReaderModel", "rLesson", "[I", true)
  | 36 => ("FirstReaderModel", "readPages", "I", false)
  | 37 => ("FirstReaderModel", "rPageSize", "[I", true)
  | 38 => ("FirstReaderModel", "rPageWord", "[I", true)
  | 39 => ("FirstReaderModel", "listSet", "I", false)
  | 40 => ("FirstReaderModel", "ons", "[J", true)
  | 41 => ("FirstReaderModel", "out", "[I", true)
  | 42 => ("FirstReaderModel", "outMany", "I", false)
  | 43 => ("FirstReaderModel", "isWhole", "Z", false)
  | 44 => ("FirstReaderModel", "outSigns", "I", false)
  | 45 => ("FirstReaderModel", "toGo", "[I", true)
  | 46 => ("FirstReaderModel", "readBy", "[I", true)
  | 47 => ("FirstReaderModel", "baseSpan", "I", false)
  | 48 => ("FirstReaderModel", "days", "[I", true)
  | 49 => ("FirstReaderModel", "taken", "[I", true)
  | 50 => ("FirstReaderModel", "spans", "[I", true)
  | 51 => ("FirstReaderModel", "lasts", "[I", true)
  | 52 => ("FirstReaderModel", "usedSigns", "I", false)
  | 53 => ("FirstReaderModel", "images", "[I", true)
  | _ => ("FirstReaderModel", "isKept", "[Z", true)
def tyX12 : Nat → FieldType := fun k => match k with
  | 0 => .int
  | 1 => .array .int
  | 2 => .array .int
  | 3 => .array .int
  | 4 => .array .int
  | 5 => .int
  | 6 => .array .int
  | 7 => .array .int
  | 8 => .array .int
  | 9 => .array .int
  | 10 => .int
  | 11 => .array .int
  | 12 => .int
  | 13 => .array .int
  | 14 => .array .int
  | 15 => .array .int
  | 16 => .array .int
  | 17 => .int
  | 18 => .int
  | 19 => .int
  | 20 => .long
  | 21 => .int
  | 22 => .int
  | 23 => .int
  | 24 => .int
  | 25 => .array .int
  | 26 => .array .int
  | 27 => .array .int
  | 28 => .array .int
  | 29 => .int
  | 30 => .array .int
  | 31 => .array .int
  | 32 => .array .int
  | 33 => .array .int
  | 34 => .int
  | 35 => .array .int
  | 36 => .int
  | 37 => .array .int
  | 38 => .array .int
  | 39 => .int
  | 40 => .array .long
  | 41 => .array .int
  | 42 => .int
  | 43 => .boolean
  | 44 => .int
  | 45 => .array .int
  | 46 => .array .int
  | 47 => .int
  | 48 => .array .int
  | 49 => .array .int
  | 50 => .array .int
  | 51 => .array .int
  | 52 => .int
  | 53 => .array .int
  | _ => .array .boolean
theorem nmX12 : ∀ a, a < 55 → ∀ b, b < 55 → a ≠ b → (TX12 a).2.1 ≠ (TX12 b).2.1 := by decide +kernel
theorem tyX12_ok : ∀ k, k < 55 → parseFieldDescriptor (TX12 k).2.2.1 = some (tyX12 k) := by decide +kernel
abbrev cX12_init : ByteArray := prog_14_method_1_code
def yX12_init : MethodName := ⟨RX12, "<init>", "()V"⟩
abbrev cX12_in : ByteArray := prog_14_method_3_code
def yX12_in : MethodName := ⟨RX12, "in", "(JJJ)Z"⟩
abbrev cX12_has : ByteArray := prog_14_method_4_code
def yX12_has : MethodName := ⟨RX12, "has", "(II)Z"⟩
abbrev cX12_bits : ByteArray := prog_14_method_5_code
def yX12_bits : MethodName := ⟨RX12, "bits", "(I)I"⟩
abbrev cX12_feed : ByteArray := prog_14_method_6_code
def yX12_feed : MethodName := ⟨RX12, "feed", "(IJ)I"⟩
abbrev cX12_here : ByteArray := prog_14_method_7_code
def yX12_here : MethodName := ⟨RX12, "here", "()I"⟩
abbrev cX12_fails : ByteArray := prog_14_method_8_code
def yX12_fails : MethodName := ⟨RX12, "fails", "(II)I"⟩
abbrev cX12_readWord : ByteArray := prog_14_method_9_code
def yX12_readWord : MethodName := ⟨RX12, "readWord", "()V"⟩
abbrev cX12_code : ByteArray := prog_14_method_10_code
def yX12_code : MethodName := ⟨RX12, "code", "(IIII)J"⟩
abbrev cX12_longer : ByteArray := prog_14_method_11_code
def yX12_longer : MethodName := ⟨RX12, "longer", "(JI)J"⟩
abbrev cX12_takeNumber : ByteArray := prog_14_method_12_code
def yX12_takeNumber : MethodName := ⟨RX12, "takeNumber", "(I)I"⟩
abbrev cX12_takeSign : ByteArray := prog_14_method_13_code
def yX12_takeSign : MethodName := ⟨RX12, "takeSign", "(I)I"⟩
abbrev cX12_wordOf : ByteArray := prog_14_method_14_code
def yX12_wordOf : MethodName := ⟨RX12, "wordOf", "(II)I"⟩
abbrev cX12_takeWord : ByteArray := prog_14_method_15_code
def yX12_takeWord : MethodName := ⟨RX12, "takeWord", "(I)I"⟩
abbrev cX12_takeList : ByteArray := prog_14_method_16_code
def yX12_takeList : MethodName := ⟨RX12, "takeList", "(I)I"⟩
abbrev cX12_takeLesson : ByteArray := prog_14_method_17_code
def yX12_takeLesson : MethodName := ⟨RX12, "takeLesson", "(I)I"⟩
abbrev cX12_takePage : ByteArray := prog_14_method_18_code
def yX12_takePage : MethodName := ⟨RX12, "takePage", "(I)I"⟩
abbrev cX12_takeClause : ByteArray := prog_14_method_19_code
def yX12_takeClause : MethodName := ⟨RX12, "takeClause", "()I"⟩
abbrev cX12_primer : ByteArray := prog_14_method_20_code
def yX12_primer : MethodName := ⟨RX12, "primer", "()I"⟩
abbrev cX12_keepPrimer : ByteArray := prog_14_method_21_code
def yX12_keepPrimer : MethodName := ⟨RX12, "keepPrimer", "()V"⟩
abbrev cX12_fault : ByteArray := prog_14_method_22_code
def yX12_fault : MethodName := ⟨RX12, "fault", "()I"⟩
abbrev cX12_isSign : ByteArray := prog_14_method_23_code
def yX12_isSign : MethodName := ⟨RX12, "isSign", "(I)Z"⟩
abbrev cX12_areSigns : ByteArray := prog_14_method_24_code
def yX12_areSigns : MethodName := ⟨RX12, "areSigns", "(I)Z"⟩
abbrev cX12_isWord : ByteArray := prog_14_method_25_code
def yX12_isWord : MethodName := ⟨RX12, "isWord", "(I)Z"⟩
abbrev cX12_isLesson : ByteArray := prog_14_method_26_code
def yX12_isLesson : MethodName := ⟨RX12, "isLesson", "(I)Z"⟩
abbrev cX12_isPage : ByteArray := prog_14_method_27_code
def yX12_isPage : MethodName := ⟨RX12, "isPage", "(I)Z"⟩
abbrev cX12_sign : ByteArray := prog_14_method_28_code
def yX12_sign : MethodName := ⟨RX12, "sign", "(II)I"⟩
abbrev cX12_word : ByteArray := prog_14_method_29_code
def yX12_word : MethodName := ⟨RX12, "word", "(II)I"⟩
abbrev cX12_lesson : ByteArray := prog_14_method_30_code
def yX12_lesson : MethodName := ⟨RX12, "lesson", "(II)I"⟩
abbrev cX12_page : ByteArray := prog_14_method_31_code
def yX12_page : MethodName := ⟨RX12, "page", "(II)I"⟩
abbrev cX12_count : ByteArray := prog_14_method_32_code
def yX12_count : MethodName := ⟨RX12, "count", "(I)I"⟩
abbrev cX12_isFit : ByteArray := prog_14_method_33_code
def yX12_isFit : MethodName := ⟨RX12, "isFit", "(III)Z"⟩
abbrev cX12_fits : ByteArray := prog_14_method_34_code
def yX12_fits : MethodName := ⟨RX12, "fits", "(III)I"⟩
abbrev cX12_leads : ByteArray := prog_14_method_35_code
def yX12_leads : MethodName := ⟨RX12, "leads", "(IIIII)I"⟩
abbrev cX12_findWays : ByteArray := prog_14_method_36_code
def yX12_findWays : MethodName := ⟨RX12, "findWays", "(II)J"⟩
abbrev cX12_ways : ByteArray := prog_14_method_37_code
def yX12_ways : MethodName := ⟨RX12, "ways", "(II)J"⟩
abbrev cX12_cut : ByteArray := prog_14_method_38_code
def yX12_cut : MethodName := ⟨RX12, "cut", "(III)I"⟩
abbrev cX12_speak : ByteArray := prog_14_method_39_code
def yX12_speak : MethodName := ⟨RX12, "speak", "(II)V"⟩
abbrev cX12_areSounds : ByteArray := prog_14_method_40_code
def yX12_areSounds : MethodName := ⟨RX12, "areSounds", "(I)Z"⟩
abbrev cX12_isRight : ByteArray := prog_14_method_41_code
def yX12_isRight : MethodName := ⟨RX12, "isRight", "(II)Z"⟩
abbrev cX12_outAt : ByteArray := prog_14_method_42_code
def yX12_outAt : MethodName := ⟨RX12, "outAt", "(I)I"⟩
abbrev cX12_aloud : ByteArray := prog_14_method_43_code
def yX12_aloud : MethodName := ⟨RX12, "aloud", "(III)I"⟩
abbrev cX12_spell : ByteArray := prog_14_method_44_code
def yX12_spell : MethodName := ⟨RX12, "spell", "(II)V"⟩
abbrev cX12_isWell : ByteArray := prog_14_method_45_code
def yX12_isWell : MethodName := ⟨RX12, "isWell", "(II)Z"⟩
abbrev cX12_right : ByteArray := prog_14_method_46_code
def yX12_right : MethodName := ⟨RX12, "right", "(III)I"⟩
abbrev cX12_spelt : ByteArray := prog_14_method_47_code
def yX12_spelt : MethodName := ⟨RX12, "spelt", "(III)I"⟩
abbrev cX12_areLessons : ByteArray := prog_14_method_48_code
def yX12_areLessons : MethodName := ⟨RX12, "areLessons", "(I)Z"⟩
abbrev cX12_isClosed : ByteArray := prog_14_method_49_code
def yX12_isClosed : MethodName := ⟨RX12, "isClosed", "(I)Z"⟩
abbrev cX12_teach : ByteArray := prog_14_method_50_code
def yX12_teach : MethodName := ⟨RX12, "teach", "(II)I"⟩
abbrev cX12_readsOf : ByteArray := prog_14_method_51_code
def yX12_readsOf : MethodName := ⟨RX12, "readsOf", "(I)I"⟩
abbrev cX12_taught : ByteArray := prog_14_method_52_code
def yX12_taught : MethodName := ⟨RX12, "taught", "(I)I"⟩
abbrev cX12_reads : ByteArray := prog_14_method_53_code
def yX12_reads : MethodName := ⟨RX12, "reads", "(I)I"⟩
abbrev cX12_mixed : ByteArray := prog_14_method_54_code
def yX12_mixed : MethodName := ⟨RX12, "mixed", "(II)I"⟩
abbrev cX12_unknown : ByteArray := prog_14_method_55_code
def yX12_unknown : MethodName := ⟨RX12, "unknown", "(II)I"⟩
abbrev cX12_isFew : ByteArray := prog_14_method_56_code
def yX12_isFew : MethodName := ⟨RX12, "isFew", "(I)Z"⟩
abbrev cX12_fewest : ByteArray := prog_14_method_57_code
def yX12_fewest : MethodName := ⟨RX12, "fewest", "(II)I"⟩
abbrev cX12_met : ByteArray := prog_14_method_58_code
def yX12_met : MethodName := ⟨RX12, "met", "(I)I"⟩
abbrev cX12_stepTo : ByteArray := prog_14_method_59_code
def yX12_stepTo : MethodName := ⟨RX12, "stepTo", "(III)I"⟩
abbrev cX12_findCourses : ByteArray := prog_14_method_60_code
def yX12_findCourses : MethodName := ⟨RX12, "findCourses", "(II)V"⟩
abbrev cX12_course : ByteArray := prog_14_method_61_code
def yX12_course : MethodName := ⟨RX12, "course", "(III)I"⟩
abbrev cX12_behind : ByteArray := prog_14_method_62_code
def yX12_behind : MethodName := ⟨RX12, "behind", "(I)I"⟩
abbrev cX12_hangs : ByteArray := prog_14_method_63_code
def yX12_hangs : MethodName := ⟨RX12, "hangs", "(I)I"⟩
abbrev cX12_beginPupils : ByteArray := prog_14_method_64_code
def yX12_beginPupils : MethodName := ⟨RX12, "beginPupils", "()V"⟩
abbrev cX12_isPupil : ByteArray := prog_14_method_65_code
def yX12_isPupil : MethodName := ⟨RX12, "isPupil", "(I)Z"⟩
abbrev cX12_isHeld : ByteArray := prog_14_method_66_code
def yX12_isHeld : MethodName := ⟨RX12, "isHeld", "(II)Z"⟩
abbrev cX12_heldSigns : ByteArray := prog_14_method_67_code
def yX12_heldSigns : MethodName := ⟨RX12, "heldSigns", "(I)I"⟩
abbrev cX12_heldWords : ByteArray := prog_14_method_68_code
def yX12_heldWords : MethodName := ⟨RX12, "heldWords", "(I)I"⟩
abbrev cX12_use : ByteArray := prog_14_method_69_code
def yX12_use : MethodName := ⟨RX12, "use", "(II)V"⟩
abbrev cX12_useAll : ByteArray := prog_14_method_70_code
def yX12_useAll : MethodName := ⟨RX12, "useAll", "(III)V"⟩
abbrev cX12_base : ByteArray := prog_14_method_71_code
def yX12_base : MethodName := ⟨RX12, "base", "(I)I"⟩
abbrev cX12_lacking : ByteArray := prog_14_method_72_code
def yX12_lacking : MethodName := ⟨RX12, "lacking", "(II)I"⟩
abbrev cX12_take : ByteArray := prog_14_method_73_code
def yX12_take : MethodName := ⟨RX12, "take", "(II)I"⟩
abbrev cX12_meetsOf : ByteArray := prog_14_method_74_code
def yX12_meetsOf : MethodName := ⟨RX12, "meetsOf", "(II)I"⟩
abbrev cX12_read : ByteArray := prog_14_method_75_code
def yX12_read : MethodName := ⟨RX12, "read", "(II)I"⟩
abbrev cX12_rest : ByteArray := prog_14_method_76_code
def yX12_rest : MethodName := ⟨RX12, "rest", "(II)I"⟩
abbrev cX12_about : ByteArray := prog_14_method_77_code
def yX12_about : MethodName := ⟨RX12, "about", "(II)I"⟩
abbrev cX12_span : ByteArray := prog_14_method_78_code
def yX12_span : MethodName := ⟨RX12, "span", "(IZI)I"⟩
abbrev cX12_meets : ByteArray := prog_14_method_79_code
def yX12_meets : MethodName := ⟨RX12, "meets", "(II)I"⟩
abbrev cX12_next : ByteArray := prog_14_method_80_code
def yX12_next : MethodName := ⟨RX12, "next", "(II)I"⟩
abbrev cX12_forAll : ByteArray := prog_14_method_81_code
def yX12_forAll : MethodName := ⟨RX12, "forAll", "()I"⟩
abbrev cX12_keep : ByteArray := prog_14_method_82_code
def yX12_keep : MethodName := ⟨RX12, "keep", "(I)I"⟩
abbrev cX12_goBack : ByteArray := prog_14_method_83_code
def yX12_goBack : MethodName := ⟨RX12, "goBack", "(I)I"⟩
def RJ6 : String := "java/lang/Integer"
def TJ6 : u_T := fun k => match k with
  | _ => ("", "", "", false)
def tyJ6 : Nat → FieldType := fun k => match k with
  | _ => .int
abbrev cJ6_bitCount_0f7a4 : ByteArray := prog_15_method_49_code
def yJ6_bitCount_0f7a4 : MethodName := ⟨RJ6, "bitCount", "(I)I"⟩
def RJ9 : String := "java/lang/Math"
def TJ9 : u_T := fun k => match k with
  | _ => ("", "", "", false)
def tyJ9 : Nat → FieldType := fun k => match k with
  | _ => .int
abbrev cJ9_max_7cf53 : ByteArray := prog_16_method_65_code
def yJ9_max_7cf53 : MethodName := ⟨RJ9, "max", "(II)I"⟩
abbrev cJ9_min_7cf53 : ByteArray := prog_16_method_69_code
def yJ9_min_7cf53 : MethodName := ⟨RJ9, "min", "(II)I"⟩
def RJ7 : String := "java/util/Arrays"
def TJ7 : u_T := fun k => match k with
  | _ => ("", "", "", false)
def tyJ7 : Nat → FieldType := fun k => match k with
  | _ => .int
abbrev cJ7_fill_d0a16 : ByteArray := prog_21_method_101_code
def yJ7_fill_d0a16 : MethodName := ⟨RJ7, "fill", "([JJ)V"⟩
abbrev cJ7_fill_53178 : ByteArray := prog_21_method_103_code
def yJ7_fill_53178 : MethodName := ⟨RJ7, "fill", "([II)V"⟩
def RJ0 : String := "java/lang/String"
def TJ0 : u_T := fun k => match k with
  | _ => ("", "", "", false)
def tyJ0 : Nat → FieldType := fun k => match k with
  | _ => .int
abbrev cJ0_length_8abf5 : ByteArray := prog_17_method_54_code
def yJ0_length_8abf5 : MethodName := ⟨RJ0, "length", "()I"⟩
abbrev cJ0_charAt_5068e : ByteArray := prog_17_method_56_code
def yJ0_charAt_5068e : MethodName := ⟨RJ0, "charAt", "(I)C"⟩
abbrev cJ0_coder_7d493 : ByteArray := prog_17_method_152_code
def yJ0_coder_7d493 : MethodName := ⟨RJ0, "coder", "()B"⟩
abbrev cJ0_isLatin1_aae02 : ByteArray := prog_17_method_154_code
def yJ0_isLatin1_aae02 : MethodName := ⟨RJ0, "isLatin1", "()Z"⟩
abbrev cJ0_checkIndex_df160 : ByteArray := prog_17_method_155_code
def yJ0_checkIndex_df160 : MethodName := ⟨RJ0, "checkIndex", "(II)V"⟩
def RJ1 : String := "java/lang/StringLatin1"
def TJ1 : u_T := fun k => match k with
  | _ => ("", "", "", false)
def tyJ1 : Nat → FieldType := fun k => match k with
  | _ => .int
abbrev cJ1_charAt_3b067 : ByteArray := prog_18_method_2_code
def yJ1_charAt_3b067 : MethodName := ⟨RJ1, "charAt", "([BI)C"⟩
def RJ10 : String := "java/lang/System"
def TJ10 : u_T := fun k => match k with
  | _ => ("", "", "", false)
def tyJ10 : Nat → FieldType := fun k => match k with
  | _ => .int
def RJ3 : String := "jdk/internal/util/Preconditions"
def TJ3 : u_T := fun k => match k with
  | _ => ("", "", "", false)
def tyJ3 : Nat → FieldType := fun k => match k with
  | _ => .int
abbrev cJ3_checkIndex_8e157 : ByteArray := prog_22_method_11_code
def yJ3_checkIndex_8e157 : MethodName := ⟨RJ3, "checkIndex", "(IILjava/util/function/BiFunction;)I"⟩
abbrev vwCl : List vw_C := [(RX0, TX0, 10), (RX1, TX1, 3), (RX2, TX2, 2), (RX3, TX3, 8), (RX4, TX4, 14), (RX5, TX5, 4), (RX6, TX6, 2), (RX7, TX7, 4), (RX8, TX8, 5), (RX9, TX9, 3), (RX10, TX10, 5), (RX11, TX11, 9), (RX12, TX12, 55)]
end
section
/-! the cells by the order in which they are made: what each is, where its references point -/
def kdL : List (Nat × Nat) := [(11, 9), (3, 8), (22, 600), (4, 14), (24, 20), (25, 24), (20, 7), (20, 7), (20, 7), (28, 8), (20, 16), (20, 16), (20, 16), (20, 16), (20, 16), (20, 16), (20, 16), (20, 16), (20, 8), (20, 8), (8, 5), (20, 8), (20, 128), (7, 4), (20, 4), (7, 4), (20, 4), (7, 4), (20, 4), (7, 4), (20, 4), (7, 4), (20, 4), (7, 4), (20, 4), (7, 4), (20, 4), (7, 4), (20, 4), (7, 4), (20, 4), (7, 4), (20, 4), (7, 4), (20, 4), (7, 4), (20, 4), (7, 4), (20, 4), (7, 4), (20, 4), (7, 4), (20, 4), (7, 4), (20, 4), (7, 4), (20, 4), (7, 4), (20, 4), (7, 4), (20, 4), (7, 4), (20, 4), (10, 5), (20, 8), (20, 8), (20, 8), (10, 5), (20, 8), (20, 8), (20, 8), (10, 5), (20, 8), (20, 8), (20, 8), (10, 5), (20, 8), (20, 8), (20, 8), (10, 5), (20, 8), (20, 8), (20, 8), (10, 5), (20, 8), (20, 8), (20, 8), (10, 5), (20, 8), (20, 8), (20, 8), (10, 5), (20, 8), (20, 8), (20, 8), (10, 5), (20, 8), (20, 8), (20, 8), (10, 5), (20, 8), (20, 8), (20, 8), (10, 5), (20, 8), (20, 8), (20, 8), (10, 5), (20, 8), (20, 8), (20, 8), (10, 5), (20, 8), (20, 8), (20, 8), (10, 5), (20, 8), (20, 8), (20, 8), (10, 5), (20, 8), (20, 8), (20, 8), (10, 5), (20, 8), (20, 8), (20, 8), (10, 5), (20, 8), (20, 8), (20, 8), (10, 5), (20, 8), (20, 8), (20, 8), (10, 5), (20, 8), (20, 8), (20, 8), (10, 5), (20, 8), (20, 8), (20, 8), (10, 5), (20, 8), (20, 8), (20, 8), (10, 5), (20, 8), (20, 8), (20, 8), (10, 5), (20, 8), (20, 8), (20, 8), (10, 5), (20, 8), (20, 8), (20, 8), (4, 14), (24, 20), (25, 24), (20, 7), (20, 7), (20, 7), (28, 8), (20, 16), (20, 16), (20, 16), (20, 16), (20, 16), (20, 16), (20, 16), (20, 16), (20, 8), (20, 8), (8, 5), (20, 8), (20, 128), (7, 4), (20, 4), (7, 4), (20, 4), (7, 4), (20, 4), (7, 4), (20, 4), (7, 4), (20, 4), (7, 4), (20, 4), (7, 4), (20, 4), (7, 4), (20, 4), (7, 4), (20, 4), (7, 4), (20, 4), (7, 4), (20, 4), (7, 4), (20, 4), (7, 4), (20, 4), (7, 4), (20, 4), (7, 4), (20, 4), (7, 4), (20, 4), (7, 4), (20, 4), (7, 4), (20, 4), (7, 4), (20, 4), (7, 4), (20, 4), (10, 5), (20, 8), (20, 8), (20, 8), (10, 5), (20, 8), (20, 8), (20, 8), (10, 5), (20, 8), (20, 8), (20, 8), (10, 5), (20, 8), (20, 8), (20, 8), (10, 5), (20, 8), (20, 8), (20, 8), (10, 5), (20, 8), (20, 8), (20, 8), (10, 5), (20, 8), (20, 8), (20, 8), (10, 5), (20, 8), (20, 8), (20, 8), (10, 5), (20, 8), (20, 8), (20, 8), (10, 5), (20, 8), (20, 8), (20, 8), (10, 5), (20, 8), (20, 8), (20, 8), (10, 5), (20, 8), (20, 8), (20, 8), (10, 5), (20, 8), (20, 8), (20, 8), (10, 5), (20, 8), (20, 8), (20, 8), (10, 5), (20, 8), (20, 8), (20, 8), (10, 5), (20, 8), (20, 8), (20, 8), (10, 5), (20, 8), (20, 8), (20, 8), (10, 5), (20, 8), (20, 8), (20, 8), (10, 5), (20, 8), (20, 8), (20, 8), (10, 5), (20, 8), (20, 8), (20, 8), (10, 5), (20, 8), (20, 8), (20, 8), (10, 5), (20, 8), (20, 8), (20, 8), (10, 5), (20, 8), (20, 8), (20, 8), (10, 5), (20, 8), (20, 8), (20, 8), (9, 3), (20, 32), (1, 3), (21, 81), (20, 8), (6, 2), (26, 3), (5, 4), (2, 2), (20, 20), (20, 20), (2, 2), (20, 24), (20, 24), (5, 4), (2, 2), (20, 20), (20, 20), (2, 2), (20, 24), (20, 24), (5, 4), (2, 2), (20, 20), (20, 20), (2, 2), (20, 24), (20, 24), (27, 2), (6, 2), (26, 3), (5, 4), (2, 2), (20, 20), (20, 20), (2, 2), (20, 24), (20, 24), (5, 4), (2, 2), (20, 20), (20, 20), (2, 2), (20, 24), (20, 24), (5, 4), (2, 2), (20, 20), (20, 20), (2, 2), (20, 24), (20, 24), (6, 2), (26, 3), (5, 4), (2, 2), (20, 20), (20, 20), (2, 2), (20, 24), (20, 24), (5, 4), (2, 2), (20, 20), (20, 20), (2, 2), (20, 24), (20, 24), (5, 4), (2, 2), (20, 20), (20, 20), (2, 2), (20, 24), (20, 24), (12, 55), (20, 20), (20, 80), (20, 20), (20, 20), (20, 24), (20, 192), (20, 24), (20, 192), (20, 21), (20, 8), (20, 128), (20, 8), (20, 600), (20, 20), (20, 80), (20, 20), (20, 20), (20, 24), (20, 192), (20, 24), (20, 192), (20, 21), (20, 8), (20, 128), (21, 81), (20, 32), (20, 32768), (20, 128), (20, 3), (20, 3), (20, 132), (20, 132), (20, 560), (23, 2), (0, 10), (20, 16384), (20, 16384), (21, 512), (20, 15)]
def kd (i : Nat) : Nat × Nat := kdL.getD i (99, 0)
/-- the kind of a field: 0 int, 1 long, 2 a reference that is final, 3 one that is not, 4 boolean -/
def fkL : List (List Nat) := [[2, 2, 2, 0, 3, 0, 0, 0, 2, 0], [2, 2, 0], [2, 2], [2, 0, 0, 0, 3, 0, 0, 0], [2, 0, 2, 0, 2, 2, 2, 0, 2, 2, 2, 0, 2, 2], [0, 0, 2, 2], [2, 0], [2, 0, 0, 0], [2, 0, 0, 4, 4], [2, 0, 4], [2, 0, 2, 0, 2], [2, 3, 3, 2, 2, 2, 2, 0, 3], [0, 2, 2, 2, 2, 0, 2, 2, 2, 2, 0, 2, 0, 2, 2, 2, 2, 0, 0, 0, 1, 0, 0, 0, 0, 2, 2, 2, 2, 0, 2, 2, 2, 2, 0, 2, 0, 2, 2, 0, 2, 2, 0, 4, 0, 2, 2, 0, 2, 2, 2, 2, 0, 2, 2]]
def fk (t k : Nat) : Nat := (fkL.getD t []).getD k 9
def rfL : List (List Nat) := [[1, 0, 0, 315, 317, 320, 343], [2], [], [4, 0, 5, 0, 6, 7, 8, 0, 9, 18, 19, 0, 20, 22], [23, 25, 27, 29, 31, 33, 35, 37, 39, 41, 43, 45, 47, 49, 51, 53, 55, 57, 59, 61], [63, 67, 71, 75, 79, 83, 87, 91, 95, 99, 103, 107, 111, 115, 119, 123, 127, 131, 135, 139, 143, 147, 151, 155], [], [], [], [10, 11, 12, 13, 14, 15, 16, 17], [], [], [], [], [], [], [], [], [], [], [21], [], [], [24], [], [26], [], [28], [], [30], [], [32], [], [34], [], [36], [], [38], [], [40], [], [42], [], [44], [], [46], [], [48], [], [50], [], [52], [], [54], [], [56], [], [58], [], [60], [], [62], [], [64, 0, 65, 0, 66], [], [], [], [68, 0, 69, 0, 70], [], [], [], [72, 0, 73, 0, 74], [], [], [], [76, 0, 77, 0, 78], [], [], [], [80, 0, 81, 0, 82], [], [], [], [84, 0, 85, 0, 86], [], [], [], [88, 0, 89, 0, 90], [], [], [], [92, 0, 93, 0, 94], [], [], [], [96, 0, 97, 0, 98], [], [], [], [100, 0, 101, 0, 102], [], [], [], [104, 0, 105, 0, 106], [], [], [], [108, 0, 109, 0, 110], [], [], [], [112, 0, 113, 0, 114], [], [], [], [116, 0, 117, 0, 118], [], [], [], [120, 0, 121, 0, 122], [], [], [], [124, 0, 125, 0, 126], [], [], [], [128, 0, 129, 0, 130], [], [], [], [132, 0, 133, 0, 134], [], [], [], [136, 0, 137, 0, 138], [], [], [], [140, 0, 141, 0, 142], [], [], [], [144, 0, 145, 0, 146], [], [], [], [148, 0, 149, 0, 150], [], [], [], [152, 0, 153, 0, 154], [], [], [], [156, 0, 157, 0, 158], [], [], [], [160, 0, 161, 0, 162, 163, 164, 0, 165, 174, 175, 0, 176, 178], [179, 181, 183, 185, 187, 189, 191, 193, 195, 197, 199, 201, 203, 205, 207, 209, 211, 213, 215, 217], [219, 223, 227, 231, 235, 239, 243, 247, 251, 255, 259, 263, 267, 271, 275, 279, 283, 287, 291, 295, 299, 303, 307, 311], [], [], [], [166, 167, 168, 169, 170, 171, 172, 173], [], [], [], [], [], [], [], [], [], [], [177], [], [], [180], [], [182], [], [184], [], [186], [], [188], [], [190], [], [192], [], [194], [], [196], [], [198], [], [200], [], [202], [], [204], [], [206], [], [208], [], [210], [], [212], [], [214], [], [216], [], [218], [], [220, 0, 221, 0, 222], [], [], [], [224, 0, 225, 0, 226], [], [], [], [228, 0, 229, 0, 230], [], [], [], [232, 0, 233, 0, 234], [], [], [], [236, 0, 237, 0, 238], [], [], [], [240, 0, 241, 0, 242], [], [], [], [244, 0, 245, 0, 246], [], [], [], [248, 0, 249, 0, 250], [], [], [], [252, 0, 253, 0, 254], [], [], [], [256, 0, 257, 0, 258], [], [], [], [260, 0, 261, 0, 262], [], [], [], [264, 0, 265, 0, 266], [], [], [], [268, 0, 269, 0, 270], [], [], [], [272, 0, 273, 0, 274], [], [], [], [276, 0, 277, 0, 278], [], [], [], [280, 0, 281, 0, 282], [], [], [], [284, 0, 285, 0, 286], [], [], [], [288, 0, 289, 0, 290], [], [], [], [292, 0, 293, 0, 294], [], [], [], [296, 0, 297, 0, 298], [], [], [], [300, 0, 301, 0, 302], [], [], [], [304, 0, 305, 0, 306], [], [], [], [308, 0, 309, 0, 310], [], [], [], [312, 0, 313, 0, 314], [], [], [], [316], [], [318, 319], [], [], [321], [322, 329, 336], [0, 0, 323, 326], [324, 325], [], [], [327, 328], [], [], [0, 0, 330, 333], [331, 332], [], [], [334, 335], [], [], [0, 0, 337, 340], [338, 339], [], [], [341, 342], [], [], [344, 367], [345], [346, 353, 360], [0, 0, 347, 350], [348, 349], [], [], [351, 352], [], [], [0, 0, 354, 357], [355, 356], [], [], [358, 359], [], [], [0, 0, 361, 364], [362, 363], [], [], [365, 366], [], [], [368], [369, 376, 383], [0, 0, 370, 373], [371, 372], [], [], [374, 375], [], [], [0, 0, 377, 380], [378, 379], [], [], [381, 382], [], [], [0, 0, 384, 387], [385, 386], [], [], [388, 389], [], [], [0, 391, 392, 393, 394, 0, 395, 396, 397, 398, 0, 399, 0, 400, 401, 402, 403, 0, 0, 0, 0, 0, 0, 0, 0, 404, 405, 406, 407, 0, 408, 409, 410, 411, 0, 412, 0, 413, 414, 0, 415, 416, 0, 0, 0, 417, 418, 0, 419, 420, 421, 422, 0, 423, 424], [], [], [], [], [], [], [], [], [], [], [], [], [], [], [], [], [], [], [], [], [], [], [], [], [], [], [], [], [], [], [], [], [], [], [426, 427, 428, 0, 0, 0, 0, 0, 429], [], [], [], []]
def rf (i k : Nat) : Nat := (rfL.getD i []).getD k 0
end
section
/-! THE ENGINE. The heap from the law's start on is read as numbered cells: what a cell is stands in kd (fixed), what it holds in a state St:
ints, longs, references that change; references that don't change stand in the world Wd. A value that names a cell bears the cell's number; a value
'retAddr k' stands for an object that was there before (0: the script; from 1 on: the texts). -/
abbrev MD : Type := MethodName × ByteArray × Nat × Option FieldType × Nat × Nat × Nat × Nat × Nat
/-- name, code, locals, answer's type, class of the receiver, number of arguments (receiver apart), cells and slots that it may make, kind of the answer (0 none, 1 int, 2 long, 3 none and it makes cells, 4 int and it makes cells) -/
abbrev mN (μ : MD) : MethodName := μ.1
abbrev mB (μ : MD) : ByteArray := μ.2.1
abbrev mL (μ : MD) : Nat := μ.2.2.1
abbrev mR (μ : MD) : Option FieldType := μ.2.2.2.1
abbrev mO (μ : MD) : Nat := μ.2.2.2.2.1
abbrev mA (μ : MD) : Nat := μ.2.2.2.2.2.1
abbrev mC (μ : MD) : Nat := μ.2.2.2.2.2.2.1
abbrev mS (μ : MD) : Nat := μ.2.2.2.2.2.2.2.1
abbrev mK (μ : MD) : Nat := μ.2.2.2.2.2.2.2.2
abbrev St : Type := (Nat → Nat → Int32) × (Nat → Nat → Int64) × (Nat → Nat → Option Nat)
abbrev Wd : Type := Nat × (Nat → Nat → Option Nat)
abbrev Lv : Type := List (Nat × Value)
def gI (σ : St) (o k : Nat) : Int32 := σ.1 o k
def gJ (σ : St) (o k : Nat) : Int64 := σ.2.1 o k
def gR (σ : St) (o k : Nat) : Option Nat := σ.2.2 o k
def up2 {α : Type} (f : Nat → Nat → α) (o k : Nat) (v : α) : Nat → Nat → α := fun a b => if a = o ∧ b = k then v else f a b
def uI (σ : St) (o k : Nat) (v : Int32) : St := (up2 σ.1 o k v, σ.2.1, σ.2.2)
def uJ (σ : St) (o k : Nat) (v : Int64) : St := (σ.1, up2 σ.2.1 o k v, σ.2.2)
def uR (σ : St) (o k : Nat) (v : Option Nat) : St := (σ.1, σ.2.1, up2 σ.2.2 o k v)
/-- a new cell: all 0 -/
def zS (σ : St) (o : Nat) : St := (fun a b => if a = o then 0 else σ.1 a b, fun a b => if a = o then 0 else σ.2.1 a b, fun a b => if a = o then none else σ.2.2 a b)
def zW (w : Wd) : Wd := (w.1 + 1, fun a b => if a = w.1 then none else w.2 a b)
def uW (w : Wd) (o k : Nat) (v : Option Nat) : Wd := (w.1, up2 w.2 o k v)
/-- many new cells; an array of rows -/
def zM (σ : St) (o n : Nat) : St := (fun a b => if o ≤ a ∧ a < o + n then 0 else σ.1 a b, fun a b => if o ≤ a ∧ a < o + n then 0 else σ.2.1 a b, fun a b => if o ≤ a ∧ a < o + n then none else σ.2.2 a b)
def gM (w : Wd) (n : Nat) : Wd := (w.1 + 1 + n, fun a b => if a = w.1 then (if b < n then some (w.1 + 1 + b) else none) else if w.1 ≤ a ∧ a < w.1 + 1 + n then none else w.2 a b)
/-- a row's places copied -/
def cS (σ : St) (a b sp dp n : Nat) : St := (fun x j => if x = b then va_cpy (σ.1 a) (σ.1 b) sp dp n j else σ.1 x j, σ.2.1, σ.2.2)
theorem gI_uI (σ : St) (o k a b : Nat) (v : Int32) : gI (uI σ o k v) a b = if a = o ∧ b = k then v else gI σ a b := rfl
theorem gI_uJ (σ : St) (o k a b : Nat) (v : Int64) : gI (uJ σ o k v) a b = gI σ a b := rfl
theorem gI_uR (σ : St) (o k a b : Nat) (v : Option Nat) : gI (uR σ o k v) a b = gI σ a b := rfl
theorem gJ_uI (σ : St) (o k a b : Nat) (v : Int32) : gJ (uI σ o k v) a b = gJ σ a b := rfl
theorem gJ_uJ (σ : St) (o k a b : Nat) (v : Int64) : gJ (uJ σ o k v) a b = if a = o ∧ b = k then v else gJ σ a b := rfl
theorem gJ_uR (σ : St) (o k a b : Nat) (v : Option Nat) : gJ (uR σ o k v) a b = gJ σ a b := rfl
theorem gR_uI (σ : St) (o k a b : Nat) (v : Int32) : gR (uI σ o k v) a b = gR σ a b := rfl
theorem gR_uJ (σ : St) (o k a b : Nat) (v : Int64) : gR (uJ σ o k v) a b = gR σ a b := rfl
theorem gR_uR (σ : St) (o k a b : Nat) (v : Option Nat) : gR (uR σ o k v) a b = if a = o ∧ b = k then v else gR σ a b := rfl
theorem gI_zS (σ : St) (o a b : Nat) : gI (zS σ o) a b = if a = o then 0 else gI σ a b := rfl
theorem gJ_zS (σ : St) (o a b : Nat) : gJ (zS σ o) a b = if a = o then 0 else gJ σ a b := rfl
theorem gR_zS (σ : St) (o a b : Nat) : gR (zS σ o) a b = if a = o then none else gR σ a b := rfl
/-- what stays the same through the whole run: the launch, the heap at the start, the classes' numbers, the arrays' classes, where the older objects lie, the script -/
abbrev Gx : Type := Launch × Heap × va_G × (Nat → ClassId) × (Nat → Nat) × (Nat → Int32) × Nat
abbrev xH (Γ : Gx) : Heap := Γ.2.1
abbrev xD (Γ : Gx) : va_G := Γ.2.2.1
abbrev xA (Γ : Gx) : Nat → ClassId := Γ.2.2.2.1
abbrev xE (Γ : Gx) : Nat → Nat := Γ.2.2.2.2.1
abbrev xS (Γ : Gx) : Nat → Int32 := Γ.2.2.2.2.2.1
abbrev xN (Γ : Gx) : Nat := Γ.2.2.2.2.2.2
def gz (Γ : Gx) : Nat := (xH Γ).size
def cv (Γ : Gx) : Value → Value
  | .ref i => .ref (gz Γ + i)
  | .retAddr k => .ref (xE Γ k)
  | v => v
def cL (Γ : Gx) (L : Lv) : Lv := L.map (fun q => (q.1, cv Γ q.2))
theorem cv_cat (Γ : Gx) (v : Value) : (cv Γ v).category = v.category := by cases v <;> rfl
def rv (Γ : Gx) (r : Option Nat) : Value := va_rf (r.map (gz Γ + ·))
/-- what a field holds -/
def fv (Γ : Gx) (σ : St) (ρ : Nat → Nat → Option Nat) (t i k : Nat) : Value :=
  match fk t k with
  | 1 => .long (gJ σ i k)
  | 2 => rv Γ (ρ i k)
  | 3 => rv Γ (gR σ i k)
  | _ => .int (gI σ i k)
/-- what a place of an array holds -/
def av (Γ : Gx) (σ : St) (ρ : Nat → Nat → Option Nat) (t i j : Nat) : Value :=
  if t = 21 then .long (gJ σ i j) else if t < 24 then .int (gI σ i j) else rv Γ (ρ i j)
def atC (Γ : Gx) (σ : St) (ρ : Nat → Nat → Option Nat) (i : Nat) (H : Heap) : Prop :=
  ((kd i).1 < 20 → t_OB (gz Γ + i) ((xD Γ).1 (kd i).1) (kd i).2 ((xD Γ).2 (kd i).1) H (fv Γ σ ρ (kd i).1 i)) ∧
  (20 ≤ (kd i).1 → H[gz Γ + i]? = some (arrV (xA Γ ((kd i).1 - 20)) (kd i).2 (av Γ σ ρ (kd i).1 i)))
def HR (Γ : Gx) (σ : St) (w : Wd) (H : Heap) : Prop := H.size = gz Γ + w.1 ∧ (∀ q, q < gz Γ → H[q]? = (xH Γ)[q]?) ∧ ∀ i, i < w.1 → atC Γ σ w.2 i H
/-- the types of the arrays' components, by their numbers -/
def aty (t : Nat) : FieldType := match t with
  | 0 => .int
  | 1 => .long
  | 2 => .byte
  | 3 => .boolean
  | 4 => .object RX7
  | 5 => .object RX10
  | 6 => .object RX5
  | 7 => .object RX6
  | _ => .array .int
/-- the words that a call of a nest mate's constructor needs -/
def nests : List Cond := tables_1.filter (fun w => match w with | .methodLinkNest _ _ _ _ => true | _ => false)
/-- the texts: place in the Parser's pool, text, bytes -/
def txK : List (Nat × String × List Int32) := [(46, "sign", [115, 105, 103, 110]), (107, "start", [115, 116, 97, 114, 116]), (109, "end", [101, 110, 100]), (56, "word", [119, 111, 114, 100]), (61, "lesson", [108, 101, 115, 115, 111, 110]), (151, "after", [97, 102, 116, 101, 114]), (159, "signs", [115, 105, 103, 110, 115]), (163, "sight", [115, 105, 103, 104, 116]), (66, "page", [112, 97, 103, 101])]
abbrev txI (i : Nat) : Nat := (txK.getD i (0, "", [])).1
abbrev txT (i : Nat) : String := (txK.getD i (0, "", [])).2.1
def txB : List (List Int32) := txK.map (fun q => q.2.2)
def txL : List Nat := txB.map List.length
/-- what the start says of the texts -/
def GT (Γ : Gx) (s : State) : Prop := vk_S 9 txL txB (fun i => xE Γ (1 + i)) (fun i => xE Γ (20 + i)) (fun q => gz Γ ≤ q) s (xH Γ) ∧ (∀ i, i < 9 → vk_R RX3 (txI i) (txT i) (xE Γ (1 + i)) s) ∧ va_Z "java/lang/String" "COMPACT_STRINGS" "Z" (.int 1) (fun q => gz Γ ≤ q) s (xH Γ) ∧
  (va_Z "jdk/internal/util/Preconditions" "SIOOBE_FORMATTER" "Ljava/util/function/BiFunction;" .null (fun q => gz Γ ≤ q) s (xH Γ) ∨ va_Z "jdk/internal/util/Preconditions" "SIOOBE_FORMATTER" "Ljava/util/function/BiFunction;" (.ref (xE Γ 40)) (fun q => gz Γ ≤ q) s (xH Γ))
def va_AOA (ty : FieldType) (U : State) : Prop := (Cond.arrayOver (.array ty)).before #[] U = true
/-- what holds of every state of the run -/
def GK (Γ : Gx) (s : State) : Prop := (∀ w ∈ lw_tbl, goodWord w = true → ∀ a : Array Value, w.before a s = true) ∧ (∀ w ∈ nests, va_Nw w s) ∧ va_K (xD Γ) vwCl ((List.range 9).map (fun t => (xA Γ t, aty t))) s ∧ va_X (xE Γ 0) (xN Γ) (xS Γ) s (xH Γ) ∧ GT Γ s ∧ (va_AO RX7 s ∧ va_AO RX10 s ∧ va_AO RX5 s ∧ va_AO RX6 s ∧ va_AOA .int s)
/-- one frame of a method: its machine's part -/
def Fx (Γ : Gx) (μ : MD) (p : Program) (l : Launch) (s : State) (m : MethodId) (meth : Method) (c : Code) : Prop :=
  p.tables.exec = Jvm.exec ∧ c.code = mB μ ∧ c.maxLocals = mL μ ∧ meth.sig.returnType = mR μ ∧ meth.locks = false ∧ s.vm.findClass (mN μ).cls = some m.cls ∧ meth.name = (mN μ).name ∧ l = Γ.1 ∧ GK Γ s
def rmOf (d mc ms : Nat) : Room := { frames := d, cells := mc, slots := ms, locals := 36 * d }
def lcs (Γ : Gx) (locs : List Loc) : Prop := ∀ q ∈ locs, gz Γ ≤ q.base
/-- what the end of a method must give to whoever waits -/
def RetOK (Γ : Gx) (d : Nat) (μ : MD) (Q : Option Value → St → Wd → Prop) (p : Program) (l : Launch) (e : Env) (s : State) (m : MethodId) (args : Array Value) (below : List Frame) (meth : Method) (c : Code) (Z : State → Prop) : Prop :=
  ∀ (v : Option Value) (σ : St) (w : Wd) (H : Heap) (locs : List Loc) (pc : Nat) (ls : Array Slot), Q v σ w → HR Γ σ w H → lcs Γ locs →
    ((v = none ∧ decode (mB μ) pc = .ok (.return_, 1) ∧ mR μ = none) ∨ (∃ x ty, v = some (.int x) ∧ decode (mB μ) pc = .ok (.ireturn, 1) ∧ mR μ = some ty ∧ narrow ty (.int x) = .int x) ∨ (∃ x, v = some (.long x) ∧ decode (mB μ) pc = .ok (.lreturn, 1) ∧ mR μ = some .long)) →
    W p l e (rmOf d (mC μ) (mS μ)) s m args below meth c H locs (mC μ) (mS μ) Z (F0 m pc ls (v.toList.map (cv Γ)))
/-- from this frame on the method comes to its end, with Q -/
def AW (Γ : Gx) (d : Nat) (μ : MD) (Q : Option Value → St → Wd → Prop) (pc : Nat) (L : Lv) (S : List Value) (σ : St) (w : Wd) (cc zz : Nat) : Prop :=
  ∀ (p : Program) (l : Launch) (e : Env) (s : State) (m : MethodId) (args : Array Value) (below : List Frame) (meth : Method) (c : Code) (Z : State → Prop),
    Fx Γ μ p l s m meth c → RetOK Γ d μ Q p l e s m args below meth c Z → ∀ (H : Heap) (locs : List Loc) (ls : Array Slot), HR Γ σ w H → lcs Γ locs → lv_has ls (mL μ) (cL Γ L) → cc ≤ mC μ → zz ≤ mS μ →
    W p l e (rmOf d (mC μ) (mS μ)) s m args below meth c H locs cc zz Z (F0 m pc ls (S.map (cv Γ)))
/-- a method's contract: called so, it comes back, with Q -/
def Sp (Γ : Gx) (d : Nat) (μ : MD) (A : List Value) (σ : St) (w : Wd) (Q : Option Value → St → Wd → Prop) : Prop :=
  Met Γ.1 (mN μ) [Cond.code (mN μ) (mB μ) (mL μ) (mR μ)] (rmOf d (mC μ) (mS μ)) (fun args s => args = (A.map (cv Γ)).toArray ∧ HR Γ σ w s.heap ∧ GK Γ s)
    (fun _ _ o t => ∃ v σ' w', o = .returned (v.map (cv Γ)) ∧ HR Γ σ' w' t.heap ∧ Q v σ' w') (mC μ) (mS μ) (fun q => gz Γ ≤ q)
def SpI (Γ : Gx) (d : Nat) (μ : MD) (A : List Value) (σ : St) (w : Wd) (Q : Int32 → St → Prop) : Prop := Sp Γ d μ A σ w (fun v σ' w' => w' = w ∧ ∃ x, v = some (.int x) ∧ Q x σ')
def SpJ (Γ : Gx) (d : Nat) (μ : MD) (A : List Value) (σ : St) (w : Wd) (Q : Int64 → St → Prop) : Prop := Sp Γ d μ A σ w (fun v σ' w' => w' = w ∧ ∃ x, v = some (.long x) ∧ Q x σ')
def SpV (Γ : Gx) (d : Nat) (μ : MD) (A : List Value) (σ : St) (w : Wd) (Q : St → Prop) : Prop := Sp Γ d μ A σ w (fun v σ' w' => w' = w ∧ v = none ∧ Q σ')
def SpC (Γ : Gx) (d : Nat) (μ : MD) (A : List Value) (σ : St) (w : Wd) (Q : St → Wd → Prop) : Prop := Sp Γ d μ A σ w (fun v σ' w' => v = none ∧ Q σ' w')
def SpN (Γ : Gx) (d : Nat) (μ : MD) (A : List Value) (σ : St) (w : Wd) (Q : Int32 → St → Wd → Prop) : Prop := Sp Γ d μ A σ w (fun v σ' w' => ∃ x, v = some (.int x) ∧ Q x σ' w')
/-- the tables of a class: fields (class, place, kind), calls (0 virtual, 1 static, 2 special, 3 special to a nest mate), constants, classes to make, Object's constructor, arraycopy -/
abbrev Tb : Type := List (Nat × Nat × Nat × Nat) × List (Nat × Nat × MD) × List (Nat × Value) × List (Nat × Nat) × List Nat × List Nat
/-- a method's instructions: place, instruction, length, the constant that it bears, the place that it goes to, the place behind it -/
abbrev Is : Type := List (Nat × Instr × Nat × Int32 × Nat × Nat)
/-- its switches: place, cases, default; its cuts: place, locals that are kept there -/
abbrev Sw : Type := List (Nat × List (Int32 × Nat) × Nat)
abbrev Cu : Type := List (Nat × List Nat)
def okO (w : Wd) (o c : Nat) : Prop := o < w.1 ∧ (kd o).1 = c
def catS (S : List Value) : Nat := (S.map Value.category).sum
def putL1 (L : Lv) (i : Nat) (v : Value) : Lv := (i, v) :: L.filter (fun q => !(q.1 == i) && !(q.1 + 1 == i && q.2.category == 2))
def putL2 (L : Lv) (i : Nat) (v : Value) : Lv := (i, v) :: L.filter (fun q => !(q.1 == i) && (!(q.1 == i + 1) && !(q.1 + 1 == i && q.2.category == 2)))
/-- keep these locals alone, in this order -/
def pickL (ks : List Nat) (L : Lv) : Lv := ks.filterMap (fun k => (L.lookup k).map (fun v => (k, v)))
/-- instructions that work on the stack alone -/
def sop (i : Instr) (S : List Value) : Option (List Value) :=
  match i, S with
  | .lconst n, S => some (.long (if n.val = 0 then 0 else 1) :: S)
  | .iadd, .int y :: .int x :: S => some (.int (x + y) :: S)
  | .isub, .int y :: .int x :: S => some (.int (x - y) :: S)
  | .imul, .int y :: .int x :: S => some (.int (x * y) :: S)
  | .iand, .int y :: .int x :: S => some (.int (x &&& y) :: S)
  | .ior, .int y :: .int x :: S => some (.int (x ||| y) :: S)
  | .ixor, .int y :: .int x :: S => some (.int (x ^^^ y) :: S)
  | .ishl, .int y :: .int x :: S => some (.int (x <<< (y &&& 31)) :: S)
  | .ishr, .int y :: .int x :: S => some (.int (x >>> (y &&& 31)) :: S)
  | .iushr, .int y :: .int x :: S => some (.int (x.toUInt32 >>> (y.toUInt32 &&& Int32.toUInt32 31)).toInt32 :: S)
  | .ladd, .long y :: .long x :: S => some (.long (x + y) :: S)
  | .lsub, .long y :: .long x :: S => some (.long (x - y) :: S)
  | .lmul, .long y :: .long x :: S => some (.long (x * y) :: S)
  | .land, .long y :: .long x :: S => some (.long (x &&& y) :: S)
  | .lor, .long y :: .long x :: S => some (.long (x ||| y) :: S)
  | .lshl, .int y :: .long x :: S => some (.long (x <<< (y.toInt64 &&& 63)) :: S)
  | .lshr, .int y :: .long x :: S => some (.long (x >>> (y.toInt64 &&& 63)) :: S)
  | .lushr, .int y :: .long x :: S => some (.long (x.toUInt64 >>> (y.toInt64.toUInt64 &&& Int64.toUInt64 63)).toInt64 :: S)
  | .lcmp, .long y :: .long x :: S => some (.int (lg_cmp x y) :: S)
  | .i2l, .int x :: S => some (.long x.toInt64 :: S)
  | .l2i, .long x :: S => some (.int x.toInt32 :: S)
  | .i2b, .int x :: S => some (.int x.toInt8.toInt32 :: S)
  | .i2c, .int x :: S => some (.int (x.toUInt32 % 65536).toInt32 :: S)
  | .pop, .int _ :: S => some S
  | .dup, .int x :: S => some (.int x :: .int x :: S)
  | .dup, .ref x :: S => some (.ref x :: .ref x :: S)
  | .dup_x1, .int x :: .ref y :: S => some (.int x :: .ref y :: .int x :: S)
  | .dup2, .int x :: .ref y :: S => some (.int x :: .ref y :: .int x :: .ref y :: S)
  | _, _ => none
/-- a branch: taken A, else B -/
def bra (cn : ClassFile.Cond) (x y : Int32) (A B : Prop) : Prop :=
  match cn with
  | .eq => (x = y → A) ∧ (¬ x = y → B)
  | .ne => (¬ x = y → A) ∧ (x = y → B)
  | .lt => (x < y → A) ∧ (¬ x < y → B)
  | .ge => (y ≤ x → A) ∧ (¬ y ≤ x → B)
  | .gt => (y < x → A) ∧ (¬ y < x → B)
  | .le => (x ≤ y → A) ∧ (¬ x ≤ y → B)
def swP (x : Int32) (k : Nat → Prop) (dflt : Nat) : List (Int32 × Nat) → Prop
  | [] => k dflt
  | (v, t) :: r => (x = v → k t) ∧ (¬ x = v → swP x k dflt r)
/-- one step: what must hold for the frame behind it -/
def stp (Γ : Gx) (d : Nat) (μ : MD) (Q : Option Value → St → Wd → Prop) (T : Tb) (sw : Sw) (i : Instr) (cst : Int32) (tgt nx : Nat) (pc : Nat) (L : Lv) (S : List Value) (σ : St) (w : Wd) (cc zz : Nat) (k : Nat → Lv → List Value → St → Wd → Nat → Nat → Prop) : Prop :=
  match sop i S with
  | some S' => k nx L S' σ w cc zz
  | none =>
  match i, S with
  | .iconst _, S => k nx L (.int cst :: S) σ w cc zz
  | .bipush _, S => k nx L (.int cst :: S) σ w cc zz
  | .sipush _, S => k nx L (.int cst :: S) σ w cc zz
  | .iload n, S => match L.lookup n with
    | some (.int x) => k nx L (.int x :: S) σ w cc zz
    | _ => False
  | .iload_n n, S => match L.lookup n.val with
    | some (.int x) => k nx L (.int x :: S) σ w cc zz
    | _ => False
  | .lload n, S => match L.lookup n with
    | some (.long x) => k nx L (.long x :: S) σ w cc zz
    | _ => False
  | .lload_n n, S => match L.lookup n.val with
    | some (.long x) => k nx L (.long x :: S) σ w cc zz
    | _ => False
  | .aload n, S => match L.lookup n with
    | some (.ref x) => k nx L (.ref x :: S) σ w cc zz
    | some (.retAddr x) => k nx L (.retAddr x :: S) σ w cc zz
    | _ => False
  | .aload_n n, S => match L.lookup n.val with
    | some (.ref x) => k nx L (.ref x :: S) σ w cc zz
    | some (.retAddr x) => k nx L (.retAddr x :: S) σ w cc zz
    | _ => False
  | .istore n, .int x :: S => if n < mL μ then k nx (putL1 L n (.int x)) S σ w cc zz else False
  | .istore_n n, .int x :: S => if n.val < mL μ then k nx (putL1 L n.val (.int x)) S σ w cc zz else False
  | .astore n, .ref x :: S => if n < mL μ then k nx (putL1 L n (.ref x)) S σ w cc zz else False
  | .astore_n n, .ref x :: S => if n.val < mL μ then k nx (putL1 L n.val (.ref x)) S σ w cc zz else False
  | .lstore n, .long x :: S => if n + 1 < mL μ then k nx (putL2 L n (.long x)) S σ w cc zz else False
  | .lstore_n n, .long x :: S => if n.val + 1 < mL μ then k nx (putL2 L n.val (.long x)) S σ w cc zz else False
  | .iinc n _, S => match L.lookup n with
    | some (.int x) => if n < mL μ then k nx (putL1 L n (.int (x + cst))) S σ w cc zz else False
    | _ => False
  | .idiv, .int y :: .int x :: S => ¬ y = 0 ∧ k nx L (.int (x / y) :: S) σ w cc zz
  | .irem, .int y :: .int x :: S => ¬ y = 0 ∧ k nx L (.int (x - x / y * y) :: S) σ w cc zz
  | .goto _, S => k tgt L S σ w cc zz
  | .ifCond cn _, .int x :: S => bra cn x 0 (k tgt L S σ w cc zz) (k nx L S σ w cc zz)
  | .if_icmp cn _, .int y :: .int x :: S => bra cn x y (k tgt L S σ w cc zz) (k nx L S σ w cc zz)
  | .ifnull _, .ref _ :: S => k nx L S σ w cc zz
  | .ifnull _, .null :: S => k tgt L S σ w cc zz
  | .ifnonnull _, .ref _ :: S => k tgt L S σ w cc zz
  | .ifnonnull _, .null :: S => k nx L S σ w cc zz
  | .tableswitch _ _ _ _, .int x :: S => match sw.lookup pc with
    | some (cs, df) => swP x (fun t => k t L S σ w cc zz) df cs
    | none => False
  | .ldc n, S => match T.2.2.1.lookup n with
    | some (.int x) => k nx L (.int x :: S) σ w cc zz
    | some (.retAddr x) => k nx L (.retAddr x :: S) σ w cc zz
    | _ => False
  | .ldc_w n, S => match T.2.2.1.lookup n with
    | some (.int x) => k nx L (.int x :: S) σ w cc zz
    | _ => False
  | .ldc2_w n, S => match T.2.2.1.lookup n with
    | some (.long x) => k nx L (.long x :: S) σ w cc zz
    | _ => False
  | .getfield n, .ref o :: S => match T.1.lookup n with
    | some (ci, f, 1) => okO w o ci ∧ k nx L (.long (gJ σ o f) :: S) σ w cc zz
    | some (ci, f, 2) => okO w o ci ∧ ∃ r, w.2 o f = some r ∧ k nx L (.ref r :: S) σ w cc zz
    | some (ci, f, 3) => okO w o ci ∧ (∀ r, gR σ o f = some r → k nx L (.ref r :: S) σ w cc zz) ∧ (gR σ o f = none → k nx L (.null :: S) σ w cc zz)
    | some (ci, f, 0) => okO w o ci ∧ k nx L (.int (gI σ o f) :: S) σ w cc zz
    | some (ci, f, 4) => okO w o ci ∧ k nx L (.int (gI σ o f) :: S) σ w cc zz
    | _ => False
  | .getfield n, .retAddr x :: S => match T.1.lookup n with
    | some (_, _, 7) => 1 ≤ x ∧ x ≤ 9 ∧ k nx L (.retAddr (x + 19) :: S) σ w cc zz
    | some (_, _, 8) => 1 ≤ x ∧ x ≤ 9 ∧ k nx L (.int 0 :: S) σ w cc zz
    | _ => False
  | .getstatic n, S => match T.1.lookup n with
    | some (_, _, 9) => k nx L (.int 1 :: S) σ w cc zz
    | some (_, _, 10) => k nx L (.null :: S) σ w cc zz ∧ k nx L (.retAddr 40 :: S) σ w cc zz
    | _ => False
  | .putfield n, .int v :: .ref o :: S => match T.1.lookup n with
    | some (ci, f, 0) => okO w o ci ∧ k nx L S (uI σ o f v) w cc zz
    | some (ci, f, 4) => okO w o ci ∧ (v = 0 ∨ v = 1) ∧ k nx L S (uI σ o f v) w cc zz
    | _ => False
  | .putfield n, .long v :: .ref o :: S => match T.1.lookup n with
    | some (ci, f, 1) => okO w o ci ∧ k nx L S (uJ σ o f v) w cc zz
    | _ => False
  | .putfield n, .ref r :: .ref o :: S => match T.1.lookup n with
    | some (ci, f, 2) => okO w o ci ∧ ((mN μ).name = "<init>" ∧ vwCl[ci]?.map (fun q => q.1) = some (mN μ).cls) ∧ k nx L S σ (uW w o f (some r)) cc zz
    | some (ci, f, 3) => okO w o ci ∧ k nx L S (uR σ o f (some r)) w cc zz
    | _ => False
  | .iaload, .int j :: .ref a :: S => okO w a 20 ∧ vp_in j (kd a).2 ∧ k nx L (.int (gI σ a j.toNatClampNeg) :: S) σ w cc zz
  | .iaload, .int j :: .retAddr 0 :: S => vp_in j (xN Γ) ∧ k nx L (.int (xS Γ j.toNatClampNeg) :: S) σ w cc zz
  | .laload, .int j :: .ref a :: S => okO w a 21 ∧ vp_in j (kd a).2 ∧ k nx L (.long (gJ σ a j.toNatClampNeg) :: S) σ w cc zz
  | .baload, .int j :: .ref a :: S => a < w.1 ∧ ((kd a).1 = 22 ∨ (kd a).1 = 23) ∧ vp_in j (kd a).2 ∧ k nx L (.int (gI σ a j.toNatClampNeg) :: S) σ w cc zz
  | .aaload, .int j :: .ref a :: S => a < w.1 ∧ 24 ≤ (kd a).1 ∧ (kd a).1 ≤ 28 ∧ vp_in j (kd a).2 ∧ ∃ r, w.2 a j.toNatClampNeg = some r ∧ k nx L (.ref r :: S) σ w cc zz
  | .iastore, .int v :: .int j :: .ref a :: S => okO w a 20 ∧ vp_in j (kd a).2 ∧ k nx L S (uI σ a j.toNatClampNeg v) w cc zz
  | .lastore, .long v :: .int j :: .ref a :: S => okO w a 21 ∧ vp_in j (kd a).2 ∧ k nx L S (uJ σ a j.toNatClampNeg v) w cc zz
  | .bastore, .int v :: .int j :: .ref a :: S => a < w.1 ∧ (((kd a).1 = 22 ∧ v.toInt8.toInt32 = v) ∨ ((kd a).1 = 23 ∧ v &&& 1 = v)) ∧ vp_in j (kd a).2 ∧ k nx L S (uI σ a j.toNatClampNeg v) w cc zz
  | .aastore, .ref r :: .int j :: .ref a :: S => a < w.1 ∧ r < w.1 ∧ (((kd a).1 = 24 ∧ (kd r).1 = 7) ∨ ((kd a).1 = 25 ∧ (kd r).1 = 10) ∨ ((kd a).1 = 26 ∧ (kd r).1 = 5) ∨ ((kd a).1 = 27 ∧ (kd r).1 = 6)) ∧ vp_in j (kd a).2 ∧ k nx L S σ (uW w a j.toNatClampNeg (some r)) cc zz
  | .arraylength, .ref a :: S => a < w.1 ∧ 20 ≤ (kd a).1 ∧ (kd a).1 ≤ 28 ∧ k nx L (.int (nI (kd a).2) :: S) σ w cc zz
  | .arraylength, .retAddr 0 :: S => k nx L (.int (nI (xN Γ)) :: S) σ w cc zz
  | .arraylength, .retAddr y :: S => 20 ≤ y ∧ y ≤ 28 ∧ k nx L (.int (nI (txL.getD (y - 20) 0)) :: S) σ w cc zz
  | .baload, .int j :: .retAddr y :: S => 20 ≤ y ∧ y ≤ 28 ∧ vp_in j (txL.getD (y - 20) 0) ∧ k nx L (.int ((txB.getD (y - 20) []).getD j.toNatClampNeg 0) :: S) σ w cc zz
  | .new n, S => match T.2.2.2.1.lookup n with
    | some ci => ((kd w.1).1 = ci ∧ ci < 20) ∧ cc + 1 ≤ mC μ ∧ zz + (kd w.1).2 ≤ mS μ ∧ k nx L (.ref w.1 :: S) (zS σ w.1) (zW w) (cc + 1) (zz + (kd w.1).2)
    | none => False
  | .newarray ty, .int n :: S => ((kd w.1).1 = 20 ∧ ty = .int ∨ (kd w.1).1 = 21 ∧ ty = .long ∨ (kd w.1).1 = 22 ∧ ty = .byte ∨ (kd w.1).1 = 23 ∧ ty = .boolean) ∧ ¬ n < 0 ∧ (kd w.1).2 = n.toNatClampNeg ∧ cc + 1 ≤ mC μ ∧ zz + (kd w.1).2 ≤ mS μ ∧ k nx L (.ref w.1 :: S) (zS σ w.1) (zW w) (cc + 1) (zz + (kd w.1).2)
  | .anewarray n, .int j :: S => match T.2.2.2.1.lookup (n + 100000) with
    | some t => (kd w.1).1 = t ∧ 24 ≤ t ∧ t ≤ 27 ∧ ¬ j < 0 ∧ (kd w.1).2 = j.toNatClampNeg ∧ cc + 1 ≤ mC μ ∧ zz + (kd w.1).2 ≤ mS μ ∧ k nx L (.ref w.1 :: S) (zS σ w.1) (zW w) (cc + 1) (zz + (kd w.1).2)
    | none => False
  | .multianewarray n 2, .int b :: .int a :: S => match T.2.2.2.1.lookup n with
    | some 28 => kd w.1 = (28, a.toNatClampNeg) ∧ (∀ i, i < a.toNatClampNeg → kd (w.1 + 1 + i) = (20, b.toNatClampNeg)) ∧ ¬ a < 0 ∧ ¬ b < 0 ∧ a.toNatClampNeg ≤ 1000 ∧ b.toNatClampNeg ≤ 1000 ∧ cc + (1 + a.toNatClampNeg) ≤ mC μ ∧ zz + (a.toNatClampNeg + a.toNatClampNeg * b.toNatClampNeg) ≤ mS μ ∧
      k nx L (.ref w.1 :: S) (zM σ w.1 (1 + a.toNatClampNeg)) (gM w a.toNatClampNeg) (cc + 1 + a.toNatClampNeg) (zz + a.toNatClampNeg + a.toNatClampNeg * b.toNatClampNeg)
    | _ => False
  | .invokespecial n, .ref o :: S => if T.2.2.2.2.1.contains n then 1 ≤ d ∧ catS S ≤ 8 ∧ k nx L S σ w cc zz else
    match T.2.1.lookup n, d with
    | some (2, ν), d + 1 => mA ν = 0 ∧ catS S ≤ 8 ∧ cc + mC ν ≤ mC μ ∧ zz + mS ν ≤ mS μ ∧ SpC Γ d ν [.ref o] σ w (fun σ' w' => k nx L S σ' w' (cc + mC ν) (zz + mS ν))
    | some (3, ν), d + 1 => mA ν = 0 ∧ catS S ≤ 8 ∧ cc + mC ν ≤ mC μ ∧ zz + mS ν ≤ mS μ ∧ SpC Γ d ν [.ref o] σ w (fun σ' w' => k nx L S σ' w' (cc + mC ν) (zz + mS ν))
    | _, _ => False
  | .invokespecial n, .int x :: .ref o :: S => match T.2.1.lookup n, d with
    | some (2, ν), d + 1 => mA ν = 1 ∧ catS S ≤ 8 ∧ cc + mC ν ≤ mC μ ∧ zz + mS ν ≤ mS μ ∧ SpC Γ d ν [.ref o, .int x] σ w (fun σ' w' => k nx L S σ' w' (cc + mC ν) (zz + mS ν))
    | _, _ => False
  | .invokestatic n, S => match T.2.1.lookup n, d with
    | some (4, _), d + 1 => (match S with
      | .int n :: .int dp :: .ref b :: .int sp :: .ref a :: S => okO w a 20 ∧ okO w b 20 ∧ ¬ sp < 0 ∧ ¬ dp < 0 ∧ ¬ n < 0 ∧ sp.toNatClampNeg + n.toNatClampNeg ≤ (kd a).2 ∧ dp.toNatClampNeg + n.toNatClampNeg ≤ (kd b).2 ∧ catS S ≤ 8 ∧
        k nx L S (cS σ a b sp.toNatClampNeg dp.toNatClampNeg n.toNatClampNeg) w cc zz
      | _ => False)
    | some (1, ν), d + 1 => mA ν ≤ S.length ∧ catS (S.drop (mA ν)) ≤ 8 ∧ (match mK ν with
      | 0 => SpV Γ d ν (S.take (mA ν)).reverse σ w (fun σ' => k nx L (S.drop (mA ν)) σ' w cc zz)
      | 1 => SpI Γ d ν (S.take (mA ν)).reverse σ w (fun x σ' => k nx L (.int x :: S.drop (mA ν)) σ' w cc zz)
      | 2 => SpJ Γ d ν (S.take (mA ν)).reverse σ w (fun x σ' => k nx L (.long x :: S.drop (mA ν)) σ' w cc zz)
      | _ => False)
    | some (6, ν), d + 1 => mA ν ≤ S.length ∧ catS (S.drop (mA ν)) ≤ 8 ∧ (match mK ν with
      | 0 => SpV Γ d ν (S.take (mA ν)).reverse σ w (fun σ' => k nx L (S.drop (mA ν)) σ' w cc zz)
      | 1 => SpI Γ d ν (S.take (mA ν)).reverse σ w (fun x σ' => k nx L (.int x :: S.drop (mA ν)) σ' w cc zz)
      | 2 => SpJ Γ d ν (S.take (mA ν)).reverse σ w (fun x σ' => k nx L (.long x :: S.drop (mA ν)) σ' w cc zz)
      | _ => False)
    | _, _ => False
  | .invokevirtual n, S => match T.2.1.lookup n, d with
    | some (0, ν), d + 1 => (match S.drop (mA ν) with
      | .ref o :: R => okO w o (mO ν) ∧ catS R ≤ 8 ∧ (match mK ν with
        | 0 => SpV Γ d ν (.ref o :: (S.take (mA ν)).reverse) σ w (fun σ' => k nx L R σ' w cc zz)
        | 1 => SpI Γ d ν (.ref o :: (S.take (mA ν)).reverse) σ w (fun x σ' => k nx L (.int x :: R) σ' w cc zz)
        | 2 => SpJ Γ d ν (.ref o :: (S.take (mA ν)).reverse) σ w (fun x σ' => k nx L (.long x :: R) σ' w cc zz)
        | 4 => cc + mC ν ≤ mC μ ∧ zz + mS ν ≤ mS μ ∧ SpN Γ d ν (.ref o :: (S.take (mA ν)).reverse) σ w (fun x σ' w' => k nx L (.int x :: R) σ' w' (cc + mC ν) (zz + mS ν))
        | _ => False)
      | _ => False)
    | some (5, ν), d + 1 => (match S.drop (mA ν) with
      | .retAddr x :: R => 1 ≤ x ∧ x ≤ 9 ∧ catS R ≤ 8 ∧ (match mK ν with
        | 1 => SpI Γ d ν (.retAddr x :: (S.take (mA ν)).reverse) σ w (fun x σ' => k nx L (.int x :: R) σ' w cc zz)
        | _ => False)
      | _ => False)
    | _, _ => False
  | .ireturn, .int x :: [] => (match mR μ with
    | some ty => narrow ty (.int x) = .int x ∧ Q (some (.int x)) σ w
    | none => False)
  | .lreturn, .long x :: [] => mR μ = some .long ∧ Q (some (.long x)) σ w
  | .return_, [] => mR μ = none ∧ Q none σ w
  | _, _ => False
/-- n steps; where a cut is met, or the steps are used up, the frame itself is asked for -/
def wp (Γ : Gx) (d : Nat) (μ : MD) (Q : Option Value → St → Wd → Prop) (T : Tb) (is : Is) (sw : Sw) (cu : Cu) : Nat → Nat → Lv → List Value → St → Wd → Nat → Nat → Prop
  | 0, pc, L, S, σ, w, cc, zz => AW Γ d μ Q pc L S σ w cc zz
  | n + 1, pc, L, S, σ, w, cc, zz => match is.lookup pc with
    | none => False
    | some (i, _, cst, tgt, nx) => stp Γ d μ Q T sw i cst tgt nx pc L S σ w cc zz (fun pc' L' S' σ' w' cc' zz' => match cu.lookup pc' with
      | some ks => AW Γ d μ Q pc' (pickL ks L') S' σ' w' cc' zz'
      | none => wp Γ d μ Q T is sw cu n pc' L' S' σ' w' cc' zz')
end
section
/-! the engine's rows: one for each kind of instruction -/
theorem lk_mem {L : Lv} {n : Nat} {v : Value} (h : L.lookup n = some v) : (n, v) ∈ L := by
  induction L with
  | nil => simp [List.lookup] at h
  | cons q r ih =>
    obtain ⟨a, b⟩ := q
    by_cases e : n = a
    · subst e
      simp [List.lookup] at h
      subst h
      exact List.mem_cons_self
    · have : (n == a) = false := by simp [e]
      simp [List.lookup, this] at h
      exact List.mem_cons_of_mem _ (ih h)
theorem lk_at {Γ : Gx} {ls : Array Slot} {nL n : Nat} {L : Lv} {v : Value} (hl : lv_has ls nL (cL Γ L)) (h : L.lookup n = some v) : ls[n]? = some (.val (cv Γ v)) :=
  hl.2.2 (n, cv Γ v) (List.mem_map.mpr ⟨(n, v), lk_mem h, rfl⟩)
theorem lk_pick {Γ : Gx} {ls : Array Slot} {nL : Nat} {L : Lv} (ks : List Nat) (hl : lv_has ls nL (cL Γ L)) : lv_has ls nL (cL Γ (pickL ks L)) := by
  refine ⟨hl.1, hl.2.1, fun q hq => ?_⟩
  obtain ⟨q', h1, rfl⟩ := List.mem_map.mp hq
  obtain ⟨k, -, h2⟩ := List.mem_filterMap.mp h1
  cases h3 : L.lookup k with
  | none => rw [h3] at h2; cases h2
  | some v =>
    rw [h3] at h2
    cases h2
    exact lk_at hl h3
theorem cL_put1 (Γ : Gx) (L : Lv) (i : Nat) (v : Value) : (i, cv Γ v) :: (cL Γ L).filter (fun q => !(q.1 == i) && !(q.1 + 1 == i && q.2.category == 2)) = cL Γ (putL1 L i v) := by
  unfold putL1 cL
  rw [List.map_cons, List.filter_map]
  congr 2
  apply List.filter_congr
  intro q _
  simp [Function.comp, cv_cat]
theorem cL_put2 (Γ : Gx) (L : Lv) (i : Nat) (v : Value) : (i, cv Γ v) :: (cL Γ L).filter (fun q => !(q.1 == i) && (!(q.1 == i + 1) && !(q.1 + 1 == i && q.2.category == 2))) = cL Γ (putL2 L i v) := by
  unfold putL2 cL
  rw [List.map_cons, List.filter_map]
  congr 2
  apply List.filter_congr
  intro q _
  simp [Function.comp, cv_cat]
theorem AW.pick {Γ : Gx} {d : Nat} {μ : MD} {Q : Option Value → St → Wd → Prop} {pc : Nat} {L : Lv} {S : List Value} {σ : St} {w : Wd} {cc zz : Nat} (ks : List Nat) (h : AW Γ d μ Q pc (pickL ks L) S σ w cc zz) : AW Γ d μ Q pc L S σ w cc zz :=
  fun p l e s m args below meth c Z hF hR H locs ls hH hlo hl hc hz => h p l e s m args below meth c Z hF hR H locs ls hH hlo (lk_pick ks hl) hc hz
/-- a field's type, its kind -/
def ftk (t : Option FieldType) (kn : Nat) : Bool := match t, kn with
  | some .int, 0 => true
  | some .long, 1 => true
  | some (.object _), 2 => true
  | some (.array _), 2 => true
  | some (.object _), 3 => true
  | some .boolean, 4 => true
  | _, _ => false
/-- the words of a table: its check by program -/
def fCk (C : String) (q : Nat × Nat × Nat × Nat) (wi : Nat) : Bool := match vwCl[q.2.1]? with
  | some (R, T, N) => decide (q.2.2.1 < N) && decide (lw_tbl[wi]? = some (.fieldLink C q.1 R (T q.2.2.1).2.1 (T q.2.2.1).2.2.1)) && decide ((T q.2.2.1).1 = R) && decide (fk q.2.1 q.2.2.1 = q.2.2.2) && ((T q.2.2.1).2.2.2 == decide (q.2.2.2 = 2)) &&
    ftk (parseFieldDescriptor (T q.2.2.1).2.2.1) q.2.2.2
  | none => false
/-- of a row of instructions -/
def iCk (bs : ByteArray) (q : Nat × Instr × Nat × Int32 × Nat × Nat) : Bool := decide (decode bs q.1 = .ok (q.2.1, q.2.2.1)) && decide (q.1 + q.2.2.1 = q.2.2.2.2.2) && (match q.2.1 with
  | .iconst n => decide (Int32.ofInt n = q.2.2.2.1) && decide (q.2.2.1 = 1)
  | .bipush n => decide ((Int8.ofInt n).toInt32 = q.2.2.2.1) && decide (q.2.2.1 = 2)
  | .sipush n => decide ((Int16.ofInt n).toInt32 = q.2.2.2.1) && decide (q.2.2.1 = 3)
  | .iinc _ n => decide (Int32.ofInt n = q.2.2.2.1) && decide (q.2.2.1 = 3)
  | .goto o => decide ((q.1 : Int) + o = (q.2.2.2.2.1 : Int)) && decide (q.2.2.1 = 3)
  | .ifCond _ o => decide ((q.1 : Int) + o = (q.2.2.2.2.1 : Int)) && decide (q.2.2.1 = 3)
  | .if_icmp _ o => decide ((q.1 : Int) + o = (q.2.2.2.2.1 : Int)) && decide (q.2.2.1 = 3)
  | .ifnull o => decide ((q.1 : Int) + o = (q.2.2.2.2.1 : Int)) && decide (q.2.2.1 = 3)
  | .ifnonnull o => decide ((q.1 : Int) + o = (q.2.2.2.2.1 : Int)) && decide (q.2.2.1 = 3)
  | .iload _ => decide (q.2.2.1 = 2)
  | .lload _ => decide (q.2.2.1 = 2)
  | .aload _ => decide (q.2.2.1 = 2)
  | .istore _ => decide (q.2.2.1 = 2)
  | .lstore _ => decide (q.2.2.1 = 2)
  | .astore _ => decide (q.2.2.1 = 2)
  | .getfield _ => decide (q.2.2.1 = 3)
  | .getstatic _ => decide (q.2.2.1 = 3)
  | .putfield _ => decide (q.2.2.1 = 3)
  | .invokespecial _ => decide (q.2.2.1 = 3)
  | .invokestatic _ => decide (q.2.2.1 = 3)
  | .invokevirtual _ => decide (q.2.2.1 = 3)
  | .new _ => decide (q.2.2.1 = 3)
  | .anewarray _ => decide (q.2.2.1 = 3)
  | .newarray _ => decide (q.2.2.1 = 2)
  | .multianewarray _ _ => decide (q.2.2.1 = 4)
  | .ldc _ => decide (q.2.2.1 = 2)
  | .ldc_w _ => decide (q.2.2.1 = 3)
  | .ldc2_w _ => decide (q.2.2.1 = 3)
  | .tableswitch _ _ _ _ => true
  | _ => decide (q.2.2.1 = 1))
theorem lc2 : ∀ n : Fin 2, Int64.ofNat (n : Nat) = if n.val = 0 then 0 else 1 := by decide
section Rows
variable {Γ : Gx} {d : Nat} {μ : MD} {Q : Option Value → St → Wd → Prop} {pc : Nat} {L : Lv} {S : List Value} {σ : St} {w : Wd} {cc zz : Nat}
set_option maxHeartbeats 1000000 in
theorem aw_sop {i : Instr} {S S' : List Value} (hd : decode (mB μ) pc = .ok (i, 1)) (h : sop i S = some S') (k : AW Γ d μ Q (pc + 1) L S' σ w cc zz) : AW Γ d μ Q pc L S σ w cc zz := by
  intro p l e s m args below meth c Z hF hR H locs ls hH hlo hl hc hz
  have kk := k p l e s m args below meth c Z hF hR H locs ls hH hlo hl hc hz
  obtain ⟨hx, hb, -⟩ := hF
  unfold sop at h
  split at h <;> first | (cases h; done) | (injection h with h; subst h)
  · exact lv_lconst (n := _) hx hb hd (lc2 _) kk
  · exact lv_iadd hx hb hd kk
  · exact lv_isub hx hb hd kk
  · exact lv_imul hx hb hd kk
  · exact lv_iand hx hb hd kk
  · exact lv_ior hx hb hd kk
  · exact lv_ixor hx hb hd kk
  · exact lv_ishl hx hb hd kk
  · exact lv_ishr hx hb hd kk
  · exact lv_iushr hx hb hd rfl kk
  · exact lv_ladd hx hb hd kk
  · exact lv_lsub hx hb hd kk
  · exact lv_lmul hx hb hd kk
  · exact lv_land hx hb hd kk
  · exact lv_lor hx hb hd kk
  · exact lv_lshl hx hb hd rfl kk
  · exact lv_lshr hx hb hd rfl kk
  · exact lv_lushr hx hb hd rfl kk
  · exact W.lcmp hx hb hd kk
  · exact lv_i2l hx hb hd rfl kk
  · exact lv_l2i hx hb hd rfl kk
  · exact lv_i2b hx hb hd rfl kk
  · exact lv_i2c hx hb hd rfl kk
  · exact lv_pop hx hb hd rfl kk
  · exact lv_dup hx hb hd rfl kk
  · exact lv_dup hx hb hd rfl kk
  · exact lv_dup_x1 hx hb hd rfl rfl kk
  · exact lv_dup2_11 hx hb hd rfl rfl kk
theorem aw_cst {i : Instr} {len : Nat} {v : Int32} (hd : decode (mB μ) pc = .ok (i, len)) (h : (∃ n, i = .iconst n ∧ Int32.ofInt n = v ∧ len = 1) ∨ (∃ n, i = .bipush n ∧ (Int8.ofInt n).toInt32 = v ∧ len = 2) ∨ (∃ n, i = .sipush n ∧ (Int16.ofInt n).toInt32 = v ∧ len = 3)) (k : AW Γ d μ Q (pc + len) L (.int v :: S) σ w cc zz) : AW Γ d μ Q pc L S σ w cc zz := by
  intro p l e s m args below meth c Z hF hR H locs ls hH hlo hl hc hz
  have kk := k p l e s m args below meth c Z hF hR H locs ls hH hlo hl hc hz
  obtain ⟨hx, hb, -⟩ := hF
  rcases h with ⟨n, rfl, hv, rfl⟩ | ⟨n, rfl, hv, rfl⟩ | ⟨n, rfl, hv, rfl⟩
  · exact lv_iconst hx hb hd hv kk
  · exact lv_bipush hx hb hd hv kk
  · exact lv_sipush hx hb hd hv kk
theorem aw_load {i : Instr} {len n : Nat} {v : Value} (hd : decode (mB μ) pc = .ok (i, len)) (hv : L.lookup n = some v)
    (h : (∃ x, v = .int x ∧ ((i = .iload n ∧ len = 2) ∨ ∃ q : Fin 4, q.val = n ∧ i = .iload_n q ∧ len = 1)) ∨ (∃ x, v = .long x ∧ ((i = .lload n ∧ len = 2) ∨ ∃ q : Fin 4, q.val = n ∧ i = .lload_n q ∧ len = 1)) ∨ ((∃ x, v = .ref x ∨ v = .retAddr x) ∧ ((i = .aload n ∧ len = 2) ∨ ∃ q : Fin 4, q.val = n ∧ i = .aload_n q ∧ len = 1)))
    (k : AW Γ d μ Q (pc + len) L (v :: S) σ w cc zz) : AW Γ d μ Q pc L S σ w cc zz := by
  intro p l e s m args below meth c Z hF hR H locs ls hH hlo hl hc hz
  have kk := k p l e s m args below meth c Z hF hR H locs ls hH hlo hl hc hz
  obtain ⟨hx, hb, -⟩ := hF
  have ha := lk_at hl hv
  rcases h with ⟨x, rfl, ⟨rfl, rfl⟩ | ⟨q, hq, rfl, rfl⟩⟩ | ⟨x, rfl, ⟨rfl, rfl⟩ | ⟨q, hq, rfl, rfl⟩⟩ | ⟨⟨x, rfl | rfl⟩, ⟨rfl, rfl⟩ | ⟨q, hq, rfl, rfl⟩⟩
  · exact lv_iload hx hb hd ha kk
  · exact lv_iload_n hx hb hd hq ha kk
  · exact lv_lload hx hb hd ha kk
  · exact lv_lload_n hx hb hd hq ha kk
  · exact lv_aload hx hb hd ha kk
  · exact lv_aload_n hx hb hd hq ha kk
  · exact lv_aload hx hb hd ha kk
  · exact lv_aload_n hx hb hd hq ha kk
theorem aw_store1 {i : Instr} {len n : Nat} {v : Value} (hd : decode (mB μ) pc = .ok (i, len)) (hn : n < mL μ)
    (h : (∃ x, v = .int x ∧ ((i = .istore n ∧ len = 2) ∨ ∃ q : Fin 4, q.val = n ∧ i = .istore_n q ∧ len = 1)) ∨ (∃ x, v = .ref x ∧ ((i = .astore n ∧ len = 2) ∨ ∃ q : Fin 4, q.val = n ∧ i = .astore_n q ∧ len = 1)))
    (k : AW Γ d μ Q (pc + len) (putL1 L n v) S σ w cc zz) : AW Γ d μ Q pc L (v :: S) σ w cc zz := by
  intro p l e s m args below meth c Z hF hR H locs ls hH hlo hl hc hz
  have kk := fun ls hl => k p l e s m args below meth c Z hF hR H locs ls hH hlo hl hc hz
  obtain ⟨hx, hb, -⟩ := hF
  have e := cL_put1 Γ L n v
  rcases h with ⟨x, rfl, ⟨rfl, rfl⟩ | ⟨q, hq, rfl, rfl⟩⟩ | ⟨x, rfl, ⟨rfl, rfl⟩ | ⟨q, hq, rfl, rfl⟩⟩
  · exact lv_istore hx hb hd hl hn e kk
  · exact lv_istore_n hx hb hd hq hl hn e kk
  · exact lv_astore hx hb hd hl hn e kk
  · exact lv_astore_n hx hb hd hq hl hn e kk
theorem aw_store2 {i : Instr} {len n : Nat} {x : Int64} (hd : decode (mB μ) pc = .ok (i, len)) (hn : n + 1 < mL μ)
    (h : (i = .lstore n ∧ len = 2) ∨ ∃ q : Fin 4, q.val = n ∧ i = .lstore_n q ∧ len = 1)
    (k : AW Γ d μ Q (pc + len) (putL2 L n (.long x)) S σ w cc zz) : AW Γ d μ Q pc L (.long x :: S) σ w cc zz := by
  intro p l e s m args below meth c Z hF hR H locs ls hH hlo hl hc hz
  have kk := fun ls hl => k p l e s m args below meth c Z hF hR H locs ls hH hlo hl hc hz
  obtain ⟨hx, hb, -⟩ := hF
  have e := cL_put2 Γ L n (.long x)
  rcases h with ⟨rfl, rfl⟩ | ⟨q, hq, rfl, rfl⟩
  · exact lv_lstore hx hb hd hl hn e kk
  · exact lv_lstore_n hx hb hd hq hl hn e kk
theorem lk_place {L : Lv} {n : Nat} {v : Value} (h : L.lookup n = some v) : ∃ j : Nat, L[j]? = some (n, v) := List.getElem?_of_mem (lk_mem h)
theorem aw_iinc {n : Nat} {a : Int} {x v : Int32} (hd : decode (mB μ) pc = .ok (.iinc n a, 3)) (hn : n < mL μ) (hx0 : L.lookup n = some (.int x)) (hv : Int32.ofInt a = v) (k : AW Γ d μ Q (pc + 3) (putL1 L n (.int (x + v))) S σ w cc zz) : AW Γ d μ Q pc L S σ w cc zz := by
  intro p l e s m args below meth c Z hF hR H locs ls hH hlo hl hc hz
  have kk := fun ls hl => k p l e s m args below meth c Z hF hR H locs ls hH hlo hl hc hz
  obtain ⟨hx, hb, -⟩ := hF
  obtain ⟨j, hj⟩ := lk_place hx0
  have hj' : (cL Γ L)[j]? = some (n, .int x) := by unfold cL; rw [List.getElem?_map, hj]; rfl
  exact lv_iinc (k := j) hx hb hd hl hj' (by rw [hv]) hn (cL_put1 Γ L n (.int (x + v))) kk
theorem aw_goto {o : Int} {t : Nat} (hd : decode (mB μ) pc = .ok (.goto o, 3)) (ht : (pc : Int) + o = (t : Int)) (k : AW Γ d μ Q t L S σ w cc zz) : AW Γ d μ Q pc L S σ w cc zz := by
  intro p l e s m args below meth c Z hF hR H locs ls hH hlo hl hc hz
  have kk := k p l e s m args below meth c Z hF hR H locs ls hH hlo hl hc hz
  exact lv_goto hF.1 hF.2.1 hd ht kk
theorem aw_icmp {cn : ClassFile.Cond} {o : Int} {t : Nat} {x y : Int32} (hd : decode (mB μ) pc = .ok (.if_icmp cn o, 3)) (ht : (pc : Int) + o = (t : Int)) (k : bra cn x y (AW Γ d μ Q t L S σ w cc zz) (AW Γ d μ Q (pc + 3) L S σ w cc zz)) : AW Γ d μ Q pc L (.int y :: .int x :: S) σ w cc zz := by
  intro p l e s m args below meth c Z hF hR H locs ls hH hlo hl hc hz
  have go : ∀ {pc : Nat}, AW Γ d μ Q pc L S σ w cc zz → W p l e (rmOf d (mC μ) (mS μ)) s m args below meth c H locs cc zz Z (F0 m pc ls (S.map (cv Γ))) := fun k => k p l e s m args below meth c Z hF hR H locs ls hH hlo hl hc hz
  obtain ⟨hx, hb, -⟩ := hF
  cases cn
  · exact lv_icmp_eq hx hb hd ht (fun q => go (k.1 q)) (fun q => go (k.2 q))
  · exact lv_icmp_ne hx hb hd ht (fun q => go (k.1 q)) (fun q => go (k.2 q))
  · exact lv_icmp_lt hx hb hd ht (fun q => go (k.1 q)) (fun q => go (k.2 q))
  · exact lv_icmp_ge hx hb hd ht (fun q => go (k.1 q)) (fun q => go (k.2 q))
  · exact lv_icmp_gt hx hb hd ht (fun q => go (k.1 q)) (fun q => go (k.2 q))
  · exact lv_icmp_le hx hb hd ht (fun q => go (k.1 q)) (fun q => go (k.2 q))
theorem aw_if {cn : ClassFile.Cond} {o : Int} {t : Nat} {x : Int32} (hd : decode (mB μ) pc = .ok (.ifCond cn o, 3)) (ht : (pc : Int) + o = (t : Int)) (k : bra cn x 0 (AW Γ d μ Q t L S σ w cc zz) (AW Γ d μ Q (pc + 3) L S σ w cc zz)) : AW Γ d μ Q pc L (.int x :: S) σ w cc zz := by
  intro p l e s m args below meth c Z hF hR H locs ls hH hlo hl hc hz
  have go : ∀ {pc : Nat}, AW Γ d μ Q pc L S σ w cc zz → W p l e (rmOf d (mC μ) (mS μ)) s m args below meth c H locs cc zz Z (F0 m pc ls (S.map (cv Γ))) := fun k => k p l e s m args below meth c Z hF hR H locs ls hH hlo hl hc hz
  obtain ⟨hx, hb, -⟩ := hF
  cases cn
  · exact lv_if_eq hx hb hd ht (fun q => go (k.1 q)) (fun q => go (k.2 q))
  · exact lv_if_ne hx hb hd ht (fun q => go (k.1 q)) (fun q => go (k.2 q))
  · exact lv_if_lt hx hb hd ht (fun q => go (k.1 q)) (fun q => go (k.2 q))
  · exact lv_if_ge hx hb hd ht (fun q => go (k.1 q)) (fun q => go (k.2 q))
  · exact lv_if_gt hx hb hd ht (fun q => go (k.1 q)) (fun q => go (k.2 q))
  · exact lv_if_le hx hb hd ht (fun q => go (k.1 q)) (fun q => go (k.2 q))
theorem aw_ifnull {o : Int} {t x : Nat} (ht : (pc : Int) + o = (t : Int)) :
    (decode (mB μ) pc = .ok (.ifnull o, 3) → AW Γ d μ Q (pc + 3) L S σ w cc zz → AW Γ d μ Q pc L (.ref x :: S) σ w cc zz) ∧ (decode (mB μ) pc = .ok (.ifnull o, 3) → AW Γ d μ Q t L S σ w cc zz → AW Γ d μ Q pc L (.null :: S) σ w cc zz) ∧
    (decode (mB μ) pc = .ok (.ifnonnull o, 3) → AW Γ d μ Q t L S σ w cc zz → AW Γ d μ Q pc L (.ref x :: S) σ w cc zz) ∧ (decode (mB μ) pc = .ok (.ifnonnull o, 3) → AW Γ d μ Q (pc + 3) L S σ w cc zz → AW Γ d μ Q pc L (.null :: S) σ w cc zz) := by
  refine ⟨fun hd k => ?_, fun hd k => ?_, fun hd k => ?_, fun hd k => ?_⟩ <;> intro p l e s m args below meth c Z hF hR H locs ls hH hlo hl hc hz <;> have kk := k p l e s m args below meth c Z hF hR H locs ls hH hlo hl hc hz
  · exact lv_ifnull hF.1 hF.2.1 hd kk
  · exact lv_ifnullN hF.1 hF.2.1 hd ht kk
  · exact lv_ifnonnull hF.1 hF.2.1 hd ht kk
  · exact lv_ifnonnullN hF.1 hF.2.1 hd kk
theorem aw_div {x y : Int32} (hy : ¬ y = 0) : (decode (mB μ) pc = .ok (.idiv, 1) → AW Γ d μ Q (pc + 1) L (.int (x / y) :: S) σ w cc zz → AW Γ d μ Q pc L (.int y :: .int x :: S) σ w cc zz) ∧ (decode (mB μ) pc = .ok (.irem, 1) → AW Γ d μ Q (pc + 1) L (.int (x - x / y * y) :: S) σ w cc zz → AW Γ d μ Q pc L (.int y :: .int x :: S) σ w cc zz) := by
  refine ⟨fun hd k => ?_, fun hd k => ?_⟩ <;> intro p l e s m args below meth c Z hF hR H locs ls hH hlo hl hc hz <;> have kk := k p l e s m args below meth c Z hF hR H locs ls hH hlo hl hc hz
  · exact lv_idiv hF.1 hF.2.1 hd hy kk
  · exact lv_irem hF.1 hF.2.1 hd hy kk
theorem aw_ret {v : Option Value} (hq : Q v σ w) (h : (v = none ∧ decode (mB μ) pc = .ok (.return_, 1) ∧ mR μ = none) ∨ (∃ x ty, v = some (.int x) ∧ decode (mB μ) pc = .ok (.ireturn, 1) ∧ mR μ = some ty ∧ narrow ty (.int x) = .int x) ∨ (∃ x, v = some (.long x) ∧ decode (mB μ) pc = .ok (.lreturn, 1) ∧ mR μ = some .long)) : AW Γ d μ Q pc L v.toList σ w cc zz := by
  intro p l e s m args below meth c Z hF hR H locs ls hH hlo hl hc hz
  exact W.widen hc hz (hR v σ w H locs pc ls hq hH hlo h)
end Rows
end
section
/-! the engine's rows on the heap -/
/-- a class's table: its number of fields, by kd -/
theorem kd_N : ∀ i, i < 430 → (kd i).1 < 20 → (vwCl[(kd i).1]?.map (fun q => q.2.2)) = some (kd i).2 := by decide +kernel
theorem kd_out {i : Nat} (h : ¬ i < 430) : kd i = (99, 0) := by
  have e : kdL.length = 430 := by decide +kernel
  unfold kd
  rw [List.getD_eq_getElem?_getD, List.getElem?_eq_none (by omega)]
  rfl
theorem kd_cl {i : Nat} (h : (kd i).1 < 20) : ∃ q : vw_C, vwCl[(kd i).1]? = some q ∧ q.2.2 = (kd i).2 := by
  by_cases hi : i < 430
  · have e := kd_N i hi h
    cases hq : vwCl[(kd i).1]? with
    | none => rw [hq] at e; cases e
    | some q => rw [hq] at e; exact ⟨q, rfl, Option.some.inj e⟩
  · rw [kd_out hi] at h
    exact absurd h (by decide)
/-- what a program checks of the classes' tables -/
def clCk (q : vw_C) (ty : Nat → FieldType) : Bool := (u_ws q.1 q.2.1 q.2.2).all (fun w => decide (w ∈ lw_tbl) && goodWord w) && (List.range q.2.2).all (fun a => (List.range q.2.2).all (fun b => decide (a = b) || decide ((q.2.1 a).2.1 ≠ (q.2.1 b).2.1))) && (List.range q.2.2).all (fun k => decide (parseFieldDescriptor (q.2.1 k).2.2.1 = some (ty k)))
def tyOf (t : Nat) : Nat → FieldType := match t with
  | 0 => tyX0
  | 1 => tyX1
  | 2 => tyX2
  | 3 => tyX3
  | 4 => tyX4
  | 5 => tyX5
  | 6 => tyX6
  | 7 => tyX7
  | 8 => tyX8
  | 9 => tyX9
  | 10 => tyX10
  | 11 => tyX11
  | _ => tyX12
theorem clCk_0 : clCk (RX0, TX0, 10) tyX0 = true := by decide +kernel
theorem clCk_1 : clCk (RX1, TX1, 3) tyX1 = true := by decide +kernel
theorem clCk_2 : clCk (RX2, TX2, 2) tyX2 = true := by decide +kernel
theorem clCk_3 : clCk (RX3, TX3, 8) tyX3 = true := by decide +kernel
theorem clCk_4 : clCk (RX4, TX4, 14) tyX4 = true := by decide +kernel
theorem clCk_5 : clCk (RX5, TX5, 4) tyX5 = true := by decide +kernel
theorem clCk_6 : clCk (RX6, TX6, 2) tyX6 = true := by decide +kernel
theorem clCk_7 : clCk (RX7, TX7, 4) tyX7 = true := by decide +kernel
theorem clCk_8 : clCk (RX8, TX8, 5) tyX8 = true := by decide +kernel
theorem clCk_9 : clCk (RX9, TX9, 3) tyX9 = true := by decide +kernel
theorem clCk_10 : clCk (RX10, TX10, 5) tyX10 = true := by decide +kernel
theorem clCk_11 : clCk (RX11, TX11, 9) tyX11 = true := by decide +kernel
theorem clCk_12 : clCk (RX12, TX12, 55) tyX12 = true := by decide +kernel
theorem clCk_all {t : Nat} {q : vw_C} (h : vwCl[t]? = some q) : clCk q (tyOf t) = true := by
  match t, h with
  | 0, h => cases h; exact clCk_0
  | 1, h => cases h; exact clCk_1
  | 2, h => cases h; exact clCk_2
  | 3, h => cases h; exact clCk_3
  | 4, h => cases h; exact clCk_4
  | 5, h => cases h; exact clCk_5
  | 6, h => cases h; exact clCk_6
  | 7, h => cases h; exact clCk_7
  | 8, h => cases h; exact clCk_8
  | 9, h => cases h; exact clCk_9
  | 10, h => cases h; exact clCk_10
  | 11, h => cases h; exact clCk_11
  | 12, h => cases h; exact clCk_12
  | t + 13, h => simp [vwCl] at h
theorem cl_facts {t : Nat} {q : vw_C} (h : vwCl[t]? = some q) : (∀ w ∈ u_ws q.1 q.2.1 q.2.2, w ∈ lw_tbl ∧ goodWord w = true) ∧ (∀ a, a < q.2.2 → ∀ b, b < q.2.2 → a ≠ b → (q.2.1 a).2.1 ≠ (q.2.1 b).2.1) ∧ (∀ k, k < q.2.2 → parseFieldDescriptor (q.2.1 k).2.2.1 = some (tyOf t k)) := by
  have e := clCk_all h
  unfold clCk at e
  simp only [Bool.and_eq_true] at e
  obtain ⟨⟨e1, e2⟩, e3⟩ := e
  refine ⟨fun w hw => ?_, fun a ha b hb hab => ?_, fun k hk => ?_⟩
  · have := List.all_eq_true.mp e1 w hw
    simp only [Bool.and_eq_true, decide_eq_true_eq] at this
    exact this
  · have h1 := List.all_eq_true.mp e2 a (List.mem_range.mpr ha)
    have h2 := List.all_eq_true.mp h1 b (List.mem_range.mpr hb)
    simp only [Bool.or_eq_true, decide_eq_true_eq] at h2
    rcases h2 with h2 | h2
    · exact absurd h2 hab
    · exact h2
  · have := List.all_eq_true.mp e3 k (List.mem_range.mpr hk)
    simpa using this
end
section
/-- a state that differs at one cell alone -/
theorem HR.at_one {Γ : Gx} {σ σ' : St} {w w' : Wd} {H H' : Heap} {o : Nat} (h : HR Γ σ w H) (hw : w'.1 = w.1) (ho : o < w.1) (hs : H'.size = H.size) (hq : ∀ q, q ≠ gz Γ + o → H'[q]? = H[q]?) (hc : atC Γ σ' w'.2 o H')
    (hf : ∀ i, i ≠ o → (∀ k, fv Γ σ' w'.2 (kd i).1 i k = fv Γ σ w.2 (kd i).1 i k) ∧ ∀ j, av Γ σ' w'.2 (kd i).1 i j = av Γ σ w.2 (kd i).1 i j) : HR Γ σ' w' H' := by
  obtain ⟨h1, h2, h3⟩ := h
  refine ⟨by rw [hs, h1, hw], fun q hqz => ?_, fun i hi => ?_⟩
  · rw [hq q (by omega)]
    exact h2 q hqz
  · by_cases e : i = o
    · subst e
      exact hc
    · obtain ⟨g1, g2⟩ := h3 i (by rw [← hw]; exact hi)
      have hk : H'[gz Γ + i]? = H[gz Γ + i]? := hq _ (by omega)
      refine ⟨fun ht => ?_, fun ht => ?_⟩
      · exact ((g1 ht).kept hk).to (fun k _ => ((hf i e).1 k).symm)
      · rw [hk, g2 ht]
        congr 2
        funext j
        exact ((hf i e).2 j).symm
theorem fv_uI {Γ : Gx} {σ : St} {ρ : Nat → Nat → Option Nat} {o k : Nat} {v : Int32} {t i j : Nat} (h : i ≠ o) : fv Γ (uI σ o k v) ρ t i j = fv Γ σ ρ t i j := by
  unfold fv
  simp only [gI_uI, gJ_uI, gR_uI, h, false_and, if_false]
theorem av_uI {Γ : Gx} {σ : St} {ρ : Nat → Nat → Option Nat} {o k : Nat} {v : Int32} {t i j : Nat} (h : i ≠ o) : av Γ (uI σ o k v) ρ t i j = av Γ σ ρ t i j := by
  unfold av
  simp only [gI_uI, gJ_uI, h, false_and, if_false]
theorem fv_uJ {Γ : Gx} {σ : St} {ρ : Nat → Nat → Option Nat} {o k : Nat} {v : Int64} {t i j : Nat} (h : i ≠ o) : fv Γ (uJ σ o k v) ρ t i j = fv Γ σ ρ t i j := by
  unfold fv
  simp only [gI_uJ, gJ_uJ, gR_uJ, h, false_and, if_false]
theorem av_uJ {Γ : Gx} {σ : St} {ρ : Nat → Nat → Option Nat} {o k : Nat} {v : Int64} {t i j : Nat} (h : i ≠ o) : av Γ (uJ σ o k v) ρ t i j = av Γ σ ρ t i j := by
  unfold av
  simp only [gI_uJ, gJ_uJ, h, false_and, if_false]
theorem fv_uR {Γ : Gx} {σ : St} {ρ : Nat → Nat → Option Nat} {o k : Nat} {v : Option Nat} {t i j : Nat} (h : i ≠ o) : fv Γ (uR σ o k v) ρ t i j = fv Γ σ ρ t i j := by
  unfold fv
  simp only [gI_uR, gJ_uR, gR_uR, h, false_and, if_false]
theorem av_uR {Γ : Gx} {σ : St} {ρ : Nat → Nat → Option Nat} {o k : Nat} {v : Option Nat} {t i j : Nat} : av Γ (uR σ o k v) ρ t i j = av Γ σ ρ t i j := by
  unfold av
  simp only [gI_uR, gJ_uR]
theorem fv_uW {Γ : Gx} {σ : St} {ρ : Nat → Nat → Option Nat} {o k : Nat} {v : Option Nat} {t i j : Nat} (h : i ≠ o) : fv Γ σ (up2 ρ o k v) t i j = fv Γ σ ρ t i j := by
  unfold fv up2
  simp only [h, false_and, if_false]
theorem av_uW {Γ : Gx} {σ : St} {ρ : Nat → Nat → Option Nat} {o k : Nat} {v : Option Nat} {t i j : Nat} (h : i ≠ o) : av Γ σ (up2 ρ o k v) t i j = av Γ σ ρ t i j := by
  unfold av up2
  simp only [h, false_and, if_false]
/-- a field's facts: its class, its slot -/
theorem fl_facts {Γ : Gx} {s : State} {σ : St} {w : Wd} {H : Heap} {o ci : Nat} (hK : GK Γ s) (hH : HR Γ σ w H) (ho : okO w o ci) (hc : ci < 20) : ∃ q : vw_C, vwCl[ci]? = some q ∧ q.2.2 = (kd o).2 ∧ (∃ cell : Cell, H[gz Γ + o]? = some cell ∧ cell.cls = (xD Γ).1 ci ∧ cell.vm = .none ∧ ∀ k, k < q.2.2 → cell.slots[(xD Γ).2 ci k]? = some (fv Γ σ w.2 ci o k)) ∧ u_Kn s q.1 q.2.1 q.2.2 ((xD Γ).1 ci) ((xD Γ).2 ci) := by
  obtain ⟨h1, rfl⟩ := ho
  obtain ⟨q, hq, hn⟩ := kd_cl hc
  obtain ⟨cell, g1, g2, g3, g4⟩ := (hH.2.2 o h1).1 hc
  exact ⟨q, hq, hn, ⟨cell, g1, g2, g3, fun k hk => g4 k (by rw [← hn]; exact hk)⟩, hK.2.2.1.1 _ q hq⟩
section Heap
variable {Γ : Gx} {d : Nat} {μ : MD} {Q : Option Value → St → Wd → Prop} {pc : Nat} {L : Lv} {S : List Value} {σ : St} {w : Wd} {cc zz : Nat}
theorem fCk_spec {C : String} {q : Nat × Nat × Nat × Nat} {wi : Nat} (h : fCk C q wi = true) : ∃ (R : String) (T : u_T) (N : Nat), vwCl[q.2.1]? = some (R, T, N) ∧ q.2.2.1 < N ∧ lw_tbl[wi]? = some (.fieldLink C q.1 R (T q.2.2.1).2.1 (T q.2.2.1).2.2.1) ∧ (T q.2.2.1).1 = R ∧ fk q.2.1 q.2.2.1 = q.2.2.2 ∧ ((T q.2.2.1).2.2.2 = true ↔ q.2.2.2 = 2) ∧
    ftk (parseFieldDescriptor (T q.2.2.1).2.2.1) q.2.2.2 = true := by
  unfold fCk at h
  split at h
  · rename_i R T N e
    simp only [Bool.and_eq_true, decide_eq_true_eq, beq_iff_eq] at h
    obtain ⟨⟨⟨⟨⟨h1, h2⟩, h3⟩, h4⟩, h5⟩, h6⟩ := h
    exact ⟨R, T, N, e, h1, h2, h3, h4, by rw [h5]; simp, h6⟩
  · cases h
theorem ci_lt {ci : Nat} {q : vw_C} (h : vwCl[ci]? = some q) : ci < 20 := by
  have := (List.getElem?_eq_some_iff.mp h).1
  have e : vwCl.length = 13 := rfl
  omega
theorem aw_get {n ci f kn wi : Nat} {o : Nat} (hd : decode (mB μ) pc = .ok (.getfield n, 3)) (hck : fCk (mN μ).cls (n, ci, f, kn) wi = true) (ho : okO w o ci) {v : Value} (hv : cv Γ v = fv Γ σ w.2 ci o f) (k : AW Γ d μ Q (pc + 3) L (v :: S) σ w cc zz) : AW Γ d μ Q pc L (.ref o :: S) σ w cc zz := by
  intro p l e s m args below meth c Z hF hR H locs ls hH hlo hl hc hz
  have kk := k p l e s m args below meth c Z hF hR H locs ls hH hlo hl hc hz
  obtain ⟨hx, hb, -, -, -, hown, -, -, hK⟩ := hF
  obtain ⟨R, T, N, e1, e2, e3, e4, e5, e6, -⟩ := fCk_spec hck
  dsimp only at e1 e2 e3 e4 e5 e6
  obtain ⟨q, hq, hn, ⟨cell, g1, g2, g3, g4⟩, hKn⟩ := fl_facts hK hH ho (ci_lt e1)
  cases hq.symm.trans e1
  obtain ⟨hS, hfc, kC, hkC, hkind⟩ := hKn
  obtain ⟨cf, kf, fi, ff, hi, hsl⟩ := hS f e2
  have hw0 := (cl_facts e1).1
  have hlink := hK.1 _ (List.mem_of_getElem? e3) rfl args
  refine W.getf hx hb hown hlink (by rw [← e4]; exact hi) (u_facts hfc hkC (u_lays (ws := u_ws R T N) (args := args) (fun w hw => hK.1 w (hw0 w hw).1 (hw0 w hw).2 args) (fun w h => h) e2) hi).1 g1 (by rw [g3]; exact fun h => by cases h) (v := cv Γ v) ?_ rfl rfl hd kk
  rw [hsl, g4 f e2, hv]
theorem putV {o : Nat} {cell : Cell} {N : Nat} {iS : Nat → Nat} {V V' : Nat → Value} (h : ∀ k, k < N → cell.slots[iS k]? = some (V k)) (hap : ∀ a b, a < N → b < N → a ≠ b → iS a ≠ iS b) {k : Nat} (hk : k < N) (v : Value) (hV : ∀ j, j < N → V' j = if j = k then v else V j) : ∀ j, j < N → (cell.setSlot (iS k) v).slots[iS j]? = some (V' j) := by
  intro j hj
  rw [t_set h hap hk v j hj, hV j hj]
  rfl
theorem atC_o {ρ : Nat → Nat → Option Nat} {o : Nat} {H : Heap} (h : (kd o).1 < 20) : atC Γ σ ρ o H ↔ t_OB (gz Γ + o) ((xD Γ).1 (kd o).1) (kd o).2 ((xD Γ).2 (kd o).1) H (fv Γ σ ρ (kd o).1 o) := ⟨fun q => q.1 h, fun q => ⟨fun _ => q, fun q2 => by omega⟩⟩
theorem atC_a {ρ : Nat → Nat → Option Nat} {o : Nat} {H : Heap} (h : 20 ≤ (kd o).1) : atC Γ σ ρ o H ↔ H[gz Γ + o]? = some (arrV (xA Γ ((kd o).1 - 20)) (kd o).2 (av Γ σ ρ (kd o).1 o)) := ⟨fun q => q.2 h, fun q => ⟨fun q2 => by omega, fun _ => q⟩⟩
theorem aw_put {n ci f kn wi : Nat} {o : Nat} {v : Value} {σ' : St} {w' : Wd} (hd : decode (mB μ) pc = .ok (.putfield n, 3)) (hck : fCk (mN μ).cls (n, ci, f, kn) wi = true) (hfin : kn = 2 → (mN μ).name = "<init>" ∧ vwCl[ci]?.map (fun q => q.1) = some (mN μ).cls) (ho : okO w o ci) (hw : w'.1 = w.1)
    (hv : ∀ j, fv Γ σ' w'.2 ci o j = if j = f then cv Γ v else fv Γ σ w.2 ci o j) (hf : ∀ i, i ≠ o → (∀ k, fv Γ σ' w'.2 (kd i).1 i k = fv Γ σ w.2 (kd i).1 i k) ∧ ∀ j, av Γ σ' w'.2 (kd i).1 i j = av Γ σ w.2 (kd i).1 i j)
    (hn : narrow (tyOf ci f) (cv Γ v) = cv Γ v) (hft : fits (tyOf ci f) (cv Γ v) = true) (k : AW Γ d μ Q (pc + 3) L S σ' w' cc zz) : AW Γ d μ Q pc L (v :: .ref o :: S) σ w cc zz := by
  intro p l e s m args below meth c Z hF hR H locs ls hH hlo hl hc hz
  have kk := fun H locs hH hlo => k p l e s m args below meth c Z hF hR H locs ls hH hlo hl hc hz
  obtain ⟨hx, hb, -, -, -, hown, hname, -, hK⟩ := hF
  obtain ⟨R, T, N, e1, e2, e3, e4, e5, e6, -⟩ := fCk_spec hck
  dsimp only at e1 e2 e3 e4 e5 e6
  have hlt := ci_lt e1
  obtain ⟨q, hq, hn0, ⟨cell, g1, g2, g3, g4⟩, hKn⟩ := fl_facts hK hH ho hlt
  cases hq.symm.trans e1
  have hKn' := hKn
  obtain ⟨hS, hfc, kC, hkC, hkind⟩ := hKn
  obtain ⟨cf, kf, fi, ff, hi, hsl⟩ := hS f e2
  obtain ⟨hw0, hnm, hty⟩ := cl_facts e1
  dsimp only at hw0 hnm hty
  have hts : ∀ w ∈ u_ws R T N, w.before args s = true := fun w hw => hK.1 w (hw0 w hw).1 (hw0 w hw).2 args
  have hin : ∀ w ∈ u_ws R T N, w ∈ u_ws R T N := fun w h => h
  have hlink := hK.1 _ (List.mem_of_getElem? e3) rfl args
  have hap := va_apart (own := R) hts hin (tyOf ci) hty hnm hK.2.2.1 e1
  have hst := (u_facts hfc hkC (u_lays hts hin e2) hi).1
  have fin : ∀ H' : Heap, H'[gz Γ + o]? = some (cell.setSlot ff.slot (cv Γ v)) → H'.size = H.size → (∀ q, q ≠ gz Γ + o → H'[q]? = H[q]?) → HR Γ σ' w' H' := by
    intro H' q1 q2 q3
    rw [hsl] at q1
    refine hH.at_one hw ho.1 q2 q3 ?_ hf
    rw [atC_o (by rw [ho.2]; exact hlt), ho.2]
    have hn1 : (kd o).2 = N := hn0.symm
    rw [hn1]
    exact ⟨_, q1, g2, g3, putV (o := o) g4 hap e2 _ (fun j hj => hv j)⟩
  have hlo' : ∀ x : Nat, lcs Γ (locs ++ [⟨gz Γ + o, x⟩]) := by
    intro x q hq
    rcases List.mem_append.mp hq with h | h
    · exact hlo q h
    · rw [List.mem_singleton.mp h]
      exact Nat.le_add_right _ _
  have hlay := hts _ (hin _ (u_in_lay e2))
  unfold u_lay at hlay
  by_cases hf2 : kn = 2
  · rw [if_pos (e6.mpr hf2)] at hlay
    have hcls : (mN μ).cls = R := by
      have := (hfin hf2).2
      rw [e1] at this
      exact (Option.some.inj this).symm
    have hcf : m.cls = cf := by
      obtain ⟨_, _, c', _, _, _, -, -, hf', -, -, -, hown2, -⟩ := Cond.laysFinal_spec hlay
      have e9 : c' = cf := by have := hi.symm.trans hf'; simp at this; exact this.1.symm
      rw [e4] at hown2
      rw [hcls] at hown
      rw [← e9]; exact Option.some.inj (hown.symm.trans hown2)
    have h6 := u_fits hfc hkC hkind (Or.inr hlay) hi (hty f e2) hn hft
    exact W.putFinK hx hb hown hlink (by rw [← e4]; exact hi) hst hcf (by rw [hname]; exact (hfin hf2).1) (by rw [g2]; exact h6) g1 g3 (by rw [hsl]; exact k2_hasslot (g4 f e2)) rfl rfl hd fun H' q1 q2 q3 => kk H' _ (fin H' q1 q2 q3) (hlo' _)
  · rw [if_neg (by rw [e6]; exact hf2)] at hlay
    have h6 := u_store hfc hkC hkind hlay hi (hty f e2) hn hft
    exact W.putK hx hb (f := ff) ⟨hown, hlink, ⟨_, _, _, by rw [← e4]; exact hi⟩, hst⟩ (by rw [g2]; exact h6) g1 g3 (by rw [hsl]; exact k2_hasslot (g4 f e2)) rfl rfl hd fun H' q1 q2 q3 => kk H' _ (fin H' q1 q2 q3) (hlo' _)
end Heap
end
section
/-! the engine's rows on arrays -/
section Arr
variable {Γ : Gx} {d : Nat} {μ : MD} {Q : Option Value → St → Wd → Prop} {pc : Nat} {L : Lv} {S : List Value} {σ : St} {w : Wd} {cc zz : Nat}
/-- what the tables say of an array -/
theorem ar_facts {s : State} {H : Heap} {a t : Nat} (hK : GK Γ s) (hH : HR Γ σ w H) (ha : a < w.1) (ht : (kd a).1 = 20 + t) (ht9 : t < 9) : H[gz Γ + a]? = some (arrV (xA Γ t) (kd a).2 (av Γ σ w.2 (kd a).1 a)) ∧ (∀ n z, s.isArrayOf (arrV (xA Γ t) n z) (aty t)) ∧ va_RA s (xA Γ t) (aty t) := by
  have h1 := (hH.2.2 a ha).2 (by omega)
  rw [show (kd a).1 - 20 = t by omega] at h1
  have h2 := hK.2.2.1.2 t (xA Γ t, aty t) (by rw [List.getElem?_map, List.getElem?_range ht9]; rfl)
  exact ⟨h1, h2.1, h2.2⟩
theorem av_i {ρ : Nat → Nat → Option Nat} {a t : Nat} (h : t = 20 ∨ t = 22 ∨ t = 23) : av Γ σ ρ t a = fun j => .int (gI σ a j) := by
  funext j
  rcases h with rfl | rfl | rfl <;> rfl
theorem av_l {ρ : Nat → Nat → Option Nat} {a : Nat} : av Γ σ ρ 21 a = fun j => .long (gJ σ a j) := by
  funext j
  rfl
theorem av_r {ρ : Nat → Nat → Option Nat} {a t : Nat} (h : 24 ≤ t) : av Γ σ ρ t a = fun j => rv Γ (ρ a j) := by
  funext j
  unfold av
  rw [if_neg (by omega), if_neg (by omega)]
theorem in_sz {j : Int32} {n : Nat} {C : ClassId} {f : Nat → Value} (h : vp_in j n) : ¬ (j < 0 ∨ (arrV C n f).slots.size ≤ j.toNatClampNeg) := by rw [arrV_size]; exact h
theorem in_lt {j : Int32} {n : Nat} (h : vp_in j n) : j.toNatClampNeg < n := Nat.not_le.mp fun q => h (Or.inr q)
theorem in_rd {j : Int32} {n : Nat} {C : ClassId} {f : Nat → Value} (h : vp_in j n) : (arrV C n f).slots[j.toNatClampNeg]? = some (f j.toNatClampNeg) := arrV_read _ _ (in_lt h)
theorem aw_iald {a : Nat} {j : Int32} (hd : decode (mB μ) pc = .ok (.iaload, 1)) (ha : okO w a 20) (hj : vp_in j (kd a).2) (k : AW Γ d μ Q (pc + 1) L (.int (gI σ a j.toNatClampNeg) :: S) σ w cc zz) : AW Γ d μ Q pc L (.int j :: .ref a :: S) σ w cc zz := by
  intro p l e s m args below meth c Z hF hR H locs ls hH hlo hl hc hz
  have kk := k p l e s m args below meth c Z hF hR H locs ls hH hlo hl hc hz
  obtain ⟨hx, hb, -, -, -, -, -, -, hK⟩ := hF
  obtain ⟨h1, h2, -⟩ := ar_facts (t := 0) hK hH ha.1 ha.2 (by decide)
  rw [av_i (Or.inl ha.2)] at h1
  exact W.iald hx hb h1 (h2 _ _) (fun q => by cases q) (in_sz hj) (in_rd hj) rfl rfl hd kk
theorem aw_sld {j : Int32} (hd : decode (mB μ) pc = .ok (.iaload, 1)) (hj : vp_in j (xN Γ)) (k : AW Γ d μ Q (pc + 1) L (.int (xS Γ j.toNatClampNeg) :: S) σ w cc zz) : AW Γ d μ Q pc L (.int j :: .retAddr 0 :: S) σ w cc zz := by
  intro p l e s m args below meth c Z hF hR H locs ls hH hlo hl hc hz
  have kk := k p l e s m args below meth c Z hF hR H locs ls hH hlo hl hc hz
  obtain ⟨hx, hb, -, -, -, -, -, -, hK⟩ := hF
  obtain ⟨scr, h1, h2, h3, h4, h5⟩ := hK.2.2.2.1
  have hlt : xE Γ 0 < gz Γ := (Array.getElem?_eq_some_iff.mp h1).1
  exact W.iald (v := .int (xS Γ j.toNatClampNeg)) hx hb (by rw [hH.2.1 _ hlt]; exact h1) h2 h3 (by rw [h4]; exact hj) (h5 _ (in_lt hj)) rfl rfl hd kk
theorem aw_slen (hd : decode (mB μ) pc = .ok (.arraylength, 1)) (k : AW Γ d μ Q (pc + 1) L (.int (nI (xN Γ)) :: S) σ w cc zz) : AW Γ d μ Q pc L (.retAddr 0 :: S) σ w cc zz := by
  intro p l e s m args below meth c Z hF hR H locs ls hH hlo hl hc hz
  have kk := k p l e s m args below meth c Z hF hR H locs ls hH hlo hl hc hz
  obtain ⟨hx, hb, -, -, -, -, -, -, hK⟩ := hF
  obtain ⟨scr, h1, h2, h3, h4, h5⟩ := hK.2.2.2.1
  have hlt : xE Γ 0 < gz Γ := (Array.getElem?_eq_some_iff.mp h1).1
  exact W.alen (n := nI (xN Γ)) hx hb (by rw [hH.2.1 _ hlt]; exact h1) h2 (by rw [h4]; rfl) rfl rfl hd kk
theorem aw_lald {a : Nat} {j : Int32} (hd : decode (mB μ) pc = .ok (.laload, 1)) (ha : okO w a 21) (hj : vp_in j (kd a).2) (k : AW Γ d μ Q (pc + 1) L (.long (gJ σ a j.toNatClampNeg) :: S) σ w cc zz) : AW Γ d μ Q pc L (.int j :: .ref a :: S) σ w cc zz := by
  intro p l e s m args below meth c Z hF hR H locs ls hH hlo hl hc hz
  have kk := k p l e s m args below meth c Z hF hR H locs ls hH hlo hl hc hz
  obtain ⟨hx, hb, -, -, -, -, -, -, hK⟩ := hF
  obtain ⟨h1, h2, -⟩ := ar_facts (t := 1) hK hH ha.1 ha.2 (by decide)
  rw [ha.2, av_l] at h1
  exact W.lald hx hb h1 (h2 _ _) (fun q => by cases q) (in_sz hj) (in_rd hj) rfl rfl hd kk
theorem aw_bald {a : Nat} {j : Int32} (hd : decode (mB μ) pc = .ok (.baload, 1)) (ha : a < w.1) (ht : (kd a).1 = 22 ∨ (kd a).1 = 23) (hj : vp_in j (kd a).2) (k : AW Γ d μ Q (pc + 1) L (.int (gI σ a j.toNatClampNeg) :: S) σ w cc zz) : AW Γ d μ Q pc L (.int j :: .ref a :: S) σ w cc zz := by
  intro p l e s m args below meth c Z hF hR H locs ls hH hlo hl hc hz
  have kk := k p l e s m args below meth c Z hF hR H locs ls hH hlo hl hc hz
  obtain ⟨hx, hb, -, -, -, -, -, -, hK⟩ := hF
  rcases ht with ht | ht
  · obtain ⟨h1, h2, -⟩ := ar_facts (t := 2) hK hH ha ht (by decide)
    rw [av_i (Or.inr (Or.inl ht))] at h1
    exact W.bald hx hb h1 (h2 _ _) (fun q => by cases q) (in_sz hj) (in_rd hj) rfl rfl hd kk
  · obtain ⟨h1, h2, -⟩ := ar_facts (t := 3) hK hH ha ht (by decide)
    rw [av_i (Or.inr (Or.inr ht))] at h1
    exact W.zald hx hb h1 (h2 _ _) (fun q => by cases q) (in_sz hj) (in_rd hj) rfl rfl hd kk
theorem aw_aald {a r : Nat} {j : Int32} (hd : decode (mB μ) pc = .ok (.aaload, 1)) (ha : a < w.1) (ht : 24 ≤ (kd a).1) (ht2 : (kd a).1 ≤ 28) (hj : vp_in j (kd a).2) (hr : w.2 a j.toNatClampNeg = some r) (k : AW Γ d μ Q (pc + 1) L (.ref r :: S) σ w cc zz) : AW Γ d μ Q pc L (.int j :: .ref a :: S) σ w cc zz := by
  intro p l e s m args below meth c Z hF hR H locs ls hH hlo hl hc hz
  have kk := k p l e s m args below meth c Z hF hR H locs ls hH hlo hl hc hz
  obtain ⟨hx, hb, -, -, -, -, -, -, hK⟩ := hF
  obtain ⟨h1, h2, -⟩ := ar_facts (t := (kd a).1 - 20) hK hH ha (by omega) (by omega)
  rw [av_r ht] at h1
  have hrf : (aty ((kd a).1 - 20)).isReference = true := by
    have : (kd a).1 = 24 ∨ (kd a).1 = 25 ∨ (kd a).1 = 26 ∨ (kd a).1 = 27 ∨ (kd a).1 = 28 := by omega
    rcases this with q | q | q | q | q <;> rw [q] <;> rfl
  exact W.aald hx hb h1 (h2 _ _) hrf (fun q => by cases q) (in_sz hj) (in_rd hj) rfl rfl hd (by rw [hr]; exact kk)
theorem aw_alen {a : Nat} (hd : decode (mB μ) pc = .ok (.arraylength, 1)) (ha : a < w.1) (ht : 20 ≤ (kd a).1) (ht2 : (kd a).1 ≤ 28) (k : AW Γ d μ Q (pc + 1) L (.int (nI (kd a).2) :: S) σ w cc zz) : AW Γ d μ Q pc L (.ref a :: S) σ w cc zz := by
  intro p l e s m args below meth c Z hF hR H locs ls hH hlo hl hc hz
  have kk := k p l e s m args below meth c Z hF hR H locs ls hH hlo hl hc hz
  obtain ⟨hx, hb, -, -, -, -, -, -, hK⟩ := hF
  obtain ⟨h1, h2, -⟩ := ar_facts (t := (kd a).1 - 20) hK hH ha (by omega) (by omega)
  exact W.alen (n := nI (kd a).2) hx hb h1 (h2 _ _) (by rw [arrV_size]; rfl) rfl rfl hd kk
theorem lcs_app {locs : List Loc} {a x : Nat} (hlo : lcs Γ locs) : lcs Γ (locs ++ [⟨gz Γ + a, x⟩]) := by
  intro q hq
  rcases List.mem_append.mp hq with h | h
  · exact hlo q h
  · rw [List.mem_singleton.mp h]
    exact Nat.le_add_right _ _
/-- an array of which one place has changed -/
theorem HR.arr {H H' : Heap} {σ' : St} {w' : Wd} {a j : Nat} {v : Value} (h : HR Γ σ w H) (ha : a < w.1) (hw : w'.1 = w.1) (ht : 20 ≤ (kd a).1) (h1 : H[gz Γ + a]? = some (arrV (xA Γ ((kd a).1 - 20)) (kd a).2 (av Γ σ w.2 (kd a).1 a))) (q1 : H'[gz Γ + a]? = some ((arrV (xA Γ ((kd a).1 - 20)) (kd a).2 (av Γ σ w.2 (kd a).1 a)).setSlot j v)) (q2 : H'.size = H.size) (q3 : ∀ q, q ≠ gz Γ + a → H'[q]? = H[q]?)
    (hv : ∀ i, av Γ σ' w'.2 (kd a).1 a i = if i = j then v else av Γ σ w.2 (kd a).1 a i) (hf : ∀ i, i ≠ a → (∀ k, fv Γ σ' w'.2 (kd i).1 i k = fv Γ σ w.2 (kd i).1 i k) ∧ ∀ j, av Γ σ' w'.2 (kd i).1 i j = av Γ σ w.2 (kd i).1 i j) : HR Γ σ' w' H' := by
  refine h.at_one hw ha q2 q3 ?_ hf
  rw [atC_a ht, q1, arrV_store]
  congr 2
  funext i
  rw [hv i]
  rfl
theorem aw_iast {a : Nat} {j v : Int32} (hd : decode (mB μ) pc = .ok (.iastore, 1)) (ha : okO w a 20) (hj : vp_in j (kd a).2) (k : AW Γ d μ Q (pc + 1) L S (uI σ a j.toNatClampNeg v) w cc zz) : AW Γ d μ Q pc L (.int v :: .int j :: .ref a :: S) σ w cc zz := by
  intro p l e s m args below meth c Z hF hR H locs ls hH hlo hl hc hz
  have kk := fun H locs hH hlo => k p l e s m args below meth c Z hF hR H locs ls hH hlo hl hc hz
  obtain ⟨hx, hb, -, -, -, -, -, -, hK⟩ := hF
  obtain ⟨h1, h2, -⟩ := ar_facts (t := 0) hK hH ha.1 ha.2 (by decide)
  refine W.iast hx hb h1 (h2 _ _) (fun q => by cases q) (in_sz hj) rfl rfl hd fun H' q1 q2 q3 => kk H' _ ?_ (lcs_app hlo)
  have e0 : (kd a).1 - 20 = 0 := by rw [ha.2]
  refine hH.arr ha.1 rfl (by rw [ha.2]; decide) (by rw [e0]; exact h1) (by rw [e0]; exact q1) q2 q3 ?_ (fun i hi => ⟨fun k => fv_uI hi, fun j => av_uI hi⟩)
  intro i
  rw [av_i (Or.inl ha.2), av_i (Or.inl ha.2)]
  show Value.int (gI _ _ _) = _
  rw [gI_uI]
  by_cases e : i = j.toNatClampNeg <;> simp [e]
theorem aw_last {a : Nat} {j : Int32} {v : Int64} (hd : decode (mB μ) pc = .ok (.lastore, 1)) (ha : okO w a 21) (hj : vp_in j (kd a).2) (k : AW Γ d μ Q (pc + 1) L S (uJ σ a j.toNatClampNeg v) w cc zz) : AW Γ d μ Q pc L (.long v :: .int j :: .ref a :: S) σ w cc zz := by
  intro p l e s m args below meth c Z hF hR H locs ls hH hlo hl hc hz
  have kk := fun H locs hH hlo => k p l e s m args below meth c Z hF hR H locs ls hH hlo hl hc hz
  obtain ⟨hx, hb, -, -, -, -, -, -, hK⟩ := hF
  obtain ⟨h1, h2, -⟩ := ar_facts (t := 1) hK hH ha.1 ha.2 (by decide)
  refine W.last hx hb h1 (h2 _ _) (fun q => by cases q) (in_sz hj) rfl rfl hd fun H' q1 q2 q3 => kk H' _ ?_ (lcs_app hlo)
  have e0 : (kd a).1 - 20 = 1 := by rw [ha.2]
  refine hH.arr ha.1 rfl (by rw [ha.2]; decide) (by rw [e0]; exact h1) (by rw [e0]; exact q1) q2 q3 ?_ (fun i hi => ⟨fun k => fv_uJ hi, fun j => av_uJ hi⟩)
  intro i
  rw [ha.2, av_l, av_l]
  show Value.long (gJ _ _ _) = _
  rw [gJ_uJ]
  by_cases e : i = j.toNatClampNeg <;> simp [e]
theorem aw_bast {a : Nat} {j v : Int32} (hd : decode (mB μ) pc = .ok (.bastore, 1)) (ha : a < w.1) (ht : ((kd a).1 = 22 ∧ v.toInt8.toInt32 = v) ∨ ((kd a).1 = 23 ∧ v &&& 1 = v)) (hj : vp_in j (kd a).2) (k : AW Γ d μ Q (pc + 1) L S (uI σ a j.toNatClampNeg v) w cc zz) : AW Γ d μ Q pc L (.int v :: .int j :: .ref a :: S) σ w cc zz := by
  intro p l e s m args below meth c Z hF hR H locs ls hH hlo hl hc hz
  have kk := fun H locs hH hlo => k p l e s m args below meth c Z hF hR H locs ls hH hlo hl hc hz
  obtain ⟨hx, hb, -, -, -, -, -, -, hK⟩ := hF
  have fin : ∀ (H' : Heap) (t : Nat), ((kd a).1 = 22 ∨ (kd a).1 = 23) → (kd a).1 - 20 = t → H[gz Γ + a]? = some (arrV (xA Γ t) (kd a).2 (av Γ σ w.2 (kd a).1 a)) → H'[gz Γ + a]? = some ((arrV (xA Γ t) (kd a).2 (av Γ σ w.2 (kd a).1 a)).setSlot j.toNatClampNeg (.int v)) → H'.size = H.size → (∀ q, q ≠ gz Γ + a → H'[q]? = H[q]?) → HR Γ (uI σ a j.toNatClampNeg v) w H' := by
    intro H' t ht e0 h1 q1 q2 q3
    subst e0
    refine hH.arr ha rfl (by omega) h1 q1 q2 q3 ?_ (fun i hi => ⟨fun k => fv_uI hi, fun j => av_uI hi⟩)
    intro i
    rw [av_i (Or.inr ht), av_i (Or.inr ht)]
    show Value.int (gI _ _ _) = _
    rw [gI_uI]
    by_cases e : i = j.toNatClampNeg <;> simp [e]
  rcases ht with ⟨ht, hv⟩ | ⟨ht, hv⟩
  · obtain ⟨h1, h2, -⟩ := ar_facts (t := 2) hK hH ha ht (by decide)
    refine W.bast hx hb h1 (h2 _ _) (fun q => by cases q) (in_sz hj) rfl rfl hd fun H' q1 q2 q3 => kk H' _ ?_ (lcs_app hlo)
    have e2 : narrow .byte (.int v) = .int v := by show Value.int v.toInt8.toInt32 = _; rw [hv]
    rw [e2] at q1
    exact fin H' 2 (Or.inl ht) (by rw [ht]) h1 q1 q2 q3
  · obtain ⟨h1, h2, -⟩ := ar_facts (t := 3) hK hH ha ht (by decide)
    refine W.zast hx hb h1 (h2 _ _) (fun q => by cases q) (in_sz hj) rfl rfl hd fun H' q1 q2 q3 => kk H' _ ?_ (lcs_app hlo)
    have e2 : narrow .boolean (.int v) = .int v := by show Value.int (v &&& 1) = _; rw [hv]
    rw [e2] at q1
    exact fin H' 3 (Or.inr ht) (by rw [ht]) h1 q1 q2 q3
end Arr
end
section
/-! the engine's rows that make cells; references into arrays; copies -/
section Make
variable {Γ : Gx} {d : Nat} {μ : MD} {Q : Option Value → St → Wd → Prop} {pc : Nat} {L : Lv} {S : List Value} {σ : St} {w : Wd} {cc zz : Nat}
/-- which class goes into which array -/
theorem ar_cls {a r : Nat} (h : ((kd a).1 = 24 ∧ (kd r).1 = 7) ∨ ((kd a).1 = 25 ∧ (kd r).1 = 10) ∨ ((kd a).1 = 26 ∧ (kd r).1 = 5) ∨ ((kd a).1 = 27 ∧ (kd r).1 = 6)) : ∃ t q, (kd a).1 = 20 + t ∧ t < 9 ∧ vwCl[(kd r).1]? = some q ∧ aty t = .object q.1 ∧ (kd r).1 < 20 ∧ 24 ≤ (kd a).1 := by
  rcases h with ⟨h1, h2⟩ | ⟨h1, h2⟩ | ⟨h1, h2⟩ | ⟨h1, h2⟩ <;> rw [h1, h2]
  · exact ⟨4, _, rfl, by decide, rfl, rfl, by decide, by decide⟩
  · exact ⟨5, _, rfl, by decide, rfl, rfl, by decide, by decide⟩
  · exact ⟨6, _, rfl, by decide, rfl, rfl, by decide, by decide⟩
  · exact ⟨7, _, rfl, by decide, rfl, rfl, by decide, by decide⟩
theorem aw_aast {a r : Nat} {j : Int32} (hd : decode (mB μ) pc = .ok (.aastore, 1)) (ha : a < w.1) (hr : r < w.1) (ht : ((kd a).1 = 24 ∧ (kd r).1 = 7) ∨ ((kd a).1 = 25 ∧ (kd r).1 = 10) ∨ ((kd a).1 = 26 ∧ (kd r).1 = 5) ∨ ((kd a).1 = 27 ∧ (kd r).1 = 6)) (hj : vp_in j (kd a).2) (k : AW Γ d μ Q (pc + 1) L S σ (uW w a j.toNatClampNeg (some r)) cc zz) : AW Γ d μ Q pc L (.ref r :: .int j :: .ref a :: S) σ w cc zz := by
  intro p l e s m args below meth c Z hF hR H locs ls hH hlo hl hc hz
  have kk := fun H locs hH hlo => k p l e s m args below meth c Z hF hR H locs ls hH hlo hl hc hz
  obtain ⟨hx, hb, -, -, -, -, -, -, hK⟩ := hF
  obtain ⟨t, q, e1, e2, e3, e4, e5, e6⟩ := ar_cls ht
  obtain ⟨h1, h2, h3⟩ := ar_facts (t := t) hK hH ha e1 e2
  obtain ⟨cell, g1, g2, g3, -⟩ := (hH.2.2 r hr).1 e5
  have hcls := (hK.2.2.1.1 _ q e3).2
  rw [e4] at h3
  obtain ⟨kA, comp, k1, k2, k3, -⟩ := h3
  have hcomp : comp = (xD Γ).1 (kd r).1 := Option.some.inj (k3.symm.trans hcls.1)
  subst hcomp
  obtain ⟨kC, hkC, -⟩ := hcls.2
  have h0 : ¬ j < 0 := fun q => hj (Or.inl q)
  refine W.aast hx hb h1 (fun q h => by cases h) (fun h => by cases h) k1 k2 rfl hkC ⟨h0, by rw [arrV_size]; exact in_lt hj⟩ g1 (fun q h => by rw [g3] at h; cases h) (by rw [g2]; exact hkC) (by rw [g2]; exact va_assign hcls) rfl rfl hd fun H' q1 q2 q3 => kk H' _ ?_ (lcs_app hlo)
  have e0 : (kd a).1 - 20 = t := by omega
  refine hH.arr ha rfl (by omega) (by rw [e0]; exact h1) (by rw [e0]; exact q1) q2 q3 ?_ (fun i hi => ⟨fun k => fv_uW hi, fun j => av_uW hi⟩)
  intro i
  rw [av_r e6, av_r e6]
  show rv Γ (up2 _ _ _ _ _ _) = _
  unfold up2
  by_cases e : i = j.toNatClampNeg
  · subst e
    simp
    rfl
  · simp [e]
/-- a heap with new cells behind -/
theorem HR.grow {H H' : Heap} {σ' : St} {w' : Wd} (h : HR Γ σ w H) {n : Nat} (hn : w'.1 = w.1 + n) (hs : H'.size = H.size + n) (hq : ∀ q, q < H.size → H'[q]? = H[q]?) (hf : ∀ i, i < w.1 → (∀ k, fv Γ σ' w'.2 (kd i).1 i k = fv Γ σ w.2 (kd i).1 i k) ∧ ∀ j, av Γ σ' w'.2 (kd i).1 i j = av Γ σ w.2 (kd i).1 i j)
    (hc : ∀ i, w.1 ≤ i → i < w.1 + n → atC Γ σ' w'.2 i H') : HR Γ σ' w' H' := by
  obtain ⟨h1, h2, h3⟩ := h
  refine ⟨by rw [hs, h1, hn]; omega, fun q hqz => ?_, fun i hi => ?_⟩
  · rw [hq q (by omega)]
    exact h2 q hqz
  · by_cases e : i < w.1
    · obtain ⟨g1, g2⟩ := h3 i e
      have hk : H'[gz Γ + i]? = H[gz Γ + i]? := hq _ (by omega)
      refine ⟨fun ht => ?_, fun ht => ?_⟩
      · exact ((g1 ht).kept hk).to (fun k _ => ((hf i e).1 k).symm)
      · rw [hk, g2 ht]
        congr 2
        funext j
        exact ((hf i e).2 j).symm
    · exact hc i (by omega) (by omega)
theorem fv_z {t i j : Nat} (h : i < w.1) : fv Γ (zS σ w.1) (zW w).2 t i j = fv Γ σ w.2 t i j := by
  have : ¬ i = w.1 := by omega
  unfold fv zW
  simp only [gI_zS, gJ_zS, gR_zS, this, if_false]
theorem av_z {t i j : Nat} (h : i < w.1) : av Γ (zS σ w.1) (zW w).2 t i j = av Γ σ w.2 t i j := by
  have : ¬ i = w.1 := by omega
  unfold av zW
  simp only [gI_zS, gJ_zS, this, if_false]
/-- a new object's fields -/
theorem fk_ty : ∀ t, t < 13 → ∀ k, k < ((vwCl[t]?.map (fun q => q.2.2)).getD 0) → (match fk t k with | 1 => Value.long 0 | 2 => .null | 3 => .null | _ => .int 0) = defaultValue (tyOf t k) := by decide +kernel
theorem fv_new {t k : Nat} {q : vw_C} (ht : vwCl[t]? = some q) (hk : k < q.2.2) : fv Γ (zS σ w.1) (zW w).2 t w.1 k = defaultValue (tyOf t k) := by
  have h13 : t < 13 := (List.getElem?_eq_some_iff.mp ht).1
  have h := fk_ty t h13 k (by rw [ht]; exact hk)
  rw [← h]
  unfold fv
  simp only [gI_zS, gJ_zS, gR_zS, zW, rv, va_rf, if_true, Option.map_none]
  rfl
theorem aw_new {n ci wi wj wk : Nat} (hd : decode (mB μ) pc = .ok (.new n, 3)) {q : vw_C} (hq : vwCl[ci]? = some q) (h1 : lw_tbl[wi]? = some (.classLink (mN μ).cls n q.1)) (h2 : lw_tbl[wj]? = some (.instantiable q.1 q.2.2)) (h3 : lw_tbl[wk]? = some (.initialized q.1)) (hk : (kd w.1).1 = ci) (hcc : cc + 1 ≤ mC μ) (hzz : zz + (kd w.1).2 ≤ mS μ)
    (k : AW Γ d μ Q (pc + 3) L (.ref w.1 :: S) (zS σ w.1) (zW w) (cc + 1) (zz + (kd w.1).2)) : AW Γ d μ Q pc L S σ w cc zz := by
  intro p l e s m args below meth c Z hF hR H locs ls hH hlo hl hc hz
  have kk := fun H hH => k p l e s m args below meth c Z hF hR H locs ls hH hlo hl hcc hzz
  obtain ⟨hx, hb, -, -, -, hown, -, -, hK⟩ := hF
  have hlt := ci_lt hq
  have hN : (kd w.1).2 = q.2.2 := by
    obtain ⟨q', g1, g2⟩ := kd_cl (i := w.1) (by rw [hk]; exact hlt)
    rw [hk, hq] at g1
    cases g1
    exact g2.symm
  rw [hN] at kk hzz
  have wd : ∀ {i : Nat} {x : Cond}, lw_tbl[i]? = some x → goodWord x = true → x.before args s = true := fun h g => hK.1 _ (List.mem_of_getElem? h) g args
  have hKn := hK.2.2.1.1 ci q hq
  obtain ⟨hw0, -, hty⟩ := cl_facts hq
  have hsz : H.size = gz Γ + w.1 := hH.1
  refine W.newcK hx hb hown (wd h1 rfl) (wd h2 rfl) (wd h3 rfl) rfl hd hcc hzz hKn.2.1 hsz fun H' kC hkC q1 q2 q3 => kk H' ?_
  refine hH.grow (n := 1) rfl (by rw [q2, hsz]) (fun x hx => q3 x (by omega)) (fun i hi => ⟨fun k => fv_z hi, fun j => av_z hi⟩) ?_
  intro i hi hi2
  have : i = w.1 := by omega
  subst this
  rw [atC_o (by rw [hk]; exact hlt), hk, hN]
  have hts : ∀ x ∈ u_ws q.1 q.2.1 q.2.2, x.before args s = true := fun x hx => hK.1 x (hw0 x hx).1 (hw0 x hx).2 args
  exact (u_born (tyOf ci) hts (fun _ h => h) hKn hkC q1 hty).to (fun k hk => (fv_new hq hk).symm)
/-- a new array -/
theorem av_new {t k : Nat} : av Γ (zS σ w.1) (zW w).2 t w.1 k = if t = 21 then .long 0 else if t < 24 then .int 0 else .null := by
  unfold av
  simp [gI_zS, gJ_zS, zW, rv, va_rf]
theorem HR.newA {H H' : Heap} (hH : HR Γ σ w H) {t N : Nat} {dv : Value} (ht : (kd w.1).1 = 20 + t) (hN : (kd w.1).2 = N) (hdv : (if 20 + t = 21 then Value.long 0 else if 20 + t < 24 then .int 0 else .null) = dv) (q1 : H'[gz Γ + w.1]? = some (arrV (xA Γ t) N (fun _ => dv))) (q2 : H'.size = gz Γ + w.1 + 1) (q3 : ∀ q, q < gz Γ + w.1 → H'[q]? = H[q]?) : HR Γ (zS σ w.1) (zW w) H' := by
  have hsz : H.size = gz Γ + w.1 := hH.1
  refine hH.grow (n := 1) rfl (by rw [q2, hsz]) (fun x hx => q3 x (by omega)) (fun i hi => ⟨fun k => fv_z hi, fun j => av_z hi⟩) ?_
  intro i hi hi2
  have : i = w.1 := by omega
  subst this
  rw [atC_a (by rw [ht]; omega), ht, hN, show 20 + t - 20 = t by omega, q1]
  congr 2
  funext j
  rw [av_new, hdv]
theorem aw_newa {ty : ArrayType} {n : Int32} (hd : decode (mB μ) pc = .ok (.newarray ty, 2)) (ht : (kd w.1).1 = 20 ∧ ty = .int ∨ (kd w.1).1 = 21 ∧ ty = .long ∨ (kd w.1).1 = 22 ∧ ty = .byte ∨ (kd w.1).1 = 23 ∧ ty = .boolean) (hn : ¬ n < 0) (hN : (kd w.1).2 = n.toNatClampNeg) (hcc : cc + 1 ≤ mC μ) (hzz : zz + (kd w.1).2 ≤ mS μ)
    (k : AW Γ d μ Q (pc + 2) L (.ref w.1 :: S) (zS σ w.1) (zW w) (cc + 1) (zz + (kd w.1).2)) : AW Γ d μ Q pc L (.int n :: S) σ w cc zz := by
  intro p l e s m args below meth c Z hF hR H locs ls hH hlo hl hc hz
  have kk := fun H hH => k p l e s m args below meth c Z hF hR H locs ls hH hlo hl hcc hzz
  obtain ⟨hx, hb, -, -, -, hown, -, -, hK⟩ := hF
  rw [hN] at kk hzz
  have hsz : H.size = gz Γ + w.1 := hH.1
  have hbig : n.toNatClampNeg ≤ 40000 := by
    rw [← hN]
    by_cases h : w.1 < 430
    · have : ∀ i, i < 430 → (kd i).2 ≤ 40000 := by decide +kernel
      exact this _ h
    · rw [kd_out h]
      decide
  have go : ∀ (t : Nat) (ty' : FieldType) (dv : Value), t < 9 → (kd w.1).1 = 20 + t → newarray.typeOf ty = ty' → aty t = ty' → (Cond.arrayClass ty').before args s = true → (if 20 + t = 21 then Value.long 0 else if 20 + t < 24 then .int 0 else .null) = dv → defaultValue ty' = dv → componentBytes ty' ≤ 8 → va_RA s (xA Γ t) (aty t) → (∀ cA, s.vm.findClass ("[" ++ ty'.toString) = some cA → va_RA s (xA Γ t) (aty t) → cA = xA Γ t) → W p l e (rmOf d (mC μ) (mS μ)) s m args below meth c H locs cc zz Z (F0 m pc ls ((Value.int n :: S).map (cv Γ))) := by
    intro t ty' dv h9 h1 h2 h3 h4 h5 h6 h7 h8 h10
    subst h2
    refine va_newaK hx hb h4 rfl hd rfl hn rfl (by have : n.toNatClampNeg * componentBytes (newarray.typeOf ty) ≤ 40000 * 8 := Nat.mul_le_mul hbig h7; omega) hcc hzz hsz fun H' cA q1 q2 q3 _ q5 => kk H' ?_
    have e : cA = xA Γ t := h10 cA q5 h8
    subst e
    rw [h6] at q1
    exact hH.newA h1 hN h5 q1 q2 q3
  have hra : ∀ t, t < 9 → va_RA s (xA Γ t) (aty t) := fun t ht => (hK.2.2.1.2 t (xA Γ t, aty t) (by rw [List.getElem?_map, List.getElem?_range ht]; rfl)).2
  have wd : ∀ {i : Nat} {x : Cond}, lw_tbl[i]? = some x → goodWord x = true → x.before args s = true := fun h g => hK.1 _ (List.mem_of_getElem? h) g args
  rcases ht with ⟨h, rfl⟩ | ⟨h, rfl⟩ | ⟨h, rfl⟩ | ⟨h, rfl⟩
  · exact go 0 .int (.int 0) (by decide) h rfl rfl (hK.1 _ (by decide +kernel) rfl args) rfl rfl (by decide) (hra 0 (by decide)) (fun cA q1 q2 => Option.some.inj (q1.symm.trans q2))
  · exact go 1 .long (.long 0) (by decide) h rfl rfl (hK.1 _ (by decide +kernel) rfl args) rfl rfl (by decide) (hra 1 (by decide)) (fun cA q1 q2 => Option.some.inj (q1.symm.trans q2))
  · exact go 2 .byte (.int 0) (by decide) h rfl rfl (hK.1 _ (by decide +kernel) rfl args) rfl rfl (by decide) (hra 2 (by decide)) (fun cA q1 q2 => Option.some.inj (q1.symm.trans q2))
  · exact go 3 .boolean (.int 0) (by decide) h rfl rfl (hK.1 _ (by decide +kernel) rfl args) rfl rfl (by decide) (hra 3 (by decide)) (fun cA q1 q2 => Option.some.inj (q1.symm.trans q2))
theorem aw_anew {n t wi : Nat} {j : Int32} {q : vw_C} {ci : Nat} (hd : decode (mB μ) pc = .ok (.anewarray n, 3)) (hq : vwCl[ci]? = some q) (hct : (t = 24 ∧ ci = 7) ∨ (t = 25 ∧ ci = 10) ∨ (t = 26 ∧ ci = 5) ∨ (t = 27 ∧ ci = 6)) (h1 : lw_tbl[wi]? = some (.classLink (mN μ).cls n q.1)) (hk : (kd w.1).1 = t) (hn : ¬ j < 0) (hN : (kd w.1).2 = j.toNatClampNeg) (hcc : cc + 1 ≤ mC μ) (hzz : zz + (kd w.1).2 ≤ mS μ)
    (k : AW Γ d μ Q (pc + 3) L (.ref w.1 :: S) (zS σ w.1) (zW w) (cc + 1) (zz + (kd w.1).2)) : AW Γ d μ Q pc L (.int j :: S) σ w cc zz := by
  intro p l e s m args below meth c Z hF hR H locs ls hH hlo hl hc hz
  have kk := fun H hH => k p l e s m args below meth c Z hF hR H locs ls hH hlo hl hcc hzz
  obtain ⟨hx, hb, -, -, -, hown, -, -, hK⟩ := hF
  rw [hN] at kk hzz
  have hsz : H.size = gz Γ + w.1 := hH.1
  have hbig : j.toNatClampNeg ≤ 40000 := by
    rw [← hN]
    by_cases h : w.1 < 430
    · have : ∀ i, i < 430 → (kd i).2 ≤ 40000 := by decide +kernel
      exact this _ h
    · rw [kd_out h]
      decide
  have hra : ∀ t, t < 9 → va_RA s (xA Γ t) (aty t) := fun t ht => (hK.2.2.1.2 t (xA Γ t, aty t) (by rw [List.getElem?_map, List.getElem?_range ht]; rfl)).2
  have hlink := hK.1 _ (List.mem_of_getElem? h1) rfl args
  obtain ⟨o1, o2, o3, o4, -⟩ := hK.2.2.2.2.2
  have go : ∀ (t' : Nat), t' < 9 → t = 20 + t' → 4 ≤ t' → aty t' = .object q.1 → va_AO q.1 s → W p l e (rmOf d (mC μ) (mS μ)) s m args below meth c H locs cc zz Z (F0 m pc ls ((Value.int j :: S).map (cv Γ))) := by
    intro t' h9 ht' h4 hty hao
    refine W.anew hx hb hown hlink (va_AO.use hao) rfl hd rfl hn (by omega) hcc hzz fun cA kA comp f1 f2 f3 f4 => ?_
    have hr := hra t' h9
    rw [hty] at hr
    obtain ⟨_, _, -, -, -, hr4⟩ := hr
    have e : cA = xA Γ t' := Option.some.inj (f1.symm.trans hr4)
    subst e
    rw [hsz]
    refine kk _ ?_
    refine hH.newA (t := t') (N := j.toNatClampNeg) (dv := .null) (by rw [hk, ht']) hN (by rw [if_neg (by omega), if_neg (by omega)]) ?_ ?_ ?_
    · rw [← hsz, Array.getElem?_push_size, ← arrV_new]
    · rw [Array.size_push, hsz]
    · intro x hx
      rw [Array.getElem?_push, if_neg (by omega)]
  rcases hct with ⟨rfl, rfl⟩ | ⟨rfl, rfl⟩ | ⟨rfl, rfl⟩ | ⟨rfl, rfl⟩ <;> cases hq
  · exact go 4 (by decide) rfl (by decide) rfl o1
  · exact go 5 (by decide) rfl (by decide) rfl o2
  · exact go 6 (by decide) rfl (by decide) rfl o3
  · exact go 7 (by decide) rfl (by decide) rfl o4
theorem vr_outer (c : ClassId) (N h0 : Nat) : ∀ i : Nat, Jvm.Free.Multi.outerC c N h0 i = arrV c N (fun j => va_rf (if j < i then some (h0 + 1 + j) else none))
  | 0 => by
    show ({ cls := c, slots := Array.replicate N .null, vm := .none } : Cell) = _
    rw [arrV_new]
    refine congrArg (arrV c N) (funext fun j => ?_)
    simp [va_rf]
  | i + 1 => by
    show (Jvm.Free.Multi.outerC c N h0 i).setSlot i (.ref (h0 + 1 + i)) = _
    rw [vr_outer c N h0 i, arrV_store]
    refine congrArg (arrV c N) (funext fun j => ?_)
    by_cases e : j = i
    · subst e
      simp [updV, va_rf]
    · by_cases h : j < i
      · simp [updV, e, h, Nat.lt_succ_of_lt h]
      · simp [updV, e, h, show ¬ j < i + 1 by omega]
theorem aw_multi {n wi : Nat} {a b : Int32} (hd : decode (mB μ) pc = .ok (.multianewarray n 2, 4)) (h1 : lw_tbl[wi]? = some (.classLink (mN μ).cls n "[[I")) (hk : kd w.1 = (28, a.toNatClampNeg)) (hrow : ∀ i, i < a.toNatClampNeg → kd (w.1 + 1 + i) = (20, b.toNatClampNeg)) (ha : ¬ a < 0) (hb0 : ¬ b < 0) (ha1 : a.toNatClampNeg ≤ 1000) (hb1 : b.toNatClampNeg ≤ 1000)
    (hcc : cc + (1 + a.toNatClampNeg) ≤ mC μ) (hzz : zz + (a.toNatClampNeg + a.toNatClampNeg * b.toNatClampNeg) ≤ mS μ)
    (k : AW Γ d μ Q (pc + 4) L (.ref w.1 :: S) (zM σ w.1 (1 + a.toNatClampNeg)) (gM w a.toNatClampNeg) (cc + 1 + a.toNatClampNeg) (zz + a.toNatClampNeg + a.toNatClampNeg * b.toNatClampNeg)) : AW Γ d μ Q pc L (.int b :: .int a :: S) σ w cc zz := by
  intro p l e s m args below meth c Z hF hR H locs ls hH hlo hl hc hz
  have kk := fun H hH => k p l e s m args below meth c Z hF hR H locs ls hH hlo hl (by omega) (by omega)
  obtain ⟨hx, hb, -, -, -, hown, -, -, hK⟩ := hF
  have hsz : H.size = gz Γ + w.1 := hH.1
  have hra : ∀ t, t < 9 → va_RA s (xA Γ t) (aty t) := fun t ht => (hK.2.2.1.2 t (xA Γ t, aty t) (by rw [List.getElem?_map, List.getElem?_range ht]; rfl)).2
  have hlink : (Cond.classLink (mN μ).cls n ("[" ++ (FieldType.array .int).toString)).before args s = true := hK.1 _ (List.mem_of_getElem? h1) rfl args
  have hao : (Cond.arrayOver (.array .int)).before args s = true := hK.2.2.2.2.2.2.2.2.2
  have hac : (Cond.arrayClass .int).before args s = true := hK.1 _ (by decide +kernel) rfl args
  intro T hT Xs
  obtain ⟨vm₁, cA, comp, -, fA, fC, hO, -, X', step⟩ := Xs.multianewarray2F hx hown hlink hao hac (g := F0 m pc ls ((Value.int b :: .int a :: S).map (cv Γ))) rfl (by rw [hb]; exact hd) rfl ha hb0 (by omega) (by show _ * 4 ≤ _; omega) (by omega) rfl rfl hcc hzz
  have e1 : cA = xA Γ 8 := by
    have := hra 8 (by decide)
    exact Option.some.inj (fA.symm.trans this)
  have e2 : comp = xA Γ 0 := by
    have := hra 0 (by decide)
    exact Option.some.inj (fC.symm.trans this)
  subst e1
  subst e2
  have hTh : (T.setVm vm₁).heap = H := hT
  obtain ⟨f1, f2, -, -⟩ := Jvm.Free.Multi.fill_facts (T.setVm vm₁) (xA Γ 8) (xA Γ 0) a.toNatClampNeg b.toNatClampNeg (defaultValue .int) a.toNatClampNeg
  have fo := fun x hx => Jvm.Free.Multi.fill_old (T.setVm vm₁) (xA Γ 8) (xA Γ 0) a.toNatClampNeg b.toNatClampNeg (defaultValue .int) (a := x) hx a.toNatClampNeg
  have fi := Jvm.Free.Multi.fill_inner (T.setVm vm₁) (xA Γ 8) (xA Γ 0) a.toNatClampNeg b.toNatClampNeg (defaultValue .int) a.toNatClampNeg
  generalize Jvm.Free.Multi.fill (T.setVm vm₁) (xA Γ 8) (xA Γ 0) a.toNatClampNeg b.toNatClampNeg (defaultValue .int) a.toNatClampNeg = F at X' step f1 f2 fo fi
  rw [hTh, hsz] at f1 f2 fi
  rw [hTh] at fo
  rw [vr_outer] at f2
  have hHR : HR Γ (zM σ w.1 (1 + a.toNatClampNeg)) (gM w a.toNatClampNeg) F.heap := by
    refine hH.grow (n := 1 + a.toNatClampNeg) (by show w.1 + 1 + a.toNatClampNeg = _; omega) (by rw [f1, hsz]; omega) (fun x hx => fo x hx) (fun i hi => ⟨fun k => ?_, fun j => ?_⟩) ?_
    · have z1 : ¬ (w.1 ≤ i ∧ i < w.1 + (1 + a.toNatClampNeg)) := by omega
      have z2 : ¬ i = w.1 := by omega
      have z3 : ¬ (w.1 ≤ i ∧ i < w.1 + 1 + a.toNatClampNeg) := by omega
      unfold fv gI gJ gR zM gM
      simp only [z1, z2, z3, if_false]
    · have z1 : ¬ (w.1 ≤ i ∧ i < w.1 + (1 + a.toNatClampNeg)) := by omega
      have z2 : ¬ i = w.1 := by omega
      have z3 : ¬ (w.1 ≤ i ∧ i < w.1 + 1 + a.toNatClampNeg) := by omega
      unfold av gI gJ zM gM
      simp only [z1, z2, z3, if_false]
    · intro i hi hi2
      by_cases e : i = w.1
      · subst e
        rw [atC_a (by rw [hk]; show 20 ≤ 28; decide), hk]
        show F.heap[gz Γ + w.1]? = some (arrV (xA Γ 8) _ _)
        rw [f2]
        congr 2
        funext j
        show _ = rv Γ ((gM w a.toNatClampNeg).2 w.1 j)
        unfold gM rv
        simp only [if_true]
        by_cases hj : j < a.toNatClampNeg
        · rw [if_pos hj, if_pos hj]
          show va_rf (some (gz Γ + w.1 + 1 + j)) = va_rf (some (gz Γ + (w.1 + 1 + j)))
          rw [show gz Γ + w.1 + 1 + j = gz Γ + (w.1 + 1 + j) by omega]
        · rw [if_neg hj, if_neg hj]
          rfl
      · have hr := hrow (i - w.1 - 1) (by omega)
        rw [show w.1 + 1 + (i - w.1 - 1) = i by omega] at hr
        rw [atC_a (by rw [hr]; show 20 ≤ 20; decide), hr]
        show F.heap[gz Γ + i]? = some (arrV (xA Γ 0) _ _)
        have := fi (i - w.1 - 1) (by omega)
        rw [show gz Γ + w.1 + 1 + (i - w.1 - 1) = gz Γ + i by omega] at this
        rw [this]
        show some ({ cls := _, slots := Array.replicate _ _, vm := .none } : Cell) = _
        rw [arrV_new]
        congr 2
        funext j
        have z1 : w.1 ≤ i ∧ i < w.1 + (1 + a.toNatClampNeg) := by omega
        unfold av gI zM
        simp only [z1, and_self, if_true]
        rfl
  obtain ⟨t, a1, b1⟩ := kk F.heap hHR F rfl X'
  refine ⟨t, step t ?_, b1⟩
  have e : T.heap.size = gz Γ + w.1 := by rw [hT, hsz]
  rw [e]
  exact a1
theorem aw_obj {n wi wj wk : Nat} {o : Nat} (hd : decode (mB μ) pc = .ok (.invokespecial n, 3)) (h1 : lw_tbl[wi]? = some (.methodLink (mN μ).cls n Lib.objectInit)) (h2 : lw_tbl[wj]? = some (.instanceMethod Lib.objectInit)) (h3 : lw_tbl[wk]? = some (.code Lib.objectInit ⟨#[0xb1]⟩ 1 none)) (h0 : 1 ≤ d) (hS : catS S ≤ 8) (k : AW Γ d μ Q (pc + 3) L S σ w cc zz) : AW Γ d μ Q pc L (.ref o :: S) σ w cc zz := by
  intro p l e s m args below meth c Z hF hR H locs ls hH hlo hl hc hz
  have kk := k p l e s m args below meth c Z hF hR H locs ls hH hlo hl hc hz
  obtain ⟨hx, hb, hml, -, -, hown, -, -, hK⟩ := hF
  have wd : ∀ {i : Nat} {x : Cond}, lw_tbl[i]? = some x → goodWord x = true → x.before args s = true := fun h g => hK.1 _ (List.mem_of_getElem? h) g args
  refine W.objInit hx hb hown (wd h1 rfl) (wd h2 rfl) (wd h3 rfl) rfl (by rw [hml]; exact hl.1) rfl hd h0 ?_ kk
  show 2 * 0 + ((S.map (cv Γ)).map fun v => v.category).sum + 12 ≤ 36 * d
  rw [List.map_map, show (fun v => v.category) ∘ cv Γ = Value.category from funext (fun v => cv_cat Γ v)]
  unfold catS at hS
  omega
end Make
end
section
/-! calls: contracts out of walks, and walks over contracts -/
theorem va_AOA.moved {ty : FieldType} {u U : State} (hvm : u.vm.Alike U.vm) (h : va_AOA ty u) : va_AOA ty U := by
  obtain ⟨comp, c, k, h1, h2, h3, h4, h5⟩ := arrayOverA_spec h
  obtain ⟨k', hk', he⟩ := hvm.2.2 _ _ h3
  have hi : (U.vm.classes.findIdx? fun (x : Class) => match x.kind with | .array component _ => component == comp | _ => false) = some c := by
    have b1 := va_idx_bare U.vm comp
    have b2 := va_idx_bare u.vm comp
    have b3 : U.vm.bare = u.vm.bare := by first | exact hvm.bare_eq | exact hvm.bare_eq.symm
    rw [b3] at b1
    exact b1.symm.trans (b2.trans h2)
  have hkind : k'.kind = .array comp (.array ty) := by rw [he]; exact h4
  have f1 : U.vm.findClass (FieldType.array ty).toString = some comp := by rw [hvm.findClass]; exact h1
  have f2 : U.vm.findClass ("[" ++ (FieldType.array ty).toString) = some c := by rw [hvm.findClass]; exact h5
  unfold va_AOA Cond.before Cond.holds
  simp only [Cond.value]
  rw [f1, Option.bind_some]
  refine (congrArg (fun o : Option Nat => (o.bind (fun c => (U.vm.classes[c]?).map fun (k : Class) => match k.kind with | .array _ t => decide (t = FieldType.array ty) && decide (U.vm.findClass ("[" ++ (FieldType.array ty).toString) = some c) | _ => false) == some true)) hi).trans ?_
  simp [hk', hkind, f2]
theorem GK.warm {Γ : Gx} {s U : State} (hW : s.WarmedH U.vm) (h : GK Γ s) : GK Γ U := by
  obtain ⟨h1, h2, h3, h4, ⟨h5, h6, h7, h7b⟩, h8, h9, h10, h11, h12⟩ := h
  have ha := hW.alike
  refine ⟨fun w hw hg a => word_at hW (good_of_word hg) (h1 w hw hg #[]), fun w hw => ?_, h3.moved ha, h4.moved ha, ⟨h5.moved ha, fun i hi => (h6 i hi).warm hW, h7.moved ha, h7b.elim (fun q => Or.inl (q.moved ha)) (fun q => Or.inr (q.moved ha))⟩, h8.moved ha, h9.moved ha, h10.moved ha, h11.moved ha, h12.moved ha⟩
  have hz := h2 w hw
  obtain ⟨-, hf⟩ := List.mem_filter.mp hw
  revert hf
  split
  · intro _
    exact va_Nw.warmM hW hz
  · intro hf
    cases hf
theorem sum_cv (Γ : Gx) (S : List Value) : ((S.map (cv Γ)).map fun v => v.category).sum = catS S := by
  rw [List.map_map, show (fun v => v.category) ∘ cv Γ = Value.category from funext (fun v => cv_cat Γ v)]
  rfl
/-- what a program checks of a call: the words at these places -/
def cCk (C : String) (n kind : Nat) (ν : MD) (ws : List Nat) : Bool :=
  decide ((mN ν).cls ≠ "java/lang/invoke/MethodHandle" ∧ (mN ν).cls ≠ "java/lang/invoke/VarHandle") && decide ((parseMethodDescriptor (mN ν).desc).map (fun d => d.parameters.length) = some (mA ν)) && decide (mL ν ≤ 17 ∧ (3 ≤ mK ν ∨ (mC ν = 0 ∧ mS ν = 0))) &&
  decide (lw_tbl[ws.getD 0 0]? = some (.code (mN ν) (mB ν) (mL ν) (mR ν))) && decide (lw_tbl[ws.getD 1 0]? = some (.initialized (mN ν).cls)) &&
  (match kind with
  | 0 => decide (lw_tbl[ws.getD 2 0]? = some (.methodLink C n (mN ν))) && decide (lw_tbl[ws.getD 3 0]? = some (.instanceMethod (mN ν))) && decide (lw_tbl[ws.getD 4 0]? = some (.selects (mN ν).cls (mN ν) (mN ν))) && decide (vwCl[mO ν]?.map (fun q => q.1) = some (mN ν).cls)
  | 1 => decide (lw_tbl[ws.getD 2 0]? = some (.methodLink C n (mN ν))) && decide (lw_tbl[ws.getD 3 0]? = some (.static (mN ν)))
  | 2 => decide (lw_tbl[ws.getD 2 0]? = some (.methodLink C n (mN ν))) && decide (lw_tbl[ws.getD 3 0]? = some (.instanceMethod (mN ν))) && decide ((mN ν).name = "<init>") && decide (mR ν = none)
  | 3 => decide (Cond.methodLinkNest C n (mN ν) "FirstReader" ∈ nests) && decide (lw_tbl[ws.getD 3 0]? = some (.instanceMethod (mN ν))) && decide ((mN ν).name = "<init>") && decide (mR ν = none)
  | 6 => decide (Cond.methodLinkNest C n (mN ν) "FirstReader" ∈ nests) && decide (lw_tbl[ws.getD 3 0]? = some (.static (mN ν)))
  | 5 => decide (lw_tbl[ws.getD 2 0]? = some (.methodLink C n (mN ν))) && decide (lw_tbl[ws.getD 3 0]? = some (.instanceMethod (mN ν))) && decide (lw_tbl[ws.getD 4 0]? = some (.selects (mN ν).cls (mN ν) (mN ν))) && decide ((mN ν).cls = "java/lang/String")
  | _ => false)
section Call
variable {Γ : Gx} {d : Nat} {μ : MD} {Q : Option Value → St → Wd → Prop} {pc : Nat} {L : Lv} {S : List Value} {σ : St} {w : Wd} {cc zz : Nat}
theorem aw_back {ν : MD} {S : List Value} {Q' : Option Value → St → Wd → Prop} {p : Program} {l : Launch} {e : Env} {s : State} {m : MethodId} {args : Array Value} {below : List Frame} {meth : Method} {c : Code} {Z : State → Prop} {H : Heap} {locs : List Loc} {ls : Array Slot} {st : List Value}
    (hF : Fx Γ μ p l s m meth c) (hR : RetOK Γ (d + 1) μ Q p l e s m args below meth c Z) (hlo : lcs Γ locs) (hl : lv_has ls (mL μ) (cL Γ L)) (hcc : cc + mC ν ≤ mC μ) (hzz : zz + mS ν ≤ mS μ)
    (run : va_Run p l e (rmOf (d + 1) (mC μ) (mS μ)) s m args below meth c H locs cc zz (mC ν) (mS ν) (F0 m pc ls st) (S.map (cv Γ)) (fun (_ : State) o t => ∃ v σ' w', o = Outcome.returned (v.map (cv Γ)) ∧ HR Γ σ' w' t.heap ∧ Q' v σ' w') (fun q => gz Γ ≤ q))
    (k : ∀ v σ' w', Q' v σ' w' → AW Γ (d + 1) μ Q (pc + 3) L (v.toList ++ S) σ' w' (cc + mC ν) (zz + mS ν)) : W p l e (rmOf (d + 1) (mC μ) (mS μ)) s m args below meth c H locs cc zz Z (F0 m pc ls st) := by
  intro T hT X
  obtain ⟨v, st₀, t, T', L', h0, X', hL, e1, e2, ⟨v', σ', w', hv, hHR, hq⟩, hgo⟩ := run T hT X
  cases hv
  have kk := k v' σ' w' hq p l e s m args below meth c Z hF hR T'.heap (locs ++ L') ls (by rw [e1]; exact hHR) (fun q hq => by
    rcases List.mem_append.mp hq with h | h
    · exact hlo q h
    · exact hL q h) hl hcc hzz
  have es : (v'.map (cv Γ)).toList ++ S.map (cv Γ) = (v'.toList ++ S).map (cv Γ) := by cases v' <;> simp
  obtain ⟨t2, a1, b1⟩ := kk T' rfl X'
  refine ⟨t2, hgo t2 ?_, b1⟩
  rw [es]
  exact a1
theorem pre_blind {A : List Value} : FrameBlind (fun args s => args = (A.map (cv Γ)).toArray ∧ HR Γ σ w s.heap ∧ GK Γ s) := by
  intro a U g mk h
  exact ⟨h.1, h.2.1, h.2.2.warm (U := U.calling g mk a) (State.WarmedH.refl U)⟩
theorem pre_ok {A : List Value} {s : State} {H : Heap} (hH : HR Γ σ w H) (hK : GK Γ s) (U : State) (h1 : U.heap = H) (h2 : s.WarmedH U.vm) : (fun (args : Array Value) (s : State) => args = (A.map (cv Γ)).toArray ∧ HR Γ σ w s.heap ∧ GK Γ s) (A.map (cv Γ)).toArray U := ⟨rfl, by rw [h1]; exact hH, hK.warm h2⟩
theorem cCk_spec {C : String} {n kind : Nat} {ν : MD} {ws : List Nat} (h : cCk C n kind ν ws = true) {s : State} (hK : GK Γ s) (args : Array Value) {R : Room} (hf : d + 1 ≤ R.frames) (hlo : 36 * (d + 1) ≤ R.locals) :
    ((mN ν).cls ≠ "java/lang/invoke/MethodHandle" ∧ (mN ν).cls ≠ "java/lang/invoke/VarHandle") ∧ (∀ sig, parseMethodDescriptor (mN ν).desc = some sig → mA ν = sig.parameters.length) ∧ d + 1 ≤ R.frames ∧ (8 + (mL ν + 11) + 36 * d ≤ R.locals) ∧ (∀ x ∈ [Cond.code (mN ν) (mB ν) (mL ν) (mR ν)], ∀ (a' : Array Value) (U : State), s.WarmedH U.vm → x.before a' U = true) ∧ (Cond.code (mN ν) (mB ν) (mL ν) (mR ν)).before args s = true ∧ (Cond.initialized (mN ν).cls).before args s = true := by
  unfold cCk at h
  simp only [Bool.and_eq_true, decide_eq_true_eq] at h
  obtain ⟨⟨⟨⟨⟨h1, h2⟩, h3⟩, h4⟩, h5⟩, -⟩ := h
  have wd : ∀ {i : Nat} {x : Cond}, lw_tbl[i]? = some x → goodWord x = true → x.before args s = true := fun h g => hK.1 _ (List.mem_of_getElem? h) g args
  refine ⟨h1, fun sig hs => ?_, hf, by omega, ?_, wd h4 rfl, wd h5 rfl⟩
  · rw [hs] at h2
    exact (Option.some.inj h2).symm
  · intro x hx a' U hW
    rw [List.mem_singleton.mp hx]
    exact word_at hW (good_of_word rfl) (hK.1 _ (List.mem_of_getElem? h4) rfl #[])
theorem cCk_z {C : String} {n kind : Nat} {ν : MD} {ws : List Nat} (h : cCk C n kind ν ws = true) (hk : mK ν < 3) : mC ν = 0 ∧ mS ν = 0 := by
  unfold cCk at h
  simp only [Bool.and_eq_true, decide_eq_true_eq] at h
  obtain ⟨⟨⟨⟨⟨h1, h2⟩, h3⟩, h4⟩, h5⟩, -⟩ := h
  rcases h3.2 with q | q
  · omega
  · exact q
theorem aw_callS {ν : MD} {n kind : Nat} (hkd : kind = 1 ∨ kind = 6) {ws : List Nat} {As S : List Value} {Q' : Option Value → St → Wd → Prop} (hd : decode (mB μ) pc = .ok (.invokestatic n, 3)) (hck : cCk (mN μ).cls n kind ν ws = true) (hA : As.length = mA ν) (hS : catS S ≤ 8) (hcc : cc + mC ν ≤ mC μ) (hzz : zz + mS ν ≤ mS μ) (hsp : Sp Γ d ν As σ w Q')
    (k : ∀ v σ' w', Q' v σ' w' → AW Γ (d + 1) μ Q (pc + 3) L (v.toList ++ S) σ' w' (cc + mC ν) (zz + mS ν)) : AW Γ (d + 1) μ Q pc L (As.reverse ++ S) σ w cc zz := by
  intro p l e s m args below meth c Z hF hR H locs ls hH hlo hl hc hz
  have hF' := hF
  obtain ⟨hx, hb, hml, -, -, hown, -, rfl, hK⟩ := hF
  obtain ⟨c1, c2, c3, c4, c5, c6, c7⟩ := cCk_spec hck hK args (R := rmOf (d + 1) (mC μ) (mS μ)) (Nat.le_refl _) (Nat.le_refl _)
  have wd : ∀ {i : Nat} {x : Cond}, lw_tbl[i]? = some x → goodWord x = true → x.before args s = true := fun h g => hK.1 _ (List.mem_of_getElem? h) g args
  have hst : (As.reverse ++ S).map (cv Γ) = (As.map (cv Γ)).reverse ++ S.map (cv Γ) := by rw [List.map_append, List.map_reverse]
  have hW : 2 * 0 + ((S.map (cv Γ)).map fun v => v.category).sum ≤ 8 := by
    rw [sum_cv]
    omega
  rcases hkd with rfl | rfl
  · unfold cCk at hck
    simp only [Bool.and_eq_true, decide_eq_true_eq] at hck
    exact aw_back hF' hR hlo hl hcc hzz (va_runS (As := As.map (cv Γ)) (rest := S.map (cv Γ)) (Ts := []) ⟨hx, hb, hml, hown, fun _ h => absurd h List.not_mem_nil⟩ hsp ⟨⟨rfl, rfl, c3, c4, c5, List.mem_singleton.mpr rfl, c6, c7, c1, c2, wd hck.2.1 rfl⟩, wd hck.2.2 rfl⟩ ⟨pre_blind, fun U h1 h2 => pre_ok hH hK U h1 h2⟩ rfl (by rw [List.length_map]; exact hA) hl.1 hst hW hd ⟨hcc, hzz⟩) k
  · unfold cCk at hck
    simp only [Bool.and_eq_true, decide_eq_true_eq] at hck
    exact aw_back hF' hR hlo hl hcc hzz (va_runSN (host := "FirstReader") (As := As.map (cv Γ)) (rest := S.map (cv Γ)) (Ts := []) ⟨hx, hb, hml, hown, fun _ h => absurd h List.not_mem_nil⟩ hsp ⟨⟨⟨rfl, rfl, c3, c4, c5, List.mem_singleton.mpr rfl⟩, c6, c7, c1, c2, va_Nw.use rfl (hK.2.1 _ hck.2.1)⟩, wd hck.2.2 rfl, trivial⟩ ⟨pre_blind, fun U h1 h2 => pre_ok hH hK U h1 h2⟩ rfl (by rw [List.length_map]; exact hA) hl.1 hst hW hd ⟨hcc, hzz⟩) k
theorem aw_callV {ν : MD} {n : Nat} {ws : List Nat} {o : Nat} {As S : List Value} {Q' : Option Value → St → Wd → Prop} (hd : decode (mB μ) pc = .ok (.invokevirtual n, 3)) (hck : cCk (mN μ).cls n 0 ν ws = true) (ho : okO w o (mO ν)) (hA : As.length = mA ν) (hS : catS S ≤ 8) (hcc : cc + mC ν ≤ mC μ) (hzz : zz + mS ν ≤ mS μ) (hsp : Sp Γ d ν (.ref o :: As) σ w Q')
    (k : ∀ v σ' w', Q' v σ' w' → AW Γ (d + 1) μ Q (pc + 3) L (v.toList ++ S) σ' w' (cc + mC ν) (zz + mS ν)) : AW Γ (d + 1) μ Q pc L (As.reverse ++ .ref o :: S) σ w cc zz := by
  intro p l e s m args below meth c Z hF hR H locs ls hH hlo hl hc hz
  have hF' := hF
  obtain ⟨hx, hb, hml, -, -, hown, -, rfl, hK⟩ := hF
  obtain ⟨c1, c2, c3, c4, c5, c6, c7⟩ := cCk_spec hck hK args (R := rmOf (d + 1) (mC μ) (mS μ)) (Nat.le_refl _) (Nat.le_refl _)
  have wd : ∀ {i : Nat} {x : Cond}, lw_tbl[i]? = some x → goodWord x = true → x.before args s = true := fun h g => hK.1 _ (List.mem_of_getElem? h) g args
  unfold cCk at hck
  simp only [Bool.and_eq_true, decide_eq_true_eq] at hck
  obtain ⟨-, ⟨⟨h1, h2⟩, h3⟩, h4⟩ := hck
  have hcl : ∃ q, vwCl[mO ν]? = some q ∧ q.1 = (mN ν).cls := by
    cases hq : vwCl[mO ν]? with
    | none => rw [hq] at h4; cases h4
    | some q => rw [hq] at h4; exact ⟨q, rfl, Option.some.inj h4⟩
  obtain ⟨q, hq, hqn⟩ := hcl
  have hrecv : ∃ cellB : Cell, H[gz Γ + o]? = some cellB ∧ cellB.vm.isStatics = false ∧ s.vm.findClass (mN ν).cls = some cellB.cls := by
    obtain ⟨q', hq', -, ⟨cell, g1, g2, g3, -⟩, hKn⟩ := fl_facts hK hH ho (ci_lt hq)
    cases hq'.symm.trans hq
    exact ⟨cell, g1, by rw [g3]; rfl, by rw [g2, ← hqn]; exact hKn.2.1⟩
  refine aw_back hF' hR hlo hl hcc hzz (va_runV (C := (mN ν).cls) (b := gz Γ + o) (As := As.map (cv Γ)) (rest := S.map (cv Γ)) (Ts := []) ⟨hx, hb, hml, hown, fun _ h => absurd h List.not_mem_nil⟩ hsp ⟨⟨rfl, rfl, c3, c4, c5, List.mem_singleton.mpr rfl, c6, c7, c1, c2, wd h1 rfl⟩, wd h2 rfl, wd h3 rfl⟩ ⟨pre_blind, hrecv, fun U h1 h2 => pre_ok (A := .ref o :: As) hH hK U h1 h2⟩ rfl (by rw [List.length_map]; exact hA) hl.1 ?_ ?_ hd ⟨hcc, hzz⟩) k
  · show (As.reverse ++ .ref o :: S).map (cv Γ) = _
    rw [List.map_append, List.map_reverse]
    rfl
  · show 2 * 0 + _ ≤ 8
    rw [sum_cv]
    omega
theorem aw_callX {ν : MD} {n : Nat} {ws : List Nat} {x : Nat} {As S : List Value} {Q' : Option Value → St → Wd → Prop} (hd : decode (mB μ) pc = .ok (.invokevirtual n, 3)) (hck : cCk (mN μ).cls n 5 ν ws = true) (hx1 : 1 ≤ x) (hx9 : x ≤ 9) (hA : As.length = mA ν) (hS : catS S ≤ 8) (hcc : cc + mC ν ≤ mC μ) (hzz : zz + mS ν ≤ mS μ) (hsp : Sp Γ d ν (.retAddr x :: As) σ w Q')
    (k : ∀ v σ' w', Q' v σ' w' → AW Γ (d + 1) μ Q (pc + 3) L (v.toList ++ S) σ' w' (cc + mC ν) (zz + mS ν)) : AW Γ (d + 1) μ Q pc L (As.reverse ++ .retAddr x :: S) σ w cc zz := by
  intro p l e s m args below meth c Z hF hR H locs ls hH hlo hl hc hz
  have hF' := hF
  obtain ⟨hx, hb, hml, -, -, hown, -, rfl, hK⟩ := hF
  obtain ⟨c1, c2, c3, c4, c5, c6, c7⟩ := cCk_spec hck hK args (R := rmOf (d + 1) (mC μ) (mS μ)) (Nat.le_refl _) (Nat.le_refl _)
  have wd : ∀ {i : Nat} {x : Cond}, lw_tbl[i]? = some x → goodWord x = true → x.before args s = true := fun h g => hK.1 _ (List.mem_of_getElem? h) g args
  unfold cCk at hck
  simp only [Bool.and_eq_true, decide_eq_true_eq] at hck
  obtain ⟨-, ⟨⟨h1, h2⟩, h3⟩, h4⟩ := hck
  have hrecv : ∃ cellB : Cell, H[xE Γ x]? = some cellB ∧ cellB.vm.isStatics = false ∧ s.vm.findClass (mN ν).cls = some cellB.cls := by
    obtain ⟨cell, g1, g2, g3, g4⟩ := (hK.2.2.2.2.1.1.1 (x - 1) (by omega)).1
    dsimp only at g1 g4
    rw [show 1 + (x - 1) = x by omega] at g1 g4
    exact ⟨cell, by rw [hH.2.1 _ (Nat.not_le.mp g4)]; exact g1, g2, by rw [h4]; exact g3⟩
  refine aw_back hF' hR hlo hl hcc hzz (va_runV (C := (mN ν).cls) (b := xE Γ x) (As := As.map (cv Γ)) (rest := S.map (cv Γ)) (Ts := []) ⟨hx, hb, hml, hown, fun _ h => absurd h List.not_mem_nil⟩ hsp ⟨⟨rfl, rfl, c3, c4, c5, List.mem_singleton.mpr rfl, c6, c7, c1, c2, wd h1 rfl⟩, wd h2 rfl, wd h3 rfl⟩ ⟨pre_blind, hrecv, fun U h1 h2 => pre_ok (A := .retAddr x :: As) hH hK U h1 h2⟩ rfl (by rw [List.length_map]; exact hA) hl.1 ?_ ?_ hd ⟨hcc, hzz⟩) k
  · show (As.reverse ++ .retAddr x :: S).map (cv Γ) = _
    rw [List.map_append, List.map_reverse]
    rfl
  · show 2 * 0 + _ ≤ 8
    rw [sum_cv]
    omega
theorem aw_callI {ν : MD} {n kind : Nat} {ws : List Nat} {o : Nat} {As S : List Value} {Q' : Option Value → St → Wd → Prop} (hd : decode (mB μ) pc = .ok (.invokespecial n, 3)) (hkd : kind = 2 ∨ kind = 3) (hck : cCk (mN μ).cls n kind ν ws = true) (hA : As.length = mA ν) (hS : catS S ≤ 8) (hcc : cc + mC ν ≤ mC μ) (hzz : zz + mS ν ≤ mS μ) (hsp : Sp Γ d ν (.ref o :: As) σ w Q')
    (k : ∀ v σ' w', Q' v σ' w' → AW Γ (d + 1) μ Q (pc + 3) L (v.toList ++ S) σ' w' (cc + mC ν) (zz + mS ν)) : AW Γ (d + 1) μ Q pc L (As.reverse ++ .ref o :: S) σ w cc zz := by
  intro p l e s m args below meth c Z hF hR H locs ls hH hlo hl hc hz
  have hF' := hF
  obtain ⟨hx, hb, hml, -, -, hown, -, rfl, hK⟩ := hF
  obtain ⟨c1, c2, c3, c4, c5, c6, c7⟩ := cCk_spec hck hK args (R := rmOf (d + 1) (mC μ) (mS μ)) (Nat.le_refl _) (Nat.le_refl _)
  have wd : ∀ {i : Nat} {x : Cond}, lw_tbl[i]? = some x → goodWord x = true → x.before args s = true := fun h g => hK.1 _ (List.mem_of_getElem? h) g args
  have hst : (As.reverse ++ .ref o :: S).map (cv Γ) = (As.map (cv Γ)).reverse ++ Value.ref (gz Γ + o) :: S.map (cv Γ) := by
    rw [List.map_append, List.map_reverse]
    rfl
  have hW : 2 * 0 + ((S.map (cv Γ)).map fun v => v.category).sum ≤ 8 := by
    rw [sum_cv]
    omega
  rcases hkd with rfl | rfl
  · unfold cCk at hck
    simp only [Bool.and_eq_true, decide_eq_true_eq] at hck
    obtain ⟨-, ⟨⟨h1, h2⟩, h3⟩, h4⟩ := hck
    rw [h4] at c5 c6
    have hsp' := hsp
    unfold Sp at hsp'
    rw [h4] at hsp'
    exact aw_back hF' hR hlo hl hcc hzz (va_runI (b := gz Γ + o) (As := As.map (cv Γ)) (rest := S.map (cv Γ)) (Ts := []) ⟨hx, hb, hml, hown, fun _ h => absurd h List.not_mem_nil⟩ hsp' ⟨⟨rfl, rfl, c3, c4, c5, List.mem_singleton.mpr rfl, c6, c7, c1, c2, wd h1 rfl⟩, h3, wd h2 rfl⟩ ⟨pre_blind, fun U h1 h2 => pre_ok (A := .ref o :: As) hH hK U h1 h2⟩ rfl (by rw [List.length_map]; exact hA) hl.1 hst hW hd ⟨hcc, hzz⟩) k
  · unfold cCk at hck
    simp only [Bool.and_eq_true, decide_eq_true_eq] at hck
    obtain ⟨-, ⟨⟨h1, h2⟩, h3⟩, h4⟩ := hck
    rw [h4] at c5 c6
    have hsp' := hsp
    unfold Sp at hsp'
    rw [h4] at hsp'
    exact aw_back hF' hR hlo hl hcc hzz (va_runIN (b := gz Γ + o) (host := "FirstReader") (As := As.map (cv Γ)) (rest := S.map (cv Γ)) (Ts := []) ⟨hx, hb, hml, hown, fun _ h => absurd h List.not_mem_nil⟩ hsp' ⟨⟨⟨rfl, rfl, c3, c4, c5, List.mem_singleton.mpr rfl⟩, c6, c7, c1, c2, va_Nw.use rfl (hK.2.1 _ h1)⟩, h3, wd h2 rfl⟩ ⟨pre_blind, fun U h1 h2 => pre_ok (A := .ref o :: As) hH hK U h1 h2⟩ rfl (by rw [List.length_map]; exact hA) hl.1 hst hW hd ⟨hcc, hzz⟩) k
theorem args_cv (A : List Value) : ∀ i, lv_args i (A.map (cv Γ)) = cL Γ (lv_args i A) := by
  induction A with
  | nil => intro i; rfl
  | cons v A ih =>
    intro i
    show (i, cv Γ v) :: lv_args _ (A.map (cv Γ)) = (i, cv Γ v) :: cL Γ (lv_args _ A)
    rw [ih]
    rw [cv_cat]
theorem sl_len (A : List Value) : (lg_sl (A.map (cv Γ))).length = catS A := by
  induction A with
  | nil => rfl
  | cons v A ih =>
    show (lg_sl (cv Γ v :: A.map (cv Γ))).length = _
    unfold lg_sl at ih ⊢
    rw [List.flatMap_cons, List.length_append, ih]
    unfold catS
    rw [List.map_cons, List.sum_cons]
    congr 1
    rw [cv_cat]
    cases v <;> rfl
/-- a contract out of a walk -/
theorem Sp.of {ν : MD} {A : List Value} (hn : plainName (mN ν).cls = true) (hA : catS A ≤ mL ν) (h : AW Γ d ν Q 0 (lv_args 0 A) [] σ w 0 0) : Sp Γ d ν A σ w Q := by
  refine Met.ofW (cc := mB ν) (maxL := mL ν) (ret := mR ν) hn rfl ?_
  intro p e s m args below meth c s₁ B hml hv
  obtain ⟨rfl, hH, hK⟩ := hv
  have hl := lv_entry (A.map (cv Γ)) (n := mL ν) (by rw [sl_len]; exact hA)
  rw [lg_entry_eq]
  rw [args_cv] at hl
  refine h p Γ.1 e s m _ below meth c _ ⟨B.exec, B.bytes, hml, B.returns, B.notSynchronized, findClass_of_methodNamed B.named, (name_of_methodNamed B.named B.method).1, rfl, hK⟩ ?_ s.heap [] _ hH (fun q hq => absurd hq List.not_mem_nil) hl (Nat.zero_le _) (Nat.zero_le _)
  intro v σ' w' H locs pc ls hq hHR hlo hr
  have hb := B.bytes
  have hret := B.returns
  have hlocks := B.notSynchronized
  rcases hr with ⟨rfl, h1, h2⟩ | ⟨x, ty, rfl, h1, h2, h3⟩ | ⟨x, rfl, h1, h2⟩
  · exact W.vret B.exec hb (by rw [hret]; exact h2) (fun t ht _ => ⟨none, σ', w', rfl, by rw [ht]; exact hHR, hq⟩) hlo h1
  · exact W.zret B.exec hb (by rw [hret]; exact h2) h3 (fun t ht _ => ⟨some (.int x), σ', w', rfl, by rw [ht]; exact hHR, hq⟩) hlo h1
  · exact W.lret B.exec hb (by rw [hret]; exact h2) (fun t ht _ => ⟨some (.long x), σ', w', rfl, by rw [ht]; exact hHR, hq⟩) hlo h1
/-- the texts' rows -/
theorem gt_val {s : State} (hK : GK Γ s) {x : Nat} (h1 : 1 ≤ x) (h2 : x ≤ 9) : va_OF "java/lang/String" "value" "[B" (cv Γ (.retAddr (x + 19))) (xE Γ x) (fun q => gz Γ ≤ q) s (xH Γ) := by
  have := (hK.2.2.2.2.1.1.1 (x - 1) (by omega)).2.2.1
  dsimp only at this
  rw [show 1 + (x - 1) = x by omega, show 20 + (x - 1) = x + 19 by omega] at this
  exact this
theorem gt_cod {s : State} (hK : GK Γ s) {x : Nat} (h1 : 1 ≤ x) (h2 : x ≤ 9) : va_OF "java/lang/String" "coder" "B" (cv Γ (.int 0)) (xE Γ x) (fun q => gz Γ ≤ q) s (xH Γ) := by
  have := (hK.2.2.2.2.1.1.1 (x - 1) (by omega)).2.1
  dsimp only at this
  rw [show 1 + (x - 1) = x by omega] at this
  exact this
theorem aw_xget {n x wi : Nat} {nm ds : String} {v : Value} (hd : decode (mB μ) pc = .ok (.getfield n, 3)) (hw : lw_tbl[wi]? = some (.fieldLink (mN μ).cls n "java/lang/String" nm ds)) (hv : ∀ s, GK Γ s → va_OF "java/lang/String" nm ds (cv Γ v) (xE Γ x) (fun q => gz Γ ≤ q) s (xH Γ)) (k : AW Γ d μ Q (pc + 3) L (v :: S) σ w cc zz) : AW Γ d μ Q pc L (.retAddr x :: S) σ w cc zz := by
  intro p l e s m args below meth c Z hF hR H locs ls hH hlo hl hc hz
  have kk := k p l e s m args below meth c Z hF hR H locs ls hH hlo hl hc hz
  obtain ⟨hx, hb, -, -, -, hown, -, -, hK⟩ := hF
  obtain ⟨cf, k, fi, f, cell, h1, h2, h3, h4, h5, h6⟩ := hv s hK
  exact W.getf hx hb hown (hK.1 _ (List.mem_of_getElem? hw) rfl args) h1 h2 (by rw [hH.2.1 _ (Nat.not_le.mp h6)]; exact h3) h4 (v := cv Γ v) h5 rfl rfl hd kk
theorem aw_xgets {n wi : Nat} (hd : decode (mB μ) pc = .ok (.getstatic n, 3)) (hw : lw_tbl[wi]? = some (.fieldLink (mN μ).cls n "java/lang/String" "COMPACT_STRINGS" "Z")) (k : AW Γ d μ Q (pc + 3) L (.int 1 :: S) σ w cc zz) : AW Γ d μ Q pc L S σ w cc zz := by
  intro p l e s m args below meth c Z hF hR H locs ls hH hlo hl hc hz
  have kk := k p l e s m args below meth c Z hF hR H locs ls hH hlo hl hc hz
  obtain ⟨hx, hb, -, -, -, hown, -, -, hK⟩ := hF
  obtain ⟨cf, kf, fi, f, a, cell, h1, h2, h3, h4, h5, h6, h7, h8⟩ := hK.2.2.2.2.1.2.2.1
  exact W.gets hx hb hown (hK.1 _ (List.mem_of_getElem? hw) rfl args) h1 h2 h3 h4 (by rw [hH.2.1 a (Nat.not_le.mp h8)]; exact h5) (fun e => by rw [e] at h6; cases h6) h7 rfl hd kk
theorem aw_xgetq {n wi : Nat} (hd : decode (mB μ) pc = .ok (.getstatic n, 3)) (hw : lw_tbl[wi]? = some (.fieldLink (mN μ).cls n "jdk/internal/util/Preconditions" "SIOOBE_FORMATTER" "Ljava/util/function/BiFunction;")) (k1 : AW Γ d μ Q (pc + 3) L (.null :: S) σ w cc zz) (k2 : AW Γ d μ Q (pc + 3) L (.retAddr 40 :: S) σ w cc zz) : AW Γ d μ Q pc L S σ w cc zz := by
  intro p l e s m args below meth c Z hF hR H locs ls hH hlo hl hc hz
  have kk1 := k1 p l e s m args below meth c Z hF hR H locs ls hH hlo hl hc hz
  have kk2 := k2 p l e s m args below meth c Z hF hR H locs ls hH hlo hl hc hz
  obtain ⟨hx, hb, -, -, -, hown, -, -, hK⟩ := hF
  rcases hK.2.2.2.2.1.2.2.2 with q | q
  · obtain ⟨cf, kf, fi, f, a, cell, h1, h2, h3, h4, h5, h6, h7, h8⟩ := q
    exact W.gets hx hb hown (hK.1 _ (List.mem_of_getElem? hw) rfl args) h1 h2 h3 h4 (by rw [hH.2.1 a (Nat.not_le.mp h8)]; exact h5) (fun e => by rw [e] at h6; cases h6) h7 rfl hd kk1
  · obtain ⟨cf, kf, fi, f, a, cell, h1, h2, h3, h4, h5, h6, h7, h8⟩ := q
    exact W.gets hx hb hown (hK.1 _ (List.mem_of_getElem? hw) rfl args) h1 h2 h3 h4 (by rw [hH.2.1 a (Nat.not_le.mp h8)]; exact h5) (fun e => by rw [e] at h6; cases h6) h7 rfl hd kk2
theorem aw_xlen {y : Nat} (hd : decode (mB μ) pc = .ok (.arraylength, 1)) (h1 : 20 ≤ y) (h2 : y ≤ 28) (k : AW Γ d μ Q (pc + 1) L (.int (nI (txL.getD (y - 20) 0)) :: S) σ w cc zz) : AW Γ d μ Q pc L (.retAddr y :: S) σ w cc zz := by
  intro p l e s m args below meth c Z hF hR H locs ls hH hlo hl hc hz
  have kk := k p l e s m args below meth c Z hF hR H locs ls hH hlo hl hc hz
  obtain ⟨hx, hb, -, -, -, hown, -, -, hK⟩ := hF
  obtain ⟨cell, g1, g2, g3, g4, g5, g6, g7⟩ := (hK.2.2.2.2.1.1.1 (y - 20) (by omega)).2.2.2
  dsimp only at g1 g7
  rw [show 20 + (y - 20) = y by omega] at g1 g7
  exact W.alen hx hb (by rw [hH.2.1 _ (Nat.not_le.mp g7)]; exact g1) g2 g5 rfl rfl hd kk
theorem aw_xbald {y : Nat} {j : Int32} (hd : decode (mB μ) pc = .ok (.baload, 1)) (h1 : 20 ≤ y) (h2 : y ≤ 28) (hj : vp_in j (txL.getD (y - 20) 0)) (k : AW Γ d μ Q (pc + 1) L (.int ((txB.getD (y - 20) []).getD j.toNatClampNeg 0) :: S) σ w cc zz) : AW Γ d μ Q pc L (.int j :: .retAddr y :: S) σ w cc zz := by
  intro p l e s m args below meth c Z hF hR H locs ls hH hlo hl hc hz
  have kk := k p l e s m args below meth c Z hF hR H locs ls hH hlo hl hc hz
  obtain ⟨hx, hb, -, -, -, hown, -, -, hK⟩ := hF
  obtain ⟨cell, g1, g2, g3, g4, g5, g6, g7⟩ := (hK.2.2.2.2.1.1.1 (y - 20) (by omega)).2.2.2
  dsimp only at g1 g7
  rw [show 20 + (y - 20) = y by omega] at g1 g7
  have hlt := in_lt hj
  exact W.bald hx hb (by rw [hH.2.1 _ (Nat.not_le.mp g7)]; exact g1) g2 g3 (fun q => by rcases q with q | q; exact hj (Or.inl q); omega) (g6 _ hlt) rfl rfl hd kk
end Call
end
section
/-! a copy between arrays; the tables' checks -/
section Copy
variable {Γ : Gx} {d : Nat} {μ : MD} {Q : Option Value → St → Wd → Prop} {pc : Nat} {L : Lv} {S : List Value} {σ : St} {w : Wd} {cc zz : Nat}
theorem aw_copy {nn w1 w2 w3 w4 : Nat} {a b : Nat} {n dp sp : Int32} (hd : decode (mB μ) pc = .ok (.invokestatic nn, 3)) (hl1 : lw_tbl[w1]? = some (.methodLink (mN μ).cls nn arraycopyName)) (hl2 : lw_tbl[w2]? = some (.native arraycopyName)) (hl3 : lw_tbl[w3]? = some (.static arraycopyName)) (hl4 : lw_tbl[w4]? = some (.initialized "java/lang/System"))
    (ha : okO w a 20) (hb0 : okO w b 20) (h1 : ¬ sp < 0) (h2 : ¬ dp < 0) (h3 : ¬ n < 0) (h4 : sp.toNatClampNeg + n.toNatClampNeg ≤ (kd a).2) (h5 : dp.toNatClampNeg + n.toNatClampNeg ≤ (kd b).2) (hS : catS S ≤ 8)
    (k : AW Γ (d + 1) μ Q (pc + 3) L S (cS σ a b sp.toNatClampNeg dp.toNatClampNeg n.toNatClampNeg) w cc zz) : AW Γ (d + 1) μ Q pc L (.int n :: .int dp :: .ref b :: .int sp :: .ref a :: S) σ w cc zz := by
  intro p l e s m args below meth c Z hF hR H locs ls hH hlo hl hc hz
  have kk := fun H locs hH hlo => k p l e s m args below meth c Z hF hR H locs ls hH hlo hl hc hz
  obtain ⟨hx, hb, hml, -, -, hown, -, -, hK⟩ := hF
  have wd : ∀ {i : Nat} {x : Cond}, lw_tbl[i]? = some x → goodWord x = true → x.before args s = true := fun h g => hK.1 _ (List.mem_of_getElem? h) g args
  have nn' : ∀ z : Int32, ¬ z < 0 → z.toInt = (z.toNatClampNeg : Int) := by
    intro z hz
    have hz0 : (0 : Int) ≤ z.toInt := by
      have := Int32.not_lt.mp hz
      simpa using Int32.le_iff_toInt_le.mp this
    show z.toInt = ((z.toInt.toNat : Nat) : Int)
    omega
  obtain ⟨c0, i0, -⟩ := ar_facts (t := 0) hK hH ha.1 ha.2 (by decide)
  obtain ⟨c1, i1, -⟩ := ar_facts (t := 0) hK hH hb0.1 hb0.2 (by decide)
  rw [av_i (Or.inl ha.2)] at c0
  rw [av_i (Or.inl hb0.2)] at c1
  intro T hT X
  obtain ⟨-, k0, hk0, cm0, hkk0⟩ := i0 (kd a).2 (fun j => .int (gI σ a j))
  obtain ⟨-, k1, hk1, cm1, hkk1⟩ := i1 (kd b).2 (fun j => .int (gI σ b j))
  obtain ⟨vm', X', step⟩ := X.arraycopy hx hown (wd hl1 rfl) (wd hl2 rfl) (wd hl3 rfl) (wd hl4 rfl) (src := gz Γ + a) (dst := gz Γ + b) (srcPos := sp) (destPos := dp) (n := n) (by rw [hT]; exact c0) (by rw [hT]; exact c1)
    (fun _ h => by cases h) (fun _ h => by cases h) (fun h => by cases h) (fun h => by cases h) hk0 hk1 hkk0 hkk1 (by rfl) h1 h2 h3
    (by rw [nn' sp h1, nn' n h3, arrV_size]; omega)
    (by rw [nn' dp h2, nn' n h3, arrV_size]; omega)
    (fun vm₁ _ i hi => by
      have e : (arrV (xA Γ 0) (kd a).2 (fun j => .int (gI σ a j))).slots.getD (sp.toNatClampNeg + i) .null = .int (gI σ a (sp.toNatClampNeg + i)) := by
        rw [Array.getD_eq_getD_getElem?, arrV_read _ _ (by omega)]
        rfl
      refine ⟨?_, ?_⟩
      · rw [e]
        rfl
      · rw [e]
        exact trivial)
    (g := F0 m pc ls ((Value.int n :: .int dp :: .ref b :: .int sp :: .ref a :: S).map (cv Γ))) rfl (by rw [hml]; exact hl.1) (rest := S.map (cv Γ)) rfl (by rw [hb]; exact hd) (by show 1 ≤ d + 1; omega) (by
      show 2 * 0 + _ + _ ≤ 36 * (d + 1)
      rw [sum_cv]
      have : nativeFrameWords "java/lang/System" "arraycopy" 5 ≤ 8 := by decide +kernel
      omega)
  have e1 : copied (arrV (xA Γ 0) (kd a).2 (fun j => .int (gI σ a j))) (arrV (xA Γ 0) (kd b).2 (fun j => .int (gI σ b j))) sp dp n = arrV (xA Γ 0) (kd b).2 (fun j => .int (va_cpy (gI σ a) (gI σ b) sp.toNatClampNeg dp.toNatClampNeg n.toNatClampNeg j)) := va_copied (fun z => .int z) _ _ _ _ h4
  rw [e1] at X' step
  have hlt : gz Γ + b < H.size := (Array.getElem?_eq_some_iff.mp c1).1
  generalize hC : arrV (xA Γ 0) (kd b).2 (fun j => Value.int (va_cpy (gI σ a) (gI σ b) sp.toNatClampNeg dp.toNatClampNeg n.toNatClampNeg j)) = C at X' step
  have hheap : ((T.setVm vm').setCell (gz Γ + b) C).heap = H.setIfInBounds (gz Γ + b) C := by rw [← hT]; rfl
  have hHR : HR Γ (cS σ a b sp.toNatClampNeg dp.toNatClampNeg n.toNatClampNeg) w (H.setIfInBounds (gz Γ + b) C) := by
    refine hH.at_one rfl hb0.1 (by simp) (fun q hq => by simp [Array.getElem?_setIfInBounds, Ne.symm hq]) ?_ (fun i hi => ⟨fun k => ?_, fun j => ?_⟩)
    · rw [atC_a (by rw [hb0.2]; decide), hb0.2]
      show (H.setIfInBounds (gz Γ + b) C)[gz Γ + b]? = some (arrV (xA Γ 0) _ _)
      rw [av_i (Or.inl rfl)]
      rw [show (H.setIfInBounds (gz Γ + b) C)[gz Γ + b]? = some C by simp [Array.getElem?_setIfInBounds, hlt], ← hC]
      congr 2
      funext j
      show _ = Value.int (if b = b then _ else _)
      rw [if_pos rfl]
      rfl
    · unfold fv gI gJ gR cS
      simp only [hi, if_false]
    · unfold av gI gJ cS
      simp only [hi, if_false]
  obtain ⟨t, a1, b1⟩ := kk _ _ hHR (by
    intro q hq
    rcases List.mem_append.mp hq with h | h
    · exact hlo q h
    · obtain ⟨z, -, hz⟩ := List.mem_map.mp h
      rw [← hz]
      exact Nat.le_add_right _ _) _ hheap X'
  exact ⟨t, step t a1, b1⟩
end Copy
/-- constants -/
def kCk (C : String) (n : Nat) (v : Value) (wi : Nat) : Bool := match v with
  | .int x => decide (lw_tbl[wi]? = some (.constant C n x))
  | .long x => decide (lw_tbl[wi]? = some (.constantLong C n x))
  | .retAddr k => decide (C = RX3) && decide (1 ≤ k) && decide (k ≤ 9) && decide (txI (k - 1) = n)
  | _ => false
/-- classes to make -/
def nCk (C : String) (n t : Nat) (ws : List Nat) : Bool := match vwCl[t]? with
  | some q => decide (lw_tbl[ws.getD 0 0]? = some (.classLink C n q.1)) && decide (lw_tbl[ws.getD 1 0]? = some (.instantiable q.1 q.2.2)) && decide (lw_tbl[ws.getD 2 0]? = some (.initialized q.1))
  | none => match t with
    | 24 => decide (lw_tbl[ws.getD 0 0]? = some (.classLink C (n - 100000) RX7))
    | 25 => decide (lw_tbl[ws.getD 0 0]? = some (.classLink C (n - 100000) RX10))
    | 26 => decide (lw_tbl[ws.getD 0 0]? = some (.classLink C (n - 100000) RX5))
    | 27 => decide (lw_tbl[ws.getD 0 0]? = some (.classLink C (n - 100000) RX6))
    | 28 => decide (lw_tbl[ws.getD 0 0]? = some (.classLink C n "[[I"))
    | _ => false
def oCk (C : String) (n : Nat) (ws : List Nat) : Bool := decide (lw_tbl[ws.getD 0 0]? = some (.methodLink C n Lib.objectInit)) && decide (lw_tbl[ws.getD 1 0]? = some (.instanceMethod Lib.objectInit)) && decide (lw_tbl[ws.getD 2 0]? = some (.code Lib.objectInit ⟨#[0xb1]⟩ 1 none))
def pCk (C : String) (n : Nat) (ws : List Nat) : Bool := decide (lw_tbl[ws.getD 0 0]? = some (.methodLink C n arraycopyName)) && decide (lw_tbl[ws.getD 1 0]? = some (.native arraycopyName)) && decide (lw_tbl[ws.getD 2 0]? = some (.static arraycopyName)) && decide (lw_tbl[ws.getD 3 0]? = some (.initialized "java/lang/System"))
/-- fields, the texts' too -/
def fxCk (C : String) (q : Nat × Nat × Nat × Nat) (wi : Nat) : Bool := match q.2.2.2 with
  | 7 => decide (lw_tbl[wi]? = some (.fieldLink C q.1 "java/lang/String" "value" "[B"))
  | 8 => decide (lw_tbl[wi]? = some (.fieldLink C q.1 "java/lang/String" "coder" "B"))
  | 9 => decide (lw_tbl[wi]? = some (.fieldLink C q.1 "java/lang/String" "COMPACT_STRINGS" "Z"))
  | 10 => decide (lw_tbl[wi]? = some (.fieldLink C q.1 "jdk/internal/util/Preconditions" "SIOOBE_FORMATTER" "Ljava/util/function/BiFunction;"))
  | _ => fCk C q wi
/-- a class's tables are right -/
def tbOK (C : String) (T : Tb) : Prop := (∀ n e, T.1.lookup n = some e → ∃ wi, fxCk C (n, e) wi = true) ∧ (∀ n k ν, T.2.1.lookup n = some (k, ν) → ∃ ws, (if k = 4 then pCk C n ws else cCk C n k ν ws) = true) ∧
  (∀ n v, T.2.2.1.lookup n = some v → ∃ wi, kCk C n v wi = true) ∧ (∀ n t, T.2.2.2.1.lookup n = some t → ∃ ws, nCk C n t ws = true) ∧ (∀ n, T.2.2.2.2.1.contains n = true → ∃ ws, oCk C n ws = true)
/-- the places of the words, by the pool's numbers -/
abbrev Ps : Type := List (Nat × List Nat)
def psAt (P : Ps) (n : Nat) : List Nat := (P.lookup n).getD []
def tbCk (C : String) (T : Tb) (P : Ps) : Bool := T.1.all (fun q => fxCk C q ((psAt P q.1).getD 0 0)) && T.2.1.all (fun q => if q.2.1 = 4 then pCk C q.1 (psAt P q.1) else cCk C q.1 q.2.1 q.2.2 (psAt P q.1)) && T.2.2.1.all (fun q => kCk C q.1 q.2 ((psAt P q.1).getD 0 0)) && T.2.2.2.1.all (fun q => nCk C q.1 q.2 (psAt P q.1)) && T.2.2.2.2.1.all (fun n => oCk C n (psAt P n))
theorem al_mem {α : Type} {l : List (Nat × α)} {n : Nat} {v : α} (h : l.lookup n = some v) : (n, v) ∈ l := by
  induction l with
  | nil => simp [List.lookup] at h
  | cons q r ih =>
    obtain ⟨a, b⟩ := q
    by_cases e : n = a
    · subst e
      simp [List.lookup] at h
      subst h
      exact List.mem_cons_self
    · have : (n == a) = false := by simp [e]
      simp [List.lookup, this] at h
      exact List.mem_cons_of_mem _ (ih h)
theorem tbOK_of {C : String} {T : Tb} (P : Ps) (h : tbCk C T P = true) : tbOK C T := by
  unfold tbCk at h
  simp only [Bool.and_eq_true] at h
  obtain ⟨⟨⟨⟨h1, h2⟩, h3⟩, h4⟩, h5⟩ := h
  refine ⟨fun n e he => ⟨_, List.all_eq_true.mp h1 _ (al_mem he)⟩, fun n k ν he => ⟨_, List.all_eq_true.mp h2 _ (al_mem he)⟩, fun n v he => ⟨_, List.all_eq_true.mp h3 _ (al_mem he)⟩, fun n t he => ⟨_, List.all_eq_true.mp h4 _ (al_mem he)⟩, fun n he => ⟨_, List.all_eq_true.mp h5 n ?_⟩⟩
  simpa using he
/-- a method's instructions are right -/
def swCk (pc : Nat) (i : Instr) (cs : List (Int32 × Nat)) (df : Nat) : Bool := match i with
  | .tableswitch dflt lo hi offs => decide (hi - lo + 1 = offs.size) && decide (-100 ≤ lo ∧ hi ≤ 100) && decide ((pc : Int) + dflt = (df : Int)) && decide (cs.length = offs.size) && (List.range offs.size).all (fun j => decide (((cs.getD j (0, 0)).1).toInt = lo + j) && decide ((pc : Int) + (offs[j]?).getD 0 = ((cs.getD j (0, 0)).2 : Int)))
  | _ => false
def msOK (μ : MD) (is : Is) (sw : Sw) : Prop := (∀ pc e, is.lookup pc = some e → iCk (mB μ) (pc, e) = true) ∧ ∀ pc i len cst tgt nx cs df, is.lookup pc = some (i, len, cst, tgt, nx) → sw.lookup pc = some (cs, df) → (∃ a b c e, i = .tableswitch a b c e) → swCk pc i cs df = true
def msCk (μ : MD) (is : Is) (sw : Sw) : Bool := is.all (fun q => iCk (mB μ) q) && sw.all (fun q => match is.lookup q.1 with | some e => swCk q.1 e.1 q.2.1 q.2.2 | none => true)
theorem msOK_of {μ : MD} {is : Is} {sw : Sw} (h : msCk μ is sw = true) : msOK μ is sw := by
  unfold msCk at h
  simp only [Bool.and_eq_true] at h
  refine ⟨fun pc e he => List.all_eq_true.mp h.1 _ (al_mem he), fun pc i len cst tgt nx cs df h1 h2 _ => ?_⟩
  have := List.all_eq_true.mp h.2 _ (al_mem h2)
  rw [show (pc, cs, df).1 = pc from rfl, h1] at this
  exact this
end
section
theorem swP_mono {x : Int32} {k k' : Nat → Prop} {df : Nat} (hk : ∀ t, k t → k' t) : ∀ {cs : List (Int32 × Nat)}, swP x k df cs → swP x k' df cs
  | [], h => hk _ h
  | (v, t) :: r, h => ⟨fun q => hk _ (h.1 q), fun q => swP_mono hk (h.2 q)⟩
theorem swP_cases {x : Int32} {k : Nat → Prop} {df : Nat} : ∀ {cs : List (Int32 × Nat)}, swP x k df cs → (∃ (j : Nat) (v : Int32) (t : Nat), cs[j]? = some (v, t) ∧ x = v ∧ k t) ∨ ((∀ (j : Nat) (v : Int32) (t : Nat), cs[j]? = some (v, t) → ¬ x = v) ∧ k df)
  | [], h => Or.inr ⟨fun j v t q => by simp at q, h⟩
  | (v, t) :: r, h => by
    by_cases e : x = v
    · exact Or.inl ⟨0, v, t, rfl, e, h.1 e⟩
    · rcases swP_cases (h.2 e) with ⟨j, v', t', h1, h2, h3⟩ | ⟨h1, h2⟩
      · exact Or.inl ⟨j + 1, v', t', h1, h2, h3⟩
      · refine Or.inr ⟨fun j v' t' q => ?_, h2⟩
        cases j with
        | zero => cases q; exact e
        | succ j => exact h1 j v' t' q
theorem fCk_fk {C : String} {n ci f kn wi : Nat} (h : fCk C (n, ci, f, kn) wi = true) : fk ci f = kn := by
  obtain ⟨R, T, N, e1, e2, e3, e4, e5, e6, -⟩ := fCk_spec h
  exact e5
theorem fCk_ty {C : String} {n ci f kn wi : Nat} (h : fCk C (n, ci, f, kn) wi = true) : ftk (some (tyOf ci f)) kn = true := by
  obtain ⟨R, T, N, e1, e2, e3, e4, e5, e6, e7⟩ := fCk_spec h
  dsimp only at e1 e2 e7
  rw [(cl_facts e1).2.2 f e2] at e7
  exact e7
theorem fCk_n0 {C : String} {n ci f wi : Nat} {Γ : Gx} {v : Int32} (h : fCk C (n, ci, f, 0) wi = true) : narrow (tyOf ci f) (cv Γ (.int v)) = cv Γ (.int v) ∧ fits (tyOf ci f) (cv Γ (.int v)) = true := by
  have := fCk_ty h
  cases e : tyOf ci f <;> rw [e] at this <;> first | exact ⟨rfl, rfl⟩ | cases this
theorem fCk_n4 {C : String} {n ci f wi : Nat} {Γ : Gx} {v : Int32} (h : fCk C (n, ci, f, 4) wi = true) (hv : v = 0 ∨ v = 1) : narrow (tyOf ci f) (cv Γ (.int v)) = cv Γ (.int v) ∧ fits (tyOf ci f) (cv Γ (.int v)) = true := by
  have := fCk_ty h
  cases e : tyOf ci f <;> rw [e] at this <;> first | (rcases hv with rfl | rfl; (show narrow .boolean (.int 0) = .int 0 ∧ fits .boolean (.int 0) = true; decide); (show narrow .boolean (.int 1) = .int 1 ∧ fits .boolean (.int 1) = true; decide)) | cases this
theorem fCk_n1 {C : String} {n ci f wi : Nat} {Γ : Gx} {v : Int64} (h : fCk C (n, ci, f, 1) wi = true) : narrow (tyOf ci f) (cv Γ (.long v)) = cv Γ (.long v) ∧ fits (tyOf ci f) (cv Γ (.long v)) = true := by
  have := fCk_ty h
  cases e : tyOf ci f <;> rw [e] at this <;> first | exact ⟨rfl, rfl⟩ | cases this
theorem fCk_n2 {C : String} {n ci f kn wi : Nat} {Γ : Gx} {r : Nat} (h : fCk C (n, ci, f, kn) wi = true) (hk : kn = 2 ∨ kn = 3) : narrow (tyOf ci f) (cv Γ (.ref r)) = cv Γ (.ref r) ∧ fits (tyOf ci f) (cv Γ (.ref r)) = true := by
  have := fCk_ty h
  rcases hk with rfl | rfl <;> cases e : tyOf ci f <;> rw [e] at this <;> first | exact ⟨rfl, rfl⟩ | cases this
section FV
variable {Γ : Gx} {σ : St} {w : Wd} {ci o f : Nat}
theorem fv_k0 {kn : Nat} (h : fk ci f = kn) (h1 : kn = 1 → False) (h2 : kn = 2 → False) (h3 : kn = 3 → False) : cv Γ (.int (gI σ o f)) = fv Γ σ w.2 ci o f := by
  unfold fv
  rw [h]
  split <;> first | rfl | exact absurd rfl ‹_›
theorem fv_k1 (h : fk ci f = 1) : cv Γ (.long (gJ σ o f)) = fv Γ σ w.2 ci o f := by
  unfold fv
  rw [h]
  rfl
theorem fv_k2 {r : Nat} (h : fk ci f = 2) (hr : w.2 o f = some r) : cv Γ (.ref r) = fv Γ σ w.2 ci o f := by
  unfold fv
  rw [h]
  show _ = rv Γ (w.2 o f)
  rw [hr]
  rfl
theorem fv_k3 {r : Nat} (h : fk ci f = 3) (hr : gR σ o f = some r) : cv Γ (.ref r) = fv Γ σ w.2 ci o f := by
  unfold fv
  rw [h]
  show _ = rv Γ (gR σ o f)
  rw [hr]
  rfl
theorem fv_k3n (h : fk ci f = 3) (hr : gR σ o f = none) : cv Γ .null = fv Γ σ w.2 ci o f := by
  unfold fv
  rw [h]
  show _ = rv Γ (gR σ o f)
  rw [hr]
  rfl
theorem fv_p0 {kn : Nat} {v : Int32} (h : fk ci f = kn) (hk : kn = 0 ∨ kn = 4) : ∀ j, fv Γ (uI σ o f v) w.2 ci o j = if j = f then cv Γ (.int v) else fv Γ σ w.2 ci o j := by
  intro j
  by_cases e : j = f
  · subst e
    rw [if_pos rfl]
    unfold fv
    rw [h]
    rcases hk with rfl | rfl <;> (show Value.int (gI _ _ _) = _; rw [gI_uI]; simp; rfl)
  · rw [if_neg e]
    unfold fv
    simp only [gI_uI, gJ_uI, gR_uI, e, and_false, if_false]
theorem fv_p1 {v : Int64} (h : fk ci f = 1) : ∀ j, fv Γ (uJ σ o f v) w.2 ci o j = if j = f then cv Γ (.long v) else fv Γ σ w.2 ci o j := by
  intro j
  by_cases e : j = f
  · subst e
    rw [if_pos rfl]
    unfold fv
    rw [h]
    show Value.long (gJ _ _ _) = _
    rw [gJ_uJ]
    simp
    rfl
  · rw [if_neg e]
    unfold fv
    simp only [gI_uJ, gJ_uJ, gR_uJ, e, and_false, if_false]
theorem fv_p2 {r : Nat} (h : fk ci f = 2) : ∀ j, fv Γ σ (uW w o f (some r)).2 ci o j = if j = f then cv Γ (.ref r) else fv Γ σ w.2 ci o j := by
  intro j
  by_cases e : j = f
  · subst e
    rw [if_pos rfl]
    unfold fv
    rw [h]
    show rv Γ (up2 _ _ _ _ _ _) = _
    unfold up2
    simp
    rfl
  · rw [if_neg e]
    unfold fv uW up2
    simp only [e, and_false, if_false]
theorem fv_p3 {r : Nat} (h : fk ci f = 3) : ∀ j, fv Γ (uR σ o f (some r)) w.2 ci o j = if j = f then cv Γ (.ref r) else fv Γ σ w.2 ci o j := by
  intro j
  by_cases e : j = f
  · subst e
    rw [if_pos rfl]
    unfold fv
    rw [h]
    show rv Γ (gR _ _ _) = _
    rw [gR_uR]
    simp
    rfl
  · rw [if_neg e]
    unfold fv
    simp only [gI_uR, gJ_uR, gR_uR, e, and_false, if_false]
end FV
section Sound0
variable {Γ : Gx} {d : Nat} {μ : MD} {Q : Option Value → St → Wd → Prop} {pc : Nat} {L : Lv} {S : List Value} {σ : St} {w : Wd} {cc zz : Nat} {k : Nat → Lv → List Value → St → Wd → Nat → Nat → Prop}
theorem aw_table {dflt lo hi : Int} {offs : Array Int} {len df : Nat} {cs : List (Int32 × Nat)} {x : Int32} (hd : decode (mB μ) pc = .ok (.tableswitch dflt lo hi offs, len)) (hs : swCk pc (.tableswitch dflt lo hi offs) cs df = true) (h : swP x (fun t => AW Γ d μ Q t L S σ w cc zz) df cs) : AW Γ d μ Q pc L (.int x :: S) σ w cc zz := by
  unfold swCk at hs
  simp only [Bool.and_eq_true, decide_eq_true_eq] at hs
  obtain ⟨⟨⟨⟨h1, h2⟩, h3⟩, h4⟩, h5⟩ := hs
  have row : ∀ j, j < offs.size → ∃ v t, cs[j]? = some (v, t) ∧ v.toInt = lo + j ∧ (pc : Int) + (offs[j]?).getD 0 = (t : Int) := by
    intro j hj
    have := List.all_eq_true.mp h5 j (List.mem_range.mpr hj)
    simp only [Bool.and_eq_true, decide_eq_true_eq] at this
    have hlt : j < cs.length := by omega
    refine ⟨cs[j].1, cs[j].2, by simp [hlt], ?_, ?_⟩
    · have h := this.1
      simpa [List.getD_eq_getElem?_getD, hlt] using h
    · have h := this.2
      simpa [List.getD_eq_getElem?_getD, hlt] using h
  rcases swP_cases h with ⟨j, v, t, g1, rfl, g3⟩ | ⟨g1, g2⟩
  · have hj : j < offs.size := by rw [← h4]; exact (List.getElem?_eq_some_iff.mp g1).1
    obtain ⟨v', t', e1, e2, e3⟩ := row j hj
    rw [g1] at e1
    cases e1
    intro p l e s m args below meth c Z hF hR H locs ls hH hlo hl hc hz
    have kk := g3 p l e s m args below meth c Z hF hR H locs ls hH hlo hl hc hz
    exact lv_tableIn hF.1 hF.2.1 hd (by omega) (by omega) (off := offs[j]) (by rw [show (x.toInt - lo).toNat = j by omega]; simp [hj]) (by rw [← e3]; simp [hj]) kk
  · intro p l e s m args below meth c Z hF hR H locs ls hH hlo hl hc hz
    have kk := g2 p l e s m args below meth c Z hF hR H locs ls hH hlo hl hc hz
    refine lv_tableOut hF.1 hF.2.1 hd ?_ h3 kk
    rcases Int.lt_or_le x.toInt lo with q | q
    · exact Or.inl q
    · rcases Int.lt_or_le hi x.toInt with q2 | q2
      · exact Or.inr q2
      · exfalso
        obtain ⟨v, t, e1, e2, -⟩ := row (x.toInt - lo).toNat (by omega)
        refine g1 _ v t e1 (Int32.toInt_inj.mp ?_)
        omega
theorem aw_get3 {n ci f wi o : Nat} (hd : decode (mB μ) pc = .ok (.getfield n, 3)) (hw : fCk (mN μ).cls (n, ci, f, 3) wi = true) (ho : okO w o ci) (k1 : ∀ r, gR σ o f = some r → AW Γ d μ Q (pc + 3) L (.ref r :: S) σ w cc zz) (k2 : gR σ o f = none → AW Γ d μ Q (pc + 3) L (.null :: S) σ w cc zz) : AW Γ d μ Q pc L (.ref o :: S) σ w cc zz := by
  cases hr : gR σ o f with
  | none => exact aw_get hd hw ho (fv_k3n (fCk_fk hw) hr) (k2 hr)
  | some r => exact aw_get hd hw ho (fv_k3 (fCk_fk hw) hr) (k1 r hr)
theorem aw_ldcI {i : Instr} {n len wi : Nat} {x : Int32} (hd : decode (mB μ) pc = .ok (i, len)) (hi : (i = .ldc n ∧ len = 2) ∨ (i = .ldc_w n ∧ len = 3)) (hk : kCk (mN μ).cls n (.int x) wi = true) (k : AW Γ d μ Q (pc + len) L (.int x :: S) σ w cc zz) : AW Γ d μ Q pc L S σ w cc zz := by
  intro p l e s m args below meth c Z hF hR H locs ls hH hlo hl hc hz
  have kk := k p l e s m args below meth c Z hF hR H locs ls hH hlo hl hc hz
  obtain ⟨hx, hb, -, -, -, hown, -, -, hK⟩ := hF
  have hw := hK.1 _ (List.mem_of_getElem? (of_decide_eq_true hk)) rfl args
  rcases hi with ⟨rfl, rfl⟩ | ⟨rfl, rfl⟩
  · exact lv_ldc hx hb hown hw hd kk
  · exact lv_ldcw hx hb hown hw hd kk
theorem aw_ldcL {n wi : Nat} {x : Int64} (hd : decode (mB μ) pc = .ok (.ldc2_w n, 3)) (hk : kCk (mN μ).cls n (.long x) wi = true) (k : AW Γ d μ Q (pc + 3) L (.long x :: S) σ w cc zz) : AW Γ d μ Q pc L S σ w cc zz := by
  intro p l e s m args below meth c Z hF hR H locs ls hH hlo hl hc hz
  have kk := k p l e s m args below meth c Z hF hR H locs ls hH hlo hl hc hz
  obtain ⟨hx, hb, -, -, -, hown, -, -, hK⟩ := hF
  exact lv_ldc2 hx hb hown (hK.1 _ (List.mem_of_getElem? (of_decide_eq_true hk)) rfl args) hd kk
theorem aw_ldcT {n wi x : Nat} (hd : decode (mB μ) pc = .ok (.ldc n, 2)) (hk : kCk (mN μ).cls n (.retAddr x) wi = true) (k : AW Γ d μ Q (pc + 2) L (.retAddr x :: S) σ w cc zz) : AW Γ d μ Q pc L S σ w cc zz := by
  intro p l e s m args below meth c Z hF hR H locs ls hH hlo hl hc hz
  have kk := k p l e s m args below meth c Z hF hR H locs ls hH hlo hl hc hz
  obtain ⟨hx, hb, -, -, -, hown, -, -, hK⟩ := hF
  unfold kCk at hk
  simp only [Bool.and_eq_true, decide_eq_true_eq] at hk
  obtain ⟨⟨⟨h1, h2⟩, h3⟩, h4⟩ := hk
  have hz := hK.2.2.2.2.1.2.1 (x - 1) (by omega)
  rw [h4, show 1 + (x - 1) = x by omega] at hz
  rw [h1] at hown
  exact va_ldcS hx hb hown hz hd kk
theorem aw_newN {n ci : Nat} {ws : List Nat} (hd : decode (mB μ) pc = .ok (.new n, 3)) (hw : nCk (mN μ).cls n ci ws = true) (hk : (kd w.1).1 = ci ∧ ci < 20) (hcc : cc + 1 ≤ mC μ) (hzz : zz + (kd w.1).2 ≤ mS μ) (k : AW Γ d μ Q (pc + 3) L (.ref w.1 :: S) (zS σ w.1) (zW w) (cc + 1) (zz + (kd w.1).2)) : AW Γ d μ Q pc L S σ w cc zz := by
  obtain ⟨hk, hlt⟩ := hk
  obtain ⟨q, hq, -⟩ := kd_cl (i := w.1) (by omega)
  rw [hk] at hq
  unfold nCk at hw
  rw [hq] at hw
  simp only [Bool.and_eq_true, decide_eq_true_eq] at hw
  exact aw_new hd hq hw.1.1 hw.1.2 hw.2 hk hcc hzz k
theorem aw_anewN {n t : Nat} {j : Int32} {ws : List Nat} (hd : decode (mB μ) pc = .ok (.anewarray n, 3)) (hw : nCk (mN μ).cls (n + 100000) t ws = true) (hk : (kd w.1).1 = t) (h1 : 24 ≤ t) (h2 : t ≤ 27) (hn : ¬ j < 0) (hN : (kd w.1).2 = j.toNatClampNeg) (hcc : cc + 1 ≤ mC μ) (hzz : zz + (kd w.1).2 ≤ mS μ)
    (k : AW Γ d μ Q (pc + 3) L (.ref w.1 :: S) (zS σ w.1) (zW w) (cc + 1) (zz + (kd w.1).2)) : AW Γ d μ Q pc L (.int j :: S) σ w cc zz := by
  have ht : t = 24 ∨ t = 25 ∨ t = 26 ∨ t = 27 := by omega
  have hn0 : n + 100000 - 100000 = n := Nat.add_sub_cancel _ _
  unfold nCk at hw
  rcases ht with rfl | rfl | rfl | rfl <;> dsimp only [vwCl, List.getElem?_cons_succ, List.getElem?_nil] at hw
  · exact aw_anew (ci := 7) (wi := ws.getD 0 0) hd rfl (Or.inl ⟨rfl, rfl⟩) (by rw [hn0] at hw; exact of_decide_eq_true hw) hk hn hN hcc hzz k
  · exact aw_anew (ci := 10) (wi := ws.getD 0 0) hd rfl (Or.inr (Or.inl ⟨rfl, rfl⟩)) (by rw [hn0] at hw; exact of_decide_eq_true hw) hk hn hN hcc hzz k
  · exact aw_anew (ci := 5) (wi := ws.getD 0 0) hd rfl (Or.inr (Or.inr (Or.inl ⟨rfl, rfl⟩))) (by rw [hn0] at hw; exact of_decide_eq_true hw) hk hn hN hcc hzz k
  · exact aw_anew (ci := 6) (wi := ws.getD 0 0) hd rfl (Or.inr (Or.inr (Or.inr ⟨rfl, rfl⟩))) (by rw [hn0] at hw; exact of_decide_eq_true hw) hk hn hN hcc hzz k
theorem aw_static {n kind : Nat} (hkd : kind = 1 ∨ kind = 6) {ν : MD} {ws : List Nat} (hd : decode (mB μ) pc = .ok (.invokestatic n, 3)) (hw : cCk (mN μ).cls n kind ν ws = true) (h1 : mA ν ≤ S.length) (h2 : catS (S.drop (mA ν)) ≤ 8) (hk : ∀ pc L S σ w cc zz, k pc L S σ w cc zz → AW Γ (d + 1) μ Q pc L S σ w cc zz)
    (h : match mK ν with
      | 0 => SpV Γ d ν (S.take (mA ν)).reverse σ w (fun σ' => k (pc + 3) L (S.drop (mA ν)) σ' w cc zz)
      | 1 => SpI Γ d ν (S.take (mA ν)).reverse σ w (fun x σ' => k (pc + 3) L (.int x :: S.drop (mA ν)) σ' w cc zz)
      | 2 => SpJ Γ d ν (S.take (mA ν)).reverse σ w (fun x σ' => k (pc + 3) L (.long x :: S.drop (mA ν)) σ' w cc zz)
      | _ => False) : AW Γ (d + 1) μ Q pc L S σ w cc zz := by
  have hS : S = ((S.take (mA ν)).reverse).reverse ++ S.drop (mA ν) := by rw [List.reverse_reverse, List.take_append_drop]
  have hl : ((S.take (mA ν)).reverse).length = mA ν := by rw [List.length_reverse, List.length_take]; omega
  generalize (S.take (mA ν)).reverse = As at hS hl h
  generalize S.drop (mA ν) = R at hS h2 h
  subst hS
  intro p l e s m args below meth c Z hF hR H locs ls hH hlo hlv hc hz
  revert p l e s m args below meth c Z hF hR H locs ls hH hlo hlv hc hz
  show AW Γ (d + 1) μ Q pc L (As.reverse ++ R) σ w cc zz
  by_cases hc : cc ≤ mC μ ∧ zz ≤ mS μ
  · obtain ⟨hc, hz⟩ := hc
    split at h
    · rename_i e
      obtain ⟨z1, z2⟩ := cCk_z hw (by omega)
      refine aw_callS hkd hd hw hl h2 (by omega) (by omega) h (fun v σ' w' hq => ?_)
      obtain ⟨rfl, rfl, hq⟩ := hq
      rw [z1, z2]
      exact hk _ _ _ _ _ _ _ hq
    · rename_i e
      obtain ⟨z1, z2⟩ := cCk_z hw (by omega)
      refine aw_callS hkd hd hw hl h2 (by omega) (by omega) h (fun v σ' w' hq => ?_)
      obtain ⟨rfl, x, rfl, hq⟩ := hq
      rw [z1, z2]
      exact hk _ _ _ _ _ _ _ hq
    · rename_i e
      obtain ⟨z1, z2⟩ := cCk_z hw (by omega)
      refine aw_callS hkd hd hw hl h2 (by omega) (by omega) h (fun v σ' w' hq => ?_)
      obtain ⟨rfl, x, rfl, hq⟩ := hq
      rw [z1, z2]
      exact hk _ _ _ _ _ _ _ hq
    · exact h.elim
  · intro p l e s m args below meth c Z hF hR H locs ls hH hlo hlv hc1 hz1
    exact absurd ⟨hc1, hz1⟩ hc
theorem aw_virt {n o : Nat} {ν : MD} {ws : List Nat} {R : List Value} (hd : decode (mB μ) pc = .ok (.invokevirtual n, 3)) (hw : cCk (mN μ).cls n 0 ν ws = true) (hdrop : S.drop (mA ν) = .ref o :: R) (ho : okO w o (mO ν)) (h2 : catS R ≤ 8) (hk : ∀ pc L S σ w cc zz, k pc L S σ w cc zz → AW Γ (d + 1) μ Q pc L S σ w cc zz)
    (h : match mK ν with
        | 0 => SpV Γ d ν (.ref o :: (S.take (mA ν)).reverse) σ w (fun σ' => k (pc + 3) L R σ' w cc zz)
        | 1 => SpI Γ d ν (.ref o :: (S.take (mA ν)).reverse) σ w (fun x σ' => k (pc + 3) L (.int x :: R) σ' w cc zz)
        | 2 => SpJ Γ d ν (.ref o :: (S.take (mA ν)).reverse) σ w (fun x σ' => k (pc + 3) L (.long x :: R) σ' w cc zz)
        | 4 => cc + mC ν ≤ mC μ ∧ zz + mS ν ≤ mS μ ∧ SpN Γ d ν (.ref o :: (S.take (mA ν)).reverse) σ w (fun x σ' w' => k (pc + 3) L (.int x :: R) σ' w' (cc + mC ν) (zz + mS ν))
        | _ => False) : AW Γ (d + 1) μ Q pc L S σ w cc zz := by
  have hlt : mA ν < S.length := by
    rcases Nat.lt_or_ge (mA ν) S.length with q | q
    · exact q
    · rw [List.drop_eq_nil_of_le q] at hdrop
      cases hdrop
  have hS : S = ((S.take (mA ν)).reverse).reverse ++ (.ref o :: R) := by rw [List.reverse_reverse, ← hdrop, List.take_append_drop]
  have hl : ((S.take (mA ν)).reverse).length = mA ν := by rw [List.length_reverse, List.length_take]; omega
  generalize (S.take (mA ν)).reverse = As at hS hl h
  subst hS
  by_cases hc : cc ≤ mC μ ∧ zz ≤ mS μ
  · obtain ⟨hc, hz⟩ := hc
    split at h
    · rename_i e
      obtain ⟨z1, z2⟩ := cCk_z hw (by omega)
      refine aw_callV hd hw ho hl h2 (by omega) (by omega) h (fun v σ' w' hq => ?_)
      obtain ⟨rfl, rfl, hq⟩ := hq
      rw [z1, z2]
      exact hk _ _ _ _ _ _ _ hq
    · rename_i e
      obtain ⟨z1, z2⟩ := cCk_z hw (by omega)
      refine aw_callV hd hw ho hl h2 (by omega) (by omega) h (fun v σ' w' hq => ?_)
      obtain ⟨rfl, x, rfl, hq⟩ := hq
      rw [z1, z2]
      exact hk _ _ _ _ _ _ _ hq
    · rename_i e
      obtain ⟨z1, z2⟩ := cCk_z hw (by omega)
      refine aw_callV hd hw ho hl h2 (by omega) (by omega) h (fun v σ' w' hq => ?_)
      obtain ⟨rfl, x, rfl, hq⟩ := hq
      rw [z1, z2]
      exact hk _ _ _ _ _ _ _ hq
    · obtain ⟨h3, h4, h⟩ := h
      refine aw_callV hd hw ho hl h2 h3 h4 h (fun v σ' w' hq => ?_)
      obtain ⟨x, rfl, hq⟩ := hq
      exact hk _ _ _ _ _ _ _ hq
    · exact h.elim
  · intro p l e s m args below meth c Z hF hR H locs ls hH hlo hlv hc1 hz1
    exact absurd ⟨hc1, hz1⟩ hc
theorem aw_virtX {n x : Nat} {ν : MD} {ws : List Nat} {R : List Value} (hd : decode (mB μ) pc = .ok (.invokevirtual n, 3)) (hw : cCk (mN μ).cls n 5 ν ws = true) (hdrop : S.drop (mA ν) = .retAddr x :: R) (hx1 : 1 ≤ x) (hx9 : x ≤ 9) (h2 : catS R ≤ 8) (hk : ∀ pc L S σ w cc zz, k pc L S σ w cc zz → AW Γ (d + 1) μ Q pc L S σ w cc zz)
    (h : match mK ν with
        | 1 => SpI Γ d ν (.retAddr x :: (S.take (mA ν)).reverse) σ w (fun x σ' => k (pc + 3) L (.int x :: R) σ' w cc zz)
        | _ => False) : AW Γ (d + 1) μ Q pc L S σ w cc zz := by
  have hlt : mA ν < S.length := by
    rcases Nat.lt_or_ge (mA ν) S.length with q | q
    · exact q
    · rw [List.drop_eq_nil_of_le q] at hdrop
      cases hdrop
  have hS : S = ((S.take (mA ν)).reverse).reverse ++ (.retAddr x :: R) := by rw [List.reverse_reverse, ← hdrop, List.take_append_drop]
  have hl : ((S.take (mA ν)).reverse).length = mA ν := by rw [List.length_reverse, List.length_take]; omega
  generalize (S.take (mA ν)).reverse = As at hS hl h
  subst hS
  by_cases hc : cc ≤ mC μ ∧ zz ≤ mS μ
  · obtain ⟨hc, hz⟩ := hc
    split at h
    · rename_i e
      obtain ⟨z1, z2⟩ := cCk_z hw (by omega)
      refine aw_callX hd hw hx1 hx9 hl h2 (by omega) (by omega) h (fun v σ' w' hq => ?_)
      obtain ⟨rfl, x, rfl, hq⟩ := hq
      rw [z1, z2]
      exact hk _ _ _ _ _ _ _ hq
    · exact h.elim
  · intro p l e s m args below meth c Z hF hR H locs ls hH hlo hlv hc1 hz1
    exact absurd ⟨hc1, hz1⟩ hc
end Sound0
section Sound
variable {Γ : Gx} {d : Nat} {μ : MD} {Q : Option Value → St → Wd → Prop} {T : Tb} {sw : Sw} {i : Instr} {len : Nat} {cst : Int32} {tgt nx : Nat} {pc : Nat} {L : Lv} {S : List Value} {σ : St} {w : Wd} {cc zz : Nat} {k : Nat → Lv → List Value → St → Wd → Nat → Nat → Prop}
set_option maxHeartbeats 4000000 in
theorem stp_sound (hT : tbOK (mN μ).cls T) (hi : iCk (mB μ) (pc, i, len, cst, tgt, nx) = true) (hs : ∀ cs df, sw.lookup pc = some (cs, df) → (∃ a b c e, i = .tableswitch a b c e) → swCk pc i cs df = true)
    (hk : ∀ pc L S σ w cc zz, k pc L S σ w cc zz → AW Γ d μ Q pc L S σ w cc zz) (h : stp Γ d μ Q T sw i cst tgt nx pc L S σ w cc zz k) : AW Γ d μ Q pc L S σ w cc zz := by
  unfold iCk at hi
  rw [Bool.and_eq_true, Bool.and_eq_true, decide_eq_true_eq, decide_eq_true_eq] at hi
  obtain ⟨⟨hd, hnx⟩, hi⟩ := hi
  dsimp only at hd hnx hi
  subst hnx
  unfold stp at h
  split at h
  · rename_i S' hS'
    have hl : len = 1 := by
      cases i <;> first | (cases hS'; done) | simpa using hi
    subst hl
    exact aw_sop hd hS' (hk _ _ _ _ _ _ _ h)
  · split at h
    · simp only [Bool.and_eq_true, decide_eq_true_eq] at hi
      exact aw_cst hd (Or.inl ⟨_, rfl, hi.1, hi.2⟩) (hk _ _ _ _ _ _ _ h)
    · simp only [Bool.and_eq_true, decide_eq_true_eq] at hi
      exact aw_cst hd (Or.inr (Or.inl ⟨_, rfl, hi.1, hi.2⟩)) (hk _ _ _ _ _ _ _ h)
    · simp only [Bool.and_eq_true, decide_eq_true_eq] at hi
      exact aw_cst hd (Or.inr (Or.inr ⟨_, rfl, hi.1, hi.2⟩)) (hk _ _ _ _ _ _ _ h)
    · simp only [decide_eq_true_eq] at hi
      split at h
      · rename_i heq
        exact aw_load hd heq (Or.inl ⟨_, rfl, Or.inl ⟨rfl, hi⟩⟩) (hk _ _ _ _ _ _ _ h)
      · exact h.elim
    · simp only [decide_eq_true_eq] at hi
      split at h
      · rename_i heq
        exact aw_load hd heq (Or.inl ⟨_, rfl, Or.inr ⟨_, rfl, rfl, hi⟩⟩) (hk _ _ _ _ _ _ _ h)
      · exact h.elim
    · simp only [decide_eq_true_eq] at hi
      split at h
      · rename_i heq
        exact aw_load hd heq (Or.inr (Or.inl ⟨_, rfl, Or.inl ⟨rfl, hi⟩⟩)) (hk _ _ _ _ _ _ _ h)
      · exact h.elim
    · simp only [decide_eq_true_eq] at hi
      split at h
      · rename_i heq
        exact aw_load hd heq (Or.inr (Or.inl ⟨_, rfl, Or.inr ⟨_, rfl, rfl, hi⟩⟩)) (hk _ _ _ _ _ _ _ h)
      · exact h.elim
    · simp only [decide_eq_true_eq] at hi
      split at h
      · rename_i heq
        exact aw_load hd heq (Or.inr (Or.inr ⟨⟨_, Or.inl rfl⟩, Or.inl ⟨rfl, hi⟩⟩)) (hk _ _ _ _ _ _ _ h)
      · rename_i heq
        exact aw_load hd heq (Or.inr (Or.inr ⟨⟨_, Or.inr rfl⟩, Or.inl ⟨rfl, hi⟩⟩)) (hk _ _ _ _ _ _ _ h)
      · exact h.elim
    · simp only [decide_eq_true_eq] at hi
      split at h
      · rename_i heq
        exact aw_load hd heq (Or.inr (Or.inr ⟨⟨_, Or.inl rfl⟩, Or.inr ⟨_, rfl, rfl, hi⟩⟩)) (hk _ _ _ _ _ _ _ h)
      · rename_i heq
        exact aw_load hd heq (Or.inr (Or.inr ⟨⟨_, Or.inr rfl⟩, Or.inr ⟨_, rfl, rfl, hi⟩⟩)) (hk _ _ _ _ _ _ _ h)
      · exact h.elim
    · simp only [decide_eq_true_eq] at hi
      split at h
      · rename_i hn
        exact aw_store1 hd hn (Or.inl ⟨_, rfl, Or.inl ⟨rfl, hi⟩⟩) (hk _ _ _ _ _ _ _ h)
      · exact h.elim
    · simp only [decide_eq_true_eq] at hi
      split at h
      · rename_i hn
        exact aw_store1 hd hn (Or.inl ⟨_, rfl, Or.inr ⟨_, rfl, rfl, hi⟩⟩) (hk _ _ _ _ _ _ _ h)
      · exact h.elim
    · simp only [decide_eq_true_eq] at hi
      split at h
      · rename_i hn
        exact aw_store1 hd hn (Or.inr ⟨_, rfl, Or.inl ⟨rfl, hi⟩⟩) (hk _ _ _ _ _ _ _ h)
      · exact h.elim
    · simp only [decide_eq_true_eq] at hi
      split at h
      · rename_i hn
        exact aw_store1 hd hn (Or.inr ⟨_, rfl, Or.inr ⟨_, rfl, rfl, hi⟩⟩) (hk _ _ _ _ _ _ _ h)
      · exact h.elim
    · simp only [decide_eq_true_eq] at hi
      split at h
      · rename_i hn
        exact aw_store2 hd hn (Or.inl ⟨rfl, hi⟩) (hk _ _ _ _ _ _ _ h)
      · exact h.elim
    · simp only [decide_eq_true_eq] at hi
      split at h
      · rename_i hn
        exact aw_store2 hd hn (Or.inr ⟨_, rfl, rfl, hi⟩) (hk _ _ _ _ _ _ _ h)
      · exact h.elim
    · simp only [Bool.and_eq_true, decide_eq_true_eq] at hi
      split at h
      · rename_i heq
        split at h
        · rename_i hn
          obtain ⟨hi1, rfl⟩ := hi
          exact aw_iinc hd hn heq hi1 (hk _ _ _ _ _ _ _ h)
        · exact h.elim
      · exact h.elim
    · simp only [decide_eq_true_eq] at hi
      subst hi
      exact (aw_div h.1).1 hd (hk _ _ _ _ _ _ _ h.2)
    · simp only [decide_eq_true_eq] at hi
      subst hi
      exact (aw_div h.1).2 hd (hk _ _ _ _ _ _ _ h.2)
    · simp only [Bool.and_eq_true, decide_eq_true_eq] at hi
      obtain ⟨hi1, rfl⟩ := hi
      exact aw_goto hd hi1 (hk _ _ _ _ _ _ _ h)
    · simp only [Bool.and_eq_true, decide_eq_true_eq] at hi
      obtain ⟨hi1, rfl⟩ := hi
      refine aw_if hd hi1 ?_
      revert h
      unfold bra
      split <;> exact fun h => ⟨fun q => hk _ _ _ _ _ _ _ (h.1 q), fun q => hk _ _ _ _ _ _ _ (h.2 q)⟩
    · simp only [Bool.and_eq_true, decide_eq_true_eq] at hi
      obtain ⟨hi1, rfl⟩ := hi
      refine aw_icmp hd hi1 ?_
      revert h
      unfold bra
      split <;> exact fun h => ⟨fun q => hk _ _ _ _ _ _ _ (h.1 q), fun q => hk _ _ _ _ _ _ _ (h.2 q)⟩
    · simp only [Bool.and_eq_true, decide_eq_true_eq] at hi
      obtain ⟨hi1, rfl⟩ := hi
      exact (aw_ifnull hi1).1 hd (hk _ _ _ _ _ _ _ h)
    · simp only [Bool.and_eq_true, decide_eq_true_eq] at hi
      obtain ⟨hi1, rfl⟩ := hi
      exact (aw_ifnull (x := 0) hi1).2.1 hd (hk _ _ _ _ _ _ _ h)
    · simp only [Bool.and_eq_true, decide_eq_true_eq] at hi
      obtain ⟨hi1, rfl⟩ := hi
      exact (aw_ifnull hi1).2.2.1 hd (hk _ _ _ _ _ _ _ h)
    · simp only [Bool.and_eq_true, decide_eq_true_eq] at hi
      obtain ⟨hi1, rfl⟩ := hi
      exact (aw_ifnull (x := 0) hi1).2.2.2 hd (hk _ _ _ _ _ _ _ h)
    · split at h
      · rename_i heq
        exact aw_table hd (hs _ _ heq ⟨_, _, _, _, rfl⟩) (swP_mono (fun t h => hk _ _ _ _ _ _ _ h) h)
      · exact h.elim
    · simp only [decide_eq_true_eq] at hi
      subst hi
      split at h
      · rename_i heq
        obtain ⟨wi, hw⟩ := hT.2.2.1 _ _ heq
        exact aw_ldcI hd (Or.inl ⟨rfl, rfl⟩) hw (hk _ _ _ _ _ _ _ h)
      · rename_i heq
        obtain ⟨wi, hw⟩ := hT.2.2.1 _ _ heq
        exact aw_ldcT hd hw (hk _ _ _ _ _ _ _ h)
      · exact h.elim
    · simp only [decide_eq_true_eq] at hi
      subst hi
      split at h
      · rename_i heq
        obtain ⟨wi, hw⟩ := hT.2.2.1 _ _ heq
        exact aw_ldcI hd (Or.inr ⟨rfl, rfl⟩) hw (hk _ _ _ _ _ _ _ h)
      · exact h.elim
    · simp only [decide_eq_true_eq] at hi
      subst hi
      split at h
      · rename_i heq
        obtain ⟨wi, hw⟩ := hT.2.2.1 _ _ heq
        exact aw_ldcL hd hw (hk _ _ _ _ _ _ _ h)
      · exact h.elim
    · simp only [decide_eq_true_eq] at hi
      subst hi
      split at h
      · rename_i heq
        obtain ⟨wi, hw⟩ := hT.1 _ _ heq
        exact aw_get hd hw h.1 (fv_k1 (fCk_fk hw)) (hk _ _ _ _ _ _ _ h.2)
      · rename_i heq
        obtain ⟨wi, hw⟩ := hT.1 _ _ heq
        obtain ⟨ho, r, hr, h⟩ := h
        exact aw_get hd hw ho (fv_k2 (fCk_fk hw) hr) (hk _ _ _ _ _ _ _ h)
      · rename_i heq
        obtain ⟨wi, hw⟩ := hT.1 _ _ heq
        obtain ⟨ho, h1, h2⟩ := h
        exact aw_get3 hd hw ho (fun r hr => hk _ _ _ _ _ _ _ (h1 r hr)) (fun hr => hk _ _ _ _ _ _ _ (h2 hr))
      · rename_i heq
        obtain ⟨wi, hw⟩ := hT.1 _ _ heq
        exact aw_get hd hw h.1 (fv_k0 (fCk_fk hw) (by decide) (by decide) (by decide)) (hk _ _ _ _ _ _ _ h.2)
      · rename_i heq
        obtain ⟨wi, hw⟩ := hT.1 _ _ heq
        exact aw_get hd hw h.1 (fv_k0 (fCk_fk hw) (by decide) (by decide) (by decide)) (hk _ _ _ _ _ _ _ h.2)
      · exact h.elim
    · simp only [decide_eq_true_eq] at hi
      subst hi
      split at h
      · rename_i heq
        obtain ⟨wi, hw⟩ := hT.1 _ _ heq
        obtain ⟨h1, h2, h⟩ := h
        exact aw_xget hd (of_decide_eq_true hw) (fun s hK => gt_val hK h1 h2) (hk _ _ _ _ _ _ _ h)
      · rename_i heq
        obtain ⟨wi, hw⟩ := hT.1 _ _ heq
        obtain ⟨h1, h2, h⟩ := h
        exact aw_xget hd (of_decide_eq_true hw) (fun s hK => gt_cod hK h1 h2) (hk _ _ _ _ _ _ _ h)
      · exact h.elim
    · simp only [decide_eq_true_eq] at hi
      subst hi
      split at h
      · rename_i heq
        obtain ⟨wi, hw⟩ := hT.1 _ _ heq
        exact aw_xgets hd (of_decide_eq_true hw) (hk _ _ _ _ _ _ _ h)
      · rename_i heq
        obtain ⟨wi, hw⟩ := hT.1 _ _ heq
        exact aw_xgetq hd (of_decide_eq_true hw) (hk _ _ _ _ _ _ _ h.1) (hk _ _ _ _ _ _ _ h.2)
      · exact h.elim
    · simp only [decide_eq_true_eq] at hi
      subst hi
      split at h
      · rename_i heq
        obtain ⟨wi, hw⟩ := hT.1 _ _ heq
        exact aw_put hd hw (fun q => absurd q (by decide)) h.1 rfl (fv_p0 (fCk_fk hw) (Or.inl rfl)) (fun i hi => ⟨fun k => fv_uI hi, fun j => av_uI hi⟩) (fCk_n0 hw).1 (fCk_n0 hw).2 (hk _ _ _ _ _ _ _ h.2)
      · rename_i heq
        obtain ⟨wi, hw⟩ := hT.1 _ _ heq
        exact aw_put hd hw (fun q => absurd q (by decide)) h.1 rfl (fv_p0 (fCk_fk hw) (Or.inr rfl)) (fun i hi => ⟨fun k => fv_uI hi, fun j => av_uI hi⟩) (fCk_n4 hw h.2.1).1 (fCk_n4 hw h.2.1).2 (hk _ _ _ _ _ _ _ h.2.2)
      · exact h.elim
    · simp only [decide_eq_true_eq] at hi
      subst hi
      split at h
      · rename_i heq
        obtain ⟨wi, hw⟩ := hT.1 _ _ heq
        exact aw_put hd hw (fun q => absurd q (by decide)) h.1 rfl (fv_p1 (fCk_fk hw)) (fun i hi => ⟨fun k => fv_uJ hi, fun j => av_uJ hi⟩) (fCk_n1 hw).1 (fCk_n1 hw).2 (hk _ _ _ _ _ _ _ h.2)
      · exact h.elim
    · simp only [decide_eq_true_eq] at hi
      subst hi
      split at h
      · rename_i heq
        obtain ⟨wi, hw⟩ := hT.1 _ _ heq
        exact aw_put (w' := uW w _ _ _) hd hw (fun _ => h.2.1) h.1 rfl (fv_p2 (fCk_fk hw)) (fun i hi => ⟨fun k => fv_uW hi, fun j => av_uW hi⟩) (fCk_n2 hw (Or.inl rfl)).1 (fCk_n2 hw (Or.inl rfl)).2 (hk _ _ _ _ _ _ _ h.2.2)
      · rename_i heq
        obtain ⟨wi, hw⟩ := hT.1 _ _ heq
        exact aw_put hd hw (fun q => absurd q (by decide)) h.1 rfl (fv_p3 (fCk_fk hw)) (fun i hi => ⟨fun k => fv_uR hi, fun j => av_uR⟩) (fCk_n2 hw (Or.inr rfl)).1 (fCk_n2 hw (Or.inr rfl)).2 (hk _ _ _ _ _ _ _ h.2)
      · exact h.elim
    · simp only [decide_eq_true_eq] at hi
      subst hi
      exact aw_iald hd h.1 h.2.1 (hk _ _ _ _ _ _ _ h.2.2)
    · simp only [decide_eq_true_eq] at hi
      subst hi
      exact aw_sld hd h.1 (hk _ _ _ _ _ _ _ h.2)
    · simp only [decide_eq_true_eq] at hi
      subst hi
      exact aw_lald hd h.1 h.2.1 (hk _ _ _ _ _ _ _ h.2.2)
    · simp only [decide_eq_true_eq] at hi
      subst hi
      exact aw_bald hd h.1 h.2.1 h.2.2.1 (hk _ _ _ _ _ _ _ h.2.2.2)
    · simp only [decide_eq_true_eq] at hi
      subst hi
      obtain ⟨h1, h2, h3, h4, r, h5, h⟩ := h
      exact aw_aald hd h1 h2 h3 h4 h5 (hk _ _ _ _ _ _ _ h)
    · simp only [decide_eq_true_eq] at hi
      subst hi
      exact aw_iast hd h.1 h.2.1 (hk _ _ _ _ _ _ _ h.2.2)
    · simp only [decide_eq_true_eq] at hi
      subst hi
      exact aw_last hd h.1 h.2.1 (hk _ _ _ _ _ _ _ h.2.2)
    · simp only [decide_eq_true_eq] at hi
      subst hi
      exact aw_bast hd h.1 h.2.1 h.2.2.1 (hk _ _ _ _ _ _ _ h.2.2.2)
    · simp only [decide_eq_true_eq] at hi
      subst hi
      exact aw_aast hd h.1 h.2.1 h.2.2.1 h.2.2.2.1 (hk _ _ _ _ _ _ _ h.2.2.2.2)
    · simp only [decide_eq_true_eq] at hi
      subst hi
      exact aw_alen hd h.1 h.2.1 h.2.2.1 (hk _ _ _ _ _ _ _ h.2.2.2)
    · simp only [decide_eq_true_eq] at hi
      subst hi
      exact aw_slen hd (hk _ _ _ _ _ _ _ h)
    · simp only [decide_eq_true_eq] at hi
      subst hi
      exact aw_xlen hd h.1 h.2.1 (hk _ _ _ _ _ _ _ h.2.2)
    · simp only [decide_eq_true_eq] at hi
      subst hi
      exact aw_xbald hd h.1 h.2.1 h.2.2.1 (hk _ _ _ _ _ _ _ h.2.2.2)
    · simp only [decide_eq_true_eq] at hi
      subst hi
      split at h
      · rename_i heq
        obtain ⟨ws, hw⟩ := hT.2.2.2.1 _ _ heq
        exact aw_newN hd hw h.1 h.2.1 h.2.2.1 (hk _ _ _ _ _ _ _ h.2.2.2)
      · exact h.elim
    · simp only [decide_eq_true_eq] at hi
      subst hi
      exact aw_newa hd h.1 h.2.1 h.2.2.1 h.2.2.2.1 h.2.2.2.2.1 (hk _ _ _ _ _ _ _ h.2.2.2.2.2)
    · simp only [decide_eq_true_eq] at hi
      subst hi
      split at h
      · rename_i heq
        obtain ⟨ws, hw⟩ := hT.2.2.2.1 _ _ heq
        obtain ⟨h1, h2, h3, h4, h5, h6, h7, h⟩ := h
        exact aw_anewN hd hw h1 h2 h3 h4 h5 h6 h7 (hk _ _ _ _ _ _ _ h)
      · exact h.elim
    · simp only [decide_eq_true_eq] at hi
      subst hi
      split at h
      · rename_i heq
        obtain ⟨ws, hw⟩ := hT.2.2.2.1 _ _ heq
        obtain ⟨h1, h2, h3, h4, h5, h6, h7, h8, h⟩ := h
        exact aw_multi hd (by have := hw; unfold nCk at this; simpa [vwCl] using this) h1 h2 h3 h4 h5 h6 h7 h8 (hk _ _ _ _ _ _ _ h)
      · exact h.elim
    · simp only [decide_eq_true_eq] at hi
      subst hi
      split at h
      · rename_i hc
        obtain ⟨ws, hw⟩ := hT.2.2.2.2 _ hc
        unfold oCk at hw
        simp only [Bool.and_eq_true, decide_eq_true_eq] at hw
        exact aw_obj hd hw.1.1 hw.1.2 hw.2 h.1 h.2.1 (hk _ _ _ _ _ _ _ h.2.2)
      · split at h
        · rename_i heq
          obtain ⟨ws, hw⟩ := hT.2.1 _ _ _ heq
          rw [if_neg (by decide)] at hw
          obtain ⟨h1, h2, h3, h4, h⟩ := h
          exact aw_callI (As := []) hd (Or.inl rfl) hw h1.symm h2 h3 h4 h (fun v σ' w' hq => by obtain ⟨rfl, hq⟩ := hq; exact hk _ _ _ _ _ _ _ hq)
        · rename_i heq
          obtain ⟨ws, hw⟩ := hT.2.1 _ _ _ heq
          rw [if_neg (by decide)] at hw
          obtain ⟨h1, h2, h3, h4, h⟩ := h
          exact aw_callI (As := []) hd (Or.inr rfl) hw h1.symm h2 h3 h4 h (fun v σ' w' hq => by obtain ⟨rfl, hq⟩ := hq; exact hk _ _ _ _ _ _ _ hq)
        · exact h.elim
    · simp only [decide_eq_true_eq] at hi
      subst hi
      split at h
      · rename_i heq
        obtain ⟨ws, hw⟩ := hT.2.1 _ _ _ heq
        rw [if_neg (by decide)] at hw
        obtain ⟨h1, h2, h3, h4, h⟩ := h
        exact aw_callI (As := [.int _]) hd (Or.inl rfl) hw h1.symm h2 h3 h4 h (fun v σ' w' hq => by obtain ⟨rfl, hq⟩ := hq; exact hk _ _ _ _ _ _ _ hq)
      · exact h.elim
    · simp only [decide_eq_true_eq] at hi
      subst hi
      split at h
      · rename_i heq
        obtain ⟨ws, hw⟩ := hT.2.1 _ _ _ heq
        rw [if_pos rfl] at hw
        unfold pCk at hw
        simp only [Bool.and_eq_true, decide_eq_true_eq] at hw
        split at h
        · obtain ⟨h1, h2, h3, h4, h5, h6, h7, h8, h⟩ := h
          exact aw_copy hd hw.1.1.1 hw.1.1.2 hw.1.2 hw.2 h1 h2 h3 h4 h5 h6 h7 h8 (hk _ _ _ _ _ _ _ h)
        · exact h.elim
      · rename_i heq
        obtain ⟨ws, hw⟩ := hT.2.1 _ _ _ heq
        rw [if_neg (by decide)] at hw
        obtain ⟨h1, h2, h⟩ := h
        exact aw_static (Or.inl rfl) hd hw h1 h2 hk h
      · rename_i heq
        obtain ⟨ws, hw⟩ := hT.2.1 _ _ _ heq
        rw [if_neg (by decide)] at hw
        obtain ⟨h1, h2, h⟩ := h
        exact aw_static (Or.inr rfl) hd hw h1 h2 hk h
      · exact h.elim
    · simp only [decide_eq_true_eq] at hi
      subst hi
      split at h
      · rename_i heq
        obtain ⟨ws, hw⟩ := hT.2.1 _ _ _ heq
        rw [if_neg (by decide)] at hw
        split at h
        · rename_i hdrop
          exact aw_virt hd hw hdrop h.1 h.2.1 hk h.2.2
        · exact h.elim
      · rename_i heq
        obtain ⟨ws, hw⟩ := hT.2.1 _ _ _ heq
        rw [if_neg (by decide)] at hw
        split at h
        · rename_i hdrop
          exact aw_virtX hd hw hdrop h.1 h.2.1 h.2.2.1 hk h.2.2.2
        · exact h.elim
      · exact h.elim
    · simp only [decide_eq_true_eq] at hi
      subst hi
      split at h
      · rename_i hr
        exact aw_ret (v := some (.int _)) h.2 (Or.inr (Or.inl ⟨_, _, rfl, hd, hr, h.1⟩))
      · exact h.elim
    · simp only [decide_eq_true_eq] at hi
      subst hi
      exact aw_ret (v := some (.long _)) h.2 (Or.inr (Or.inr ⟨_, rfl, hd, h.1⟩))
    · simp only [decide_eq_true_eq] at hi
      subst hi
      exact aw_ret (v := none) h.2 (Or.inl ⟨rfl, hd, h.1⟩)
    · exact h.elim
/-- n steps of a method -/
theorem wp_sound {is : Is} {cu : Cu} (hT : tbOK (mN μ).cls T) (hm : msOK μ is sw) : ∀ (n pc : Nat) (L : Lv) (S : List Value) (σ : St) (w : Wd) (cc zz : Nat), wp Γ d μ Q T is sw cu n pc L S σ w cc zz → AW Γ d μ Q pc L S σ w cc zz
  | 0, _, _, _, _, _, _, _, h => h
  | n + 1, pc, L, S, σ, w, cc, zz, h => by
    unfold wp at h
    split at h
    · exact h.elim
    · rename_i i len cst tgt nx heq
      refine stp_sound hT (hm.1 _ _ heq) (fun cs df h1 h2 => hm.2 _ _ _ _ _ _ _ _ heq h1 h2) ?_ h
      intro pc' L' S' σ' w' cc' zz' h'
      split at h'
      · exact AW.pick _ h'
      · exact wp_sound hT hm n _ _ _ _ _ _ _ h'
end Sound
end
section
/-! contracts: weaker ends; the world once all is made -/
section Mono
variable {Γ : Gx} {d : Nat} {μ : MD} {A : List Value} {σ : St} {w : Wd}
theorem Sp.mono {Q Q' : Option Value → St → Wd → Prop} (h : Sp Γ d μ A σ w Q) (hq : ∀ v σ' w', Q v σ' w' → Q' v σ' w') : Sp Γ d μ A σ w Q' := by
  intro p e h1 h2 h3 s m args below h4 h5 h6 h7
  obtain ⟨n, o, g1, g2, g3, ⟨v, σ', w', e1, e2, e3⟩, g4⟩ := h p e h1 h2 h3 s m args below h4 h5 h6 h7
  exact ⟨n, o, g1, g2, g3, ⟨v, σ', w', e1, e2, hq _ _ _ e3⟩, g4⟩
theorem SpI.mono {Q Q' : Int32 → St → Prop} (h : SpI Γ d μ A σ w Q) (hq : ∀ x σ', Q x σ' → Q' x σ') : SpI Γ d μ A σ w Q' := Sp.mono h (fun _ _ _ ⟨a, x, b, c⟩ => ⟨a, x, b, hq _ _ c⟩)
theorem SpJ.mono {Q Q' : Int64 → St → Prop} (h : SpJ Γ d μ A σ w Q) (hq : ∀ x σ', Q x σ' → Q' x σ') : SpJ Γ d μ A σ w Q' := Sp.mono h (fun _ _ _ ⟨a, x, b, c⟩ => ⟨a, x, b, hq _ _ c⟩)
theorem SpV.mono {Q Q' : St → Prop} (h : SpV Γ d μ A σ w Q) (hq : ∀ σ', Q σ' → Q' σ') : SpV Γ d μ A σ w Q' := Sp.mono h (fun _ _ _ ⟨a, b, c⟩ => ⟨a, b, hq _ c⟩)
theorem SpC.mono {Q Q' : St → Wd → Prop} (h : SpC Γ d μ A σ w Q) (hq : ∀ σ' w', Q σ' w' → Q' σ' w') : SpC Γ d μ A σ w Q' := Sp.mono h (fun _ _ _ ⟨a, c⟩ => ⟨a, hq _ _ c⟩)
theorem SpN.mono {Q Q' : Int32 → St → Wd → Prop} (h : SpN Γ d μ A σ w Q) (hq : ∀ x σ' w', Q x σ' w' → Q' x σ' w') : SpN Γ d μ A σ w Q' := Sp.mono h (fun _ _ _ ⟨x, a, c⟩ => ⟨x, a, hq _ _ _ c⟩)
end Mono
/-- the ends of methods that make no cell -/
def qI (w : Wd) (Q : Int32 → St → Prop) : Option Value → St → Wd → Prop := fun v σ' w' => w' = w ∧ ∃ x, v = some (.int x) ∧ Q x σ'
def qJ (w : Wd) (Q : Int64 → St → Prop) : Option Value → St → Wd → Prop := fun v σ' w' => w' = w ∧ ∃ x, v = some (.long x) ∧ Q x σ'
def qV (w : Wd) (Q : St → Prop) : Option Value → St → Wd → Prop := fun v σ' w' => w' = w ∧ v = none ∧ Q σ'
def qC (Q : St → Wd → Prop) : Option Value → St → Wd → Prop := fun v σ' w' => v = none ∧ Q σ' w'
def qN (Q : Int32 → St → Wd → Prop) : Option Value → St → Wd → Prop := fun v σ' w' => ∃ x, v = some (.int x) ∧ Q x σ' w'
/-- a frame with an empty stack, in a method that makes no cell -/
def AI (Γ : Gx) (d : Nat) (μ : MD) (w : Wd) (Q : Int32 → St → Prop) (pc : Nat) (L : Lv) (σ : St) : Prop := AW Γ d μ (qI w Q) pc L [] σ w 0 0
def AJ (Γ : Gx) (d : Nat) (μ : MD) (w : Wd) (Q : Int64 → St → Prop) (pc : Nat) (L : Lv) (σ : St) : Prop := AW Γ d μ (qJ w Q) pc L [] σ w 0 0
def AV (Γ : Gx) (d : Nat) (μ : MD) (w : Wd) (Q : St → Prop) (pc : Nat) (L : Lv) (σ : St) : Prop := AW Γ d μ (qV w Q) pc L [] σ w 0 0
section Of
variable {Γ : Gx} {d : Nat} {μ : MD} {A : List Value} {σ : St} {w : Wd}
theorem SpI.of {Q : Int32 → St → Prop} (hn : plainName (mN μ).cls = true) (hA : catS A ≤ mL μ) (h : AI Γ d μ w Q 0 (lv_args 0 A) σ) : SpI Γ d μ A σ w Q := Sp.of hn hA h
theorem SpJ.of {Q : Int64 → St → Prop} (hn : plainName (mN μ).cls = true) (hA : catS A ≤ mL μ) (h : AJ Γ d μ w Q 0 (lv_args 0 A) σ) : SpJ Γ d μ A σ w Q := Sp.of hn hA h
theorem SpV.of {Q : St → Prop} (hn : plainName (mN μ).cls = true) (hA : catS A ≤ mL μ) (h : AV Γ d μ w Q 0 (lv_args 0 A) σ) : SpV Γ d μ A σ w Q := Sp.of hn hA h
end Of
theorem mR1 {X : Nat → Prop} {a : Option Nat} {P : Nat} (h : a = some P) (k : X P) : ∀ r, a = some r → X r := fun r q => by rw [h] at q; cases q; exact k
theorem mR2 {X : Prop} {a : Option Nat} {P : Nat} (h : a = some P) : a = none → X := fun q => by rw [h] at q; cases q
theorem nb01 {x : Int32} (h : x = 0 ∨ x = 1) : narrow .boolean (.int x) = .int x := by
  rcases h with rfl | rfl <;> decide
theorem nb0 : narrow .boolean (.int 0) = .int 0 := by decide
theorem nb1 : narrow .boolean (.int 1) = .int 1 := by decide
/-- the world once the class, the reference are made (the course's cells may come later) -/
def rfS : Nat → Nat → Option Nat := fun o k => some (rf o k)
def RunW (w : Wd) : Prop := 425 ≤ w.1 ∧ w.2 = rfS
theorem okL {w : Wd} {o c : Nat} (hw : RunW w) (h1 : o < 425) (h2 : (kd o).1 = c) : okO w o c := ⟨Nat.lt_of_lt_of_le h1 hw.1, h2⟩
theorem rfL_ {w : Wd} {o k r : Nat} (hw : RunW w) (h : rf o k = r) : w.2 o k = some r := by rw [hw.2, ← h]; rfl
theorem viL {j : Int32} {a n : Nat} (h : (kd a).2 = n) (hj : vp_in j n) : vp_in j (kd a).2 := by rw [h]; exact hj
/-- the world with the course's cells -/
def RunC (w : Wd) : Prop := 430 ≤ w.1 ∧ w.2 = rfS
theorem RunC.run {w : Wd} (h : RunC w) : RunW w := ⟨Nat.le_trans (by decide) h.1, h.2⟩
theorem okC {w : Wd} {o c : Nat} (hw : RunC w) (h1 : o < 430) (h2 : (kd o).1 = c) : okO w o c := ⟨Nat.lt_of_lt_of_le h1 hw.1, h2⟩
end
