section
-- ===== PART A: goes FIRST, ahead of the names: the tables' words, and 'selects' of the private methods out of them =====
/-- a private method of a class that the tables say can be made, by its rows of tables_1 -/
def lw_okq (q : MethodName × Nat) : Prop := (q.1.cls ≠ "java/lang/invoke/MethodHandle" ∧ q.1.cls ≠ "java/lang/invoke/VarHandle") ∧ Cond.instantiable q.1.cls q.2 ∈ tables_1 ∧ Cond.privateMethod q.1 ∈ tables_1 ∧ Cond.instanceMethod q.1 ∈ tables_1
theorem lw_p0 : lw_okq (⟨"TurningVerse", "isLine", "(I)Z"⟩, 8) := ⟨⟨by decide +kernel, by decide +kernel⟩, List.mem_of_getElem? (i := 19) (by decide +kernel), List.mem_of_getElem? (i := 270) (by decide +kernel), List.mem_of_getElem? (i := 271) (by decide +kernel)⟩
theorem lw_p1 : lw_okq (⟨"TurningVerse$PoemReader", "readFirstStanza", "(LTurningVerse$Text;)I"⟩, 3) := ⟨⟨by decide +kernel, by decide +kernel⟩, List.mem_of_getElem? (i := 141) (by decide +kernel), List.mem_of_getElem? (i := 299) (by decide +kernel), List.mem_of_getElem? (i := 300) (by decide +kernel)⟩
theorem lw_p2 : lw_okq (⟨"TurningVerse$PoemReader", "wordBelow", "(LTurningVerse$Text;I)I"⟩, 3) := ⟨⟨by decide +kernel, by decide +kernel⟩, List.mem_of_getElem? (i := 141) (by decide +kernel), List.mem_of_getElem? (i := 303) (by decide +kernel), List.mem_of_getElem? (i := 304) (by decide +kernel)⟩
theorem lw_p3 : lw_okq (⟨"TurningVerse$PoemReader", "isStanzaOver", "(LTurningVerse$Text;)Z"⟩, 3) := ⟨⟨by decide +kernel, by decide +kernel⟩, List.mem_of_getElem? (i := 141) (by decide +kernel), List.mem_of_getElem? (i := 312) (by decide +kernel), List.mem_of_getElem? (i := 313) (by decide +kernel)⟩
theorem lw_p4 : lw_okq (⟨"TurningVerse$PoemReader", "readStanza", "(LTurningVerse$Text;)I"⟩, 3) := ⟨⟨by decide +kernel, by decide +kernel⟩, List.mem_of_getElem? (i := 141) (by decide +kernel), List.mem_of_getElem? (i := 321) (by decide +kernel), List.mem_of_getElem? (i := 322) (by decide +kernel)⟩
theorem lw_p5 : lw_okq (⟨"TurningVerse$PoemReader", "readTail", "(LTurningVerse$Text;)I"⟩, 3) := ⟨⟨by decide +kernel, by decide +kernel⟩, List.mem_of_getElem? (i := 141) (by decide +kernel), List.mem_of_getElem? (i := 325) (by decide +kernel), List.mem_of_getElem? (i := 326) (by decide +kernel)⟩
theorem lw_p6 : lw_okq (⟨"TurningVerse$PoemReader", "readTailLine", "(LTurningVerse$Text;)I"⟩, 3) := ⟨⟨by decide +kernel, by decide +kernel⟩, List.mem_of_getElem? (i := 141) (by decide +kernel), List.mem_of_getElem? (i := 329) (by decide +kernel), List.mem_of_getElem? (i := 330) (by decide +kernel)⟩
theorem lw_p7 : lw_okq (⟨"TurningVerse", "store", "(II)I"⟩, 8) := ⟨⟨by decide +kernel, by decide +kernel⟩, List.mem_of_getElem? (i := 19) (by decide +kernel), List.mem_of_getElem? (i := 352) (by decide +kernel), List.mem_of_getElem? (i := 353) (by decide +kernel)⟩
theorem lw_p8 : lw_okq (⟨"TurningVerse$Search", "note", "(II)V"⟩, 6) := ⟨⟨by decide +kernel, by decide +kernel⟩, List.mem_of_getElem? (i := 172) (by decide +kernel), List.mem_of_getElem? (i := 477) (by decide +kernel), List.mem_of_getElem? (i := 478) (by decide +kernel)⟩
theorem lw_p9 : lw_okq (⟨"TurningVerse$Search", "isFactor", "(I)Z"⟩, 6) := ⟨⟨by decide +kernel, by decide +kernel⟩, List.mem_of_getElem? (i := 172) (by decide +kernel), List.mem_of_getElem? (i := 486) (by decide +kernel), List.mem_of_getElem? (i := 487) (by decide +kernel)⟩
theorem lw_p10 : lw_okq (⟨"TurningVerse$Search", "firstFactor", "(I)I"⟩, 6) := ⟨⟨by decide +kernel, by decide +kernel⟩, List.mem_of_getElem? (i := 172) (by decide +kernel), List.mem_of_getElem? (i := 504) (by decide +kernel), List.mem_of_getElem? (i := 505) (by decide +kernel)⟩
theorem lw_p11 : lw_okq (⟨"TurningVerse$Search", "without", "(II)I"⟩, 6) := ⟨⟨by decide +kernel, by decide +kernel⟩, List.mem_of_getElem? (i := 172) (by decide +kernel), List.mem_of_getElem? (i := 508) (by decide +kernel), List.mem_of_getElem? (i := 509) (by decide +kernel)⟩
theorem lw_p12 : lw_okq (⟨"TurningVerse", "isStanza", "(I)Z"⟩, 8) := ⟨⟨by decide +kernel, by decide +kernel⟩, List.mem_of_getElem? (i := 19) (by decide +kernel), List.mem_of_getElem? (i := 527) (by decide +kernel), List.mem_of_getElem? (i := 528) (by decide +kernel)⟩
theorem lw_p13 : lw_okq (⟨"TurningVerse$Fit", "compare", "(LTurningVerse$Poem;II)V"⟩, 4) := ⟨⟨by decide +kernel, by decide +kernel⟩, List.mem_of_getElem? (i := 198) (by decide +kernel), List.mem_of_getElem? (i := 584) (by decide +kernel), List.mem_of_getElem? (i := 585) (by decide +kernel)⟩
theorem lw_p14 : lw_okq (⟨"TurningVerse$Fit", "mostKept", "()I"⟩, 4) := ⟨⟨by decide +kernel, by decide +kernel⟩, List.mem_of_getElem? (i := 198) (by decide +kernel), List.mem_of_getElem? (i := 592) (by decide +kernel), List.mem_of_getElem? (i := 593) (by decide +kernel)⟩
theorem lw_p15 : lw_okq (⟨"TurningVerse$Fit", "keptWith", "(III)I"⟩, 4) := ⟨⟨by decide +kernel, by decide +kernel⟩, List.mem_of_getElem? (i := 198) (by decide +kernel), List.mem_of_getElem? (i := 597) (by decide +kernel), List.mem_of_getElem? (i := 598) (by decide +kernel)⟩
def lw_privs_1 : List (MethodName × Nat) := [(⟨"TurningVerse", "isLine", "(I)Z"⟩, 8), (⟨"TurningVerse$PoemReader", "readFirstStanza", "(LTurningVerse$Text;)I"⟩, 3), (⟨"TurningVerse$PoemReader", "wordBelow", "(LTurningVerse$Text;I)I"⟩, 3), (⟨"TurningVerse$PoemReader", "isStanzaOver", "(LTurningVerse$Text;)Z"⟩, 3), (⟨"TurningVerse$PoemReader", "readStanza", "(LTurningVerse$Text;)I"⟩, 3), (⟨"TurningVerse$PoemReader", "readTail", "(LTurningVerse$Text;)I"⟩, 3), (⟨"TurningVerse$PoemReader", "readTailLine", "(LTurningVerse$Text;)I"⟩, 3), (⟨"TurningVerse", "store", "(II)I"⟩, 8), (⟨"TurningVerse$Search", "note", "(II)V"⟩, 6), (⟨"TurningVerse$Search", "isFactor", "(I)Z"⟩, 6), (⟨"TurningVerse$Search", "firstFactor", "(I)I"⟩, 6), (⟨"TurningVerse$Search", "without", "(II)I"⟩, 6), (⟨"TurningVerse", "isStanza", "(I)Z"⟩, 8), (⟨"TurningVerse$Fit", "compare", "(LTurningVerse$Poem;II)V"⟩, 4), (⟨"TurningVerse$Fit", "mostKept", "()I"⟩, 4), (⟨"TurningVerse$Fit", "keptWith", "(III)I"⟩, 4)]
theorem lw_r1 : ∀ q ∈ lw_privs_1, lw_okq q := List.forall_mem_cons.mpr ⟨lw_p0, List.forall_mem_cons.mpr ⟨lw_p1, List.forall_mem_cons.mpr ⟨lw_p2, List.forall_mem_cons.mpr ⟨lw_p3, List.forall_mem_cons.mpr ⟨lw_p4, List.forall_mem_cons.mpr ⟨lw_p5, List.forall_mem_cons.mpr ⟨lw_p6, List.forall_mem_cons.mpr ⟨lw_p7, List.forall_mem_cons.mpr ⟨lw_p8, List.forall_mem_cons.mpr ⟨lw_p9, List.forall_mem_cons.mpr ⟨lw_p10, List.forall_mem_cons.mpr ⟨lw_p11, List.forall_mem_cons.mpr ⟨lw_p12, List.forall_mem_cons.mpr ⟨lw_p13, List.forall_mem_cons.mpr ⟨lw_p14, List.forall_mem_cons.mpr ⟨lw_p15, fun _ h => absurd h List.not_mem_nil⟩⟩⟩⟩⟩⟩⟩⟩⟩⟩⟩⟩⟩⟩⟩⟩
theorem lw_p16 : lw_okq (⟨"TurningVerse$Fit", "firstWord", "(II)I"⟩, 4) := ⟨⟨by decide +kernel, by decide +kernel⟩, List.mem_of_getElem? (i := 198) (by decide +kernel), List.mem_of_getElem? (i := 610) (by decide +kernel), List.mem_of_getElem? (i := 611) (by decide +kernel)⟩
theorem lw_p17 : lw_okq (⟨"TurningVerse$Fit", "atMostKept", "()I"⟩, 4) := ⟨⟨by decide +kernel, by decide +kernel⟩, List.mem_of_getElem? (i := 198) (by decide +kernel), List.mem_of_getElem? (i := 629) (by decide +kernel), List.mem_of_getElem? (i := 630) (by decide +kernel)⟩
theorem lw_p18 : lw_okq (⟨"TurningVerse$Fit", "mostOfLine", "(I)I"⟩, 4) := ⟨⟨by decide +kernel, by decide +kernel⟩, List.mem_of_getElem? (i := 198) (by decide +kernel), List.mem_of_getElem? (i := 633) (by decide +kernel), List.mem_of_getElem? (i := 634) (by decide +kernel)⟩
theorem lw_p19 : lw_okq (⟨"TurningVerse$Fit", "mostOfWord", "(I)I"⟩, 4) := ⟨⟨by decide +kernel, by decide +kernel⟩, List.mem_of_getElem? (i := 198) (by decide +kernel), List.mem_of_getElem? (i := 637) (by decide +kernel), List.mem_of_getElem? (i := 638) (by decide +kernel)⟩
theorem lw_p20 : lw_okq (⟨"TurningVerse", "soundsOf", "(I)I"⟩, 8) := ⟨⟨by decide +kernel, by decide +kernel⟩, List.mem_of_getElem? (i := 19) (by decide +kernel), List.mem_of_getElem? (i := 664) (by decide +kernel), List.mem_of_getElem? (i := 665) (by decide +kernel)⟩
theorem lw_p21 : lw_okq (⟨"TurningVerse", "withStanza", "(JI)J"⟩, 8) := ⟨⟨by decide +kernel, by decide +kernel⟩, List.mem_of_getElem? (i := 19) (by decide +kernel), List.mem_of_getElem? (i := 729) (by decide +kernel), List.mem_of_getElem? (i := 730) (by decide +kernel)⟩
theorem lw_p22 : lw_okq (⟨"TurningVerse", "withTail", "(J)J"⟩, 8) := ⟨⟨by decide +kernel, by decide +kernel⟩, List.mem_of_getElem? (i := 19) (by decide +kernel), List.mem_of_getElem? (i := 737) (by decide +kernel), List.mem_of_getElem? (i := 738) (by decide +kernel)⟩
theorem lw_p23 : lw_okq (⟨"TurningVerseModel", "resets", "(I)V"⟩, 18) := ⟨⟨by decide +kernel, by decide +kernel⟩, List.mem_of_getElem? (i := 743) (by decide +kernel), List.mem_of_getElem? (i := 749) (by decide +kernel), List.mem_of_getElem? (i := 750) (by decide +kernel)⟩
theorem lw_p24 : lw_okq (⟨"TurningVerseModel", "records", "()V"⟩, 18) := ⟨⟨by decide +kernel, by decide +kernel⟩, List.mem_of_getElem? (i := 743) (by decide +kernel), List.mem_of_getElem? (i := 815) (by decide +kernel), List.mem_of_getElem? (i := 816) (by decide +kernel)⟩
theorem lw_p25 : lw_okq (⟨"TurningVerseModel", "size", "()I"⟩, 18) := ⟨⟨by decide +kernel, by decide +kernel⟩, List.mem_of_getElem? (i := 743) (by decide +kernel), List.mem_of_getElem? (i := 819) (by decide +kernel), List.mem_of_getElem? (i := 820) (by decide +kernel)⟩
theorem lw_p26 : lw_okq (⟨"TurningVerseModel", "empties", "()V"⟩, 18) := ⟨⟨by decide +kernel, by decide +kernel⟩, List.mem_of_getElem? (i := 743) (by decide +kernel), List.mem_of_getElem? (i := 823) (by decide +kernel), List.mem_of_getElem? (i := 824) (by decide +kernel)⟩
theorem lw_p27 : lw_okq (⟨"TurningVerseModel", "isLine", "(I)Z"⟩, 18) := ⟨⟨by decide +kernel, by decide +kernel⟩, List.mem_of_getElem? (i := 743) (by decide +kernel), List.mem_of_getElem? (i := 831) (by decide +kernel), List.mem_of_getElem? (i := 832) (by decide +kernel)⟩
theorem lw_p28 : lw_okq (⟨"TurningVerseModel", "identity", "([I)V"⟩, 18) := ⟨⟨by decide +kernel, by decide +kernel⟩, List.mem_of_getElem? (i := 743) (by decide +kernel), List.mem_of_getElem? (i := 842) (by decide +kernel), List.mem_of_getElem? (i := 843) (by decide +kernel)⟩
theorem lw_p29 : lw_okq (⟨"TurningVerseModel", "puts", "([II)V"⟩, 18) := ⟨⟨by decide +kernel, by decide +kernel⟩, List.mem_of_getElem? (i := 743) (by decide +kernel), List.mem_of_getElem? (i := 846) (by decide +kernel), List.mem_of_getElem? (i := 847) (by decide +kernel)⟩
theorem lw_p30 : lw_okq (⟨"TurningVerseModel", "rank", "([I)I"⟩, 18) := ⟨⟨by decide +kernel, by decide +kernel⟩, List.mem_of_getElem? (i := 743) (by decide +kernel), List.mem_of_getElem? (i := 850) (by decide +kernel), List.mem_of_getElem? (i := 851) (by decide +kernel)⟩
theorem lw_p31 : lw_okq (⟨"TurningVerseModel", "takes", "(I[I)V"⟩, 18) := ⟨⟨by decide +kernel, by decide +kernel⟩, List.mem_of_getElem? (i := 743) (by decide +kernel), List.mem_of_getElem? (i := 858) (by decide +kernel), List.mem_of_getElem? (i := 859) (by decide +kernel)⟩
def lw_privs_2 : List (MethodName × Nat) := [(⟨"TurningVerse$Fit", "firstWord", "(II)I"⟩, 4), (⟨"TurningVerse$Fit", "atMostKept", "()I"⟩, 4), (⟨"TurningVerse$Fit", "mostOfLine", "(I)I"⟩, 4), (⟨"TurningVerse$Fit", "mostOfWord", "(I)I"⟩, 4), (⟨"TurningVerse", "soundsOf", "(I)I"⟩, 8), (⟨"TurningVerse", "withStanza", "(JI)J"⟩, 8), (⟨"TurningVerse", "withTail", "(J)J"⟩, 8), (⟨"TurningVerseModel", "resets", "(I)V"⟩, 18), (⟨"TurningVerseModel", "records", "()V"⟩, 18), (⟨"TurningVerseModel", "size", "()I"⟩, 18), (⟨"TurningVerseModel", "empties", "()V"⟩, 18), (⟨"TurningVerseModel", "isLine", "(I)Z"⟩, 18), (⟨"TurningVerseModel", "identity", "([I)V"⟩, 18), (⟨"TurningVerseModel", "puts", "([II)V"⟩, 18), (⟨"TurningVerseModel", "rank", "([I)I"⟩, 18), (⟨"TurningVerseModel", "takes", "(I[I)V"⟩, 18)]
theorem lw_r2 : ∀ q ∈ lw_privs_2, lw_okq q := List.forall_mem_cons.mpr ⟨lw_p16, List.forall_mem_cons.mpr ⟨lw_p17, List.forall_mem_cons.mpr ⟨lw_p18, List.forall_mem_cons.mpr ⟨lw_p19, List.forall_mem_cons.mpr ⟨lw_p20, List.forall_mem_cons.mpr ⟨lw_p21, List.forall_mem_cons.mpr ⟨lw_p22, List.forall_mem_cons.mpr ⟨lw_p23, List.forall_mem_cons.mpr ⟨lw_p24, List.forall_mem_cons.mpr ⟨lw_p25, List.forall_mem_cons.mpr ⟨lw_p26, List.forall_mem_cons.mpr ⟨lw_p27, List.forall_mem_cons.mpr ⟨lw_p28, List.forall_mem_cons.mpr ⟨lw_p29, List.forall_mem_cons.mpr ⟨lw_p30, List.forall_mem_cons.mpr ⟨lw_p31, fun _ h => absurd h List.not_mem_nil⟩⟩⟩⟩⟩⟩⟩⟩⟩⟩⟩⟩⟩⟩⟩⟩
theorem lw_p32 : lw_okq (⟨"TurningVerseModel", "multiplies", "([I[I[I)V"⟩, 18) := ⟨⟨by decide +kernel, by decide +kernel⟩, List.mem_of_getElem? (i := 743) (by decide +kernel), List.mem_of_getElem? (i := 862) (by decide +kernel), List.mem_of_getElem? (i := 863) (by decide +kernel)⟩
theorem lw_p33 : lw_okq (⟨"TurningVerseModel", "orderOf", "([I)I"⟩, 18) := ⟨⟨by decide +kernel, by decide +kernel⟩, List.mem_of_getElem? (i := 743) (by decide +kernel), List.mem_of_getElem? (i := 872) (by decide +kernel), List.mem_of_getElem? (i := 873) (by decide +kernel)⟩
theorem lw_p34 : lw_okq (⟨"TurningVerseModel", "cycleOf", "([II)I"⟩, 18) := ⟨⟨by decide +kernel, by decide +kernel⟩, List.mem_of_getElem? (i := 743) (by decide +kernel), List.mem_of_getElem? (i := 876) (by decide +kernel), List.mem_of_getElem? (i := 877) (by decide +kernel)⟩
theorem lw_p35 : lw_okq (⟨"TurningVerseModel", "raises", "([II[I)V"⟩, 18) := ⟨⟨by decide +kernel, by decide +kernel⟩, List.mem_of_getElem? (i := 743) (by decide +kernel), List.mem_of_getElem? (i := 880) (by decide +kernel), List.mem_of_getElem? (i := 881) (by decide +kernel)⟩
theorem lw_p36 : lw_okq (⟨"TurningVerseModel", "factorial", "()I"⟩, 18) := ⟨⟨by decide +kernel, by decide +kernel⟩, List.mem_of_getElem? (i := 743) (by decide +kernel), List.mem_of_getElem? (i := 888) (by decide +kernel), List.mem_of_getElem? (i := 889) (by decide +kernel)⟩
theorem lw_p37 : lw_okq (⟨"TurningVerseModel", "unranks", "(I[I)V"⟩, 18) := ⟨⟨by decide +kernel, by decide +kernel⟩, List.mem_of_getElem? (i := 743) (by decide +kernel), List.mem_of_getElem? (i := 892) (by decide +kernel), List.mem_of_getElem? (i := 893) (by decide +kernel)⟩
theorem lw_p38 : lw_okq (⟨"TurningVerseModel", "isSame", "([I[I)Z"⟩, 18) := ⟨⟨by decide +kernel, by decide +kernel⟩, List.mem_of_getElem? (i := 743) (by decide +kernel), List.mem_of_getElem? (i := 900) (by decide +kernel), List.mem_of_getElem? (i := 901) (by decide +kernel)⟩
theorem lw_p39 : lw_okq (⟨"TurningVerseModel", "turnOf", "(II)I"⟩, 18) := ⟨⟨by decide +kernel, by decide +kernel⟩, List.mem_of_getElem? (i := 743) (by decide +kernel), List.mem_of_getElem? (i := 912) (by decide +kernel), List.mem_of_getElem? (i := 913) (by decide +kernel)⟩
theorem lw_p40 : lw_okq (⟨"TurningVerseModel", "isFirst", "([II)Z"⟩, 18) := ⟨⟨by decide +kernel, by decide +kernel⟩, List.mem_of_getElem? (i := 743) (by decide +kernel), List.mem_of_getElem? (i := 916) (by decide +kernel), List.mem_of_getElem? (i := 917) (by decide +kernel)⟩
theorem lw_p41 : lw_okq (⟨"TurningVerseModel", "walks", "(I)V"⟩, 18) := ⟨⟨by decide +kernel, by decide +kernel⟩, List.mem_of_getElem? (i := 743) (by decide +kernel), List.mem_of_getElem? (i := 931) (by decide +kernel), List.mem_of_getElem? (i := 932) (by decide +kernel)⟩
theorem lw_p42 : lw_okq (⟨"TurningVerseModel", "rests", "(I)V"⟩, 18) := ⟨⟨by decide +kernel, by decide +kernel⟩, List.mem_of_getElem? (i := 743) (by decide +kernel), List.mem_of_getElem? (i := 943) (by decide +kernel), List.mem_of_getElem? (i := 944) (by decide +kernel)⟩
theorem lw_p43 : lw_okq (⟨"TurningVerseModel", "reads", "()Z"⟩, 18) := ⟨⟨by decide +kernel, by decide +kernel⟩, List.mem_of_getElem? (i := 743) (by decide +kernel), List.mem_of_getElem? (i := 959) (by decide +kernel), List.mem_of_getElem? (i := 960) (by decide +kernel)⟩
theorem lw_p44 : lw_okq (⟨"TurningVerseModel", "readsFirst", "()Z"⟩, 18) := ⟨⟨by decide +kernel, by decide +kernel⟩, List.mem_of_getElem? (i := 743) (by decide +kernel), List.mem_of_getElem? (i := 963) (by decide +kernel), List.mem_of_getElem? (i := 964) (by decide +kernel)⟩
theorem lw_p45 : lw_okq (⟨"TurningVerseModel", "isLetter", "(II)Z"⟩, 18) := ⟨⟨by decide +kernel, by decide +kernel⟩, List.mem_of_getElem? (i := 743) (by decide +kernel), List.mem_of_getElem? (i := 967) (by decide +kernel), List.mem_of_getElem? (i := 968) (by decide +kernel)⟩
theorem lw_p46 : lw_okq (⟨"TurningVerseModel", "byteAt", "(I)I"⟩, 18) := ⟨⟨by decide +kernel, by decide +kernel⟩, List.mem_of_getElem? (i := 743) (by decide +kernel), List.mem_of_getElem? (i := 971) (by decide +kernel), List.mem_of_getElem? (i := 972) (by decide +kernel)⟩
theorem lw_p47 : lw_okq (⟨"TurningVerseModel", "readsStanza", "()Z"⟩, 18) := ⟨⟨by decide +kernel, by decide +kernel⟩, List.mem_of_getElem? (i := 743) (by decide +kernel), List.mem_of_getElem? (i := 975) (by decide +kernel), List.mem_of_getElem? (i := 976) (by decide +kernel)⟩
def lw_privs_3 : List (MethodName × Nat) := [(⟨"TurningVerseModel", "multiplies", "([I[I[I)V"⟩, 18), (⟨"TurningVerseModel", "orderOf", "([I)I"⟩, 18), (⟨"TurningVerseModel", "cycleOf", "([II)I"⟩, 18), (⟨"TurningVerseModel", "raises", "([II[I)V"⟩, 18), (⟨"TurningVerseModel", "factorial", "()I"⟩, 18), (⟨"TurningVerseModel", "unranks", "(I[I)V"⟩, 18), (⟨"TurningVerseModel", "isSame", "([I[I)Z"⟩, 18), (⟨"TurningVerseModel", "turnOf", "(II)I"⟩, 18), (⟨"TurningVerseModel", "isFirst", "([II)Z"⟩, 18), (⟨"TurningVerseModel", "walks", "(I)V"⟩, 18), (⟨"TurningVerseModel", "rests", "(I)V"⟩, 18), (⟨"TurningVerseModel", "reads", "()Z"⟩, 18), (⟨"TurningVerseModel", "readsFirst", "()Z"⟩, 18), (⟨"TurningVerseModel", "isLetter", "(II)Z"⟩, 18), (⟨"TurningVerseModel", "byteAt", "(I)I"⟩, 18), (⟨"TurningVerseModel", "readsStanza", "()Z"⟩, 18)]
theorem lw_r3 : ∀ q ∈ lw_privs_3, lw_okq q := List.forall_mem_cons.mpr ⟨lw_p32, List.forall_mem_cons.mpr ⟨lw_p33, List.forall_mem_cons.mpr ⟨lw_p34, List.forall_mem_cons.mpr ⟨lw_p35, List.forall_mem_cons.mpr ⟨lw_p36, List.forall_mem_cons.mpr ⟨lw_p37, List.forall_mem_cons.mpr ⟨lw_p38, List.forall_mem_cons.mpr ⟨lw_p39, List.forall_mem_cons.mpr ⟨lw_p40, List.forall_mem_cons.mpr ⟨lw_p41, List.forall_mem_cons.mpr ⟨lw_p42, List.forall_mem_cons.mpr ⟨lw_p43, List.forall_mem_cons.mpr ⟨lw_p44, List.forall_mem_cons.mpr ⟨lw_p45, List.forall_mem_cons.mpr ⟨lw_p46, List.forall_mem_cons.mpr ⟨lw_p47, fun _ h => absurd h List.not_mem_nil⟩⟩⟩⟩⟩⟩⟩⟩⟩⟩⟩⟩⟩⟩⟩⟩
theorem lw_p48 : lw_okq (⟨"TurningVerseModel", "readsTail", "()Z"⟩, 18) := ⟨⟨by decide +kernel, by decide +kernel⟩, List.mem_of_getElem? (i := 743) (by decide +kernel), List.mem_of_getElem? (i := 979) (by decide +kernel), List.mem_of_getElem? (i := 980) (by decide +kernel)⟩
theorem lw_p49 : lw_okq (⟨"TurningVerseModel", "readsTurn", "()Z"⟩, 18) := ⟨⟨by decide +kernel, by decide +kernel⟩, List.mem_of_getElem? (i := 743) (by decide +kernel), List.mem_of_getElem? (i := 987) (by decide +kernel), List.mem_of_getElem? (i := 988) (by decide +kernel)⟩
theorem lw_p50 : lw_okq (⟨"TurningVerseModel", "placeOf", "(II)I"⟩, 18) := ⟨⟨by decide +kernel, by decide +kernel⟩, List.mem_of_getElem? (i := 743) (by decide +kernel), List.mem_of_getElem? (i := 995) (by decide +kernel), List.mem_of_getElem? (i := 996) (by decide +kernel)⟩
theorem lw_p51 : lw_okq (⟨"TurningVerseModel", "isStanza", "(I)Z"⟩, 18) := ⟨⟨by decide +kernel, by decide +kernel⟩, List.mem_of_getElem? (i := 743) (by decide +kernel), List.mem_of_getElem? (i := 1007) (by decide +kernel), List.mem_of_getElem? (i := 1008) (by decide +kernel)⟩
theorem lw_p52 : lw_okq (⟨"TurningVerseModel", "isProper", "(I)Z"⟩, 18) := ⟨⟨by decide +kernel, by decide +kernel⟩, List.mem_of_getElem? (i := 743) (by decide +kernel), List.mem_of_getElem? (i := 1023) (by decide +kernel), List.mem_of_getElem? (i := 1024) (by decide +kernel)⟩
theorem lw_p53 : lw_okq (⟨"TurningVerseModel", "turningOf", "(I)I"⟩, 18) := ⟨⟨by decide +kernel, by decide +kernel⟩, List.mem_of_getElem? (i := 743) (by decide +kernel), List.mem_of_getElem? (i := 1031) (by decide +kernel), List.mem_of_getElem? (i := 1032) (by decide +kernel)⟩
theorem lw_p54 : lw_okq (⟨"TurningVerseModel", "turns", "(I)V"⟩, 18) := ⟨⟨by decide +kernel, by decide +kernel⟩, List.mem_of_getElem? (i := 743) (by decide +kernel), List.mem_of_getElem? (i := 1035) (by decide +kernel), List.mem_of_getElem? (i := 1036) (by decide +kernel)⟩
theorem lw_p55 : lw_okq (⟨"TurningVerseModel", "followed", "()I"⟩, 18) := ⟨⟨by decide +kernel, by decide +kernel⟩, List.mem_of_getElem? (i := 743) (by decide +kernel), List.mem_of_getElem? (i := 1043) (by decide +kernel), List.mem_of_getElem? (i := 1044) (by decide +kernel)⟩
theorem lw_p56 : lw_okq (⟨"TurningVerseModel", "isFollowed", "(I)Z"⟩, 18) := ⟨⟨by decide +kernel, by decide +kernel⟩, List.mem_of_getElem? (i := 743) (by decide +kernel), List.mem_of_getElem? (i := 1051) (by decide +kernel), List.mem_of_getElem? (i := 1052) (by decide +kernel)⟩
theorem lw_p57 : lw_okq (⟨"TurningVerseModel", "wrong", "(I)I"⟩, 18) := ⟨⟨by decide +kernel, by decide +kernel⟩, List.mem_of_getElem? (i := 743) (by decide +kernel), List.mem_of_getElem? (i := 1059) (by decide +kernel), List.mem_of_getElem? (i := 1060) (by decide +kernel)⟩
theorem lw_p58 : lw_okq (⟨"TurningVerseModel", "costOf", "([I)I"⟩, 18) := ⟨⟨by decide +kernel, by decide +kernel⟩, List.mem_of_getElem? (i := 743) (by decide +kernel), List.mem_of_getElem? (i := 1063) (by decide +kernel), List.mem_of_getElem? (i := 1064) (by decide +kernel)⟩
theorem lw_p59 : lw_okq (⟨"TurningVerseModel", "missing", "()I"⟩, 18) := ⟨⟨by decide +kernel, by decide +kernel⟩, List.mem_of_getElem? (i := 743) (by decide +kernel), List.mem_of_getElem? (i := 1079) (by decide +kernel), List.mem_of_getElem? (i := 1080) (by decide +kernel)⟩
theorem lw_p60 : lw_okq (⟨"TurningVerseModel", "tailWords", "()I"⟩, 18) := ⟨⟨by decide +kernel, by decide +kernel⟩, List.mem_of_getElem? (i := 743) (by decide +kernel), List.mem_of_getElem? (i := 1083) (by decide +kernel), List.mem_of_getElem? (i := 1084) (by decide +kernel)⟩
theorem lw_p61 : lw_okq (⟨"TurningVerseModel", "takesVerse", "(I)V"⟩, 18) := ⟨⟨by decide +kernel, by decide +kernel⟩, List.mem_of_getElem? (i := 743) (by decide +kernel), List.mem_of_getElem? (i := 1095) (by decide +kernel), List.mem_of_getElem? (i := 1096) (by decide +kernel)⟩
theorem lw_p62 : lw_okq (⟨"TurningVerseModel", "schemeOfVerse", "()I"⟩, 18) := ⟨⟨by decide +kernel, by decide +kernel⟩, List.mem_of_getElem? (i := 743) (by decide +kernel), List.mem_of_getElem? (i := 1099) (by decide +kernel), List.mem_of_getElem? (i := 1100) (by decide +kernel)⟩
theorem lw_p63 : lw_okq (⟨"TurningVerseModel", "soundAt", "(I)I"⟩, 18) := ⟨⟨by decide +kernel, by decide +kernel⟩, List.mem_of_getElem? (i := 743) (by decide +kernel), List.mem_of_getElem? (i := 1103) (by decide +kernel), List.mem_of_getElem? (i := 1104) (by decide +kernel)⟩
def lw_privs_4 : List (MethodName × Nat) := [(⟨"TurningVerseModel", "readsTail", "()Z"⟩, 18), (⟨"TurningVerseModel", "readsTurn", "()Z"⟩, 18), (⟨"TurningVerseModel", "placeOf", "(II)I"⟩, 18), (⟨"TurningVerseModel", "isStanza", "(I)Z"⟩, 18), (⟨"TurningVerseModel", "isProper", "(I)Z"⟩, 18), (⟨"TurningVerseModel", "turningOf", "(I)I"⟩, 18), (⟨"TurningVerseModel", "turns", "(I)V"⟩, 18), (⟨"TurningVerseModel", "followed", "()I"⟩, 18), (⟨"TurningVerseModel", "isFollowed", "(I)Z"⟩, 18), (⟨"TurningVerseModel", "wrong", "(I)I"⟩, 18), (⟨"TurningVerseModel", "costOf", "([I)I"⟩, 18), (⟨"TurningVerseModel", "missing", "()I"⟩, 18), (⟨"TurningVerseModel", "tailWords", "()I"⟩, 18), (⟨"TurningVerseModel", "takesVerse", "(I)V"⟩, 18), (⟨"TurningVerseModel", "schemeOfVerse", "()I"⟩, 18), (⟨"TurningVerseModel", "soundAt", "(I)I"⟩, 18)]
theorem lw_r4 : ∀ q ∈ lw_privs_4, lw_okq q := List.forall_mem_cons.mpr ⟨lw_p48, List.forall_mem_cons.mpr ⟨lw_p49, List.forall_mem_cons.mpr ⟨lw_p50, List.forall_mem_cons.mpr ⟨lw_p51, List.forall_mem_cons.mpr ⟨lw_p52, List.forall_mem_cons.mpr ⟨lw_p53, List.forall_mem_cons.mpr ⟨lw_p54, List.forall_mem_cons.mpr ⟨lw_p55, List.forall_mem_cons.mpr ⟨lw_p56, List.forall_mem_cons.mpr ⟨lw_p57, List.forall_mem_cons.mpr ⟨lw_p58, List.forall_mem_cons.mpr ⟨lw_p59, List.forall_mem_cons.mpr ⟨lw_p60, List.forall_mem_cons.mpr ⟨lw_p61, List.forall_mem_cons.mpr ⟨lw_p62, List.forall_mem_cons.mpr ⟨lw_p63, fun _ h => absurd h List.not_mem_nil⟩⟩⟩⟩⟩⟩⟩⟩⟩⟩⟩⟩⟩⟩⟩⟩
theorem lw_p64 : lw_okq (⟨"TurningVerseModel", "properMany", "()I"⟩, 18) := ⟨⟨by decide +kernel, by decide +kernel⟩, List.mem_of_getElem? (i := 743) (by decide +kernel), List.mem_of_getElem? (i := 1119) (by decide +kernel), List.mem_of_getElem? (i := 1120) (by decide +kernel)⟩
theorem lw_p65 : lw_okq (⟨"TurningVerseModel", "locked", "()I"⟩, 18) := ⟨⟨by decide +kernel, by decide +kernel⟩, List.mem_of_getElem? (i := 743) (by decide +kernel), List.mem_of_getElem? (i := 1123) (by decide +kernel), List.mem_of_getElem? (i := 1124) (by decide +kernel)⟩
theorem lw_p66 : lw_okq (⟨"TurningVerseModel", "mixedStanza", "(JI)J"⟩, 18) := ⟨⟨by decide +kernel, by decide +kernel⟩, List.mem_of_getElem? (i := 743) (by decide +kernel), List.mem_of_getElem? (i := 1138) (by decide +kernel), List.mem_of_getElem? (i := 1139) (by decide +kernel)⟩
theorem lw_p67 : lw_okq (⟨"TurningVerseModel", "mixedTail", "(J)J"⟩, 18) := ⟨⟨by decide +kernel, by decide +kernel⟩, List.mem_of_getElem? (i := 743) (by decide +kernel), List.mem_of_getElem? (i := 1143) (by decide +kernel), List.mem_of_getElem? (i := 1144) (by decide +kernel)⟩
def lw_privs_5 : List (MethodName × Nat) := [(⟨"TurningVerseModel", "properMany", "()I"⟩, 18), (⟨"TurningVerseModel", "locked", "()I"⟩, 18), (⟨"TurningVerseModel", "mixedStanza", "(JI)J"⟩, 18), (⟨"TurningVerseModel", "mixedTail", "(J)J"⟩, 18)]
theorem lw_r5 : ∀ q ∈ lw_privs_5, lw_okq q := List.forall_mem_cons.mpr ⟨lw_p64, List.forall_mem_cons.mpr ⟨lw_p65, List.forall_mem_cons.mpr ⟨lw_p66, List.forall_mem_cons.mpr ⟨lw_p67, fun _ h => absurd h List.not_mem_nil⟩⟩⟩⟩
def lw_privs : List (MethodName × Nat) := lw_privs_1 ++ (lw_privs_2 ++ (lw_privs_3 ++ (lw_privs_4 ++ (lw_privs_5))))
def lw_tbl : List Cond := k2_sels lw_privs ++ tables_1
theorem lw_privs_ok : ∀ q ∈ lw_privs, lw_okq q := by
  show ∀ q ∈ lw_privs_1 ++ (lw_privs_2 ++ (lw_privs_3 ++ (lw_privs_4 ++ (lw_privs_5)))), lw_okq q
  exact List.forall_mem_append.mpr ⟨lw_r1, List.forall_mem_append.mpr ⟨lw_r2, List.forall_mem_append.mpr ⟨lw_r3, List.forall_mem_append.mpr ⟨lw_r4, lw_r5⟩⟩⟩⟩
-- ===== end of PART A =====
def lw_g : List Cond := lw_tbl.filter goodWord
theorem lw_gm {w : Cond} (i : Nat) (h : lw_tbl[i]? = some w) (hg : goodWord w = true) : w ∈ lw_g := List.mem_filter.mpr ⟨List.mem_of_getElem? h, hg⟩
theorem lw_gt {w : Cond} (h : w ∈ lw_g) : w ∈ lw_tbl := (List.mem_filter.mp h).1
theorem lw_all : lw_g.all goodWord = true := List.all_eq_true.mpr fun _ h => (List.mem_filter.mp h).2
abbrev xR0 : String := "TurningVerse$Fit"
def xT0 : u_T := fun k => match k with
  | 0 => ("TurningVerse$Fit", "n", "I", false)
  | 1 => ("TurningVerse$Fit", "kept", "[I", true)
  | 2 => ("TurningVerse$Fit", "allowed", "[I", true)
  | _ => ("TurningVerse$Fit", "most", "[I", true)
abbrev xR1 : String := "TurningVerse$History"
def xT1 : u_T := fun k => match k with
  | 0 => ("TurningVerse$History", "count", "I", false)
  | 1 => ("TurningVerse$History", "next", "I", false)
  | _ => ("TurningVerse$History", "states", "[LTurningVerse$State;", true)
abbrev xR2 : String := "TurningVerse$Poem"
def xT2 : u_T := fun k => match k with
  | 0 => ("TurningVerse$Poem", "count", "I", false)
  | 1 => ("TurningVerse$Poem", "tailLines", "I", false)
  | 2 => ("TurningVerse$Poem", "rows", "[I", true)
  | 3 => ("TurningVerse$Poem", "locks", "[I", true)
  | 4 => ("TurningVerse$Poem", "tailRows", "[I", true)
  | _ => ("TurningVerse$Poem", "tailLengths", "[I", true)
abbrev xR3 : String := "TurningVerse$PoemReader"
def xT3 : u_T := fun k => match k with
  | 0 => ("TurningVerse$PoemReader", "n", "I", false)
  | 1 => ("TurningVerse$PoemReader", "poem", "LTurningVerse$Poem;", true)
  | _ => ("TurningVerse$PoemReader", "pos", "I", false)
abbrev xR4 : String := "TurningVerse$Search"
def xT4 : u_T := fun k => match k with
  | 0 => ("TurningVerse$Search", "count", "I", false)
  | 1 => ("TurningVerse$Search", "n", "I", false)
  | 2 => ("TurningVerse$Search", "set", "I", false)
  | 3 => ("TurningVerse$Search", "factors", "[I", true)
  | 4 => ("TurningVerse$Search", "found", "[I", true)
  | _ => ("TurningVerse$Search", "depths", "[I", true)
abbrev xR5 : String := "TurningVerse$State"
def xT5 : u_T := fun k => match k with
  | 0 => ("TurningVerse$State", "n", "I", false)
  | 1 => ("TurningVerse$State", "sounds", "I", false)
  | 2 => ("TurningVerse$State", "registers", "[I", true)
  | _ => ("TurningVerse$State", "poem", "LTurningVerse$Poem;", true)
abbrev xR6 : String := "TurningVerse$Text"
def xT6 : u_T := fun k => match k with
  | 0 => ("TurningVerse$Text", "length", "I", false)
  | _ => ("TurningVerse$Text", "bytes", "[I", true)
abbrev xR7 : String := "TurningVerse$TurnReader"
def xT7 : u_T := fun k => match k with
  | _ => ("TurningVerse$TurnReader", "permutation", "I", false)
abbrev xR8 : String := "TurningVerse"
def xT8 : u_T := fun k => match k with
  | 0 => ("TurningVerse", "now", "LTurningVerse$State;", true)
  | 1 => ("TurningVerse", "history", "LTurningVerse$History;", true)
  | 2 => ("TurningVerse", "text", "LTurningVerse$Text;", true)
  | 3 => ("TurningVerse", "poemReader", "LTurningVerse$PoemReader;", true)
  | 4 => ("TurningVerse", "turnReader", "LTurningVerse$TurnReader;", true)
  | 5 => ("TurningVerse", "search", "LTurningVerse$Search;", true)
  | 6 => ("TurningVerse", "fit", "LTurningVerse$Fit;", true)
  | _ => ("TurningVerse", "schemesSeen", "[I", true)
abbrev xR9 : String := "TurningVerseModel"
def xT9 : u_T := fun k => match k with
  | 0 => ("TurningVerseModel", "page", "[I", true)
  | 1 => ("TurningVerseModel", "remembered", "I", false)
  | 2 => ("TurningVerseModel", "text", "[I", true)
  | 3 => ("TurningVerseModel", "typed", "I", false)
  | 4 => ("TurningVerseModel", "row", "[I", true)
  | 5 => ("TurningVerseModel", "other", "[I", true)
  | 6 => ("TurningVerseModel", "third", "[I", true)
  | 7 => ("TurningVerseModel", "far", "[I", true)
  | 8 => ("TurningVerseModel", "line", "[I", true)
  | 9 => ("TurningVerseModel", "lines", "I", false)
  | 10 => ("TurningVerseModel", "made", "[I", true)
  | 11 => ("TurningVerseModel", "madeWords", "I", false)
  | 12 => ("TurningVerseModel", "spot", "I", false)
  | 13 => ("TurningVerseModel", "prices", "[I", true)
  | 14 => ("TurningVerseModel", "least", "[I", true)
  | 15 => ("TurningVerseModel", "verse", "[I", true)
  | 16 => ("TurningVerseModel", "turned", "[I", true)
  | _ => ("TurningVerseModel", "seen", "[I", true)
abbrev xcl : List vw_C := [(xR0, xT0, 4), (xR1, xT1, 3), (xR2, xT2, 6), (xR3, xT3, 3), (xR4, xT4, 6), (xR5, xT5, 4), (xR6, xT6, 2), (xR7, xT7, 1), (xR8, xT8, 8), (xR9, xT9, 18)]
def xfty (ci k : Nat) : FieldType := match ci with
  | 0 => match k with
    | 0 => .int
    | 1 => .array .int
    | 2 => .array .int
    | _ => .array .int
  | 1 => match k with
    | 0 => .int
    | 1 => .int
    | _ => .array (.object "TurningVerse$State")
  | 2 => match k with
    | 0 => .int
    | 1 => .int
    | 2 => .array .int
    | 3 => .array .int
    | 4 => .array .int
    | _ => .array .int
  | 3 => match k with
    | 0 => .int
    | 1 => .object "TurningVerse$Poem"
    | _ => .int
  | 4 => match k with
    | 0 => .int
    | 1 => .int
    | 2 => .int
    | 3 => .array .int
    | 4 => .array .int
    | _ => .array .int
  | 5 => match k with
    | 0 => .int
    | 1 => .int
    | 2 => .array .int
    | _ => .object "TurningVerse$Poem"
  | 6 => match k with
    | 0 => .int
    | _ => .array .int
  | 7 => match k with
    | _ => .int
  | 8 => match k with
    | 0 => .object "TurningVerse$State"
    | 1 => .object "TurningVerse$History"
    | 2 => .object "TurningVerse$Text"
    | 3 => .object "TurningVerse$PoemReader"
    | 4 => .object "TurningVerse$TurnReader"
    | 5 => .object "TurningVerse$Search"
    | 6 => .object "TurningVerse$Fit"
    | _ => .array .int
  | 9 => match k with
    | 0 => .array .int
    | 1 => .int
    | 2 => .array .int
    | 3 => .int
    | 4 => .array .int
    | 5 => .array .int
    | 6 => .array .int
    | 7 => .array .int
    | 8 => .array .int
    | 9 => .int
    | 10 => .array .int
    | 11 => .int
    | 12 => .int
    | 13 => .array .int
    | 14 => .array .int
    | 15 => .array .int
    | 16 => .array .int
    | _ => .array .int
  | _ => .int
def xdef (ci : Nat) : List Value := match ci with
  | 0 => [.int 0, .null, .null, .null]
  | 1 => [.int 0, .int 0, .null]
  | 2 => [.int 0, .int 0, .null, .null, .null, .null]
  | 3 => [.int 0, .null, .int 0]
  | 4 => [.int 0, .int 0, .int 0, .null, .null, .null]
  | 5 => [.int 0, .int 0, .null, .null]
  | 6 => [.int 0, .null]
  | 7 => [.int 0]
  | 8 => [.null, .null, .null, .null, .null, .null, .null, .null]
  | 9 => [.null, .int 0, .null, .int 0, .null, .null, .null, .null, .null, .int 0, .null, .int 0, .int 0, .null, .null, .null, .null, .null]
  | _ => []
abbrev xrn : String := "TurningVerse$State"
abbrev xrc : Nat := 5
theorem xrc_ok : ∃ rc, xcl[xrc]? = some rc ∧ rc.1 = xrn := ⟨_, rfl, rfl⟩
end
section
/-! THE ABSTRACT MACHINE: heaps as functions of relative addresses, a generator of conditions (wp) over the decoded code, and its soundness over the kit's W -/
abbrev xE : Type := (Nat × (Nat → Int32)) ⊕ ((Nat × (Nat → Option Nat)) ⊕ (Nat × List Value))
abbrev xia (n : Nat) (f : Nat → Int32) : xE := .inl (n, f)
abbrev xra (n : Nat) (g : Nat → Option Nat) : xE := .inr (.inl (n, g))
abbrev xob (c : Nat) (fs : List Value) : xE := .inr (.inr (c, fs))
abbrev xHp : Type := Nat × Nat × (Nat → xE)
def xat (h : xHp) (a : Nat) (e : xE) : Prop := a < h.1 ∧ h.2.2 a = e
def xset (h : xHp) (a : Nat) (e : xE) : xHp := (h.1, h.2.1, va_up h.2.2 a e)
def xnew (h : xHp) (n : Nat) (e : xE) : xHp := (h.1 + 1, h.2.1 + n, va_up h.2.2 h.1 e)
abbrev xLo : Type := List (Nat × Value)
def xcv (b : Nat) : Value → Value
  | .ref k => .ref (b + k)
  | v => v
def xce (cI cR : ClassId) (b : Nat) : xE → va_E
  | .inl (n, f) => .inl (cI, (n, .inl f))
  | .inr (.inl (n, g)) => .inl (cR, (n, .inr (.inr (.inr (.inr (fun j => (g j).map (fun k => b + k)))))))
  | .inr (.inr (c, fs)) => .inr (c, fs.map (xcv b))
def xtys (cI cR : ClassId) : List (ClassId × FieldType) := [(cI, .int), (cR, .object xrn)]
def xWd (D : va_G) (cI cR : ClassId) (b : Nat) (h : xHp) (H : Heap) : Prop := H.size = b + h.1 ∧ ∀ k, k < h.1 → va_at D xcl (b + k, xce cI cR b (h.2.2 k)) H
def xKk (D : va_G) (cI cR : ClassId) (U : State) : Prop := va_K D xcl (xtys cI cR) U ∧ va_AO xrn U
theorem xKk.moved {D : va_G} {cI cR : ClassId} {u U : State} (hvm : u.vm.Alike U.vm) (h : xKk D cI cR u) : xKk D cI cR U := ⟨va_K.moved hvm h.1, va_AO.moved hvm h.2⟩
/-- a signature: name, bytes, locals, answer's type, frames, words of locals below, parameters, the receiver's class -/
abbrev xSig : Type := MethodName × ByteArray × Nat × Option FieldType × Nat × Nat × Nat × Option Nat
abbrev sgN (g : xSig) : MethodName := g.1
abbrev sgB (g : xSig) : ByteArray := g.2.1
abbrev sgL (g : xSig) : Nat := g.2.2.1
abbrev sgR (g : xSig) : Option FieldType := g.2.2.2.1
abbrev sgF (g : xSig) : Nat := g.2.2.2.2.1
abbrev sgO (g : xSig) : Nat := g.2.2.2.2.2.1
abbrev sgP (g : xSig) : Nat := g.2.2.2.2.2.2.1
abbrev sgV (g : xSig) : Option Nat := g.2.2.2.2.2.2.2
def xwd (g : xSig) : List Cond := Cond.code (sgN g) (sgB g) (sgL g) (sgR g) :: lw_g
def xrm (g : xSig) (mc ms : Nat) : Room := { frames := sgF g, cells := mc, slots := ms, locals := sgO g }
abbrev xL : Type := (Nat × Nat) ⊕ (xSig ⊕ (Int32 ⊕ (Int64 ⊕ (Nat × List (Int32 × Nat)))))
abbrev xI : Type := Instr × Nat × xL
abbrev xCd : Type := List (Nat × xI)
/-! the contract of a method at one start and one end -/
def xQc (D : va_G) (cI cR : ClassId) (b : Nat) (v : Option Value) (h' : xHp) : Array Value → State → Outcome → State → Prop := fun _ st o t => o = .returned (v.map (xcv b)) ∧ xWd D cI cR b h' t.heap ∧ xKk D cI cR t ∧ va_F (fun q => b ≤ q) st t
def xQ (D : va_G) (cI cR : ClassId) (b : Nat) (Q : Option Value → xHp → Prop) : Array Value → State → Outcome → State → Prop := fun a st o t => ∃ v h', Q v h' ∧ xQc D cI cR b v h' a st o t
def xrecv (g : xSig) (args : List Value) (h : xHp) : Prop := ∀ c, sgV g = some c → ∃ a fs As, args = .ref a :: As ∧ xat h a (xob c fs)
def SpecA (g : xSig) (args : List Value) (h : xHp) (v : Option Value) (h' : xHp) : Prop :=
  h.1 ≤ h'.1 ∧ h.2.1 ≤ h'.2.1 ∧ xrecv g args h ∧ ∀ (l : Launch) (D : va_G) (cI cR : ClassId) (b : Nat),
    Met l (sgN g) (xwd g) (xrm g (h'.1 - h.1) (h'.2.1 - h.2.1)) (va_Pc (args.map (xcv b)) (fun U => xWd D cI cR b h U.heap ∧ xKk D cI cR U)) (xQc D cI cR b v h') (h'.1 - h.1) (h'.2.1 - h.2.1) (fun q => b ≤ q)
def Spec (g : xSig) (args : List Value) (h : xHp) (v : Option Value) (h' : xHp) : Prop := SpecA g args h v h' ∧ h'.1 = h.1 ∧ h'.2.1 = h.2.1
/-! a point of a method's walk -/
def xFix (p : Program) (s : State) (m : MethodId) (args : Array Value) (meth : Method) (c : Code) (g : xSig) : Prop :=
  p.tables.exec = Jvm.exec ∧ c.code = sgB g ∧ meth.sig.returnType = sgR g ∧ meth.locks = false ∧ c.maxLocals = sgL g ∧ s.vm.findClass (sgN g).cls = some m.cls ∧ meth.name = (sgN g).name ∧ ∀ w ∈ xwd g, w.before args s = true
def xcL (b : Nat) (L : xLo) : xLo := L.map (fun q => (q.1, xcv b q.2))
def xCx (lim : Nat × Nat) (g : xSig) (D : va_G) (cI cR : ClassId) (b N0 S0 : Nat) (s : State) (h : xHp) (H : Heap) (locs : List Loc) : Prop :=
  xKk D cI cR s ∧ xWd D cI cR b h H ∧ va_S (fun q => b ≤ q) s.heap H locs ∧ b + N0 = s.heap.size ∧ N0 ≤ h.1 ∧ h.1 ≤ lim.1 ∧ S0 ≤ h.2.1 ∧ h.2.1 ≤ lim.2
def xAt (lim : Nat × Nat) (g : xSig) (Q : Option Value → xHp → Prop) (pc : Nat) (L : xLo) (st : List Value) (h : xHp) : Prop :=
  ∀ (p : Program) (l : Launch) (e : Env) (s : State) (m : MethodId) (args : Array Value) (below : List Frame) (meth : Method) (c : Code) (D : va_G) (cI cR : ClassId) (b N0 S0 : Nat) (H : Heap) (locs : List Loc) (ls : Array Slot),
    xFix p s m args meth c g → xCx lim g D cI cR b N0 S0 s h H locs → lv_has ls (sgL g) (xcL b L) →
    W p l e (xrm g (lim.1 - N0) (lim.2 - S0)) s m args below meth c H locs (h.1 - N0) (h.2.1 - S0) (MQ below (xQ D cI cR b Q) args s (lim.1 - N0) (lim.2 - S0) (fun q => b ≤ q)) (F0 m pc ls (st.map (xcv b)))
/-! locals -/
def xget : xLo → Nat → Option Value
  | [], _ => none
  | (j, v) :: L, i => bif Nat.beq j i then some v else xget L i
def xins : xLo → Nat → Value → xLo
  | [], i, v => [(i, v)]
  | (j, w) :: L, i, v => bif Nat.blt i j then (i, v) :: (j, w) :: L else (j, w) :: xins L i v
def xk1 (i : Nat) (q : Nat × Value) : Bool := !(q.1 == i) && !(q.1 + 1 == i && q.2.category == 2)
def xk2 (i : Nat) (q : Nat × Value) : Bool := !(q.1 == i) && (!(q.1 == i + 1) && !(q.1 + 1 == i && q.2.category == 2))
def xflt (p : Nat × Value → Bool) : xLo → xLo
  | [] => []
  | q :: L => bif p q then q :: xflt p L else xflt p L
def xput1 (L : xLo) (i : Nat) (v : Value) : xLo := xins (xflt (xk1 i) L) i v
def xput2 (L : xLo) (i : Nat) (v : Value) : xLo := xins (xflt (xk2 i) L) i v
def xmem : List Nat → Nat → Bool
  | [], _ => false
  | j :: l, i => bif Nat.beq j i then true else xmem l i
def xsel (L : xLo) (ks : List Nat) : xLo := xflt (fun q => xmem ks q.1) L
def xfind : xCd → Nat → Option xI
  | [], _ => none
  | (q, i) :: r, pc => bif Nat.beq q pc then some i else xfind r pc
def xcut : List (Nat × List Nat) → Nat → Option (List Nat)
  | [], _ => none
  | (q, i) :: r, pc => bif Nat.beq q pc then some i else xcut r pc
def xcats : List Value → Nat
  | [] => 0
  | v :: st => v.category + xcats st
theorem nb_eq {a b : Nat} (h : Nat.beq a b = true) : a = b := Nat.eq_of_beq_eq_true h
theorem nb_ne {a b : Nat} (h : Nat.beq a b = false) : ¬ a = b := Nat.ne_of_beq_eq_false h
theorem xget_mem : ∀ {L : xLo} {i : Nat} {v : Value}, xget L i = some v → (i, v) ∈ L
  | [], _, _, h => by cases h
  | (j, w) :: L, i, v, h => by
    unfold xget at h
    cases hb : Nat.beq j i with
    | true => rw [hb] at h; cases h; rw [nb_eq hb]; exact List.mem_cons_self
    | false => rw [hb] at h; exact List.mem_cons_of_mem _ (xget_mem h)
theorem xins_mem : ∀ {L : xLo} {i : Nat} {v : Value} {q : Nat × Value}, q ∈ xins L i v → q = (i, v) ∨ q ∈ L
  | [], _, _, _, h => by
    unfold xins at h
    exact Or.inl (List.mem_singleton.mp h)
  | (j, w) :: L, i, v, q, h => by
    unfold xins at h
    cases hb : Nat.blt i j with
    | true => rw [hb] at h; exact (List.mem_cons.mp h).elim Or.inl Or.inr
    | false =>
      rw [hb] at h
      rcases List.mem_cons.mp h with h | h
      · exact Or.inr (h ▸ List.mem_cons_self)
      · exact (xins_mem h).elim Or.inl (fun z => Or.inr (List.mem_cons_of_mem _ z))
theorem xflt_mem {p : Nat × Value → Bool} : ∀ {L : xLo} {q : Nat × Value}, q ∈ xflt p L → q ∈ L ∧ p q = true
  | [], _, h => by cases h
  | r :: L, q, h => by
    unfold xflt at h
    cases hb : p r with
    | true =>
      rw [hb] at h
      rcases List.mem_cons.mp h with h | h
      · subst h; exact ⟨List.mem_cons_self, hb⟩
      · exact ⟨List.mem_cons_of_mem _ (xflt_mem h).1, (xflt_mem h).2⟩
    | false => rw [hb] at h; exact ⟨List.mem_cons_of_mem _ (xflt_mem h).1, (xflt_mem h).2⟩
theorem xfind_mem : ∀ {cd : xCd} {pc : Nat} {i : xI}, xfind cd pc = some i → (pc, i) ∈ cd
  | [], _, _, h => by cases h
  | (j, w) :: L, i, v, h => by
    unfold xfind at h
    cases hb : Nat.beq j i with
    | true => rw [hb] at h; cases h; rw [nb_eq hb]; exact List.mem_cons_self
    | false => rw [hb] at h; exact List.mem_cons_of_mem _ (xfind_mem h)
theorem xcv_cat (b : Nat) (v : Value) : (xcv b v).category = v.category := by cases v <;> rfl
theorem xcats_eq (b : Nat) : ∀ st : List Value, ((st.map (xcv b)).map fun v => v.category).sum = xcats st
  | [] => rfl
  | v :: st => by
    simp only [List.map_cons, List.sum_cons, xcats, xcv_cat]
    rw [xcats_eq b st]
theorem xl_get {ls : Array Slot} {n b i : Nat} {L : xLo} {v : Value} (h : lv_has ls n (xcL b L)) (hg : xget L i = some v) : ls[i]? = some (.val (xcv b v)) :=
  h.2.2 (i, xcv b v) (List.mem_map.mpr ⟨(i, v), xget_mem hg, rfl⟩)
theorem xl_sub {ls : Array Slot} {n b : Nat} {L L' : xLo} (h : lv_has ls n (xcL b L)) (hs : ∀ q ∈ L', q ∈ L) : lv_has ls n (xcL b L') :=
  ⟨h.1, h.2.1, fun q hq => by
    obtain ⟨r, hr, rfl⟩ := List.mem_map.mp hq
    exact h.2.2 _ (List.mem_map.mpr ⟨r, hs r hr, rfl⟩)⟩
theorem xl_of {ls : Array Slot} {n : Nat} {l l' : xLo} (h : lv_has ls n l) (hs : ∀ q ∈ l', q ∈ l) : lv_has ls n l' := ⟨h.1, h.2.1, fun q hq => h.2.2 q (hs q hq)⟩
theorem xl_put1 {b : Nat} {L : xLo} {i : Nat} {v : Value} : ∀ q ∈ xcL b (xput1 L i v), q ∈ (i, xcv b v) :: (xcL b L).filter (fun q => !(q.1 == i) && !(q.1 + 1 == i && q.2.category == 2)) := by
  intro q hq
  obtain ⟨r, hr, rfl⟩ := List.mem_map.mp hq
  rcases xins_mem hr with h | h
  · subst h; exact List.mem_cons_self
  · obtain ⟨h1, h2⟩ := xflt_mem h
    refine List.mem_cons_of_mem _ (List.mem_filter.mpr ⟨List.mem_map.mpr ⟨r, h1, rfl⟩, ?_⟩)
    simp only [xcv_cat]
    exact h2
theorem xl_put2 {b : Nat} {L : xLo} {i : Nat} {v : Value} : ∀ q ∈ xcL b (xput2 L i v), q ∈ (i, xcv b v) :: (xcL b L).filter (fun q => !(q.1 == i) && (!(q.1 == i + 1) && !(q.1 + 1 == i && q.2.category == 2))) := by
  intro q hq
  obtain ⟨r, hr, rfl⟩ := List.mem_map.mp hq
  rcases xins_mem hr with h | h
  · subst h; exact List.mem_cons_self
  · obtain ⟨h1, h2⟩ := xflt_mem h
    refine List.mem_cons_of_mem _ (List.mem_filter.mpr ⟨List.mem_map.mpr ⟨r, h1, rfl⟩, ?_⟩)
    simp only [xcv_cat]
    exact h2
theorem xAt_sub {lim : Nat × Nat} {g : xSig} {Q : Option Value → xHp → Prop} {pc : Nat} {L L' : xLo} {st : List Value} {h : xHp} (k : xAt lim g Q pc L' st h) (hs : ∀ q ∈ L', q ∈ L) : xAt lim g Q pc L st h :=
  fun p l e s m args below meth c D cI cR b N0 S0 H locs ls X C hl => k p l e s m args below meth c D cI cR b N0 S0 H locs ls X C (xl_sub hl hs)
theorem xsel_mem {L : xLo} {ks : List Nat} : ∀ q ∈ xsel L ks, q ∈ L := fun _ h => (xflt_mem h).1
/-! stacks -/
def xp1 (st : List Value) (f : Value → List Value → Prop) : Prop := match st with
  | v :: r => f v r
  | _ => False
def xpi (st : List Value) (f : Int32 → List Value → Prop) : Prop := match st with
  | .int x :: r => f x r
  | _ => False
def xpl (st : List Value) (f : Int64 → List Value → Prop) : Prop := match st with
  | .long x :: r => f x r
  | _ => False
def xpr (st : List Value) (f : Nat → List Value → Prop) : Prop := match st with
  | .ref x :: r => f x r
  | _ => False
theorem xp1_el {st : List Value} {f : Value → List Value → Prop} (h : xp1 st f) : ∃ x r, st = x :: r ∧ f x r := by
  match st, h with
  | v :: r, h => exact ⟨v, r, rfl, h⟩
theorem xpi_el {st : List Value} {f : Int32 → List Value → Prop} (h : xpi st f) : ∃ x r, st = .int x :: r ∧ f x r := by
  match st, h with
  | .int v :: r, h => exact ⟨v, r, rfl, h⟩
theorem xpl_el {st : List Value} {f : Int64 → List Value → Prop} (h : xpl st f) : ∃ x r, st = .long x :: r ∧ f x r := by
  match st, h with
  | .long v :: r, h => exact ⟨v, r, rfl, h⟩
theorem xpr_el {st : List Value} {f : Nat → List Value → Prop} (h : xpr st f) : ∃ x r, st = .ref x :: r ∧ f x r := by
  match st, h with
  | .ref v :: r, h => exact ⟨v, r, rfl, h⟩
/-- the topmost n values, the deepest first -/
def xpop : Nat → List Value → List Value → Option (List Value × List Value)
  | 0, As, st => some (As, st)
  | n + 1, As, v :: st => xpop n (v :: As) st
  | _ + 1, _, [] => none
theorem xpop_el : ∀ {n : Nat} {As0 st As r : List Value}, xpop n As0 st = some (As, r) → ∃ B, As = B ++ As0 ∧ st = B.reverse ++ r ∧ B.length = n
  | 0, As0, st, As, r, h => by
    unfold xpop at h
    cases h
    exact ⟨[], rfl, rfl, rfl⟩
  | n + 1, As0, v :: st, As, r, h => by
    unfold xpop at h
    obtain ⟨B, h1, h2, h3⟩ := xpop_el h
    refine ⟨B ++ [v], by rw [h1]; simp, by rw [h2]; simp, by simp [h3]⟩
  | n + 1, As0, [], As, r, h => by
    unfold xpop at h
    cases h
def xix (i : Int32) (j n : Nat) : Prop := i = nI j ∧ j < n ∧ n < 2147483648
theorem xix_in {i : Int32} {j n : Nat} (h : xix i j n) : vp_in i n ∧ i.toNatClampNeg = j := by
  obtain ⟨rfl, h1, h2⟩ := h
  exact ⟨nI_in h1 h2, nI_clamp (Nat.lt_trans h1 h2)⟩
def xvk : FieldType → Value → Bool
  | .int, .int _ => true
  | .object _, .ref _ => true
  | .array _, .ref _ => true
  | _, _ => false
theorem xvk_ok {ty : FieldType} {v : Value} (b : Nat) (h : xvk ty v = true) : narrow ty (xcv b v) = xcv b v ∧ fits ty (xcv b v) = true := by
  cases ty <;> cases v <;> first | exact ⟨rfl, rfl⟩ | cases h
def xsw : List (Int32 × Nat) → Int32 → (Nat → Prop) → Nat → Prop
  | [], _, k, d => k d
  | (v, t) :: r, x, k, d => (x = v → k t) ∧ (¬ x = v → xsw r x k d)
end
section
/-! ONE STEP: the condition of an instruction; 'k' is what must hold behind it -/
def xlv (lk : xL) (f : Int32 → Prop) : Prop := match lk with
  | .inr (.inr (.inl v)) => f v
  | _ => False
def xlw (lk : xL) (f : Int64 → Prop) : Prop := match lk with
  | .inr (.inr (.inr (.inl v))) => f v
  | _ => False
def xlf (lk : xL) (f : Nat → Nat → Prop) : Prop := match lk with
  | .inl (a, b) => f a b
  | _ => False
def xgi (L : xLo) (i : Nat) (f : Int32 → Prop) : Prop := match xget L i with
  | some (.int x) => f x
  | _ => False
def xgl (L : xLo) (i : Nat) (f : Int64 → Prop) : Prop := match xget L i with
  | some (.long x) => f x
  | _ => False
def xgr (L : xLo) (i : Nat) (f : Nat → Prop) : Prop := match xget L i with
  | some (.ref x) => f x
  | _ => False
theorem xgi_el {L : xLo} {i : Nat} {f : Int32 → Prop} (h : xgi L i f) : ∃ x, xget L i = some (.int x) ∧ f x := by
  unfold xgi at h
  split at h
  · exact ⟨_, by assumption, h⟩
  · exact h.elim
theorem xgl_el {L : xLo} {i : Nat} {f : Int64 → Prop} (h : xgl L i f) : ∃ x, xget L i = some (.long x) ∧ f x := by
  unfold xgl at h
  split at h
  · exact ⟨_, by assumption, h⟩
  · exact h.elim
theorem xgr_el {L : xLo} {i : Nat} {f : Nat → Prop} (h : xgr L i f) : ∃ x, xget L i = some (.ref x) ∧ f x := by
  unfold xgr at h
  split at h
  · exact ⟨_, by assumption, h⟩
  · exact h.elim
/-- what a call asks, by the answer's type -/
def xcal (g : xSig) (As : List Value) (h : xHp) (k : List Value → xHp → Prop) : Prop := match sgR g with
  | none => ∃ h', Spec g As h none h' ∧ k [] h'
  | some .long => ∃ (r : Int64) (h' : xHp), Spec g As h (some (.long r)) h' ∧ k [.long r] h'
  | some _ => ∃ (r : Int32) (h' : xHp), Spec g As h (some (.int r)) h' ∧ k [.int r] h'
/-- a branch -/
def xbr (c : Prop) (a b : Prop) : Prop := (c → a) ∧ (¬ c → b)
/-- an answer of a type that is narrower than int -/
def xrt (g : xSig) (v : Int32) (q : Prop) : Prop := match sgR g with
  | some .int => q
  | some .boolean => (v = nI 0 ∨ v = nI 1) ∧ q
  | _ => False
def xcpw : Nat := nativeFrameWords "java/lang/System" "arraycopy" 5 + 11
abbrev xK : Type := Nat → xLo → List Value → xHp → Prop

def xstep (lim : Nat × Nat) (g : xSig) (k : xK) (Q : Option Value → xHp → Prop) (pc : Nat) (L : xLo) (st : List Value) (h : xHp) (i : Instr) (len : Nat) (lk : xL) : Prop := match i with
  | .iconst _ => xlv lk fun v => k (pc + len) L (.int v :: st) h
  | .bipush _ => xlv lk fun v => k (pc + len) L (.int v :: st) h
  | .sipush _ => xlv lk fun v => k (pc + len) L (.int v :: st) h
  | .ldc _ => xlv lk fun v => k (pc + len) L (.int v :: st) h
  | .ldc_w _ => xlv lk fun v => k (pc + len) L (.int v :: st) h
  | .ldc2_w _ => xlw lk fun v => k (pc + len) L (.long v :: st) h
  | .iload i => xgi L i fun x => k (pc + len) L (.int x :: st) h
  | .iload_n n => xgi L n.val fun x => k (pc + len) L (.int x :: st) h
  | .lload i => xgl L i fun x => k (pc + len) L (.long x :: st) h
  | .lload_n n => xgl L n.val fun x => k (pc + len) L (.long x :: st) h
  | .aload i => xgr L i fun x => k (pc + len) L (.ref x :: st) h
  | .aload_n n => xgr L n.val fun x => k (pc + len) L (.ref x :: st) h
  | .istore i => xpi st fun x r => k (pc + len) (xput1 L i (.int x)) r h
  | .istore_n n => xpi st fun x r => k (pc + len) (xput1 L n.val (.int x)) r h
  | .lstore i => xpl st fun x r => k (pc + len) (xput2 L i (.long x)) r h
  | .lstore_n n => xpl st fun x r => k (pc + len) (xput2 L n.val (.long x)) r h
  | .astore i => xpr st fun x r => k (pc + len) (xput1 L i (.ref x)) r h
  | .astore_n n => xpr st fun x r => k (pc + len) (xput1 L n.val (.ref x)) r h
  | .iinc i _ => xlv lk fun v => xgi L i fun x => k (pc + len) (xput1 L i (.int (x + v))) st h
  | .iadd => xpi st fun y r => xpi r fun x r => k (pc + len) L (.int (x + y) :: r) h
  | .isub => xpi st fun y r => xpi r fun x r => k (pc + len) L (.int (x - y) :: r) h
  | .imul => xpi st fun y r => xpi r fun x r => k (pc + len) L (.int (x * y) :: r) h
  | .iand => xpi st fun y r => xpi r fun x r => k (pc + len) L (.int (x &&& y) :: r) h
  | .ior => xpi st fun y r => xpi r fun x r => k (pc + len) L (.int (x ||| y) :: r) h
  | .ixor => xpi st fun y r => xpi r fun x r => k (pc + len) L (.int (x ^^^ y) :: r) h
  | .ishl => xpi st fun y r => xpi r fun x r => k (pc + len) L (.int (x <<< (y &&& 31)) :: r) h
  | .ishr => xpi st fun y r => xpi r fun x r => k (pc + len) L (.int (x >>> (y &&& 31)) :: r) h
  | .iushr => xpi st fun y r => xpi r fun x r => k (pc + len) L (.int ((x.toUInt32 >>> (y.toUInt32 &&& Int32.toUInt32 31)).toInt32) :: r) h
  | .idiv => xpi st fun y r => xpi r fun x r => ¬ y = 0 ∧ k (pc + len) L (.int (x / y) :: r) h
  | .irem => xpi st fun y r => xpi r fun x r => ¬ y = 0 ∧ k (pc + len) L (.int (x - x / y * y) :: r) h
  | .ineg => xpi st fun x r => k (pc + len) L (.int (-x) :: r) h
  | .ladd => xpl st fun y r => xpl r fun x r => k (pc + len) L (.long (x + y) :: r) h
  | .lmul => xpl st fun y r => xpl r fun x r => k (pc + len) L (.long (x * y) :: r) h
  | .i2l => xpi st fun x r => k (pc + len) L (.long x.toInt64 :: r) h
  | .dup => xp1 st fun v r => bif Nat.beq v.category 1 then k (pc + len) L (v :: v :: r) h else False
  | .dup2 => xp1 st fun v r => xp1 r fun u r => bif Nat.beq v.category 1 && Nat.beq u.category 1 then k (pc + len) L (v :: u :: v :: u :: r) h else False
  | .pop => xp1 st fun v r => bif Nat.beq v.category 1 then k (pc + len) L r h else False
  | .ifCond .eq _ => xlf lk fun t _ => xpi st fun x r => xbr (x = nI 0) (k t L r h) (k (pc + len) L r h)
  | .ifCond .ne _ => xlf lk fun t _ => xpi st fun x r => xbr (x = nI 0) (k (pc + len) L r h) (k t L r h)
  | .ifCond .lt _ => xlf lk fun t _ => xpi st fun x r => xbr (x < nI 0) (k t L r h) (k (pc + len) L r h)
  | .ifCond .ge _ => xlf lk fun t _ => xpi st fun x r => xbr (nI 0 ≤ x) (k t L r h) (k (pc + len) L r h)
  | .ifCond .gt _ => xlf lk fun t _ => xpi st fun x r => xbr (nI 0 < x) (k t L r h) (k (pc + len) L r h)
  | .ifCond .le _ => xlf lk fun t _ => xpi st fun x r => xbr (x ≤ nI 0) (k t L r h) (k (pc + len) L r h)
  | .if_icmp .eq _ => xlf lk fun t _ => xpi st fun y r => xpi r fun x r => xbr (x = y) (k t L r h) (k (pc + len) L r h)
  | .if_icmp .ne _ => xlf lk fun t _ => xpi st fun y r => xpi r fun x r => xbr (x = y) (k (pc + len) L r h) (k t L r h)
  | .if_icmp .lt _ => xlf lk fun t _ => xpi st fun y r => xpi r fun x r => xbr (x < y) (k t L r h) (k (pc + len) L r h)
  | .if_icmp .ge _ => xlf lk fun t _ => xpi st fun y r => xpi r fun x r => xbr (y ≤ x) (k t L r h) (k (pc + len) L r h)
  | .if_icmp .gt _ => xlf lk fun t _ => xpi st fun y r => xpi r fun x r => xbr (y < x) (k t L r h) (k (pc + len) L r h)
  | .if_icmp .le _ => xlf lk fun t _ => xpi st fun y r => xpi r fun x r => xbr (x ≤ y) (k t L r h) (k (pc + len) L r h)
  | .goto _ => xlf lk fun t _ => k t L st h
  | .tableswitch _ _ _ _ => match lk with
    | .inr (.inr (.inr (.inr (d, ps)))) => xpi st fun x r => xsw ps x (fun t => k t L r h) d
    | _ => False
  | .getfield _ => xlf lk fun ci n => xpr st fun a r => ∃ fs v, xat h a (xob ci fs) ∧ fs[n]? = some v ∧ k (pc + len) L (v :: r) h
  | .putfield _ => xlf lk fun ci n => xp1 st fun v r => xpr r fun a r => ∃ fs, xat h a (xob ci fs) ∧ n < fs.length ∧ bif xvk (xfty ci n) v then k (pc + len) L r (xset h a (xob ci (fs.set n v))) else False
  | .iaload => xpi st fun i r => xpr r fun a r => ∃ n f j, xat h a (xia n f) ∧ xix i j n ∧ k (pc + len) L (.int (f j) :: r) h
  | .iastore => xpi st fun x r => xpi r fun i r => xpr r fun a r => ∃ n f j, xat h a (xia n f) ∧ xix i j n ∧ k (pc + len) L r (xset h a (xia n (upd f j x)))
  | .aaload => xpi st fun i r => xpr r fun a r => ∃ n f j q, xat h a (xra n f) ∧ xix i j n ∧ f j = some q ∧ k (pc + len) L (.ref q :: r) h
  | .aastore => xpr st fun v r => xpi r fun i r => xpr r fun a r => ∃ n f j fs, xat h a (xra n f) ∧ xix i j n ∧ xat h v (xob xrc fs) ∧ k (pc + len) L r (xset h a (xra n (va_up f j (some v))))
  | .arraylength => xpr st fun a r => ∃ n f, xat h a (xia n f) ∧ k (pc + len) L (.int (nI n) :: r) h
  | .newarray _ => xpi st fun i r => ∃ j, i = nI j ∧ j < 100000 ∧ h.1 + 1 ≤ lim.1 ∧ h.2.1 + j ≤ lim.2 ∧ k (pc + len) L (.ref h.1 :: r) (xnew h j (xia j (fun _ => 0)))
  | .anewarray _ => xpi st fun i r => ∃ j, i = nI j ∧ j < 100000 ∧ h.1 + 1 ≤ lim.1 ∧ h.2.1 + j ≤ lim.2 ∧ k (pc + len) L (.ref h.1 :: r) (xnew h j (xra j (fun _ => none)))
  | .new _ => xlf lk fun ci n => h.1 + 1 ≤ lim.1 ∧ h.2.1 + n ≤ lim.2 ∧ k (pc + len) L (.ref h.1 :: st) (xnew h n (xob ci (xdef ci)))
  | .invokestatic _ => match lk with
    | .inr (.inl c) => match xpop (sgP c) [] st with
      | some (As, r) => bif Nat.ble (xcats r) 8 then xcal c As h (fun v h' => k (pc + len) L (v ++ r) h') else False
      | none => False
    | .inl _ => xpi st fun n r => xpi r fun dp r => xpr r fun a r => xpi r fun sp r => xpr r fun a0 r => bif Nat.ble (xcats r) 8 then ∃ n0 f n1 f1 jn jd js, xat h a0 (xia n0 f) ∧ xat h a (xia n1 f1) ∧ n = nI jn ∧ dp = nI jd ∧ sp = nI js ∧ js + jn ≤ n0 ∧ jd + jn ≤ n1 ∧ n0 < 100000 ∧ n1 < 100000 ∧ k (pc + len) L r (xset h a (xia n1 (va_cpy f f1 js jd jn))) else False
    | _ => False
  | .invokevirtual _ => match lk with
    | .inr (.inl c) => match xpop (sgP c) [] st with
      | some (As, r) => xpr r fun a r => bif Nat.ble (xcats r) 8 then xcal c (.ref a :: As) h (fun v h' => k (pc + len) L (v ++ r) h') else False
      | none => False
    | _ => False
  | .invokespecial _ => match lk with
    | .inr (.inl c) => match xpop (sgP c) [] st with
      | some (As, r) => xpr r fun a r => bif Nat.ble (xcats r) 8 then ∃ h', SpecA c (.ref a :: As) h none h' ∧ h'.1 ≤ lim.1 ∧ h'.2.1 ≤ lim.2 ∧ k (pc + len) L r h' else False
      | none => False
    | .inl _ => xpr st fun a r => bif Nat.ble (xcats r) 8 then k (pc + len) L r h else False
    | _ => False
  | .ireturn => xpi st fun x r => match r with
    | [] => xrt g x (Q (some (.int x)) h)
    | _ => False
  | .lreturn => xpl st fun x r => match r with
    | [] => Q (some (.long x)) h
    | _ => False
  | .return_ => match st with
    | [] => Q none h
    | _ => False
  | _ => False
def wp (lim : Nat × Nat) (g : xSig) (cd : xCd) (cut : List (Nat × List Nat)) (K : xK) (Q : Option Value → xHp → Prop) : Nat → Nat → xLo → List Value → xHp → Prop
  | 0, _, _, _, _ => False
  | n + 1, pc, L, st, h => match xfind cd pc with
    | none => False
    | some (i, len, lk) => xstep lim g (fun pc' L' st' h' => match xcut cut pc' with
      | none => wp lim g cd cut K Q n pc' L' st' h'
      | some ks => K pc' (xsel L' ks) st' h') Q pc L st h i len lk
/-! what is checked of the code, once -/
def xckv (lk : xL) (f : Int32 → Bool) : Bool := match lk with
  | .inr (.inr (.inl v)) => f v
  | _ => true
def xckt (lk : xL) (f : Nat → Bool) : Bool := match lk with
  | .inl (t, _) => f t
  | _ => true
def xswk (pc : Nat) (offs : List Int) : Int → List (Int32 × Nat) → Bool
  | _, [] => match offs with
    | [] => true
    | _ => false
  | lo, (v, t) :: r => match offs with
    | [] => false
    | o :: os => decide (v.toInt = lo) && decide ((pc : Int) + o = (t : Int)) && xswk pc os (lo + 1) r
def xck (g : xSig) (e : Nat × xI) : Bool := match e.2.1 with
  | .iconst n => xckv e.2.2.2 (fun v => decide (Int32.ofInt n = v)) && Nat.beq e.2.2.1 1
  | .bipush n => xckv e.2.2.2 (fun v => decide ((Int8.ofInt n).toInt32 = v)) && Nat.beq e.2.2.1 2
  | .sipush n => xckv e.2.2.2 (fun v => decide ((Int16.ofInt n).toInt32 = v)) && Nat.beq e.2.2.1 3
  | .ldc _ => Nat.beq e.2.2.1 2
  | .ldc_w _ | .ldc2_w _ => Nat.beq e.2.2.1 3
  | .iload _ | .lload _ | .aload _ => Nat.beq e.2.2.1 2
  | .istore i | .astore i => Nat.blt i (sgL g) && Nat.beq e.2.2.1 2
  | .lstore i => Nat.blt (i + 1) (sgL g) && Nat.beq e.2.2.1 2
  | .istore_n n | .astore_n n => Nat.blt n.val (sgL g) && Nat.beq e.2.2.1 1
  | .lstore_n n => Nat.blt (n.val + 1) (sgL g) && Nat.beq e.2.2.1 1
  | .iinc i n => xckv e.2.2.2 (fun v => decide (Int32.ofInt n = v)) && Nat.blt i (sgL g) && Nat.beq e.2.2.1 3
  | .ifCond _ off => xckt e.2.2.2 (fun t => decide ((e.1 : Int) + off = (t : Int))) && Nat.beq e.2.2.1 3
  | .if_icmp _ off => xckt e.2.2.2 (fun t => decide ((e.1 : Int) + off = (t : Int))) && Nat.beq e.2.2.1 3
  | .goto off => xckt e.2.2.2 (fun t => decide ((e.1 : Int) + off = (t : Int))) && Nat.beq e.2.2.1 3
  | .tableswitch d lo hi offs => match e.2.2.2 with
    | .inr (.inr (.inr (.inr (t, ps)))) => decide ((e.1 : Int) + d = (t : Int)) && xswk e.1 offs.toList lo ps && decide (hi = lo + ps.length - 1)
    | _ => true
  | .lreturn => decide (sgR g = some .long) && Nat.beq e.2.2.1 1
  | .return_ => decide (sgR g = none) && Nat.beq e.2.2.1 1
  | .getfield _ | .putfield _ | .new _ | .anewarray _ => Nat.beq e.2.2.1 3
  | .newarray _ => Nat.beq e.2.2.1 2
  | .invokestatic _ => (match e.2.2.2 with
    | .inr (.inl c) => Nat.ble (sgF c + 1) (sgF g) && Nat.ble (8 + (sgL c + 11) + sgO c) (sgO g)
    | _ => Nat.ble 1 (sgF g) && Nat.ble (8 + xcpw) (sgO g)) && Nat.beq e.2.2.1 3
  | .invokevirtual _ => (match e.2.2.2 with
    | .inr (.inl c) => Nat.ble (sgF c + 1) (sgF g) && Nat.ble (8 + (sgL c + 11) + sgO c) (sgO g)
    | _ => true) && Nat.beq e.2.2.1 3
  | .invokespecial _ => (match e.2.2.2 with
    | .inr (.inl c) => Nat.ble (sgF c + 1) (sgF g) && Nat.ble (8 + (sgL c + 11) + sgO c) (sgO g)
    | _ => Nat.ble 1 (sgF g) && Nat.ble 20 (sgO g)) && Nat.beq e.2.2.1 3
  | _ => Nat.beq e.2.2.1 1
/-! what the tables must say of an instruction that links -/
def xfl (own : String) (idx ci k : Nat) : Prop := ∃ r, xcl[ci]? = some r ∧ k < r.2.2 ∧ Cond.fieldLink own idx (r.2.1 k).1 (r.2.1 k).2.1 (r.2.1 k).2.2.1 ∈ lw_g
def xmc (c : xSig) : Prop := Cond.initialized (sgN c).cls ∈ lw_g ∧ Cond.code (sgN c) (sgB c) (sgL c) (sgR c) ∈ lw_g ∧ (sgN c).cls ≠ "java/lang/invoke/MethodHandle" ∧ (sgN c).cls ≠ "java/lang/invoke/VarHandle" ∧ (parseMethodDescriptor (sgN c).desc).map (fun d => d.parameters.length) = some (sgP c)
def xms (c : xSig) : Prop := xmc c ∧ Cond.static (sgN c) ∈ lw_g
def xmv (c : xSig) : Prop := xmc c ∧ Cond.instanceMethod (sgN c) ∈ lw_g ∧ Cond.selects (sgN c).cls (sgN c) (sgN c) ∈ lw_g ∧ ∃ ci r, sgV c = some ci ∧ xcl[ci]? = some r ∧ r.1 = (sgN c).cls
def xmi (c : xSig) : Prop := xmc c ∧ Cond.instanceMethod (sgN c) ∈ lw_g ∧ (sgN c).name = "<init>" ∧ sgR c = none
def xfp (g : xSig) (ci k : Nat) : Prop := ∀ r, xcl[ci]? = some r → (r.2.1 k).2.2.2 = true → (sgN g).name = "<init>" ∧ r.1 = (sgN g).cls
def xlk (g : xSig) (e : Nat × xI) : Prop := match e.2.1, e.2.2.2 with
  | .getfield idx, .inl (ci, k) => xfl (sgN g).cls idx ci k
  | .putfield idx, .inl (ci, k) => xfl (sgN g).cls idx ci k ∧ xfp g ci k
  | .new idx, .inl (ci, n) => ∃ r, xcl[ci]? = some r ∧ r.2.2 = n ∧ Cond.classLink (sgN g).cls idx r.1 ∈ lw_g ∧ Cond.instantiable r.1 r.2.2 ∈ lw_g ∧ Cond.initialized r.1 ∈ lw_g
  | .invokestatic idx, .inr (.inl c) => Cond.methodLink (sgN g).cls idx (sgN c) ∈ lw_g ∧ xms c
  | .invokestatic idx, .inl _ => Cond.methodLink (sgN g).cls idx arraycopyName ∈ lw_g ∧ Cond.native arraycopyName ∈ lw_g ∧ Cond.static arraycopyName ∈ lw_g ∧ Cond.initialized "java/lang/System" ∈ lw_g
  | .invokevirtual idx, .inr (.inl c) => Cond.methodLink (sgN g).cls idx (sgN c) ∈ lw_g ∧ xmv c
  | .invokespecial idx, .inr (.inl c) => Cond.methodLink (sgN g).cls idx (sgN c) ∈ lw_g ∧ xmi c
  | .invokespecial idx, .inl _ => Cond.methodLink (sgN g).cls idx Lib.objectInit ∈ lw_g ∧ Cond.instanceMethod Lib.objectInit ∈ lw_g ∧ Cond.code Lib.objectInit ⟨#[0xb1]⟩ 1 none ∈ lw_g
  | .newarray t, _ => t = .int ∧ Cond.arrayClass .int ∈ lw_g
  | .anewarray idx, _ => Cond.classLink (sgN g).cls idx xrn ∈ lw_g
  | .ldc idx, .inr (.inr (.inl v)) => Cond.constant (sgN g).cls idx v ∈ lw_g
  | .ldc_w idx, .inr (.inr (.inl v)) => Cond.constant (sgN g).cls idx v ∈ lw_g
  | .ldc2_w idx, .inr (.inr (.inr (.inl v))) => Cond.constantLong (sgN g).cls idx v ∈ lw_g
  | _, _ => True
def xOK (g : xSig) (cd : xCd) : Prop := (∀ e ∈ cd, decode (sgB g) e.1 = .ok (e.2.1, e.2.2.1)) ∧ cd.all (xck g) = true ∧ ∀ e ∈ cd, xlk g e
end
section
/-! what the tables say of the classes whose objects there are -/
def xclP (ci : Nat) (r : vw_C) : Prop := (∀ k, k < r.2.2 → parseFieldDescriptor (r.2.1 k).2.2.1 = some (xfty ci k)) ∧ (∀ a, a < r.2.2 → ∀ b, b < r.2.2 → a ≠ b → (r.2.1 a).2.1 ≠ (r.2.1 b).2.1) ∧ (∀ k, k < r.2.2 → (r.2.1 k).1 = r.1) ∧ (∀ k, k < r.2.2 → defaultValue (xfty ci k) = vp_V (xdef ci) k) ∧ (∀ w ∈ u_ws r.1 r.2.1 r.2.2, w ∈ lw_g) ∧ (∀ b, (xdef ci).map (xcv b) = xdef ci)
set_option maxRecDepth 100000 in
theorem xlay_0_0 : u_lay xR0 xT0 0 ∈ lw_g := lw_gm 275 rfl rfl
set_option maxRecDepth 100000 in
theorem xlay_0_1 : u_lay xR0 xT0 1 ∈ lw_g := lw_gm 277 rfl rfl
set_option maxRecDepth 100000 in
theorem xlay_0_2 : u_lay xR0 xT0 2 ∈ lw_g := lw_gm 279 rfl rfl
set_option maxRecDepth 100000 in
theorem xlay_0_3 : u_lay xR0 xT0 3 ∈ lw_g := lw_gm 281 rfl rfl
theorem xcl_0 : xclP 0 (xR0, xT0, 4) := by
  refine ⟨by decide +kernel, by decide +kernel, by decide +kernel, by decide +kernel, fun w hw => ?_, fun b => rfl⟩
  obtain ⟨k, hk, rfl⟩ := List.mem_map.mp hw
  have hk := List.mem_range.mp hk
  match k, hk with
  | 0, _ => exact xlay_0_0
  | 1, _ => exact xlay_0_1
  | 2, _ => exact xlay_0_2
  | 3, _ => exact xlay_0_3
  | z + 4, h => exact absurd h (Nat.not_lt.mpr (Nat.le_add_left 4 z))
set_option maxRecDepth 100000 in
theorem xlay_1_0 : u_lay xR1 xT1 0 ∈ lw_g := lw_gm 185 rfl rfl
set_option maxRecDepth 100000 in
theorem xlay_1_1 : u_lay xR1 xT1 1 ∈ lw_g := lw_gm 187 rfl rfl
set_option maxRecDepth 100000 in
theorem xlay_1_2 : u_lay xR1 xT1 2 ∈ lw_g := lw_gm 189 rfl rfl
theorem xcl_1 : xclP 1 (xR1, xT1, 3) := by
  refine ⟨by decide +kernel, by decide +kernel, by decide +kernel, by decide +kernel, fun w hw => ?_, fun b => rfl⟩
  obtain ⟨k, hk, rfl⟩ := List.mem_map.mp hw
  have hk := List.mem_range.mp hk
  match k, hk with
  | 0, _ => exact xlay_1_0
  | 1, _ => exact xlay_1_1
  | 2, _ => exact xlay_1_2
  | z + 3, h => exact absurd h (Nat.not_lt.mpr (Nat.le_add_left 3 z))
set_option maxRecDepth 100000 in
theorem xlay_2_0 : u_lay xR2 xT2 0 ∈ lw_g := lw_gm 121 rfl rfl
set_option maxRecDepth 100000 in
theorem xlay_2_1 : u_lay xR2 xT2 1 ∈ lw_g := lw_gm 123 rfl rfl
set_option maxRecDepth 100000 in
theorem xlay_2_2 : u_lay xR2 xT2 2 ∈ lw_g := lw_gm 125 rfl rfl
set_option maxRecDepth 100000 in
theorem xlay_2_3 : u_lay xR2 xT2 3 ∈ lw_g := lw_gm 127 rfl rfl
set_option maxRecDepth 100000 in
theorem xlay_2_4 : u_lay xR2 xT2 4 ∈ lw_g := lw_gm 129 rfl rfl
set_option maxRecDepth 100000 in
theorem xlay_2_5 : u_lay xR2 xT2 5 ∈ lw_g := lw_gm 131 rfl rfl
theorem xcl_2 : xclP 2 (xR2, xT2, 6) := by
  refine ⟨by decide +kernel, by decide +kernel, by decide +kernel, by decide +kernel, fun w hw => ?_, fun b => rfl⟩
  obtain ⟨k, hk, rfl⟩ := List.mem_map.mp hw
  have hk := List.mem_range.mp hk
  match k, hk with
  | 0, _ => exact xlay_2_0
  | 1, _ => exact xlay_2_1
  | 2, _ => exact xlay_2_2
  | 3, _ => exact xlay_2_3
  | 4, _ => exact xlay_2_4
  | 5, _ => exact xlay_2_5
  | z + 6, h => exact absurd h (Nat.not_lt.mpr (Nat.le_add_left 6 z))
set_option maxRecDepth 100000 in
theorem xlay_3_0 : u_lay xR3 xT3 0 ∈ lw_g := lw_gm 221 rfl rfl
set_option maxRecDepth 100000 in
theorem xlay_3_1 : u_lay xR3 xT3 1 ∈ lw_g := lw_gm 223 rfl rfl
set_option maxRecDepth 100000 in
theorem xlay_3_2 : u_lay xR3 xT3 2 ∈ lw_g := lw_gm 225 rfl rfl
theorem xcl_3 : xclP 3 (xR3, xT3, 3) := by
  refine ⟨by decide +kernel, by decide +kernel, by decide +kernel, by decide +kernel, fun w hw => ?_, fun b => rfl⟩
  obtain ⟨k, hk, rfl⟩ := List.mem_map.mp hw
  have hk := List.mem_range.mp hk
  match k, hk with
  | 0, _ => exact xlay_3_0
  | 1, _ => exact xlay_3_1
  | 2, _ => exact xlay_3_2
  | z + 3, h => exact absurd h (Nat.not_lt.mpr (Nat.le_add_left 3 z))
set_option maxRecDepth 100000 in
theorem xlay_4_0 : u_lay xR4 xT4 0 ∈ lw_g := lw_gm 252 rfl rfl
set_option maxRecDepth 100000 in
theorem xlay_4_1 : u_lay xR4 xT4 1 ∈ lw_g := lw_gm 254 rfl rfl
set_option maxRecDepth 100000 in
theorem xlay_4_2 : u_lay xR4 xT4 2 ∈ lw_g := lw_gm 256 rfl rfl
set_option maxRecDepth 100000 in
theorem xlay_4_3 : u_lay xR4 xT4 3 ∈ lw_g := lw_gm 258 rfl rfl
set_option maxRecDepth 100000 in
theorem xlay_4_4 : u_lay xR4 xT4 4 ∈ lw_g := lw_gm 260 rfl rfl
set_option maxRecDepth 100000 in
theorem xlay_4_5 : u_lay xR4 xT4 5 ∈ lw_g := lw_gm 262 rfl rfl
theorem xcl_4 : xclP 4 (xR4, xT4, 6) := by
  refine ⟨by decide +kernel, by decide +kernel, by decide +kernel, by decide +kernel, fun w hw => ?_, fun b => rfl⟩
  obtain ⟨k, hk, rfl⟩ := List.mem_map.mp hw
  have hk := List.mem_range.mp hk
  match k, hk with
  | 0, _ => exact xlay_4_0
  | 1, _ => exact xlay_4_1
  | 2, _ => exact xlay_4_2
  | 3, _ => exact xlay_4_3
  | 4, _ => exact xlay_4_4
  | 5, _ => exact xlay_4_5
  | z + 6, h => exact absurd h (Nat.not_lt.mpr (Nat.le_add_left 6 z))
set_option maxRecDepth 100000 in
theorem xlay_5_0 : u_lay xR5 xT5 0 ∈ lw_g := lw_gm 163 rfl rfl
set_option maxRecDepth 100000 in
theorem xlay_5_1 : u_lay xR5 xT5 1 ∈ lw_g := lw_gm 165 rfl rfl
set_option maxRecDepth 100000 in
theorem xlay_5_2 : u_lay xR5 xT5 2 ∈ lw_g := lw_gm 167 rfl rfl
set_option maxRecDepth 100000 in
theorem xlay_5_3 : u_lay xR5 xT5 3 ∈ lw_g := lw_gm 169 rfl rfl
theorem xcl_5 : xclP 5 (xR5, xT5, 4) := by
  refine ⟨by decide +kernel, by decide +kernel, by decide +kernel, by decide +kernel, fun w hw => ?_, fun b => rfl⟩
  obtain ⟨k, hk, rfl⟩ := List.mem_map.mp hw
  have hk := List.mem_range.mp hk
  match k, hk with
  | 0, _ => exact xlay_5_0
  | 1, _ => exact xlay_5_1
  | 2, _ => exact xlay_5_2
  | 3, _ => exact xlay_5_3
  | z + 4, h => exact absurd h (Nat.not_lt.mpr (Nat.le_add_left 4 z))
set_option maxRecDepth 100000 in
theorem xlay_6_0 : u_lay xR6 xT6 0 ∈ lw_g := lw_gm 203 rfl rfl
set_option maxRecDepth 100000 in
theorem xlay_6_1 : u_lay xR6 xT6 1 ∈ lw_g := lw_gm 205 rfl rfl
theorem xcl_6 : xclP 6 (xR6, xT6, 2) := by
  refine ⟨by decide +kernel, by decide +kernel, by decide +kernel, by decide +kernel, fun w hw => ?_, fun b => rfl⟩
  obtain ⟨k, hk, rfl⟩ := List.mem_map.mp hw
  have hk := List.mem_range.mp hk
  match k, hk with
  | 0, _ => exact xlay_6_0
  | 1, _ => exact xlay_6_1
  | z + 2, h => exact absurd h (Nat.not_lt.mpr (Nat.le_add_left 2 z))
set_option maxRecDepth 100000 in
theorem xlay_7_0 : u_lay xR7 xT7 0 ∈ lw_g := lw_gm 236 rfl rfl
theorem xcl_7 : xclP 7 (xR7, xT7, 1) := by
  refine ⟨by decide +kernel, by decide +kernel, by decide +kernel, by decide +kernel, fun w hw => ?_, fun b => rfl⟩
  obtain ⟨k, hk, rfl⟩ := List.mem_map.mp hw
  have hk := List.mem_range.mp hk
  match k, hk with
  | 0, _ => exact xlay_7_0
  | z + 1, h => exact absurd h (Nat.not_lt.mpr (Nat.le_add_left 1 z))
set_option maxRecDepth 100000 in
theorem xlay_8_0 : u_lay xR8 xT8 0 ∈ lw_g := lw_gm 292 rfl rfl
set_option maxRecDepth 100000 in
theorem xlay_8_1 : u_lay xR8 xT8 1 ∈ lw_g := lw_gm 294 rfl rfl
set_option maxRecDepth 100000 in
theorem xlay_8_2 : u_lay xR8 xT8 2 ∈ lw_g := lw_gm 296 rfl rfl
set_option maxRecDepth 100000 in
theorem xlay_8_3 : u_lay xR8 xT8 3 ∈ lw_g := lw_gm 298 rfl rfl
set_option maxRecDepth 100000 in
theorem xlay_8_4 : u_lay xR8 xT8 4 ∈ lw_g := lw_gm 300 rfl rfl
set_option maxRecDepth 100000 in
theorem xlay_8_5 : u_lay xR8 xT8 5 ∈ lw_g := lw_gm 302 rfl rfl
set_option maxRecDepth 100000 in
theorem xlay_8_6 : u_lay xR8 xT8 6 ∈ lw_g := lw_gm 304 rfl rfl
set_option maxRecDepth 100000 in
theorem xlay_8_7 : u_lay xR8 xT8 7 ∈ lw_g := lw_gm 306 rfl rfl
theorem xcl_8 : xclP 8 (xR8, xT8, 8) := by
  refine ⟨by decide +kernel, by decide +kernel, by decide +kernel, by decide +kernel, fun w hw => ?_, fun b => rfl⟩
  obtain ⟨k, hk, rfl⟩ := List.mem_map.mp hw
  have hk := List.mem_range.mp hk
  match k, hk with
  | 0, _ => exact xlay_8_0
  | 1, _ => exact xlay_8_1
  | 2, _ => exact xlay_8_2
  | 3, _ => exact xlay_8_3
  | 4, _ => exact xlay_8_4
  | 5, _ => exact xlay_8_5
  | 6, _ => exact xlay_8_6
  | 7, _ => exact xlay_8_7
  | z + 8, h => exact absurd h (Nat.not_lt.mpr (Nat.le_add_left 8 z))
set_option maxRecDepth 100000 in
theorem xlay_9_0 : u_lay xR9 xT9 0 ∈ lw_g := lw_gm 838 rfl rfl
set_option maxRecDepth 100000 in
theorem xlay_9_1 : u_lay xR9 xT9 1 ∈ lw_g := lw_gm 840 rfl rfl
set_option maxRecDepth 100000 in
theorem xlay_9_2 : u_lay xR9 xT9 2 ∈ lw_g := lw_gm 842 rfl rfl
set_option maxRecDepth 100000 in
theorem xlay_9_3 : u_lay xR9 xT9 3 ∈ lw_g := lw_gm 844 rfl rfl
set_option maxRecDepth 100000 in
theorem xlay_9_4 : u_lay xR9 xT9 4 ∈ lw_g := lw_gm 846 rfl rfl
set_option maxRecDepth 100000 in
theorem xlay_9_5 : u_lay xR9 xT9 5 ∈ lw_g := lw_gm 848 rfl rfl
set_option maxRecDepth 100000 in
theorem xlay_9_6 : u_lay xR9 xT9 6 ∈ lw_g := lw_gm 850 rfl rfl
set_option maxRecDepth 100000 in
theorem xlay_9_7 : u_lay xR9 xT9 7 ∈ lw_g := lw_gm 852 rfl rfl
set_option maxRecDepth 100000 in
theorem xlay_9_8 : u_lay xR9 xT9 8 ∈ lw_g := lw_gm 854 rfl rfl
set_option maxRecDepth 100000 in
theorem xlay_9_9 : u_lay xR9 xT9 9 ∈ lw_g := lw_gm 856 rfl rfl
set_option maxRecDepth 100000 in
theorem xlay_9_10 : u_lay xR9 xT9 10 ∈ lw_g := lw_gm 858 rfl rfl
set_option maxRecDepth 100000 in
theorem xlay_9_11 : u_lay xR9 xT9 11 ∈ lw_g := lw_gm 860 rfl rfl
set_option maxRecDepth 100000 in
theorem xlay_9_12 : u_lay xR9 xT9 12 ∈ lw_g := lw_gm 862 rfl rfl
set_option maxRecDepth 100000 in
theorem xlay_9_13 : u_lay xR9 xT9 13 ∈ lw_g := lw_gm 864 rfl rfl
set_option maxRecDepth 100000 in
theorem xlay_9_14 : u_lay xR9 xT9 14 ∈ lw_g := lw_gm 866 rfl rfl
set_option maxRecDepth 100000 in
theorem xlay_9_15 : u_lay xR9 xT9 15 ∈ lw_g := lw_gm 868 rfl rfl
set_option maxRecDepth 100000 in
theorem xlay_9_16 : u_lay xR9 xT9 16 ∈ lw_g := lw_gm 870 rfl rfl
set_option maxRecDepth 100000 in
theorem xlay_9_17 : u_lay xR9 xT9 17 ∈ lw_g := lw_gm 872 rfl rfl
theorem xcl_9 : xclP 9 (xR9, xT9, 18) := by
  refine ⟨by decide +kernel, by decide +kernel, by decide +kernel, by decide +kernel, fun w hw => ?_, fun b => rfl⟩
  obtain ⟨k, hk, rfl⟩ := List.mem_map.mp hw
  have hk := List.mem_range.mp hk
  match k, hk with
  | 0, _ => exact xlay_9_0
  | 1, _ => exact xlay_9_1
  | 2, _ => exact xlay_9_2
  | 3, _ => exact xlay_9_3
  | 4, _ => exact xlay_9_4
  | 5, _ => exact xlay_9_5
  | 6, _ => exact xlay_9_6
  | 7, _ => exact xlay_9_7
  | 8, _ => exact xlay_9_8
  | 9, _ => exact xlay_9_9
  | 10, _ => exact xlay_9_10
  | 11, _ => exact xlay_9_11
  | 12, _ => exact xlay_9_12
  | 13, _ => exact xlay_9_13
  | 14, _ => exact xlay_9_14
  | 15, _ => exact xlay_9_15
  | 16, _ => exact xlay_9_16
  | 17, _ => exact xlay_9_17
  | z + 18, h => exact absurd h (Nat.not_lt.mpr (Nat.le_add_left 18 z))
theorem xcl_ok (ci : Nat) (r : vw_C) (h : xcl[ci]? = some r) : xclP ci r := by
  match ci, h with
  | 0, h => cases h; exact xcl_0
  | 1, h => cases h; exact xcl_1
  | 2, h => cases h; exact xcl_2
  | 3, h => cases h; exact xcl_3
  | 4, h => cases h; exact xcl_4
  | 5, h => cases h; exact xcl_5
  | 6, h => cases h; exact xcl_6
  | 7, h => cases h; exact xcl_7
  | 8, h => cases h; exact xcl_8
  | 9, h => cases h; exact xcl_9
  | n + 10, h => cases h
end
