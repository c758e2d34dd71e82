section
-- ===== PART A: goes FIRST, ahead of the names: the tables' words, and 'selects' of the private methods out of them =====
/-- a private method of a class that the tables say can be made, by its rows of tables_1 -/
def lw_okq (q : MethodName × Nat) : Prop := (q.1.cls ≠ "java/lang/invoke/MethodHandle" ∧ q.1.cls ≠ "java/lang/invoke/VarHandle") ∧ Cond.instantiable q.1.cls q.2 ∈ tables_1 ∧ Cond.privateMethod q.1 ∈ tables_1 ∧ Cond.instanceMethod q.1 ∈ tables_1
theorem lw_p0 : lw_okq (⟨"TurningVerse", "isLine", "(I)Z"⟩, 8) := ⟨⟨by decide +kernel, by decide +kernel⟩, List.mem_of_getElem? (i := 19) (by decide +kernel), List.mem_of_getElem? (i := 270) (by decide +kernel), List.mem_of_getElem? (i := 271) (by decide +kernel)⟩
theorem lw_p1 : lw_okq (⟨"TurningVerse$PoemReader", "readFirstStanza", "(LTurningVerse$Text;)I"⟩, 3) := ⟨⟨by decide +kernel, by decide +kernel⟩, List.mem_of_getElem? (i := 141) (by decide +kernel), List.mem_of_getElem? (i := 299) (by decide +kernel), List.mem_of_getElem? (i := 300) (by decide +kernel)⟩
theorem lw_p2 : lw_okq (⟨"TurningVerse$PoemReader", "wordBelow", "(LTurningVerse$Text;I)I"⟩, 3) := ⟨⟨by decide +kernel, by decide +kernel⟩, List.mem_of_getElem? (i := 141) (by decide +kernel), List.mem_of_getElem? (i := 303) (by decide +kernel), List.mem_of_getElem? (i := 304) (by decide +kernel)⟩
theorem lw_p3 : lw_okq (⟨"TurningVerse$PoemReader", "isStanzaOver", "(LTurningVerse$Text;)Z"⟩, 3) := ⟨⟨by decide +kernel, by decide +kernel⟩, List.mem_of_getElem? (i := 141) (by decide +kernel), List.mem_of_getElem? (i := 312) (by decide +kernel), List.mem_of_getElem? (i := 313) (by decide +kernel)⟩
theorem lw_p4 : lw_okq (⟨"TurningVerse$PoemReader", "readStanza", "(LTurningVerse$Text;)I"⟩, 3) := ⟨⟨by decide +kernel, by decide +kernel⟩, List.mem_of_getElem? (i := 141) (by decide +kernel), List.mem_of_getElem? (i := 321) (by decide +kernel), List.mem_of_getElem? (i := 322) (by decide +kernel)⟩
theorem lw_p5 : lw_okq (⟨"TurningVerse$PoemReader", "readTail", "(LTurningVerse$Text;)I"⟩, 3) := ⟨⟨by decide +kernel, by decide +kernel⟩, List.mem_of_getElem? (i := 141) (by decide +kernel), List.mem_of_getElem? (i := 325) (by decide +kernel), List.mem_of_getElem? (i := 326) (by decide +kernel)⟩
theorem lw_p6 : lw_okq (⟨"TurningVerse$PoemReader", "readTailLine", "(LTurningVerse$Text;)I"⟩, 3) := ⟨⟨by decide +kernel, by decide +kernel⟩, List.mem_of_getElem? (i := 141) (by decide +kernel), List.mem_of_getElem? (i := 329) (by decide +kernel), List.mem_of_getElem? (i := 330) (by decide +kernel)⟩
theorem lw_p7 : lw_okq (⟨"TurningVerse", "store", "(II)I"⟩, 8) := ⟨⟨by decide +kernel, by decide +kernel⟩, List.mem_of_getElem? (i := 19) (by decide +kernel), List.mem_of_getElem? (i := 352) (by decide +kernel), List.mem_of_getElem? (i := 353) (by decide +kernel)⟩
theorem lw_p8 : lw_okq (⟨"TurningVerse$Search", "note", "(II)V"⟩, 6) := ⟨⟨by decide +kernel, by decide +kernel⟩, List.mem_of_getElem? (i := 172) (by decide +kernel), List.mem_of_getElem? (i := 477) (by decide +kernel), List.mem_of_getElem? (i := 478) (by decide +kernel)⟩
theorem lw_p9 : lw_okq (⟨"TurningVerse$Search", "isFactor", "(I)Z"⟩, 6) := ⟨⟨by decide +kernel, by decide +kernel⟩, List.mem_of_getElem? (i := 172) (by decide +kernel), List.mem_of_getElem? (i := 486) (by decide +kernel), List.mem_of_getElem? (i := 487) (by decide +kernel)⟩
theorem lw_p10 : lw_okq (⟨"TurningVerse$Search", "firstFactor", "(I)I"⟩, 6) := ⟨⟨by decide +kernel, by decide +kernel⟩, List.mem_of_getElem? (i := 172) (by decide +kernel), List.mem_of_getElem? (i := 504) (by decide +kernel), List.mem_of_getElem? (i := 505) (by decide +kernel)⟩
theorem lw_p11 : lw_okq (⟨"TurningVerse$Search", "without", "(II)I"⟩, 6) := ⟨⟨by decide +kernel, by decide +kernel⟩, List.mem_of_getElem? (i := 172) (by decide +kernel), List.mem_of_getElem? (i := 508) (by decide +kernel), List.mem_of_getElem? (i := 509) (by decide +kernel)⟩
theorem lw_p12 : lw_okq (⟨"TurningVerse", "isStanza", "(I)Z"⟩, 8) := ⟨⟨by decide +kernel, by decide +kernel⟩, List.mem_of_getElem? (i := 19) (by decide +kernel), List.mem_of_getElem? (i := 527) (by decide +kernel), List.mem_of_getElem? (i := 528) (by decide +kernel)⟩
theorem lw_p13 : lw_okq (⟨"TurningVerse$Fit", "compare", "(LTurningVerse$Poem;II)V"⟩, 4) := ⟨⟨by decide +kernel, by decide +kernel⟩, List.mem_of_getElem? (i := 198) (by decide +kernel), List.mem_of_getElem? (i := 584) (by decide +kernel), List.mem_of_getElem? (i := 585) (by decide +kernel)⟩
theorem lw_p14 : lw_okq (⟨"TurningVerse$Fit", "mostKept", "()I"⟩, 4) := ⟨⟨by decide +kernel, by decide +kernel⟩, List.mem_of_getElem? (i := 198) (by decide +kernel), List.mem_of_getElem? (i := 592) (by decide +kernel), List.mem_of_getElem? (i := 593) (by decide +kernel)⟩
theorem lw_p15 : lw_okq (⟨"TurningVerse$Fit", "keptWith", "(III)I"⟩, 4) := ⟨⟨by decide +kernel, by decide +kernel⟩, List.mem_of_getElem? (i := 198) (by decide +kernel), List.mem_of_getElem? (i := 597) (by decide +kernel), List.mem_of_getElem? (i := 598) (by decide +kernel)⟩
def lw_privs_1 : List (MethodName × Nat) := [(⟨"TurningVerse", "isLine", "(I)Z"⟩, 8), (⟨"TurningVerse$PoemReader", "readFirstStanza", "(LTurningVerse$Text;)I"⟩, 3), (⟨"TurningVerse$PoemReader", "wordBelow", "(LTurningVerse$Text;I)I"⟩, 3), (⟨"TurningVerse$PoemReader", "isStanzaOver", "(LTurningVerse$Text;)Z"⟩, 3), (⟨"TurningVerse$PoemReader", "readStanza", "(LTurningVerse$Text;)I"⟩, 3), (⟨"TurningVerse$PoemReader", "readTail", "(LTurningVerse$Text;)I"⟩, 3), (⟨"TurningVerse$PoemReader", "readTailLine", "(LTurningVerse$Text;)I"⟩, 3), (⟨"TurningVerse", "store", "(II)I"⟩, 8), (⟨"TurningVerse$Search", "note", "(II)V"⟩, 6), (⟨"TurningVerse$Search", "isFactor", "(I)Z"⟩, 6), (⟨"TurningVerse$Search", "firstFactor", "(I)I"⟩, 6), (⟨"TurningVerse$Search", "without", "(II)I"⟩, 6), (⟨"TurningVerse", "isStanza", "(I)Z"⟩, 8), (⟨"TurningVerse$Fit", "compare", "(LTurningVerse$Poem;II)V"⟩, 4), (⟨"TurningVerse$Fit", "mostKept", "()I"⟩, 4), (⟨"TurningVerse$Fit", "keptWith", "(III)I"⟩, 4)]
theorem lw_r1 : ∀ q ∈ lw_privs_1, lw_okq q := List.forall_mem_cons.mpr ⟨lw_p0, List.forall_mem_cons.mpr ⟨lw_p1, List.forall_mem_cons.mpr ⟨lw_p2, List.forall_mem_cons.mpr ⟨lw_p3, List.forall_mem_cons.mpr ⟨lw_p4, List.forall_mem_cons.mpr ⟨lw_p5, List.forall_mem_cons.mpr ⟨lw_p6, List.forall_mem_cons.mpr ⟨lw_p7, List.forall_mem_cons.mpr ⟨lw_p8, List.forall_mem_cons.mpr ⟨lw_p9, List.forall_mem_cons.mpr ⟨lw_p10, List.forall_mem_cons.mpr ⟨lw_p11, List.forall_mem_cons.mpr ⟨lw_p12, List.forall_mem_cons.mpr ⟨lw_p13, List.forall_mem_cons.mpr ⟨lw_p14, List.forall_mem_cons.mpr ⟨lw_p15, fun _ h => absurd h List.not_mem_nil⟩⟩⟩⟩⟩⟩⟩⟩⟩⟩⟩⟩⟩⟩⟩⟩
theorem lw_p16 : lw_okq (⟨"TurningVerse$Fit", "firstWord", "(II)I"⟩, 4) := ⟨⟨by decide +kernel, by decide +kernel⟩, List.mem_of_getElem? (i := 198) (by decide +kernel), List.mem_of_getElem? (i := 610) (by decide +kernel), List.mem_of_getElem? (i := 611) (by decide +kernel)⟩
theorem lw_p17 : lw_okq (⟨"TurningVerse$Fit", "atMostKept", "()I"⟩, 4) := ⟨⟨by decide +kernel, by decide +kernel⟩, List.mem_of_getElem? (i := 198) (by decide +kernel), List.mem_of_getElem? (i := 629) (by decide +kernel), List.mem_of_getElem? (i := 630) (by decide +kernel)⟩
theorem lw_p18 : lw_okq (⟨"TurningVerse$Fit", "mostOfLine", "(I)I"⟩, 4) := ⟨⟨by decide +kernel, by decide +kernel⟩, List.mem_of_getElem? (i := 198) (by decide +kernel), List.mem_of_getElem? (i := 633) (by decide +kernel), List.mem_of_getElem? (i := 634) (by decide +kernel)⟩
theorem lw_p19 : lw_okq (⟨"TurningVerse$Fit", "mostOfWord", "(I)I"⟩, 4) := ⟨⟨by decide +kernel, by decide +kernel⟩, List.mem_of_getElem? (i := 198) (by decide +kernel), List.mem_of_getElem? (i := 637) (by decide +kernel), List.mem_of_getElem? (i := 638) (by decide +kernel)⟩
theorem lw_p20 : lw_okq (⟨"TurningVerse", "soundsOf", "(I)I"⟩, 8) := ⟨⟨by decide +kernel, by decide +kernel⟩, List.mem_of_getElem? (i := 19) (by decide +kernel), List.mem_of_getElem? (i := 664) (by decide +kernel), List.mem_of_getElem? (i := 665) (by decide +kernel)⟩
theorem lw_p21 : lw_okq (⟨"TurningVerse", "withStanza", "(JI)J"⟩, 8) := ⟨⟨by decide +kernel, by decide +kernel⟩, List.mem_of_getElem? (i := 19) (by decide +kernel), List.mem_of_getElem? (i := 729) (by decide +kernel), List.mem_of_getElem? (i := 730) (by decide +kernel)⟩
theorem lw_p22 : lw_okq (⟨"TurningVerse", "withTail", "(J)J"⟩, 8) := ⟨⟨by decide +kernel, by decide +kernel⟩, List.mem_of_getElem? (i := 19) (by decide +kernel), List.mem_of_getElem? (i := 737) (by decide +kernel), List.mem_of_getElem? (i := 738) (by decide +kernel)⟩
theorem lw_p23 : lw_okq (⟨"TurningVerseModel", "resets", "(I)V"⟩, 18) := ⟨⟨by decide +kernel, by decide +kernel⟩, List.mem_of_getElem? (i := 743) (by decide +kernel), List.mem_of_getElem? (i := 749) (by decide +kernel), List.mem_of_getElem? (i := 750) (by decide +kernel)⟩
theorem lw_p24 : lw_okq (⟨"TurningVerseModel", "records", "()V"⟩, 18) := ⟨⟨by decide +kernel, by decide +kernel⟩, List.mem_of_getElem? (i := 743) (by decide +kernel), List.mem_of_getElem? (i := 815) (by decide +kernel), List.mem_of_getElem? (i := 816) (by decide +kernel)⟩
theorem lw_p25 : lw_okq (⟨"TurningVerseModel", "size", "()I"⟩, 18) := ⟨⟨by decide +kernel, by decide +kernel⟩, List.mem_of_getElem? (i := 743) (by decide +kernel), List.mem_of_getElem? (i := 819) (by decide +kernel), List.mem_of_getElem? (i := 820) (by decide +kernel)⟩
theorem lw_p26 : lw_okq (⟨"TurningVerseModel", "empties", "()V"⟩, 18) := ⟨⟨by decide +kernel, by decide +kernel⟩, List.mem_of_getElem? (i := 743) (by decide +kernel), List.mem_of_getElem? (i := 823) (by decide +kernel), List.mem_of_getElem? (i := 824) (by decide +kernel)⟩
theorem lw_p27 : lw_okq (⟨"TurningVerseModel", "isLine", "(I)Z"⟩, 18) := ⟨⟨by decide +kernel, by decide +kernel⟩, List.mem_of_getElem? (i := 743) (by decide +kernel), List.mem_of_getElem? (i := 831) (by decide +kernel), List.mem_of_getElem? (i := 832) (by decide +kernel)⟩
theorem lw_p28 : lw_okq (⟨"TurningVerseModel", "identity", "([I)V"⟩, 18) := ⟨⟨by decide +kernel, by decide +kernel⟩, List.mem_of_getElem? (i := 743) (by decide +kernel), List.mem_of_getElem? (i := 842) (by decide +kernel), List.mem_of_getElem? (i := 843) (by decide +kernel)⟩
theorem lw_p29 : lw_okq (⟨"TurningVerseModel", "puts", "([II)V"⟩, 18) := ⟨⟨by decide +kernel, by decide +kernel⟩, List.mem_of_getElem? (i := 743) (by decide +kernel), List.mem_of_getElem? (i := 846) (by decide +kernel), List.mem_of_getElem? (i := 847) (by decide +kernel)⟩
theorem lw_p30 : lw_okq (⟨"TurningVerseModel", "rank", "([I)I"⟩, 18) := ⟨⟨by decide +kernel, by decide +kernel⟩, List.mem_of_getElem? (i := 743) (by decide +kernel), List.mem_of_getElem? (i := 850) (by decide +kernel), List.mem_of_getElem? (i := 851) (by decide +kernel)⟩
theorem lw_p31 : lw_okq (⟨"TurningVerseModel", "takes", "(I[I)V"⟩, 18) := ⟨⟨by decide +kernel, by decide +kernel⟩, List.mem_of_getElem? (i := 743) (by decide +kernel), List.mem_of_getElem? (i := 858) (by decide +kernel), List.mem_of_getElem? (i := 859) (by decide +kernel)⟩
def lw_privs_2 : List (MethodName × Nat) := [(⟨"TurningVerse$Fit", "firstWord", "(II)I"⟩, 4), (⟨"TurningVerse$Fit", "atMostKept", "()I"⟩, 4), (⟨"TurningVerse$Fit", "mostOfLine", "(I)I"⟩, 4), (⟨"TurningVerse$Fit", "mostOfWord", "(I)I"⟩, 4), (⟨"TurningVerse", "soundsOf", "(I)I"⟩, 8), (⟨"TurningVerse", "withStanza", "(JI)J"⟩, 8), (⟨"TurningVerse", "withTail", "(J)J"⟩, 8), (⟨"TurningVerseModel", "resets", "(I)V"⟩, 18), (⟨"TurningVerseModel", "records", "()V"⟩, 18), (⟨"TurningVerseModel", "size", "()I"⟩, 18), (⟨"TurningVerseModel", "empties", "()V"⟩, 18), (⟨"TurningVerseModel", "isLine", "(I)Z"⟩, 18), (⟨"TurningVerseModel", "identity", "([I)V"⟩, 18), (⟨"TurningVerseModel", "puts", "([II)V"⟩, 18), (⟨"TurningVerseModel", "rank", "([I)I"⟩, 18), (⟨"TurningVerseModel", "takes", "(I[I)V"⟩, 18)]
theorem lw_r2 : ∀ q ∈ lw_privs_2, lw_okq q := List.forall_mem_cons.mpr ⟨lw_p16, List.forall_mem_cons.mpr ⟨lw_p17, List.forall_mem_cons.mpr ⟨lw_p18, List.forall_mem_cons.mpr ⟨lw_p19, List.forall_mem_cons.mpr ⟨lw_p20, List.forall_mem_cons.mpr ⟨lw_p21, List.forall_mem_cons.mpr ⟨lw_p22, List.forall_mem_cons.mpr ⟨lw_p23, List.forall_mem_cons.mpr ⟨lw_p24, List.forall_mem_cons.mpr ⟨lw_p25, List.forall_mem_cons.mpr ⟨lw_p26, List.forall_mem_cons.mpr ⟨lw_p27, List.forall_mem_cons.mpr ⟨lw_p28, List.forall_mem_cons.mpr ⟨lw_p29, List.forall_mem_cons.mpr ⟨lw_p30, List.forall_mem_cons.mpr ⟨lw_p31, fun _ h => absurd h List.not_mem_nil⟩⟩⟩⟩⟩⟩⟩⟩⟩⟩⟩⟩⟩⟩⟩⟩
theorem lw_p32 : lw_okq (⟨"TurningVerseModel", "multiplies", "([I[I[I)V"⟩, 18) := ⟨⟨by decide +kernel, by decide +kernel⟩, List.mem_of_getElem? (i := 743) (by decide +kernel), List.mem_of_getElem? (i := 862) (by decide +kernel), List.mem_of_getElem? (i := 863) (by decide +kernel)⟩
theorem lw_p33 : lw_okq (⟨"TurningVerseModel", "orderOf", "([I)I"⟩, 18) := ⟨⟨by decide +kernel, by decide +kernel⟩, List.mem_of_getElem? (i := 743) (by decide +kernel), List.mem_of_getElem? (i := 872) (by decide +kernel), List.mem_of_getElem? (i := 873) (by decide +kernel)⟩
theorem lw_p34 : lw_okq (⟨"TurningVerseModel", "cycleOf", "([II)I"⟩, 18) := ⟨⟨by decide +kernel, by decide +kernel⟩, List.mem_of_getElem? (i := 743) (by decide +kernel), List.mem_of_getElem? (i := 876) (by decide +kernel), List.mem_of_getElem? (i := 877) (by decide +kernel)⟩
theorem lw_p35 : lw_okq (⟨"TurningVerseModel", "raises", "([II[I)V"⟩, 18) := ⟨⟨by decide +kernel, by decide +kernel⟩, List.mem_of_getElem? (i := 743) (by decide +kernel), List.mem_of_getElem? (i := 880) (by decide +kernel), List.mem_of_getElem? (i := 881) (by decide +kernel)⟩
theorem lw_p36 : lw_okq (⟨"TurningVerseModel", "factorial", "()I"⟩, 18) := ⟨⟨by decide +kernel, by decide +kernel⟩, List.mem_of_getElem? (i := 743) (by decide +kernel), List.mem_of_getElem? (i := 888) (by decide +kernel), List.mem_of_getElem? (i := 889) (by decide +kernel)⟩
theorem lw_p37 : lw_okq (⟨"TurningVerseModel", "unranks", "(I[I)V"⟩, 18) := ⟨⟨by decide +kernel, by decide +kernel⟩, List.mem_of_getElem? (i := 743) (by decide +kernel), List.mem_of_getElem? (i := 892) (by decide +kernel), List.mem_of_getElem? (i := 893) (by decide +kernel)⟩
theorem lw_p38 : lw_okq (⟨"TurningVerseModel", "isSame", "([I[I)Z"⟩, 18) := ⟨⟨by decide +kernel, by decide +kernel⟩, List.mem_of_getElem? (i := 743) (by decide +kernel), List.mem_of_getElem? (i := 900) (by decide +kernel), List.mem_of_getElem? (i := 901) (by decide +kernel)⟩
theorem lw_p39 : lw_okq (⟨"TurningVerseModel", "turnOf", "(II)I"⟩, 18) := ⟨⟨by decide +kernel, by decide +kernel⟩, List.mem_of_getElem? (i := 743) (by decide +kernel), List.mem_of_getElem? (i := 912) (by decide +kernel), List.mem_of_getElem? (i := 913) (by decide +kernel)⟩
theorem lw_p40 : lw_okq (⟨"TurningVerseModel", "isFirst", "([II)Z"⟩, 18) := ⟨⟨by decide +kernel, by decide +kernel⟩, List.mem_of_getElem? (i := 743) (by decide +kernel), List.mem_of_getElem? (i := 916) (by decide +kernel), List.mem_of_getElem? (i := 917) (by decide +kernel)⟩
theorem lw_p41 : lw_okq (⟨"TurningVerseModel", "walks", "(I)V"⟩, 18) := ⟨⟨by decide +kernel, by decide +kernel⟩, List.mem_of_getElem? (i := 743) (by decide +kernel), List.mem_of_getElem? (i := 931) (by decide +kernel), List.mem_of_getElem? (i := 932) (by decide +kernel)⟩
theorem lw_p42 : lw_okq (⟨"TurningVerseModel", "rests", "(I)V"⟩, 18) := ⟨⟨by decide +kernel, by decide +kernel⟩, List.mem_of_getElem? (i := 743) (by decide +kernel), List.mem_of_getElem? (i := 943) (by decide +kernel), List.mem_of_getElem? (i := 944) (by decide +kernel)⟩
theorem lw_p43 : lw_okq (⟨"TurningVerseModel", "reads", "()Z"⟩, 18) := ⟨⟨by decide +kernel, by decide +kernel⟩, List.mem_of_getElem? (i := 743) (by decide +kernel), List.mem_of_getElem? (i := 959) (by decide +kernel), List.mem_of_getElem? (i := 960) (by decide +kernel)⟩
theorem lw_p44 : lw_okq (⟨"TurningVerseModel", "readsFirst", "()Z"⟩, 18) := ⟨⟨by decide +kernel, by decide +kernel⟩, List.mem_of_getElem? (i := 743) (by decide +kernel), List.mem_of_getElem? (i := 963) (by decide +kernel), List.mem_of_getElem? (i := 964) (by decide +kernel)⟩
theorem lw_p45 : lw_okq (⟨"TurningVerseModel", "isLetter", "(II)Z"⟩, 18) := ⟨⟨by decide +kernel, by decide +kernel⟩, List.mem_of_getElem? (i := 743) (by decide +kernel), List.mem_of_getElem? (i := 967) (by decide +kernel), List.mem_of_getElem? (i := 968) (by decide +kernel)⟩
theorem lw_p46 : lw_okq (⟨"TurningVerseModel", "byteAt", "(I)I"⟩, 18) := ⟨⟨by decide +kernel, by decide +kernel⟩, List.mem_of_getElem? (i := 743) (by decide +kernel), List.mem_of_getElem? (i := 971) (by decide +kernel), List.mem_of_getElem? (i := 972) (by decide +kernel)⟩
theorem lw_p47 : lw_okq (⟨"TurningVerseModel", "readsStanza", "()Z"⟩, 18) := ⟨⟨by decide +kernel, by decide +kernel⟩, List.mem_of_getElem? (i := 743) (by decide +kernel), List.mem_of_getElem? (i := 975) (by decide +kernel), List.mem_of_getElem? (i := 976) (by decide +kernel)⟩
def lw_privs_3 : List (MethodName × Nat) := [(⟨"TurningVerseModel", "multiplies", "([I[I[I)V"⟩, 18), (⟨"TurningVerseModel", "orderOf", "([I)I"⟩, 18), (⟨"TurningVerseModel", "cycleOf", "([II)I"⟩, 18), (⟨"TurningVerseModel", "raises", "([II[I)V"⟩, 18), (⟨"TurningVerseModel", "factorial", "()I"⟩, 18), (⟨"TurningVerseModel", "unranks", "(I[I)V"⟩, 18), (⟨"TurningVerseModel", "isSame", "([I[I)Z"⟩, 18), (⟨"TurningVerseModel", "turnOf", "(II)I"⟩, 18), (⟨"TurningVerseModel", "isFirst", "([II)Z"⟩, 18), (⟨"TurningVerseModel", "walks", "(I)V"⟩, 18), (⟨"TurningVerseModel", "rests", "(I)V"⟩, 18), (⟨"TurningVerseModel", "reads", "()Z"⟩, 18), (⟨"TurningVerseModel", "readsFirst", "()Z"⟩, 18), (⟨"TurningVerseModel", "isLetter", "(II)Z"⟩, 18), (⟨"TurningVerseModel", "byteAt", "(I)I"⟩, 18), (⟨"TurningVerseModel", "readsStanza", "()Z"⟩, 18)]
theorem lw_r3 : ∀ q ∈ lw_privs_3, lw_okq q := List.forall_mem_cons.mpr ⟨lw_p32, List.forall_mem_cons.mpr ⟨lw_p33, List.forall_mem_cons.mpr ⟨lw_p34, List.forall_mem_cons.mpr ⟨lw_p35, List.forall_mem_cons.mpr ⟨lw_p36, List.forall_mem_cons.mpr ⟨lw_p37, List.forall_mem_cons.mpr ⟨lw_p38, List.forall_mem_cons.mpr ⟨lw_p39, List.forall_mem_cons.mpr ⟨lw_p40, List.forall_mem_cons.mpr ⟨lw_p41, List.forall_mem_cons.mpr ⟨lw_p42, List.forall_mem_cons.mpr ⟨lw_p43, List.forall_mem_cons.mpr ⟨lw_p44, List.forall_mem_cons.mpr ⟨lw_p45, List.forall_mem_cons.mpr ⟨lw_p46, List.forall_mem_cons.mpr ⟨lw_p47, fun _ h => absurd h List.not_mem_nil⟩⟩⟩⟩⟩⟩⟩⟩⟩⟩⟩⟩⟩⟩⟩⟩
theorem lw_p48 : lw_okq (⟨"TurningVerseModel", "readsTail", "()Z"⟩, 18) := ⟨⟨by decide +kernel, by decide +kernel⟩, List.mem_of_getElem? (i := 743) (by decide +kernel), List.mem_of_getElem? (i := 979) (by decide +kernel), List.mem_of_getElem? (i := 980) (by decide +kernel)⟩
theorem lw_p49 : lw_okq (⟨"TurningVerseModel", "readsTurn", "()Z"⟩, 18) := ⟨⟨by decide +kernel, by decide +kernel⟩, List.mem_of_getElem? (i := 743) (by decide +kernel), List.mem_of_getElem? (i := 987) (by decide +kernel), List.mem_of_getElem? (i := 988) (by decide +kernel)⟩
theorem lw_p50 : lw_okq (⟨"TurningVerseModel", "placeOf", "(II)I"⟩, 18) := ⟨⟨by decide +kernel, by decide +kernel⟩, List.mem_of_getElem? (i := 743) (by decide +kernel), List.mem_of_getElem? (i := 995) (by decide +kernel), List.mem_of_getElem? (i := 996) (by decide +kernel)⟩
theorem lw_p51 : lw_okq (⟨"TurningVerseModel", "isStanza", "(I)Z"⟩, 18) := ⟨⟨by decide +kernel, by decide +kernel⟩, List.mem_of_getElem? (i := 743) (by decide +kernel), List.mem_of_getElem? (i := 1007) (by decide +kernel), List.mem_of_getElem? (i := 1008) (by decide +kernel)⟩
theorem lw_p52 : lw_okq (⟨"TurningVerseModel", "isProper", "(I)Z"⟩, 18) := ⟨⟨by decide +kernel, by decide +kernel⟩, List.mem_of_getElem? (i := 743) (by decide +kernel), List.mem_of_getElem? (i := 1023) (by decide +kernel), List.mem_of_getElem? (i := 1024) (by decide +kernel)⟩
theorem lw_p53 : lw_okq (⟨"TurningVerseModel", "turningOf", "(I)I"⟩, 18) := ⟨⟨by decide +kernel, by decide +kernel⟩, List.mem_of_getElem? (i := 743) (by decide +kernel), List.mem_of_getElem? (i := 1031) (by decide +kernel), List.mem_of_getElem? (i := 1032) (by decide +kernel)⟩
theorem lw_p54 : lw_okq (⟨"TurningVerseModel", "turns", "(I)V"⟩, 18) := ⟨⟨by decide +kernel, by decide +kernel⟩, List.mem_of_getElem? (i := 743) (by decide +kernel), List.mem_of_getElem? (i := 1035) (by decide +kernel), List.mem_of_getElem? (i := 1036) (by decide +kernel)⟩
theorem lw_p55 : lw_okq (⟨"TurningVerseModel", "followed", "()I"⟩, 18) := ⟨⟨by decide +kernel, by decide +kernel⟩, List.mem_of_getElem? (i := 743) (by decide +kernel), List.mem_of_getElem? (i := 1043) (by decide +kernel), List.mem_of_getElem? (i := 1044) (by decide +kernel)⟩
theorem lw_p56 : lw_okq (⟨"TurningVerseModel", "isFollowed", "(I)Z"⟩, 18) := ⟨⟨by decide +kernel, by decide +kernel⟩, List.mem_of_getElem? (i := 743) (by decide +kernel), List.mem_of_getElem? (i := 1051) (by decide +kernel), List.mem_of_getElem? (i := 1052) (by decide +kernel)⟩
theorem lw_p57 : lw_okq (⟨"TurningVerseModel", "wrong", "(I)I"⟩, 18) := ⟨⟨by decide +kernel, by decide +kernel⟩, List.mem_of_getElem? (i := 743) (by decide +kernel), List.mem_of_getElem? (i := 1059) (by decide +kernel), List.mem_of_getElem? (i := 1060) (by decide +kernel)⟩
theorem lw_p58 : lw_okq (⟨"TurningVerseModel", "costOf", "([I)I"⟩, 18) := ⟨⟨by decide +kernel, by decide +kernel⟩, List.mem_of_getElem? (i := 743) (by decide +kernel), List.mem_of_getElem? (i := 1063) (by decide +kernel), List.mem_of_getElem? (i := 1064) (by decide +kernel)⟩
theorem lw_p59 : lw_okq (⟨"TurningVerseModel", "missing", "()I"⟩, 18) := ⟨⟨by decide +kernel, by decide +kernel⟩, List.mem_of_getElem? (i := 743) (by decide +kernel), List.mem_of_getElem? (i := 1079) (by decide +kernel), List.mem_of_getElem? (i := 1080) (by decide +kernel)⟩
theorem lw_p60 : lw_okq (⟨"TurningVerseModel", "tailWords", "()I"⟩, 18) := ⟨⟨by decide +kernel, by decide +kernel⟩, List.mem_of_getElem? (i := 743) (by decide +kernel), List.mem_of_getElem? (i := 1083) (by decide +kernel), List.mem_of_getElem? (i := 1084) (by decide +kernel)⟩
theorem lw_p61 : lw_okq (⟨"TurningVerseModel", "takesVerse", "(I)V"⟩, 18) := ⟨⟨by decide +kernel, by decide +kernel⟩, List.mem_of_getElem? (i := 743) (by decide +kernel), List.mem_of_getElem? (i := 1095) (by decide +kernel), List.mem_of_getElem? (i := 1096) (by decide +kernel)⟩
theorem lw_p62 : lw_okq (⟨"TurningVerseModel", "schemeOfVerse", "()I"⟩, 18) := ⟨⟨by decide +kernel, by decide +kernel⟩, List.mem_of_getElem? (i := 743) (by decide +kernel), List.mem_of_getElem? (i := 1099) (by decide +kernel), List.mem_of_getElem? (i := 1100) (by decide +kernel)⟩
theorem lw_p63 : lw_okq (⟨"TurningVerseModel", "soundAt", "(I)I"⟩, 18) := ⟨⟨by decide +kernel, by decide +kernel⟩, List.mem_of_getElem? (i := 743) (by decide +kernel), List.mem_of_getElem? (i := 1103) (by decide +kernel), List.mem_of_getElem? (i := 1104) (by decide +kernel)⟩
def lw_privs_4 : List (MethodName × Nat) := [(⟨"TurningVerseModel", "readsTail", "()Z"⟩, 18), (⟨"TurningVerseModel", "readsTurn", "()Z"⟩, 18), (⟨"TurningVerseModel", "placeOf", "(II)I"⟩, 18), (⟨"TurningVerseModel", "isStanza", "(I)Z"⟩, 18), (⟨"TurningVerseModel", "isProper", "(I)Z"⟩, 18), (⟨"TurningVerseModel", "turningOf", "(I)I"⟩, 18), (⟨"TurningVerseModel", "turns", "(I)V"⟩, 18), (⟨"TurningVerseModel", "followed", "()I"⟩, 18), (⟨"TurningVerseModel", "isFollowed", "(I)Z"⟩, 18), (⟨"TurningVerseModel", "wrong", "(I)I"⟩, 18), (⟨"TurningVerseModel", "costOf", "([I)I"⟩, 18), (⟨"TurningVerseModel", "missing", "()I"⟩, 18), (⟨"TurningVerseModel", "tailWords", "()I"⟩, 18), (⟨"TurningVerseModel", "takesVerse", "(I)V"⟩, 18), (⟨"TurningVerseModel", "schemeOfVerse", "()I"⟩, 18), (⟨"TurningVerseModel", "soundAt", "(I)I"⟩, 18)]
theorem lw_r4 : ∀ q ∈ lw_privs_4, lw_okq q := List.forall_mem_cons.mpr ⟨lw_p48, List.forall_mem_cons.mpr ⟨lw_p49, List.forall_mem_cons.mpr ⟨lw_p50, List.forall_mem_cons.mpr ⟨lw_p51, List.forall_mem_cons.mpr ⟨lw_p52, List.forall_mem_cons.mpr ⟨lw_p53, List.forall_mem_cons.mpr ⟨lw_p54, List.forall_mem_cons.mpr ⟨lw_p55, List.forall_mem_cons.mpr ⟨lw_p56, List.forall_mem_cons.mpr ⟨lw_p57, List.forall_mem_cons.mpr ⟨lw_p58, List.forall_mem_cons.mpr ⟨lw_p59, List.forall_mem_cons.mpr ⟨lw_p60, List.forall_mem_cons.mpr ⟨lw_p61, List.forall_mem_cons.mpr ⟨lw_p62, List.forall_mem_cons.mpr ⟨lw_p63, fun _ h => absurd h List.not_mem_nil⟩⟩⟩⟩⟩⟩⟩⟩⟩⟩⟩⟩⟩⟩⟩⟩
theorem lw_p64 : lw_okq (⟨"TurningVerseModel", "properMany", "()I"⟩, 18) := ⟨⟨by decide +kernel, by decide +kernel⟩, List.mem_of_getElem? (i := 743) (by decide +kernel), List.mem_of_getElem? (i := 1119) (by decide +kernel), List.mem_of_getElem? (i := 1120) (by decide +kernel)⟩
theorem lw_p65 : lw_okq (⟨"TurningVerseModel", "locked", "()I"⟩, 18) := ⟨⟨by decide +kernel, by decide +kernel⟩, List.mem_of_getElem? (i := 743) (by decide +kernel), List.mem_of_getElem? (i := 1123) (by decide +kernel), List.mem_of_getElem? (i := 1124) (by decide +kernel)⟩
theorem lw_p66 : lw_okq (⟨"TurningVerseModel", "mixedStanza", "(JI)J"⟩, 18) := ⟨⟨by decide +kernel, by decide +kernel⟩, List.mem_of_getElem? (i := 743) (by decide +kernel), List.mem_of_getElem? (i := 1138) (by decide +kernel), List.mem_of_getElem? (i := 1139) (by decide +kernel)⟩
theorem lw_p67 : lw_okq (⟨"TurningVerseModel", "mixedTail", "(J)J"⟩, 18) := ⟨⟨by decide +kernel, by decide +kernel⟩, List.mem_of_getElem? (i := 743) (by decide +kernel), List.mem_of_getElem? (i := 1143) (by decide +kernel), List.mem_of_getElem? (i := 1144) (by decide +kernel)⟩
def lw_privs_5 : List (MethodName × Nat) := [(⟨"TurningVerseModel", "properMany", "()I"⟩, 18), (⟨"TurningVerseModel", "locked", "()I"⟩, 18), (⟨"TurningVerseModel", "mixedStanza", "(JI)J"⟩, 18), (⟨"TurningVerseModel", "mixedTail", "(J)J"⟩, 18)]
theorem lw_r5 : ∀ q ∈ lw_privs_5, lw_okq q := List.forall_mem_cons.mpr ⟨lw_p64, List.forall_mem_cons.mpr ⟨lw_p65, List.forall_mem_cons.mpr ⟨lw_p66, List.forall_mem_cons.mpr ⟨lw_p67, fun _ h => absurd h List.not_mem_nil⟩⟩⟩⟩
def lw_privs : List (MethodName × Nat) := lw_privs_1 ++ (lw_privs_2 ++ (lw_privs_3 ++ (lw_privs_4 ++ (lw_privs_5))))
def lw_tbl : List Cond := k2_sels lw_privs ++ tables_1
theorem lw_privs_ok : ∀ q ∈ lw_privs, lw_okq q := by
  show ∀ q ∈ lw_privs_1 ++ (lw_privs_2 ++ (lw_privs_3 ++ (lw_privs_4 ++ (lw_privs_5)))), lw_okq q
  exact List.forall_mem_append.mpr ⟨lw_r1, List.forall_mem_append.mpr ⟨lw_r2, List.forall_mem_append.mpr ⟨lw_r3, List.forall_mem_append.mpr ⟨lw_r4, lw_r5⟩⟩⟩⟩
-- ===== end of PART A =====
def lw_g : List Cond := lw_tbl.filter goodWord
theorem lw_gm {w : Cond} (i : Nat) (h : lw_tbl[i]? = some w) (hg : goodWord w = true) : w ∈ lw_g := List.mem_filter.mpr ⟨List.mem_of_getElem? h, hg⟩
theorem lw_gt {w : Cond} (h : w ∈ lw_g) : w ∈ lw_tbl := (List.mem_filter.mp h).1
theorem lw_all : lw_g.all goodWord = true := List.all_eq_true.mpr fun _ h => (List.mem_filter.mp h).2
abbrev xR0 : String := "TurningVerse$Fit"
def xT0 : u_T := fun k => match k with
  | 0 => ("TurningVerse$Fit", "n", "I", false)
  | 1 => ("TurningVerse$Fit", "kept", "[I", true)
  | 2 => ("TurningVerse$Fit", "allowed", "[I", true)
  | _ => ("TurningVerse$Fit", "most", "[I", true)
abbrev xR1 : String := "TurningVerse$History"
def xT1 : u_T := fun k => match k with
  | 0 => ("TurningVerse$History", "count", "I", false)
  | 1 => ("TurningVerse$History", "next", "I", false)
  | _ => ("TurningVerse$History", "states", "[LTurningVerse$State;", true)
abbrev xR2 : String := "TurningVerse$Poem"
def xT2 : u_T := fun k => match k with
  | 0 => ("TurningVerse$Poem", "count", "I", false)
  | 1 => ("TurningVerse$Poem", "tailLines", "I", false)
  | 2 => ("TurningVerse$Poem", "rows", "[I", true)
  | 3 => ("TurningVerse$Poem", "locks", "[I", true)
  | 4 => ("TurningVerse$Poem", "tailRows", "[I", true)
  | _ => ("TurningVerse$Poem", "tailLengths", "[I", true)
abbrev xR3 : String := "TurningVerse$PoemReader"
def xT3 : u_T := fun k => match k with
  | 0 => ("TurningVerse$PoemReader", "n", "I", false)
  | 1 => ("TurningVerse$PoemReader", "poem", "LTurningVerse$Poem;", true)
  | _ => ("TurningVerse$PoemReader", "pos", "I", false)
abbrev xR4 : String := "TurningVerse$Search"
def xT4 : u_T := fun k => match k with
  | 0 => ("TurningVerse$Search", "count", "I", false)
  | 1 => ("TurningVerse$Search", "n", "I", false)
  | 2 => ("TurningVerse$Search", "set", "I", false)
  | 3 => ("TurningVerse$Search", "factors", "[I", true)
  | 4 => ("TurningVerse$Search", "found", "[I", true)
  | _ => ("TurningVerse$Search", "depths", "[I", true)
abbrev xR5 : String := "TurningVerse$State"
def xT5 : u_T := fun k => match k with
  | 0 => ("TurningVerse$State", "n", "I", false)
  | 1 => ("TurningVerse$State", "sounds", "I", false)
  | 2 => ("TurningVerse$State", "registers", "[I", true)
  | _ => ("TurningVerse$State", "poem", "LTurningVerse$Poem;", true)
abbrev xR6 : String := "TurningVerse$Text"
def xT6 : u_T := fun k => match k with
  | 0 => ("TurningVerse$Text", "length", "I", false)
  | _ => ("TurningVerse$Text", "bytes", "[I", true)
abbrev xR7 : String := "TurningVerse$TurnReader"
def xT7 : u_T := fun k => match k with
  | _ => ("TurningVerse$TurnReader", "permutation", "I", false)
abbrev xR8 : String := "TurningVerse"
def xT8 : u_T := fun k => match k with
  | 0 => ("TurningVerse", "now", "LTurningVerse$State;", true)
  | 1 => ("TurningVerse", "history", "LTurningVerse$History;", true)
  | 2 => ("TurningVerse", "text", "LTurningVerse$Text;", true)
  | 3 => ("TurningVerse", "poemReader", "LTurningVerse$PoemReader;", true)
  | 4 => ("TurningVerse", "turnReader", "LTurningVerse$TurnReader;", true)
  | 5 => ("TurningVerse", "search", "LTurningVerse$Search;", true)
  | 6 => ("TurningVerse", "fit", "LTurningVerse$Fit;", true)
  | _ => ("TurningVerse", "schemesSeen", "[I", true)
abbrev xR9 : String := "TurningVerseModel"
def xT9 : u_T := fun k => match k with
  | 0 => ("TurningVerseModel", "page", "[I", true)
  | 1 => ("TurningVerseModel", "remembered", "I", false)
  | 2 => ("TurningVerseModel", "text", "[I", true)
  | 3 => ("TurningVerseModel", "typed", "I", false)
  | 4 => ("TurningVerseModel", "row", "[I", true)
  | 5 => ("TurningVerseModel", "other", "[I", true)
  | 6 => ("TurningVerseModel", "third", "[I", true)
  | 7 => ("TurningVerseModel", "far", "[I", true)
  | 8 => ("TurningVerseModel", "line", "[I", true)
  | 9 => ("TurningVerseModel", "lines", "I", false)
  | 10 => ("TurningVerseModel", "made", "[I", true)
  | 11 => ("TurningVerseModel", "madeWords", "I", false)
  | 12 => ("TurningVerseModel", "spot", "I", false)
  | 13 => ("TurningVerseModel", "prices", "[I", true)
  | 14 => ("TurningVerseModel", "least", "[I", true)
  | 15 => ("TurningVerseModel", "verse", "[I", true)
  | 16 => ("TurningVerseModel", "turned", "[I", true)
  | _ => ("TurningVerseModel", "seen", "[I", true)
abbrev xcl : List vw_C := [(xR0, xT0, 4), (xR1, xT1, 3), (xR2, xT2, 6), (xR3, xT3, 3), (xR4, xT4, 6), (xR5, xT5, 4), (xR6, xT6, 2), (xR7, xT7, 1), (xR8, xT8, 8), (xR9, xT9, 18)]
def xfty (ci k : Nat) : FieldType := match ci with
  | 0 => match k with
    | 0 => .int
    | 1 => .array .int
    | 2 => .array .int
    | _ => .array .int
  | 1 => match k with
    | 0 => .int
    | 1 => .int
    | _ => .array (.object "TurningVerse$State")
  | 2 => match k with
    | 0 => .int
    | 1 => .int
    | 2 => .array .int
    | 3 => .array .int
    | 4 => .array .int
    | _ => .array .int
  | 3 => match k with
    | 0 => .int
    | 1 => .object "TurningVerse$Poem"
    | _ => .int
  | 4 => match k with
    | 0 => .int
    | 1 => .int
    | 2 => .int
    | 3 => .array .int
    | 4 => .array .int
    | _ => .array .int
  | 5 => match k with
    | 0 => .int
    | 1 => .int
    | 2 => .array .int
    | _ => .object "TurningVerse$Poem"
  | 6 => match k with
    | 0 => .int
    | _ => .array .int
  | 7 => match k with
    | _ => .int
  | 8 => match k with
    | 0 => .object "TurningVerse$State"
    | 1 => .object "TurningVerse$History"
    | 2 => .object "TurningVerse$Text"
    | 3 => .object "TurningVerse$PoemReader"
    | 4 => .object "TurningVerse$TurnReader"
    | 5 => .object "TurningVerse$Search"
    | 6 => .object "TurningVerse$Fit"
    | _ => .array .int
  | 9 => match k with
    | 0 => .array .int
    | 1 => .int
    | 2 => .array .int
    | 3 => .int
    | 4 => .array .int
    | 5 => .array .int
    | 6 => .array .int
    | 7 => .array .int
    | 8 => .array .int
    | 9 => .int
    | 10 => .array .int
    | 11 => .int
    | 12 => .int
    | 13 => .array .int
    | 14 => .array .int
    | 15 => .array .int
    | 16 => .array .int
    | _ => .array .int
  | _ => .int
def xdef (ci : Nat) : List Value := match ci with
  | 0 => [.int 0, .null, .null, .null]
  | 1 => [.int 0, .int 0, .null]
  | 2 => [.int 0, .int 0, .null, .null, .null, .null]
  | 3 => [.int 0, .null, .int 0]
  | 4 => [.int 0, .int 0, .int 0, .null, .null, .null]
  | 5 => [.int 0, .int 0, .null, .null]
  | 6 => [.int 0, .null]
  | 7 => [.int 0]
  | 8 => [.null, .null, .null, .null, .null, .null, .null, .null]
  | 9 => [.null, .int 0, .null, .int 0, .null, .null, .null, .null, .null, .int 0, .null, .int 0, .int 0, .null, .null, .null, .null, .null]
  | _ => []
abbrev xrn : String := "TurningVerse$State"
abbrev xrc : Nat := 5
theorem xrc_ok : ∃ rc, xcl[xrc]? = some rc ∧ rc.1 = xrn := ⟨_, rfl, rfl⟩
end
section
/-! THE ABSTRACT MACHINE: heaps as functions of relative addresses, a generator of conditions (wp) over the decoded code, and its soundness over the kit's W -/
abbrev xE : Type := (Nat × (Nat → Int32)) ⊕ ((Nat × (Nat → Option Nat)) ⊕ (Nat × List Value))
abbrev xia (n : Nat) (f : Nat → Int32) : xE := .inl (n, f)
abbrev xra (n : Nat) (g : Nat → Option Nat) : xE := .inr (.inl (n, g))
abbrev xob (c : Nat) (fs : List Value) : xE := .inr (.inr (c, fs))
abbrev xHp : Type := Nat × Nat × (Nat → xE)
def xat (h : xHp) (a : Nat) (e : xE) : Prop := a < h.1 ∧ h.2.2 a = e
def xset (h : xHp) (a : Nat) (e : xE) : xHp := (h.1, h.2.1, va_up h.2.2 a e)
def xnew (h : xHp) (n : Nat) (e : xE) : xHp := (h.1 + 1, h.2.1 + n, va_up h.2.2 h.1 e)
abbrev xLo : Type := List (Nat × Value)
def xcv (b : Nat) : Value → Value
  | .ref k => .ref (b + k)
  | v => v
def xce (cI cR : ClassId) (b : Nat) : xE → va_E
  | .inl (n, f) => .inl (cI, (n, .inl f))
  | .inr (.inl (n, g)) => .inl (cR, (n, .inr (.inr (.inr (.inr (fun j => (g j).map (fun k => b + k)))))))
  | .inr (.inr (c, fs)) => .inr (c, fs.map (xcv b))
def xtys (cI cR : ClassId) : List (ClassId × FieldType) := [(cI, .int), (cR, .object xrn)]
def xWd (D : va_G) (cI cR : ClassId) (b : Nat) (h : xHp) (H : Heap) : Prop := H.size = b + h.1 ∧ ∀ k, k < h.1 → va_at D xcl (b + k, xce cI cR b (h.2.2 k)) H
def xKk (D : va_G) (cI cR : ClassId) (U : State) : Prop := va_K D xcl (xtys cI cR) U ∧ va_AO xrn U
theorem xKk.moved {D : va_G} {cI cR : ClassId} {u U : State} (hvm : u.vm.Alike U.vm) (h : xKk D cI cR u) : xKk D cI cR U := ⟨va_K.moved hvm h.1, va_AO.moved hvm h.2⟩
/-- a signature: name, bytes, locals, answer's type, frames, words of locals below, parameters, the receiver's class -/
abbrev xSig : Type := MethodName × ByteArray × Nat × Option FieldType × Nat × Nat × Nat × Option Nat
abbrev sgN (g : xSig) : MethodName := g.1
abbrev sgB (g : xSig) : ByteArray := g.2.1
abbrev sgL (g : xSig) : Nat := g.2.2.1
abbrev sgR (g : xSig) : Option FieldType := g.2.2.2.1
abbrev sgF (g : xSig) : Nat := g.2.2.2.2.1
abbrev sgO (g : xSig) : Nat := g.2.2.2.2.2.1
abbrev sgP (g : xSig) : Nat := g.2.2.2.2.2.2.1
abbrev sgV (g : xSig) : Option Nat := g.2.2.2.2.2.2.2
def xwd (g : xSig) : List Cond := Cond.code (sgN g) (sgB g) (sgL g) (sgR g) :: lw_g
def xrm (g : xSig) (mc ms : Nat) : Room := { frames := sgF g, cells := mc, slots := ms, locals := sgO g }
abbrev xL : Type := (Nat × Nat) ⊕ (xSig ⊕ (Int32 ⊕ (Int64 ⊕ (Nat × List (Int32 × Nat)))))
abbrev xI : Type := Instr × Nat × xL
abbrev xCd : Type := List (Nat × xI)
/-! the contract of a method at one start and one end -/
def xQc (D : va_G) (cI cR : ClassId) (b : Nat) (v : Option Value) (h' : xHp) : Array Value → State → Outcome → State → Prop := fun _ st o t => o = .returned (v.map (xcv b)) ∧ xWd D cI cR b h' t.heap ∧ xKk D cI cR t ∧ va_F (fun q => b ≤ q) st t
def xQ (D : va_G) (cI cR : ClassId) (b : Nat) (Q : Option Value → xHp → Prop) : Array Value → State → Outcome → State → Prop := fun a st o t => ∃ v h', Q v h' ∧ xQc D cI cR b v h' a st o t
def xrecv (g : xSig) (args : List Value) (h : xHp) : Prop := ∀ c, sgV g = some c → ∃ a fs As, args = .ref a :: As ∧ xat h a (xob c fs)
def SpecA (g : xSig) (args : List Value) (h : xHp) (v : Option Value) (h' : xHp) : Prop :=
  h.1 ≤ h'.1 ∧ h.2.1 ≤ h'.2.1 ∧ xrecv g args h ∧ ∀ (l : Launch) (D : va_G) (cI cR : ClassId) (b : Nat),
    Met l (sgN g) (xwd g) (xrm g (h'.1 - h.1) (h'.2.1 - h.2.1)) (va_Pc (args.map (xcv b)) (fun U => xWd D cI cR b h U.heap ∧ xKk D cI cR U)) (xQc D cI cR b v h') (h'.1 - h.1) (h'.2.1 - h.2.1) (fun q => b ≤ q)
def Spec (g : xSig) (args : List Value) (h : xHp) (v : Option Value) (h' : xHp) : Prop := SpecA g args h v h' ∧ h'.1 = h.1 ∧ h'.2.1 = h.2.1
/-! a point of a method's walk -/
def xFix (p : Program) (s : State) (m : MethodId) (args : Array Value) (meth : Method) (c : Code) (g : xSig) : Prop :=
  p.tables.exec = Jvm.exec ∧ c.code = sgB g ∧ meth.sig.returnType = sgR g ∧ meth.locks = false ∧ c.maxLocals = sgL g ∧ s.vm.findClass (sgN g).cls = some m.cls ∧ meth.name = (sgN g).name ∧ ∀ w ∈ xwd g, w.before args s = true
def xcL (b : Nat) (L : xLo) : xLo := L.map (fun q => (q.1, xcv b q.2))
def xCx (lim : Nat × Nat) (g : xSig) (D : va_G) (cI cR : ClassId) (b N0 S0 : Nat) (s : State) (h : xHp) (H : Heap) (locs : List Loc) : Prop :=
  xKk D cI cR s ∧ xWd D cI cR b h H ∧ va_S (fun q => b ≤ q) s.heap H locs ∧ b + N0 = s.heap.size ∧ N0 ≤ h.1 ∧ h.1 ≤ lim.1 ∧ S0 ≤ h.2.1 ∧ h.2.1 ≤ lim.2
def xAt (lim : Nat × Nat) (g : xSig) (Q : Option Value → xHp → Prop) (pc : Nat) (L : xLo) (st : List Value) (h : xHp) : Prop :=
  ∀ (p : Program) (l : Launch) (e : Env) (s : State) (m : MethodId) (args : Array Value) (below : List Frame) (meth : Method) (c : Code) (D : va_G) (cI cR : ClassId) (b N0 S0 : Nat) (H : Heap) (locs : List Loc) (ls : Array Slot),
    xFix p s m args meth c g → xCx lim g D cI cR b N0 S0 s h H locs → lv_has ls (sgL g) (xcL b L) →
    W p l e (xrm g (lim.1 - N0) (lim.2 - S0)) s m args below meth c H locs (h.1 - N0) (h.2.1 - S0) (MQ below (xQ D cI cR b Q) args s (lim.1 - N0) (lim.2 - S0) (fun q => b ≤ q)) (F0 m pc ls (st.map (xcv b)))
/-! locals -/
def xget : xLo → Nat → Option Value
  | [], _ => none
  | (j, v) :: L, i => bif Nat.beq j i then some v else xget L i
def xins : xLo → Nat → Value → xLo
  | [], i, v => [(i, v)]
  | (j, w) :: L, i, v => bif Nat.blt i j then (i, v) :: (j, w) :: L else (j, w) :: xins L i v
def xk1 (i : Nat) (q : Nat × Value) : Bool := !(q.1 == i) && !(q.1 + 1 == i && q.2.category == 2)
def xk2 (i : Nat) (q : Nat × Value) : Bool := !(q.1 == i) && (!(q.1 == i + 1) && !(q.1 + 1 == i && q.2.category == 2))
def xflt (p : Nat × Value → Bool) : xLo → xLo
  | [] => []
  | q :: L => bif p q then q :: xflt p L else xflt p L
def xput1 (L : xLo) (i : Nat) (v : Value) : xLo := xins (xflt (xk1 i) L) i v
def xput2 (L : xLo) (i : Nat) (v : Value) : xLo := xins (xflt (xk2 i) L) i v
def xmem : List Nat → Nat → Bool
  | [], _ => false
  | j :: l, i => bif Nat.beq j i then true else xmem l i
def xsel (L : xLo) (ks : List Nat) : xLo := xflt (fun q => xmem ks q.1) L
def xfind : xCd → Nat → Option xI
  | [], _ => none
  | (q, i) :: r, pc => bif Nat.beq q pc then some i else xfind r pc
def xcut : List (Nat × List Nat) → Nat → Option (List Nat)
  | [], _ => none
  | (q, i) :: r, pc => bif Nat.beq q pc then some i else xcut r pc
def xcats : List Value → Nat
  | [] => 0
  | v :: st => v.category + xcats st
theorem nb_eq {a b : Nat} (h : Nat.beq a b = true) : a = b := Nat.eq_of_beq_eq_true h
theorem nb_ne {a b : Nat} (h : Nat.beq a b = false) : ¬ a = b := Nat.ne_of_beq_eq_false h
theorem xget_mem : ∀ {L : xLo} {i : Nat} {v : Value}, xget L i = some v → (i, v) ∈ L
  | [], _, _, h => by cases h
  | (j, w) :: L, i, v, h => by
    unfold xget at h
    cases hb : Nat.beq j i with
    | true => rw [hb] at h; cases h; rw [nb_eq hb]; exact List.mem_cons_self
    | false => rw [hb] at h; exact List.mem_cons_of_mem _ (xget_mem h)
theorem xins_mem : ∀ {L : xLo} {i : Nat} {v : Value} {q : Nat × Value}, q ∈ xins L i v → q = (i, v) ∨ q ∈ L
  | [], _, _, _, h => by
    unfold xins at h
    exact Or.inl (List.mem_singleton.mp h)
  | (j, w) :: L, i, v, q, h => by
    unfold xins at h
    cases hb : Nat.blt i j with
    | true => rw [hb] at h; exact (List.mem_cons.mp h).elim Or.inl Or.inr
    | false =>
      rw [hb] at h
      rcases List.mem_cons.mp h with h | h
      · exact Or.inr (h ▸ List.mem_cons_self)
      · exact (xins_mem h).elim Or.inl (fun z => Or.inr (List.mem_cons_of_mem _ z))
theorem xflt_mem {p : Nat × Value → Bool} : ∀ {L : xLo} {q : Nat × Value}, q ∈ xflt p L → q ∈ L ∧ p q = true
  | [], _, h => by cases h
  | r :: L, q, h => by
    unfold xflt at h
    cases hb : p r with
    | true =>
      rw [hb] at h
      rcases List.mem_cons.mp h with h | h
      · subst h; exact ⟨List.mem_cons_self, hb⟩
      · exact ⟨List.mem_cons_of_mem _ (xflt_mem h).1, (xflt_mem h).2⟩
    | false => rw [hb] at h; exact ⟨List.mem_cons_of_mem _ (xflt_mem h).1, (xflt_mem h).2⟩
theorem xfind_mem : ∀ {cd : xCd} {pc : Nat} {i : xI}, xfind cd pc = some i → (pc, i) ∈ cd
  | [], _, _, h => by cases h
  | (j, w) :: L, i, v, h => by
    unfold xfind at h
    cases hb : Nat.beq j i with
    | true => rw [hb] at h; cases h; rw [nb_eq hb]; exact List.mem_cons_self
    | false => rw [hb] at h; exact List.mem_cons_of_mem _ (xfind_mem h)
theorem xcv_cat (b : Nat) (v : Value) : (xcv b v).category = v.category := by cases v <;> rfl
theorem xcats_eq (b : Nat) : ∀ st : List Value, ((st.map (xcv b)).map fun v => v.category).sum = xcats st
  | [] => rfl
  | v :: st => by
    simp only [List.map_cons, List.sum_cons, xcats, xcv_cat]
    rw [xcats_eq b st]
theorem xl_get {ls : Array Slot} {n b i : Nat} {L : xLo} {v : Value} (h : lv_has ls n (xcL b L)) (hg : xget L i = some v) : ls[i]? = some (.val (xcv b v)) :=
  h.2.2 (i, xcv b v) (List.mem_map.mpr ⟨(i, v), xget_mem hg, rfl⟩)
theorem xl_sub {ls : Array Slot} {n b : Nat} {L L' : xLo} (h : lv_has ls n (xcL b L)) (hs : ∀ q ∈ L', q ∈ L) : lv_has ls n (xcL b L') :=
  ⟨h.1, h.2.1, fun q hq => by
    obtain ⟨r, hr, rfl⟩ := List.mem_map.mp hq
    exact h.2.2 _ (List.mem_map.mpr ⟨r, hs r hr, rfl⟩)⟩
theorem xl_of {ls : Array Slot} {n : Nat} {l l' : xLo} (h : lv_has ls n l) (hs : ∀ q ∈ l', q ∈ l) : lv_has ls n l' := ⟨h.1, h.2.1, fun q hq => h.2.2 q (hs q hq)⟩
theorem xl_put1 {b : Nat} {L : xLo} {i : Nat} {v : Value} : ∀ q ∈ xcL b (xput1 L i v), q ∈ (i, xcv b v) :: (xcL b L).filter (fun q => !(q.1 == i) && !(q.1 + 1 == i && q.2.category == 2)) := by
  intro q hq
  obtain ⟨r, hr, rfl⟩ := List.mem_map.mp hq
  rcases xins_mem hr with h | h
  · subst h; exact List.mem_cons_self
  · obtain ⟨h1, h2⟩ := xflt_mem h
    refine List.mem_cons_of_mem _ (List.mem_filter.mpr ⟨List.mem_map.mpr ⟨r, h1, rfl⟩, ?_⟩)
    simp only [xcv_cat]
    exact h2
theorem xl_put2 {b : Nat} {L : xLo} {i : Nat} {v : Value} : ∀ q ∈ xcL b (xput2 L i v), q ∈ (i, xcv b v) :: (xcL b L).filter (fun q => !(q.1 == i) && (!(q.1 == i + 1) && !(q.1 + 1 == i && q.2.category == 2))) := by
  intro q hq
  obtain ⟨r, hr, rfl⟩ := List.mem_map.mp hq
  rcases xins_mem hr with h | h
  · subst h; exact List.mem_cons_self
  · obtain ⟨h1, h2⟩ := xflt_mem h
    refine List.mem_cons_of_mem _ (List.mem_filter.mpr ⟨List.mem_map.mpr ⟨r, h1, rfl⟩, ?_⟩)
    simp only [xcv_cat]
    exact h2
theorem xAt_sub {lim : Nat × Nat} {g : xSig} {Q : Option Value → xHp → Prop} {pc : Nat} {L L' : xLo} {st : List Value} {h : xHp} (k : xAt lim g Q pc L' st h) (hs : ∀ q ∈ L', q ∈ L) : xAt lim g Q pc L st h :=
  fun p l e s m args below meth c D cI cR b N0 S0 H locs ls X C hl => k p l e s m args below meth c D cI cR b N0 S0 H locs ls X C (xl_sub hl hs)
theorem xsel_mem {L : xLo} {ks : List Nat} : ∀ q ∈ xsel L ks, q ∈ L := fun _ h => (xflt_mem h).1
/-! stacks -/
def xp1 (st : List Value) (f : Value → List Value → Prop) : Prop := match st with
  | v :: r => f v r
  | _ => False
def xpi (st : List Value) (f : Int32 → List Value → Prop) : Prop := match st with
  | .int x :: r => f x r
  | _ => False
def xpl (st : List Value) (f : Int64 → List Value → Prop) : Prop := match st with
  | .long x :: r => f x r
  | _ => False
def xpr (st : List Value) (f : Nat → List Value → Prop) : Prop := match st with
  | .ref x :: r => f x r
  | _ => False
theorem xp1_el {st : List Value} {f : Value → List Value → Prop} (h : xp1 st f) : ∃ x r, st = x :: r ∧ f x r := by
  match st, h with
  | v :: r, h => exact ⟨v, r, rfl, h⟩
theorem xpi_el {st : List Value} {f : Int32 → List Value → Prop} (h : xpi st f) : ∃ x r, st = .int x :: r ∧ f x r := by
  match st, h with
  | .int v :: r, h => exact ⟨v, r, rfl, h⟩
theorem xpl_el {st : List Value} {f : Int64 → List Value → Prop} (h : xpl st f) : ∃ x r, st = .long x :: r ∧ f x r := by
  match st, h with
  | .long v :: r, h => exact ⟨v, r, rfl, h⟩
theorem xpr_el {st : List Value} {f : Nat → List Value → Prop} (h : xpr st f) : ∃ x r, st = .ref x :: r ∧ f x r := by
  match st, h with
  | .ref v :: r, h => exact ⟨v, r, rfl, h⟩
/-- the topmost n values, the deepest first -/
def xpop : Nat → List Value → List Value → Option (List Value × List Value)
  | 0, As, st => some (As, st)
  | n + 1, As, v :: st => xpop n (v :: As) st
  | _ + 1, _, [] => none
theorem xpop_el : ∀ {n : Nat} {As0 st As r : List Value}, xpop n As0 st = some (As, r) → ∃ B, As = B ++ As0 ∧ st = B.reverse ++ r ∧ B.length = n
  | 0, As0, st, As, r, h => by
    unfold xpop at h
    cases h
    exact ⟨[], rfl, rfl, rfl⟩
  | n + 1, As0, v :: st, As, r, h => by
    unfold xpop at h
    obtain ⟨B, h1, h2, h3⟩ := xpop_el h
    refine ⟨B ++ [v], by rw [h1]; simp, by rw [h2]; simp, by simp [h3]⟩
  | n + 1, As0, [], As, r, h => by
    unfold xpop at h
    cases h
def xix (i : Int32) (j n : Nat) : Prop := i = nI j ∧ j < n ∧ n < 2147483648
theorem xix_in {i : Int32} {j n : Nat} (h : xix i j n) : vp_in i n ∧ i.toNatClampNeg = j := by
  obtain ⟨rfl, h1, h2⟩ := h
  exact ⟨nI_in h1 h2, nI_clamp (Nat.lt_trans h1 h2)⟩
def xvk : FieldType → Value → Bool
  | .int, .int _ => true
  | .object _, .ref _ => true
  | .array _, .ref _ => true
  | _, _ => false
theorem xvk_ok {ty : FieldType} {v : Value} (b : Nat) (h : xvk ty v = true) : narrow ty (xcv b v) = xcv b v ∧ fits ty (xcv b v) = true := by
  cases ty <;> cases v <;> first | exact ⟨rfl, rfl⟩ | cases h
def xsw : List (Int32 × Nat) → Int32 → (Nat → Prop) → Nat → Prop
  | [], _, k, d => k d
  | (v, t) :: r, x, k, d => (x = v → k t) ∧ (¬ x = v → xsw r x k d)
end
section
/-! ONE STEP: the condition of an instruction; 'k' is what must hold behind it -/
def xlv (lk : xL) (f : Int32 → Prop) : Prop := match lk with
  | .inr (.inr (.inl v)) => f v
  | _ => False
def xlw (lk : xL) (f : Int64 → Prop) : Prop := match lk with
  | .inr (.inr (.inr (.inl v))) => f v
  | _ => False
def xlf (lk : xL) (f : Nat → Nat → Prop) : Prop := match lk with
  | .inl (a, b) => f a b
  | _ => False
def xgi (L : xLo) (i : Nat) (f : Int32 → Prop) : Prop := match xget L i with
  | some (.int x) => f x
  | _ => False
def xgl (L : xLo) (i : Nat) (f : Int64 → Prop) : Prop := match xget L i with
  | some (.long x) => f x
  | _ => False
def xgr (L : xLo) (i : Nat) (f : Nat → Prop) : Prop := match xget L i with
  | some (.ref x) => f x
  | _ => False
theorem xgi_el {L : xLo} {i : Nat} {f : Int32 → Prop} (h : xgi L i f) : ∃ x, xget L i = some (.int x) ∧ f x := by
  unfold xgi at h
  split at h
  · exact ⟨_, by assumption, h⟩
  · exact h.elim
theorem xgl_el {L : xLo} {i : Nat} {f : Int64 → Prop} (h : xgl L i f) : ∃ x, xget L i = some (.long x) ∧ f x := by
  unfold xgl at h
  split at h
  · exact ⟨_, by assumption, h⟩
  · exact h.elim
theorem xgr_el {L : xLo} {i : Nat} {f : Nat → Prop} (h : xgr L i f) : ∃ x, xget L i = some (.ref x) ∧ f x := by
  unfold xgr at h
  split at h
  · exact ⟨_, by assumption, h⟩
  · exact h.elim
/-- what a call asks, by the answer's type -/
def xcal (g : xSig) (As : List Value) (h : xHp) (k : List Value → xHp → Prop) : Prop := match sgR g with
  | none => ∃ h', Spec g As h none h' ∧ k [] h'
  | some .long => ∃ (r : Int64) (h' : xHp), Spec g As h (some (.long r)) h' ∧ k [.long r] h'
  | some _ => ∃ (r : Int32) (h' : xHp), Spec g As h (some (.int r)) h' ∧ k [.int r] h'
/-- a branch -/
def xbr (c : Prop) (a b : Prop) : Prop := (c → a) ∧ (¬ c → b)
/-- an answer of a type that is narrower than int -/
def xrt (g : xSig) (v : Int32) (q : Prop) : Prop := match sgR g with
  | some .int => q
  | some .boolean => (v = nI 0 ∨ v = nI 1) ∧ q
  | _ => False
def xcpw : Nat := nativeFrameWords "java/lang/System" "arraycopy" 5 + 11
abbrev xK : Type := Nat → xLo → List Value → xHp → Prop
def xnil (st : List Value) (p : Prop) : Prop := match st with
  | [] => p
  | _ => False
def xtsw (k : xK) (L : xLo) (st : List Value) (h : xHp) (lk : xL) : Prop := match lk with
  | .inr (.inr (.inr (.inr (d, ps)))) => xpi st fun x r => xsw ps x (fun t => k t L r h) d
  | _ => False
def xist (k : xK) (pc len : Nat) (L : xLo) (st : List Value) (h : xHp) (lk : xL) : Prop := match lk with
  | .inr (.inl c) => match xpop (sgP c) [] st with
    | some (As, r) => bif Nat.ble (xcats r) 8 then xcal c As h (fun v h' => k (pc + len) L (v ++ r) h') else False
    | none => False
  | .inl _ => xpi st fun n r => xpi r fun dp r => xpr r fun a r => xpi r fun sp r => xpr r fun a0 r => bif Nat.ble (xcats r) 8 then ∃ n0 f n1 f1 jn jd js, xat h a0 (xia n0 f) ∧ xat h a (xia n1 f1) ∧ n = nI jn ∧ dp = nI jd ∧ sp = nI js ∧ js + jn ≤ n0 ∧ jd + jn ≤ n1 ∧ n0 < 100000 ∧ n1 < 100000 ∧ k (pc + len) L r (xset h a (xia n1 (va_cpy f f1 js jd jn))) else False
  | _ => False
def xivt (k : xK) (pc len : Nat) (L : xLo) (st : List Value) (h : xHp) (lk : xL) : Prop := match lk with
  | .inr (.inl c) => match xpop (sgP c) [] st with
    | some (As, r) => xpr r fun a r => bif Nat.ble (xcats r) 8 then xcal c (.ref a :: As) h (fun v h' => k (pc + len) L (v ++ r) h') else False
    | none => False
  | _ => False
def xisp (lim : Nat × Nat) (k : xK) (pc len : Nat) (L : xLo) (st : List Value) (h : xHp) (lk : xL) : Prop := match lk with
  | .inr (.inl c) => match xpop (sgP c) [] st with
    | some (As, r) => xpr r fun a r => bif Nat.ble (xcats r) 8 then ∃ h', SpecA c (.ref a :: As) h none h' ∧ h'.1 ≤ lim.1 ∧ h'.2.1 ≤ lim.2 ∧ k (pc + len) L r h' else False
    | none => False
  | .inl _ => xpr st fun a r => bif Nat.ble (xcats r) 8 then k (pc + len) L r h else False
  | _ => False

def xstep (lim : Nat × Nat) (g : xSig) (k : xK) (Q : Option Value → xHp → Prop) (pc : Nat) (L : xLo) (st : List Value) (h : xHp) (i : Instr) (len : Nat) (lk : xL) : Prop := match i with
  | .iconst _ => xlv lk fun v => k (pc + len) L (.int v :: st) h
  | .bipush _ => xlv lk fun v => k (pc + len) L (.int v :: st) h
  | .sipush _ => xlv lk fun v => k (pc + len) L (.int v :: st) h
  | .ldc _ => xlv lk fun v => k (pc + len) L (.int v :: st) h
  | .ldc_w _ => xlv lk fun v => k (pc + len) L (.int v :: st) h
  | .ldc2_w _ => xlw lk fun v => k (pc + len) L (.long v :: st) h
  | .iload i => xgi L i fun x => k (pc + len) L (.int x :: st) h
  | .iload_n n => xgi L n.val fun x => k (pc + len) L (.int x :: st) h
  | .lload i => xgl L i fun x => k (pc + len) L (.long x :: st) h
  | .lload_n n => xgl L n.val fun x => k (pc + len) L (.long x :: st) h
  | .aload i => xgr L i fun x => k (pc + len) L (.ref x :: st) h
  | .aload_n n => xgr L n.val fun x => k (pc + len) L (.ref x :: st) h
  | .istore i => xpi st fun x r => k (pc + len) (xput1 L i (.int x)) r h
  | .istore_n n => xpi st fun x r => k (pc + len) (xput1 L n.val (.int x)) r h
  | .lstore i => xpl st fun x r => k (pc + len) (xput2 L i (.long x)) r h
  | .lstore_n n => xpl st fun x r => k (pc + len) (xput2 L n.val (.long x)) r h
  | .astore i => xpr st fun x r => k (pc + len) (xput1 L i (.ref x)) r h
  | .astore_n n => xpr st fun x r => k (pc + len) (xput1 L n.val (.ref x)) r h
  | .iinc i _ => xlv lk fun v => xgi L i fun x => k (pc + len) (xput1 L i (.int (x + v))) st h
  | .iadd => xpi st fun y r => xpi r fun x r => k (pc + len) L (.int (x + y) :: r) h
  | .isub => xpi st fun y r => xpi r fun x r => k (pc + len) L (.int (x - y) :: r) h
  | .imul => xpi st fun y r => xpi r fun x r => k (pc + len) L (.int (x * y) :: r) h
  | .iand => xpi st fun y r => xpi r fun x r => k (pc + len) L (.int (x &&& y) :: r) h
  | .ior => xpi st fun y r => xpi r fun x r => k (pc + len) L (.int (x ||| y) :: r) h
  | .ixor => xpi st fun y r => xpi r fun x r => k (pc + len) L (.int (x ^^^ y) :: r) h
  | .ishl => xpi st fun y r => xpi r fun x r => k (pc + len) L (.int (x <<< (y &&& 31)) :: r) h
  | .ishr => xpi st fun y r => xpi r fun x r => k (pc + len) L (.int (x >>> (y &&& 31)) :: r) h
  | .iushr => xpi st fun y r => xpi r fun x r => k (pc + len) L (.int ((x.toUInt32 >>> (y.toUInt32 &&& Int32.toUInt32 31)).toInt32) :: r) h
  | .idiv => xpi st fun y r => xpi r fun x r => ¬ y = 0 ∧ k (pc + len) L (.int (x / y) :: r) h
  | .irem => xpi st fun y r => xpi r fun x r => ¬ y = 0 ∧ k (pc + len) L (.int (x - x / y * y) :: r) h
  | .ineg => xpi st fun x r => k (pc + len) L (.int (-x) :: r) h
  | .ladd => xpl st fun y r => xpl r fun x r => k (pc + len) L (.long (x + y) :: r) h
  | .lmul => xpl st fun y r => xpl r fun x r => k (pc + len) L (.long (x * y) :: r) h
  | .i2l => xpi st fun x r => k (pc + len) L (.long x.toInt64 :: r) h
  | .dup => xp1 st fun v r => bif Nat.beq v.category 1 then k (pc + len) L (v :: v :: r) h else False
  | .dup2 => xp1 st fun v r => xp1 r fun u r => bif Nat.beq v.category 1 && Nat.beq u.category 1 then k (pc + len) L (v :: u :: v :: u :: r) h else False
  | .pop => xp1 st fun v r => bif Nat.beq v.category 1 then k (pc + len) L r h else False
  | .ifCond .eq _ => xlf lk fun t _ => xpi st fun x r => xbr (x = nI 0) (k t L r h) (k (pc + len) L r h)
  | .ifCond .ne _ => xlf lk fun t _ => xpi st fun x r => xbr (x = nI 0) (k (pc + len) L r h) (k t L r h)
  | .ifCond .lt _ => xlf lk fun t _ => xpi st fun x r => xbr (x < nI 0) (k t L r h) (k (pc + len) L r h)
  | .ifCond .ge _ => xlf lk fun t _ => xpi st fun x r => xbr (nI 0 ≤ x) (k t L r h) (k (pc + len) L r h)
  | .ifCond .gt _ => xlf lk fun t _ => xpi st fun x r => xbr (nI 0 < x) (k t L r h) (k (pc + len) L r h)
  | .ifCond .le _ => xlf lk fun t _ => xpi st fun x r => xbr (x ≤ nI 0) (k t L r h) (k (pc + len) L r h)
  | .if_icmp .eq _ => xlf lk fun t _ => xpi st fun y r => xpi r fun x r => xbr (x = y) (k t L r h) (k (pc + len) L r h)
  | .if_icmp .ne _ => xlf lk fun t _ => xpi st fun y r => xpi r fun x r => xbr (x = y) (k (pc + len) L r h) (k t L r h)
  | .if_icmp .lt _ => xlf lk fun t _ => xpi st fun y r => xpi r fun x r => xbr (x < y) (k t L r h) (k (pc + len) L r h)
  | .if_icmp .ge _ => xlf lk fun t _ => xpi st fun y r => xpi r fun x r => xbr (y ≤ x) (k t L r h) (k (pc + len) L r h)
  | .if_icmp .gt _ => xlf lk fun t _ => xpi st fun y r => xpi r fun x r => xbr (y < x) (k t L r h) (k (pc + len) L r h)
  | .if_icmp .le _ => xlf lk fun t _ => xpi st fun y r => xpi r fun x r => xbr (x ≤ y) (k t L r h) (k (pc + len) L r h)
  | .goto _ => xlf lk fun t _ => k t L st h
  | .tableswitch _ _ _ _ => xtsw k L st h lk
  | .getfield _ => xlf lk fun ci n => xpr st fun a r => ∃ fs v, xat h a (xob ci fs) ∧ fs[n]? = some v ∧ k (pc + len) L (v :: r) h
  | .putfield _ => xlf lk fun ci n => xp1 st fun v r => xpr r fun a r => ∃ fs, xat h a (xob ci fs) ∧ n < fs.length ∧ bif xvk (xfty ci n) v then k (pc + len) L r (xset h a (xob ci (fs.set n v))) else False
  | .iaload => xpi st fun i r => xpr r fun a r => ∃ n f j, xat h a (xia n f) ∧ xix i j n ∧ k (pc + len) L (.int (f j) :: r) h
  | .iastore => xpi st fun x r => xpi r fun i r => xpr r fun a r => ∃ n f j, xat h a (xia n f) ∧ xix i j n ∧ k (pc + len) L r (xset h a (xia n (upd f j x)))
  | .aaload => xpi st fun i r => xpr r fun a r => ∃ n f j q, xat h a (xra n f) ∧ xix i j n ∧ f j = some q ∧ k (pc + len) L (.ref q :: r) h
  | .aastore => xpr st fun v r => xpi r fun i r => xpr r fun a r => ∃ n f j fs, xat h a (xra n f) ∧ xix i j n ∧ xat h v (xob xrc fs) ∧ k (pc + len) L r (xset h a (xra n (va_up f j (some v))))
  | .arraylength => xpr st fun a r => ∃ n f, xat h a (xia n f) ∧ k (pc + len) L (.int (nI n) :: r) h
  | .newarray _ => xpi st fun i r => ∃ j, i = nI j ∧ j < 100000 ∧ h.1 + 1 ≤ lim.1 ∧ h.2.1 + j ≤ lim.2 ∧ k (pc + len) L (.ref h.1 :: r) (xnew h j (xia j (fun _ => 0)))
  | .anewarray _ => xpi st fun i r => ∃ j, i = nI j ∧ j < 100000 ∧ h.1 + 1 ≤ lim.1 ∧ h.2.1 + j ≤ lim.2 ∧ k (pc + len) L (.ref h.1 :: r) (xnew h j (xra j (fun _ => none)))
  | .new _ => xlf lk fun ci n => h.1 + 1 ≤ lim.1 ∧ h.2.1 + n ≤ lim.2 ∧ k (pc + len) L (.ref h.1 :: st) (xnew h n (xob ci (xdef ci)))
  | .invokestatic _ => xist k pc len L st h lk
  | .invokevirtual _ => xivt k pc len L st h lk
  | .invokespecial _ => xisp lim k pc len L st h lk
  | .ireturn => xpi st fun x r => xnil r (xrt g x (Q (some (.int x)) h))
  | .lreturn => xpl st fun x r => xnil r (Q (some (.long x)) h)
  | .return_ => xnil st (Q none h)
  | _ => False
def xgo (r : Option xI) (f : Instr → Nat → xL → Prop) : Prop := match r with
  | none => False
  | some i => f i.1 i.2.1 i.2.2
def xnext (cut : List (Nat × List Nat)) (K w : xK) : xK := fun pc L st h => match xcut cut pc with
  | none => w pc L st h
  | some ks => K pc (xsel L ks) st h
theorem xgo_el {r : Option xI} {f : Instr → Nat → xL → Prop} (h : xgo r f) : ∃ i len lk, r = some (i, len, lk) ∧ f i len lk := by
  match r, h with
  | some (i, len, lk), h => exact ⟨i, len, lk, rfl, h⟩
theorem xnext_el {cut : List (Nat × List Nat)} {K w : xK} {pc : Nat} {L : xLo} {st : List Value} {h : xHp} (hh : xnext cut K w pc L st h) : w pc L st h ∨ ∃ ks, K pc (xsel L ks) st h := by
  unfold xnext at hh
  split at hh
  · exact Or.inl hh
  · exact Or.inr ⟨_, hh⟩
def wp (lim : Nat × Nat) (g : xSig) (cd : xCd) (cut : List (Nat × List Nat)) (K : xK) (Q : Option Value → xHp → Prop) : Nat → Nat → xLo → List Value → xHp → Prop
  | 0, _, _, _, _ => False
  | n + 1, pc, L, st, h => xgo (xfind cd pc) (xstep lim g (xnext cut K (wp lim g cd cut K Q n)) Q pc L st h)
/-! what is checked of the code, once -/
def xckv (lk : xL) (f : Int32 → Bool) : Bool := match lk with
  | .inr (.inr (.inl v)) => f v
  | _ => true
def xckt (lk : xL) (f : Nat → Bool) : Bool := match lk with
  | .inl (t, _) => f t
  | _ => true
def xswk (pc : Nat) (offs : List Int) : Int → List (Int32 × Nat) → Bool
  | _, [] => match offs with
    | [] => true
    | _ => false
  | lo, (v, t) :: r => match offs with
    | [] => false
    | o :: os => decide (v.toInt = lo) && decide ((pc : Int) + o = (t : Int)) && xswk pc os (lo + 1) r
def xck (g : xSig) (e : Nat × xI) : Bool := match e.2.1 with
  | .iconst n => xckv e.2.2.2 (fun v => decide (Int32.ofInt n = v)) && Nat.beq e.2.2.1 1
  | .bipush n => xckv e.2.2.2 (fun v => decide ((Int8.ofInt n).toInt32 = v)) && Nat.beq e.2.2.1 2
  | .sipush n => xckv e.2.2.2 (fun v => decide ((Int16.ofInt n).toInt32 = v)) && Nat.beq e.2.2.1 3
  | .ldc _ => Nat.beq e.2.2.1 2
  | .ldc_w _ | .ldc2_w _ => Nat.beq e.2.2.1 3
  | .iload _ | .lload _ | .aload _ => Nat.beq e.2.2.1 2
  | .istore i | .astore i => Nat.blt i (sgL g) && Nat.beq e.2.2.1 2
  | .lstore i => Nat.blt (i + 1) (sgL g) && Nat.beq e.2.2.1 2
  | .istore_n n | .astore_n n => Nat.blt n.val (sgL g) && Nat.beq e.2.2.1 1
  | .lstore_n n => Nat.blt (n.val + 1) (sgL g) && Nat.beq e.2.2.1 1
  | .iinc i n => xckv e.2.2.2 (fun v => decide (Int32.ofInt n = v)) && Nat.blt i (sgL g) && Nat.beq e.2.2.1 3
  | .ifCond _ off => xckt e.2.2.2 (fun t => decide ((e.1 : Int) + off = (t : Int))) && Nat.beq e.2.2.1 3
  | .if_icmp _ off => xckt e.2.2.2 (fun t => decide ((e.1 : Int) + off = (t : Int))) && Nat.beq e.2.2.1 3
  | .goto off => xckt e.2.2.2 (fun t => decide ((e.1 : Int) + off = (t : Int))) && Nat.beq e.2.2.1 3
  | .tableswitch d lo hi offs => match e.2.2.2 with
    | .inr (.inr (.inr (.inr (t, ps)))) => decide ((e.1 : Int) + d = (t : Int)) && xswk e.1 offs.toList lo ps && decide (hi = lo + ps.length - 1)
    | _ => true
  | .lreturn => decide (sgR g = some .long) && Nat.beq e.2.2.1 1
  | .return_ => decide (sgR g = none) && Nat.beq e.2.2.1 1
  | .getfield _ | .putfield _ | .new _ | .anewarray _ => Nat.beq e.2.2.1 3
  | .newarray _ => Nat.beq e.2.2.1 2
  | .invokestatic _ => (match e.2.2.2 with
    | .inr (.inl c) => Nat.ble (sgF c + 1) (sgF g) && Nat.ble (8 + (sgL c + 11) + sgO c) (sgO g)
    | _ => Nat.ble 1 (sgF g) && Nat.ble (8 + xcpw) (sgO g)) && Nat.beq e.2.2.1 3
  | .invokevirtual _ => (match e.2.2.2 with
    | .inr (.inl c) => Nat.ble (sgF c + 1) (sgF g) && Nat.ble (8 + (sgL c + 11) + sgO c) (sgO g)
    | _ => true) && Nat.beq e.2.2.1 3
  | .invokespecial _ => (match e.2.2.2 with
    | .inr (.inl c) => Nat.ble (sgF c + 1) (sgF g) && Nat.ble (8 + (sgL c + 11) + sgO c) (sgO g)
    | _ => Nat.ble 1 (sgF g) && Nat.ble 20 (sgO g)) && Nat.beq e.2.2.1 3
  | _ => Nat.beq e.2.2.1 1
/-! what the tables must say of an instruction that links -/
def xfl (own : String) (idx ci k : Nat) : Prop := ∃ r, xcl[ci]? = some r ∧ k < r.2.2 ∧ Cond.fieldLink own idx (r.2.1 k).1 (r.2.1 k).2.1 (r.2.1 k).2.2.1 ∈ lw_g
def xmc (c : xSig) : Prop := Cond.initialized (sgN c).cls ∈ lw_g ∧ Cond.code (sgN c) (sgB c) (sgL c) (sgR c) ∈ lw_g ∧ (sgN c).cls ≠ "java/lang/invoke/MethodHandle" ∧ (sgN c).cls ≠ "java/lang/invoke/VarHandle" ∧ (parseMethodDescriptor (sgN c).desc).map (fun d => d.parameters.length) = some (sgP c)
def xms (c : xSig) : Prop := xmc c ∧ Cond.static (sgN c) ∈ lw_g
def xmv (c : xSig) : Prop := xmc c ∧ Cond.instanceMethod (sgN c) ∈ lw_g ∧ Cond.selects (sgN c).cls (sgN c) (sgN c) ∈ lw_g ∧ ∃ ci r, sgV c = some ci ∧ xcl[ci]? = some r ∧ r.1 = (sgN c).cls
def xmi (c : xSig) : Prop := xmc c ∧ Cond.instanceMethod (sgN c) ∈ lw_g ∧ (sgN c).name = "<init>" ∧ sgR c = none
def xfp (g : xSig) (ci k : Nat) : Prop := ∀ r, xcl[ci]? = some r → (r.2.1 k).2.2.2 = true → (sgN g).name = "<init>" ∧ r.1 = (sgN g).cls
def xlk (g : xSig) (e : Nat × xI) : Prop := match e.2.1, e.2.2.2 with
  | .getfield idx, .inl (ci, k) => xfl (sgN g).cls idx ci k
  | .putfield idx, .inl (ci, k) => xfl (sgN g).cls idx ci k ∧ xfp g ci k
  | .new idx, .inl (ci, n) => ∃ r, xcl[ci]? = some r ∧ r.2.2 = n ∧ Cond.classLink (sgN g).cls idx r.1 ∈ lw_g ∧ Cond.instantiable r.1 r.2.2 ∈ lw_g ∧ Cond.initialized r.1 ∈ lw_g
  | .invokestatic idx, .inr (.inl c) => Cond.methodLink (sgN g).cls idx (sgN c) ∈ lw_g ∧ xms c
  | .invokestatic idx, .inl _ => Cond.methodLink (sgN g).cls idx arraycopyName ∈ lw_g ∧ Cond.native arraycopyName ∈ lw_g ∧ Cond.static arraycopyName ∈ lw_g ∧ Cond.initialized "java/lang/System" ∈ lw_g
  | .invokevirtual idx, .inr (.inl c) => Cond.methodLink (sgN g).cls idx (sgN c) ∈ lw_g ∧ xmv c
  | .invokespecial idx, .inr (.inl c) => Cond.methodLink (sgN g).cls idx (sgN c) ∈ lw_g ∧ xmi c
  | .invokespecial idx, .inl _ => Cond.methodLink (sgN g).cls idx Lib.objectInit ∈ lw_g ∧ Cond.instanceMethod Lib.objectInit ∈ lw_g ∧ Cond.code Lib.objectInit ⟨#[0xb1]⟩ 1 none ∈ lw_g
  | .newarray .int, _ => Cond.arrayClass .int ∈ lw_g
  | .newarray _, _ => False
  | .anewarray idx, _ => Cond.classLink (sgN g).cls idx xrn ∈ lw_g
  | .ldc idx, .inr (.inr (.inl v)) => Cond.constant (sgN g).cls idx v ∈ lw_g
  | .ldc_w idx, .inr (.inr (.inl v)) => Cond.constant (sgN g).cls idx v ∈ lw_g
  | .ldc2_w idx, .inr (.inr (.inr (.inl v))) => Cond.constantLong (sgN g).cls idx v ∈ lw_g
  | _, _ => True
def xOK (g : xSig) (cd : xCd) : Prop := (∀ e ∈ cd, decode (sgB g) e.1 = .ok (e.2.1, e.2.2.1)) ∧ cd.all (xck g) = true ∧ ∀ e ∈ cd, xlk g e
end
section
/-! what the tables say of the classes whose objects there are -/
def xclP (ci : Nat) (r : vw_C) : Prop := (∀ k, k < r.2.2 → parseFieldDescriptor (r.2.1 k).2.2.1 = some (xfty ci k)) ∧ (∀ a, a < r.2.2 → ∀ b, b < r.2.2 → a ≠ b → (r.2.1 a).2.1 ≠ (r.2.1 b).2.1) ∧ (∀ k, k < r.2.2 → (r.2.1 k).1 = r.1) ∧ (∀ k, k < r.2.2 → defaultValue (xfty ci k) = vp_V (xdef ci) k) ∧ (∀ w ∈ u_ws r.1 r.2.1 r.2.2, w ∈ lw_g) ∧ (∀ b, (xdef ci).map (xcv b) = xdef ci)
set_option maxRecDepth 100000 in
theorem xlay_0_0 : u_lay xR0 xT0 0 ∈ lw_g := lw_gm 275 rfl rfl
set_option maxRecDepth 100000 in
theorem xlay_0_1 : u_lay xR0 xT0 1 ∈ lw_g := lw_gm 277 rfl rfl
set_option maxRecDepth 100000 in
theorem xlay_0_2 : u_lay xR0 xT0 2 ∈ lw_g := lw_gm 279 rfl rfl
set_option maxRecDepth 100000 in
theorem xlay_0_3 : u_lay xR0 xT0 3 ∈ lw_g := lw_gm 281 rfl rfl
theorem xcl_0 : xclP 0 (xR0, xT0, 4) := by
  refine ⟨by decide +kernel, by decide +kernel, by decide +kernel, by decide +kernel, fun w hw => ?_, fun b => rfl⟩
  obtain ⟨k, hk, rfl⟩ := List.mem_map.mp hw
  have hk := List.mem_range.mp hk
  match k, hk with
  | 0, _ => exact xlay_0_0
  | 1, _ => exact xlay_0_1
  | 2, _ => exact xlay_0_2
  | 3, _ => exact xlay_0_3
  | z + 4, h => exact absurd h (Nat.not_lt.mpr (Nat.le_add_left 4 z))
set_option maxRecDepth 100000 in
theorem xlay_1_0 : u_lay xR1 xT1 0 ∈ lw_g := lw_gm 185 rfl rfl
set_option maxRecDepth 100000 in
theorem xlay_1_1 : u_lay xR1 xT1 1 ∈ lw_g := lw_gm 187 rfl rfl
set_option maxRecDepth 100000 in
theorem xlay_1_2 : u_lay xR1 xT1 2 ∈ lw_g := lw_gm 189 rfl rfl
theorem xcl_1 : xclP 1 (xR1, xT1, 3) := by
  refine ⟨by decide +kernel, by decide +kernel, by decide +kernel, by decide +kernel, fun w hw => ?_, fun b => rfl⟩
  obtain ⟨k, hk, rfl⟩ := List.mem_map.mp hw
  have hk := List.mem_range.mp hk
  match k, hk with
  | 0, _ => exact xlay_1_0
  | 1, _ => exact xlay_1_1
  | 2, _ => exact xlay_1_2
  | z + 3, h => exact absurd h (Nat.not_lt.mpr (Nat.le_add_left 3 z))
set_option maxRecDepth 100000 in
theorem xlay_2_0 : u_lay xR2 xT2 0 ∈ lw_g := lw_gm 121 rfl rfl
set_option maxRecDepth 100000 in
theorem xlay_2_1 : u_lay xR2 xT2 1 ∈ lw_g := lw_gm 123 rfl rfl
set_option maxRecDepth 100000 in
theorem xlay_2_2 : u_lay xR2 xT2 2 ∈ lw_g := lw_gm 125 rfl rfl
set_option maxRecDepth 100000 in
theorem xlay_2_3 : u_lay xR2 xT2 3 ∈ lw_g := lw_gm 127 rfl rfl
set_option maxRecDepth 100000 in
theorem xlay_2_4 : u_lay xR2 xT2 4 ∈ lw_g := lw_gm 129 rfl rfl
set_option maxRecDepth 100000 in
theorem xlay_2_5 : u_lay xR2 xT2 5 ∈ lw_g := lw_gm 131 rfl rfl
theorem xcl_2 : xclP 2 (xR2, xT2, 6) := by
  refine ⟨by decide +kernel, by decide +kernel, by decide +kernel, by decide +kernel, fun w hw => ?_, fun b => rfl⟩
  obtain ⟨k, hk, rfl⟩ := List.mem_map.mp hw
  have hk := List.mem_range.mp hk
  match k, hk with
  | 0, _ => exact xlay_2_0
  | 1, _ => exact xlay_2_1
  | 2, _ => exact xlay_2_2
  | 3, _ => exact xlay_2_3
  | 4, _ => exact xlay_2_4
  | 5, _ => exact xlay_2_5
  | z + 6, h => exact absurd h (Nat.not_lt.mpr (Nat.le_add_left 6 z))
set_option maxRecDepth 100000 in
theorem xlay_3_0 : u_lay xR3 xT3 0 ∈ lw_g := lw_gm 221 rfl rfl
set_option maxRecDepth 100000 in
theorem xlay_3_1 : u_lay xR3 xT3 1 ∈ lw_g := lw_gm 223 rfl rfl
set_option maxRecDepth 100000 in
theorem xlay_3_2 : u_lay xR3 xT3 2 ∈ lw_g := lw_gm 225 rfl rfl
theorem xcl_3 : xclP 3 (xR3, xT3, 3) := by
  refine ⟨by decide +kernel, by decide +kernel, by decide +kernel, by decide +kernel, fun w hw => ?_, fun b => rfl⟩
  obtain ⟨k, hk, rfl⟩ := List.mem_map.mp hw
  have hk := List.mem_range.mp hk
  match k, hk with
  | 0, _ => exact xlay_3_0
  | 1, _ => exact xlay_3_1
  | 2, _ => exact xlay_3_2
  | z + 3, h => exact absurd h (Nat.not_lt.mpr (Nat.le_add_left 3 z))
set_option maxRecDepth 100000 in
theorem xlay_4_0 : u_lay xR4 xT4 0 ∈ lw_g := lw_gm 252 rfl rfl
set_option maxRecDepth 100000 in
theorem xlay_4_1 : u_lay xR4 xT4 1 ∈ lw_g := lw_gm 254 rfl rfl
set_option maxRecDepth 100000 in
theorem xlay_4_2 : u_lay xR4 xT4 2 ∈ lw_g := lw_gm 256 rfl rfl
set_option maxRecDepth 100000 in
theorem xlay_4_3 : u_lay xR4 xT4 3 ∈ lw_g := lw_gm 258 rfl rfl
set_option maxRecDepth 100000 in
theorem xlay_4_4 : u_lay xR4 xT4 4 ∈ lw_g := lw_gm 260 rfl rfl
set_option maxRecDepth 100000 in
theorem xlay_4_5 : u_lay xR4 xT4 5 ∈ lw_g := lw_gm 262 rfl rfl
theorem xcl_4 : xclP 4 (xR4, xT4, 6) := by
  refine ⟨by decide +kernel, by decide +kernel, by decide +kernel, by decide +kernel, fun w hw => ?_, fun b => rfl⟩
  obtain ⟨k, hk, rfl⟩ := List.mem_map.mp hw
  have hk := List.mem_range.mp hk
  match k, hk with
  | 0, _ => exact xlay_4_0
  | 1, _ => exact xlay_4_1
  | 2, _ => exact xlay_4_2
  | 3, _ => exact xlay_4_3
  | 4, _ => exact xlay_4_4
  | 5, _ => exact xlay_4_5
  | z + 6, h => exact absurd h (Nat.not_lt.mpr (Nat.le_add_left 6 z))
set_option maxRecDepth 100000 in
theorem xlay_5_0 : u_lay xR5 xT5 0 ∈ lw_g := lw_gm 163 rfl rfl
set_option maxRecDepth 100000 in
theorem xlay_5_1 : u_lay xR5 xT5 1 ∈ lw_g := lw_gm 165 rfl rfl
set_option maxRecDepth 100000 in
theorem xlay_5_2 : u_lay xR5 xT5 2 ∈ lw_g := lw_gm 167 rfl rfl
set_option maxRecDepth 100000 in
theorem xlay_5_3 : u_lay xR5 xT5 3 ∈ lw_g := lw_gm 169 rfl rfl
theorem xcl_5 : xclP 5 (xR5, xT5, 4) := by
  refine ⟨by decide +kernel, by decide +kernel, by decide +kernel, by decide +kernel, fun w hw => ?_, fun b => rfl⟩
  obtain ⟨k, hk, rfl⟩ := List.mem_map.mp hw
  have hk := List.mem_range.mp hk
  match k, hk with
  | 0, _ => exact xlay_5_0
  | 1, _ => exact xlay_5_1
  | 2, _ => exact xlay_5_2
  | 3, _ => exact xlay_5_3
  | z + 4, h => exact absurd h (Nat.not_lt.mpr (Nat.le_add_left 4 z))
set_option maxRecDepth 100000 in
theorem xlay_6_0 : u_lay xR6 xT6 0 ∈ lw_g := lw_gm 203 rfl rfl
set_option maxRecDepth 100000 in
theorem xlay_6_1 : u_lay xR6 xT6 1 ∈ lw_g := lw_gm 205 rfl rfl
theorem xcl_6 : xclP 6 (xR6, xT6, 2) := by
  refine ⟨by decide +kernel, by decide +kernel, by decide +kernel, by decide +kernel, fun w hw => ?_, fun b => rfl⟩
  obtain ⟨k, hk, rfl⟩ := List.mem_map.mp hw
  have hk := List.mem_range.mp hk
  match k, hk with
  | 0, _ => exact xlay_6_0
  | 1, _ => exact xlay_6_1
  | z + 2, h => exact absurd h (Nat.not_lt.mpr (Nat.le_add_left 2 z))
set_option maxRecDepth 100000 in
theorem xlay_7_0 : u_lay xR7 xT7 0 ∈ lw_g := lw_gm 236 rfl rfl
theorem xcl_7 : xclP 7 (xR7, xT7, 1) := by
  refine ⟨by decide +kernel, by decide +kernel, by decide +kernel, by decide +kernel, fun w hw => ?_, fun b => rfl⟩
  obtain ⟨k, hk, rfl⟩ := List.mem_map.mp hw
  have hk := List.mem_range.mp hk
  match k, hk with
  | 0, _ => exact xlay_7_0
  | z + 1, h => exact absurd h (Nat.not_lt.mpr (Nat.le_add_left 1 z))
set_option maxRecDepth 100000 in
theorem xlay_8_0 : u_lay xR8 xT8 0 ∈ lw_g := lw_gm 292 rfl rfl
set_option maxRecDepth 100000 in
theorem xlay_8_1 : u_lay xR8 xT8 1 ∈ lw_g := lw_gm 294 rfl rfl
set_option maxRecDepth 100000 in
theorem xlay_8_2 : u_lay xR8 xT8 2 ∈ lw_g := lw_gm 296 rfl rfl
set_option maxRecDepth 100000 in
theorem xlay_8_3 : u_lay xR8 xT8 3 ∈ lw_g := lw_gm 298 rfl rfl
set_option maxRecDepth 100000 in
theorem xlay_8_4 : u_lay xR8 xT8 4 ∈ lw_g := lw_gm 300 rfl rfl
set_option maxRecDepth 100000 in
theorem xlay_8_5 : u_lay xR8 xT8 5 ∈ lw_g := lw_gm 302 rfl rfl
set_option maxRecDepth 100000 in
theorem xlay_8_6 : u_lay xR8 xT8 6 ∈ lw_g := lw_gm 304 rfl rfl
set_option maxRecDepth 100000 in
theorem xlay_8_7 : u_lay xR8 xT8 7 ∈ lw_g := lw_gm 306 rfl rfl
theorem xcl_8 : xclP 8 (xR8, xT8, 8) := by
  refine ⟨by decide +kernel, by decide +kernel, by decide +kernel, by decide +kernel, fun w hw => ?_, fun b => rfl⟩
  obtain ⟨k, hk, rfl⟩ := List.mem_map.mp hw
  have hk := List.mem_range.mp hk
  match k, hk with
  | 0, _ => exact xlay_8_0
  | 1, _ => exact xlay_8_1
  | 2, _ => exact xlay_8_2
  | 3, _ => exact xlay_8_3
  | 4, _ => exact xlay_8_4
  | 5, _ => exact xlay_8_5
  | 6, _ => exact xlay_8_6
  | 7, _ => exact xlay_8_7
  | z + 8, h => exact absurd h (Nat.not_lt.mpr (Nat.le_add_left 8 z))
set_option maxRecDepth 100000 in
theorem xlay_9_0 : u_lay xR9 xT9 0 ∈ lw_g := lw_gm 838 rfl rfl
set_option maxRecDepth 100000 in
theorem xlay_9_1 : u_lay xR9 xT9 1 ∈ lw_g := lw_gm 840 rfl rfl
set_option maxRecDepth 100000 in
theorem xlay_9_2 : u_lay xR9 xT9 2 ∈ lw_g := lw_gm 842 rfl rfl
set_option maxRecDepth 100000 in
theorem xlay_9_3 : u_lay xR9 xT9 3 ∈ lw_g := lw_gm 844 rfl rfl
set_option maxRecDepth 100000 in
theorem xlay_9_4 : u_lay xR9 xT9 4 ∈ lw_g := lw_gm 846 rfl rfl
set_option maxRecDepth 100000 in
theorem xlay_9_5 : u_lay xR9 xT9 5 ∈ lw_g := lw_gm 848 rfl rfl
set_option maxRecDepth 100000 in
theorem xlay_9_6 : u_lay xR9 xT9 6 ∈ lw_g := lw_gm 850 rfl rfl
set_option maxRecDepth 100000 in
theorem xlay_9_7 : u_lay xR9 xT9 7 ∈ lw_g := lw_gm 852 rfl rfl
set_option maxRecDepth 100000 in
theorem xlay_9_8 : u_lay xR9 xT9 8 ∈ lw_g := lw_gm 854 rfl rfl
set_option maxRecDepth 100000 in
theorem xlay_9_9 : u_lay xR9 xT9 9 ∈ lw_g := lw_gm 856 rfl rfl
set_option maxRecDepth 100000 in
theorem xlay_9_10 : u_lay xR9 xT9 10 ∈ lw_g := lw_gm 858 rfl rfl
set_option maxRecDepth 100000 in
theorem xlay_9_11 : u_lay xR9 xT9 11 ∈ lw_g := lw_gm 860 rfl rfl
set_option maxRecDepth 100000 in
theorem xlay_9_12 : u_lay xR9 xT9 12 ∈ lw_g := lw_gm 862 rfl rfl
set_option maxRecDepth 100000 in
theorem xlay_9_13 : u_lay xR9 xT9 13 ∈ lw_g := lw_gm 864 rfl rfl
set_option maxRecDepth 100000 in
theorem xlay_9_14 : u_lay xR9 xT9 14 ∈ lw_g := lw_gm 866 rfl rfl
set_option maxRecDepth 100000 in
theorem xlay_9_15 : u_lay xR9 xT9 15 ∈ lw_g := lw_gm 868 rfl rfl
set_option maxRecDepth 100000 in
theorem xlay_9_16 : u_lay xR9 xT9 16 ∈ lw_g := lw_gm 870 rfl rfl
set_option maxRecDepth 100000 in
theorem xlay_9_17 : u_lay xR9 xT9 17 ∈ lw_g := lw_gm 872 rfl rfl
theorem xcl_9 : xclP 9 (xR9, xT9, 18) := by
  refine ⟨by decide +kernel, by decide +kernel, by decide +kernel, by decide +kernel, fun w hw => ?_, fun b => rfl⟩
  obtain ⟨k, hk, rfl⟩ := List.mem_map.mp hw
  have hk := List.mem_range.mp hk
  match k, hk with
  | 0, _ => exact xlay_9_0
  | 1, _ => exact xlay_9_1
  | 2, _ => exact xlay_9_2
  | 3, _ => exact xlay_9_3
  | 4, _ => exact xlay_9_4
  | 5, _ => exact xlay_9_5
  | 6, _ => exact xlay_9_6
  | 7, _ => exact xlay_9_7
  | 8, _ => exact xlay_9_8
  | 9, _ => exact xlay_9_9
  | 10, _ => exact xlay_9_10
  | 11, _ => exact xlay_9_11
  | 12, _ => exact xlay_9_12
  | 13, _ => exact xlay_9_13
  | 14, _ => exact xlay_9_14
  | 15, _ => exact xlay_9_15
  | 16, _ => exact xlay_9_16
  | 17, _ => exact xlay_9_17
  | z + 18, h => exact absurd h (Nat.not_lt.mpr (Nat.le_add_left 18 z))
theorem xcl_ok (ci : Nat) (r : vw_C) (h : xcl[ci]? = some r) : xclP ci r := by
  match ci, h with
  | 0, h => cases h; exact xcl_0
  | 1, h => cases h; exact xcl_1
  | 2, h => cases h; exact xcl_2
  | 3, h => cases h; exact xcl_3
  | 4, h => cases h; exact xcl_4
  | 5, h => cases h; exact xcl_5
  | 6, h => cases h; exact xcl_6
  | 7, h => cases h; exact xcl_7
  | 8, h => cases h; exact xcl_8
  | 9, h => cases h; exact xcl_9
  | n + 10, h => cases h
end
section
/-! SOUNDNESS OF A STEP over the kit's W -/
section XS
variable {lim : Nat × Nat} {g : xSig} {Q : Option Value → xHp → Prop} {pc : Nat} {L : xLo} {st : List Value} {h : xHp} {len : Nat} {lk : xL} {k : xK}
/-- an instruction that leaves the heap as it is -/
theorem xa_of {pc' : Nat} {L' : xLo} {st' : List Value}
    (step : ∀ (p : Program) (l : Launch) (e : Env) (R : Room) (s : State) (m : MethodId) (args : Array Value) (below : List Frame) (meth : Method) (c : Code) (H : Heap) (locs : List Loc) (cells slots : Nat) (Qw : State → Prop) (ls : Array Slot) (b : Nat),
      xFix p s m args meth c g → lv_has ls (sgL g) (xcL b L) → (∀ ls' : Array Slot, lv_has ls' (sgL g) (xcL b L') → W p l e R s m args below meth c H locs cells slots Qw (F0 m pc' ls' (st'.map (xcv b)))) → W p l e R s m args below meth c H locs cells slots Qw (F0 m pc ls (st.map (xcv b))))
    (kk : xAt lim g Q pc' L' st' h) : xAt lim g Q pc L st h :=
  fun p l e s m args below meth c D cI cR b N0 S0 H locs ls X C hl => step p l e _ s m args below meth c H locs _ _ _ ls b X hl (fun ls' hl' => kk p l e s m args below meth c D cI cR b N0 S0 H locs ls' X C hl')
theorem xlv_el {f : Int32 → Prop} (h : xlv lk f) : ∃ v, lk = .inr (.inr (.inl v)) ∧ f v := by
  unfold xlv at h
  split at h
  · exact ⟨_, rfl, h⟩
  · exact h.elim
theorem xlw_el {f : Int64 → Prop} (h : xlw lk f) : ∃ v, lk = .inr (.inr (.inr (.inl v))) ∧ f v := by
  unfold xlw at h
  split at h
  · exact ⟨_, rfl, h⟩
  · exact h.elim
theorem xlf_el {f : Nat → Nat → Prop} (h : xlf lk f) : ∃ a b, lk = .inl (a, b) ∧ f a b := by
  unfold xlf at h
  split at h
  · exact ⟨_, _, rfl, h⟩
  · exact h.elim
theorem bif_el {b : Bool} {p : Prop} (h : bif b then p else False) : b = true ∧ p := by
  cases b with
  | true => exact ⟨rfl, h⟩
  | false => exact h.elim
theorem and_el {a b : Bool} (h : (a && b) = true) : a = true ∧ b = true := by
  cases a <;> cases b <;> first | exact ⟨rfl, rfl⟩ | cases h

theorem xs_iconst (hk : ∀ pc L st h, k pc L st h → xAt lim g Q pc L st h) {n : Int} (hd : decode (sgB g) pc = .ok (.iconst n, len)) (hc : xck g (pc, .iconst n, len, lk) = true) (hs : xstep lim g k Q pc L st h (.iconst n) len lk) : xAt lim g Q pc L st h := by
  obtain ⟨v, rfl, hs⟩ := xlv_el hs
  obtain ⟨h1, h2⟩ := and_el hc
  have h2 := nb_eq h2
  subst h2
  exact xa_of (fun p l e R s m args below meth c H locs cells slots Qw ls b X hl kk => lv_iconst X.1 X.2.1 hd (of_decide_eq_true h1) (kk ls hl)) (hk _ _ _ _ hs)
theorem xs_bipush (hk : ∀ pc L st h, k pc L st h → xAt lim g Q pc L st h) {n : Int} (hd : decode (sgB g) pc = .ok (.bipush n, len)) (hc : xck g (pc, .bipush n, len, lk) = true) (hs : xstep lim g k Q pc L st h (.bipush n) len lk) : xAt lim g Q pc L st h := by
  obtain ⟨v, rfl, hs⟩ := xlv_el hs
  obtain ⟨h1, h2⟩ := and_el hc
  have h2 := nb_eq h2
  subst h2
  exact xa_of (fun p l e R s m args below meth c H locs cells slots Qw ls b X hl kk => lv_bipush X.1 X.2.1 hd (of_decide_eq_true h1) (kk ls hl)) (hk _ _ _ _ hs)
theorem xs_sipush (hk : ∀ pc L st h, k pc L st h → xAt lim g Q pc L st h) {n : Int} (hd : decode (sgB g) pc = .ok (.sipush n, len)) (hc : xck g (pc, .sipush n, len, lk) = true) (hs : xstep lim g k Q pc L st h (.sipush n) len lk) : xAt lim g Q pc L st h := by
  obtain ⟨v, rfl, hs⟩ := xlv_el hs
  obtain ⟨h1, h2⟩ := and_el hc
  have h2 := nb_eq h2
  subst h2
  exact xa_of (fun p l e R s m args below meth c H locs cells slots Qw ls b X hl kk => lv_sipush X.1 X.2.1 hd (of_decide_eq_true h1) (kk ls hl)) (hk _ _ _ _ hs)
theorem xs_ldc (hk : ∀ pc L st h, k pc L st h → xAt lim g Q pc L st h) {n : Nat} (hd : decode (sgB g) pc = .ok (.ldc n, len)) (hc : xck g (pc, .ldc n, len, lk) = true) (hq : xlk g (pc, .ldc n, len, lk)) (hs : xstep lim g k Q pc L st h (.ldc n) len lk) : xAt lim g Q pc L st h := by
  obtain ⟨v, rfl, hs⟩ := xlv_el hs
  have h2 := nb_eq hc
  subst h2
  exact xa_of (fun p l e R s m args below meth c H locs cells slots Qw ls b X hl kk => lv_ldc X.1 X.2.1 X.2.2.2.2.2.1 (X.2.2.2.2.2.2.2 _ (List.mem_cons_of_mem _ hq)) hd (kk ls hl)) (hk _ _ _ _ hs)
theorem xs_ldc_w (hk : ∀ pc L st h, k pc L st h → xAt lim g Q pc L st h) {n : Nat} (hd : decode (sgB g) pc = .ok (.ldc_w n, len)) (hc : xck g (pc, .ldc_w n, len, lk) = true) (hq : xlk g (pc, .ldc_w n, len, lk)) (hs : xstep lim g k Q pc L st h (.ldc_w n) len lk) : xAt lim g Q pc L st h := by
  obtain ⟨v, rfl, hs⟩ := xlv_el hs
  have h2 := nb_eq hc
  subst h2
  exact xa_of (fun p l e R s m args below meth c H locs cells slots Qw ls b X hl kk => lv_ldcw X.1 X.2.1 X.2.2.2.2.2.1 (X.2.2.2.2.2.2.2 _ (List.mem_cons_of_mem _ hq)) hd (kk ls hl)) (hk _ _ _ _ hs)
theorem xs_ldc2_w (hk : ∀ pc L st h, k pc L st h → xAt lim g Q pc L st h) {n : Nat} (hd : decode (sgB g) pc = .ok (.ldc2_w n, len)) (hc : xck g (pc, .ldc2_w n, len, lk) = true) (hq : xlk g (pc, .ldc2_w n, len, lk)) (hs : xstep lim g k Q pc L st h (.ldc2_w n) len lk) : xAt lim g Q pc L st h := by
  obtain ⟨v, rfl, hs⟩ := xlw_el hs
  have h2 := nb_eq hc
  subst h2
  exact xa_of (fun p l e R s m args below meth c H locs cells slots Qw ls b X hl kk => lv_ldc2 X.1 X.2.1 X.2.2.2.2.2.1 (X.2.2.2.2.2.2.2 _ (List.mem_cons_of_mem _ hq)) hd (kk ls hl)) (hk _ _ _ _ hs)
theorem xs_iload (hk : ∀ pc L st h, k pc L st h → xAt lim g Q pc L st h) {i : Nat} (hd : decode (sgB g) pc = .ok (.iload i, len)) (hc : xck g (pc, .iload i, len, lk) = true) (hs : xstep lim g k Q pc L st h (.iload i) len lk) : xAt lim g Q pc L st h := by
  obtain ⟨x, hx, hs⟩ := xgi_el hs
  have h2 := nb_eq hc
  subst h2
  exact xa_of (fun p l e R s m args below meth c H locs cells slots Qw ls b X hl kk => lv_iload X.1 X.2.1 hd (xl_get hl hx) (kk ls hl)) (hk _ _ _ _ hs)
theorem xs_iload_n (hk : ∀ pc L st h, k pc L st h → xAt lim g Q pc L st h) {i : Fin 4} (hd : decode (sgB g) pc = .ok (.iload_n i, len)) (hc : xck g (pc, .iload_n i, len, lk) = true) (hs : xstep lim g k Q pc L st h (.iload_n i) len lk) : xAt lim g Q pc L st h := by
  obtain ⟨x, hx, hs⟩ := xgi_el hs
  have h2 := nb_eq hc
  subst h2
  exact xa_of (fun p l e R s m args below meth c H locs cells slots Qw ls b X hl kk => lv_iload_n X.1 X.2.1 hd rfl (xl_get hl hx) (kk ls hl)) (hk _ _ _ _ hs)
theorem xs_lload (hk : ∀ pc L st h, k pc L st h → xAt lim g Q pc L st h) {i : Nat} (hd : decode (sgB g) pc = .ok (.lload i, len)) (hc : xck g (pc, .lload i, len, lk) = true) (hs : xstep lim g k Q pc L st h (.lload i) len lk) : xAt lim g Q pc L st h := by
  obtain ⟨x, hx, hs⟩ := xgl_el hs
  have h2 := nb_eq hc
  subst h2
  exact xa_of (fun p l e R s m args below meth c H locs cells slots Qw ls b X hl kk => lv_lload X.1 X.2.1 hd (xl_get hl hx) (kk ls hl)) (hk _ _ _ _ hs)
theorem xs_lload_n (hk : ∀ pc L st h, k pc L st h → xAt lim g Q pc L st h) {i : Fin 4} (hd : decode (sgB g) pc = .ok (.lload_n i, len)) (hc : xck g (pc, .lload_n i, len, lk) = true) (hs : xstep lim g k Q pc L st h (.lload_n i) len lk) : xAt lim g Q pc L st h := by
  obtain ⟨x, hx, hs⟩ := xgl_el hs
  have h2 := nb_eq hc
  subst h2
  exact xa_of (fun p l e R s m args below meth c H locs cells slots Qw ls b X hl kk => lv_lload_n X.1 X.2.1 hd rfl (xl_get hl hx) (kk ls hl)) (hk _ _ _ _ hs)
theorem xs_aload (hk : ∀ pc L st h, k pc L st h → xAt lim g Q pc L st h) {i : Nat} (hd : decode (sgB g) pc = .ok (.aload i, len)) (hc : xck g (pc, .aload i, len, lk) = true) (hs : xstep lim g k Q pc L st h (.aload i) len lk) : xAt lim g Q pc L st h := by
  obtain ⟨x, hx, hs⟩ := xgr_el hs
  have h2 := nb_eq hc
  subst h2
  exact xa_of (fun p l e R s m args below meth c H locs cells slots Qw ls b X hl kk => lv_aload X.1 X.2.1 hd (xl_get hl hx) (kk ls hl)) (hk _ _ _ _ hs)
theorem xs_aload_n (hk : ∀ pc L st h, k pc L st h → xAt lim g Q pc L st h) {i : Fin 4} (hd : decode (sgB g) pc = .ok (.aload_n i, len)) (hc : xck g (pc, .aload_n i, len, lk) = true) (hs : xstep lim g k Q pc L st h (.aload_n i) len lk) : xAt lim g Q pc L st h := by
  obtain ⟨x, hx, hs⟩ := xgr_el hs
  have h2 := nb_eq hc
  subst h2
  exact xa_of (fun p l e R s m args below meth c H locs cells slots Qw ls b X hl kk => lv_aload_n X.1 X.2.1 hd rfl (xl_get hl hx) (kk ls hl)) (hk _ _ _ _ hs)
theorem xs_istore (hk : ∀ pc L st h, k pc L st h → xAt lim g Q pc L st h) {i : Nat} (hd : decode (sgB g) pc = .ok (.istore i, len)) (hc : xck g (pc, .istore i, len, lk) = true) (hs : xstep lim g k Q pc L st h (.istore i) len lk) : xAt lim g Q pc L st h := by
  obtain ⟨x, r, rfl, hs⟩ := xpi_el hs
  obtain ⟨h1, h2⟩ := and_el hc
  have h2 := nb_eq h2
  subst h2
  exact xa_of (fun p l e R s m args below meth c H locs cells slots Qw ls b X hl kk => lv_istore X.1 X.2.1 hd hl (Nat.le_of_ble_eq_true h1) rfl (fun ls' h' => kk ls' (xl_of h' xl_put1))) (hk _ _ _ _ hs)
theorem xs_istore_n (hk : ∀ pc L st h, k pc L st h → xAt lim g Q pc L st h) {i : Fin 4} (hd : decode (sgB g) pc = .ok (.istore_n i, len)) (hc : xck g (pc, .istore_n i, len, lk) = true) (hs : xstep lim g k Q pc L st h (.istore_n i) len lk) : xAt lim g Q pc L st h := by
  obtain ⟨x, r, rfl, hs⟩ := xpi_el hs
  obtain ⟨h1, h2⟩ := and_el hc
  have h2 := nb_eq h2
  subst h2
  exact xa_of (fun p l e R s m args below meth c H locs cells slots Qw ls b X hl kk => lv_istore_n X.1 X.2.1 hd rfl hl (Nat.le_of_ble_eq_true h1) rfl (fun ls' h' => kk ls' (xl_of h' xl_put1))) (hk _ _ _ _ hs)
theorem xs_lstore (hk : ∀ pc L st h, k pc L st h → xAt lim g Q pc L st h) {i : Nat} (hd : decode (sgB g) pc = .ok (.lstore i, len)) (hc : xck g (pc, .lstore i, len, lk) = true) (hs : xstep lim g k Q pc L st h (.lstore i) len lk) : xAt lim g Q pc L st h := by
  obtain ⟨x, r, rfl, hs⟩ := xpl_el hs
  obtain ⟨h1, h2⟩ := and_el hc
  have h2 := nb_eq h2
  subst h2
  exact xa_of (fun p l e R s m args below meth c H locs cells slots Qw ls b X hl kk => lv_lstore X.1 X.2.1 hd hl (Nat.le_of_ble_eq_true h1) rfl (fun ls' h' => kk ls' (xl_of h' xl_put2))) (hk _ _ _ _ hs)
theorem xs_lstore_n (hk : ∀ pc L st h, k pc L st h → xAt lim g Q pc L st h) {i : Fin 4} (hd : decode (sgB g) pc = .ok (.lstore_n i, len)) (hc : xck g (pc, .lstore_n i, len, lk) = true) (hs : xstep lim g k Q pc L st h (.lstore_n i) len lk) : xAt lim g Q pc L st h := by
  obtain ⟨x, r, rfl, hs⟩ := xpl_el hs
  obtain ⟨h1, h2⟩ := and_el hc
  have h2 := nb_eq h2
  subst h2
  exact xa_of (fun p l e R s m args below meth c H locs cells slots Qw ls b X hl kk => lv_lstore_n X.1 X.2.1 hd rfl hl (Nat.le_of_ble_eq_true h1) rfl (fun ls' h' => kk ls' (xl_of h' xl_put2))) (hk _ _ _ _ hs)
theorem xs_astore (hk : ∀ pc L st h, k pc L st h → xAt lim g Q pc L st h) {i : Nat} (hd : decode (sgB g) pc = .ok (.astore i, len)) (hc : xck g (pc, .astore i, len, lk) = true) (hs : xstep lim g k Q pc L st h (.astore i) len lk) : xAt lim g Q pc L st h := by
  obtain ⟨x, r, rfl, hs⟩ := xpr_el hs
  obtain ⟨h1, h2⟩ := and_el hc
  have h2 := nb_eq h2
  subst h2
  exact xa_of (fun p l e R s m args below meth c H locs cells slots Qw ls b X hl kk => lv_astore X.1 X.2.1 hd hl (Nat.le_of_ble_eq_true h1) rfl (fun ls' h' => kk ls' (xl_of h' xl_put1))) (hk _ _ _ _ hs)
theorem xs_astore_n (hk : ∀ pc L st h, k pc L st h → xAt lim g Q pc L st h) {i : Fin 4} (hd : decode (sgB g) pc = .ok (.astore_n i, len)) (hc : xck g (pc, .astore_n i, len, lk) = true) (hs : xstep lim g k Q pc L st h (.astore_n i) len lk) : xAt lim g Q pc L st h := by
  obtain ⟨x, r, rfl, hs⟩ := xpr_el hs
  obtain ⟨h1, h2⟩ := and_el hc
  have h2 := nb_eq h2
  subst h2
  exact xa_of (fun p l e R s m args below meth c H locs cells slots Qw ls b X hl kk => lv_astore_n X.1 X.2.1 hd rfl hl (Nat.le_of_ble_eq_true h1) rfl (fun ls' h' => kk ls' (xl_of h' xl_put1))) (hk _ _ _ _ hs)
theorem xs_iinc (hk : ∀ pc L st h, k pc L st h → xAt lim g Q pc L st h) {i : Nat} {n : Int} (hd : decode (sgB g) pc = .ok (.iinc i n, len)) (hc : xck g (pc, .iinc i n, len, lk) = true) (hs : xstep lim g k Q pc L st h (.iinc i n) len lk) : xAt lim g Q pc L st h := by
  obtain ⟨v, rfl, hs⟩ := xlv_el hs
  obtain ⟨x, hx, hs⟩ := xgi_el hs
  obtain ⟨h01, h2⟩ := and_el hc
  obtain ⟨h0, h1⟩ := and_el h01
  have h2 := nb_eq h2
  subst h2
  have h0 : Int32.ofInt n = v := of_decide_eq_true h0
  subst h0
  refine xa_of (fun p l e R s m args below meth c H locs cells slots Qw ls b X hl kk => ?_) (hk _ _ _ _ hs)
  obtain ⟨q, hq⟩ := List.getElem?_of_mem (List.mem_map.mpr ⟨(i, .int x), xget_mem hx, rfl⟩ : (i, xcv b (.int x)) ∈ xcL b L)
  exact lv_iinc X.1 X.2.1 hd hl hq rfl (Nat.le_of_ble_eq_true h1) rfl (fun ls' h' => kk ls' (xl_of h' xl_put1))
theorem xs_iadd (hk : ∀ pc L st h, k pc L st h → xAt lim g Q pc L st h) (hd : decode (sgB g) pc = .ok (.iadd, len)) (hc : xck g (pc, .iadd, len, lk) = true) (hs : xstep lim g k Q pc L st h .iadd len lk) : xAt lim g Q pc L st h := by
  obtain ⟨y, r, rfl, hs⟩ := xpi_el hs
  obtain ⟨x, r, rfl, hs⟩ := xpi_el hs
  have h2 := nb_eq hc
  subst h2
  exact xa_of (fun p l e R s m args below meth c H locs cells slots Qw ls b X hl kk => lv_iadd X.1 X.2.1 hd (kk ls hl)) (hk _ _ _ _ hs)
theorem xs_isub (hk : ∀ pc L st h, k pc L st h → xAt lim g Q pc L st h) (hd : decode (sgB g) pc = .ok (.isub, len)) (hc : xck g (pc, .isub, len, lk) = true) (hs : xstep lim g k Q pc L st h .isub len lk) : xAt lim g Q pc L st h := by
  obtain ⟨y, r, rfl, hs⟩ := xpi_el hs
  obtain ⟨x, r, rfl, hs⟩ := xpi_el hs
  have h2 := nb_eq hc
  subst h2
  exact xa_of (fun p l e R s m args below meth c H locs cells slots Qw ls b X hl kk => lv_isub X.1 X.2.1 hd (kk ls hl)) (hk _ _ _ _ hs)
theorem xs_imul (hk : ∀ pc L st h, k pc L st h → xAt lim g Q pc L st h) (hd : decode (sgB g) pc = .ok (.imul, len)) (hc : xck g (pc, .imul, len, lk) = true) (hs : xstep lim g k Q pc L st h .imul len lk) : xAt lim g Q pc L st h := by
  obtain ⟨y, r, rfl, hs⟩ := xpi_el hs
  obtain ⟨x, r, rfl, hs⟩ := xpi_el hs
  have h2 := nb_eq hc
  subst h2
  exact xa_of (fun p l e R s m args below meth c H locs cells slots Qw ls b X hl kk => lv_imul X.1 X.2.1 hd (kk ls hl)) (hk _ _ _ _ hs)
theorem xs_iand (hk : ∀ pc L st h, k pc L st h → xAt lim g Q pc L st h) (hd : decode (sgB g) pc = .ok (.iand, len)) (hc : xck g (pc, .iand, len, lk) = true) (hs : xstep lim g k Q pc L st h .iand len lk) : xAt lim g Q pc L st h := by
  obtain ⟨y, r, rfl, hs⟩ := xpi_el hs
  obtain ⟨x, r, rfl, hs⟩ := xpi_el hs
  have h2 := nb_eq hc
  subst h2
  exact xa_of (fun p l e R s m args below meth c H locs cells slots Qw ls b X hl kk => lv_iand X.1 X.2.1 hd (kk ls hl)) (hk _ _ _ _ hs)
theorem xs_ior (hk : ∀ pc L st h, k pc L st h → xAt lim g Q pc L st h) (hd : decode (sgB g) pc = .ok (.ior, len)) (hc : xck g (pc, .ior, len, lk) = true) (hs : xstep lim g k Q pc L st h .ior len lk) : xAt lim g Q pc L st h := by
  obtain ⟨y, r, rfl, hs⟩ := xpi_el hs
  obtain ⟨x, r, rfl, hs⟩ := xpi_el hs
  have h2 := nb_eq hc
  subst h2
  exact xa_of (fun p l e R s m args below meth c H locs cells slots Qw ls b X hl kk => lv_ior X.1 X.2.1 hd (kk ls hl)) (hk _ _ _ _ hs)
theorem xs_ixor (hk : ∀ pc L st h, k pc L st h → xAt lim g Q pc L st h) (hd : decode (sgB g) pc = .ok (.ixor, len)) (hc : xck g (pc, .ixor, len, lk) = true) (hs : xstep lim g k Q pc L st h .ixor len lk) : xAt lim g Q pc L st h := by
  obtain ⟨y, r, rfl, hs⟩ := xpi_el hs
  obtain ⟨x, r, rfl, hs⟩ := xpi_el hs
  have h2 := nb_eq hc
  subst h2
  exact xa_of (fun p l e R s m args below meth c H locs cells slots Qw ls b X hl kk => lv_ixor X.1 X.2.1 hd (kk ls hl)) (hk _ _ _ _ hs)
theorem xs_ishl (hk : ∀ pc L st h, k pc L st h → xAt lim g Q pc L st h) (hd : decode (sgB g) pc = .ok (.ishl, len)) (hc : xck g (pc, .ishl, len, lk) = true) (hs : xstep lim g k Q pc L st h .ishl len lk) : xAt lim g Q pc L st h := by
  obtain ⟨y, r, rfl, hs⟩ := xpi_el hs
  obtain ⟨x, r, rfl, hs⟩ := xpi_el hs
  have h2 := nb_eq hc
  subst h2
  exact xa_of (fun p l e R s m args below meth c H locs cells slots Qw ls b X hl kk => lv_ishl X.1 X.2.1 hd (kk ls hl)) (hk _ _ _ _ hs)
theorem xs_ishr (hk : ∀ pc L st h, k pc L st h → xAt lim g Q pc L st h) (hd : decode (sgB g) pc = .ok (.ishr, len)) (hc : xck g (pc, .ishr, len, lk) = true) (hs : xstep lim g k Q pc L st h .ishr len lk) : xAt lim g Q pc L st h := by
  obtain ⟨y, r, rfl, hs⟩ := xpi_el hs
  obtain ⟨x, r, rfl, hs⟩ := xpi_el hs
  have h2 := nb_eq hc
  subst h2
  exact xa_of (fun p l e R s m args below meth c H locs cells slots Qw ls b X hl kk => lv_ishr X.1 X.2.1 hd (kk ls hl)) (hk _ _ _ _ hs)
theorem xs_iushr (hk : ∀ pc L st h, k pc L st h → xAt lim g Q pc L st h) (hd : decode (sgB g) pc = .ok (.iushr, len)) (hc : xck g (pc, .iushr, len, lk) = true) (hs : xstep lim g k Q pc L st h .iushr len lk) : xAt lim g Q pc L st h := by
  obtain ⟨y, r, rfl, hs⟩ := xpi_el hs
  obtain ⟨x, r, rfl, hs⟩ := xpi_el hs
  have h2 := nb_eq hc
  subst h2
  exact xa_of (fun p l e R s m args below meth c H locs cells slots Qw ls b X hl kk => lv_iushr X.1 X.2.1 hd rfl (kk ls hl)) (hk _ _ _ _ hs)
theorem xs_idiv (hk : ∀ pc L st h, k pc L st h → xAt lim g Q pc L st h) (hd : decode (sgB g) pc = .ok (.idiv, len)) (hc : xck g (pc, .idiv, len, lk) = true) (hs : xstep lim g k Q pc L st h .idiv len lk) : xAt lim g Q pc L st h := by
  obtain ⟨y, r, rfl, hs⟩ := xpi_el hs
  obtain ⟨x, r, rfl, hs⟩ := xpi_el hs
  obtain ⟨hn, hs⟩ := hs
  have h2 := nb_eq hc
  subst h2
  exact xa_of (fun p l e R s m args below meth c H locs cells slots Qw ls b X hl kk => lv_idiv X.1 X.2.1 hd hn (kk ls hl)) (hk _ _ _ _ hs)
theorem xs_irem (hk : ∀ pc L st h, k pc L st h → xAt lim g Q pc L st h) (hd : decode (sgB g) pc = .ok (.irem, len)) (hc : xck g (pc, .irem, len, lk) = true) (hs : xstep lim g k Q pc L st h .irem len lk) : xAt lim g Q pc L st h := by
  obtain ⟨y, r, rfl, hs⟩ := xpi_el hs
  obtain ⟨x, r, rfl, hs⟩ := xpi_el hs
  obtain ⟨hn, hs⟩ := hs
  have h2 := nb_eq hc
  subst h2
  exact xa_of (fun p l e R s m args below meth c H locs cells slots Qw ls b X hl kk => lv_irem X.1 X.2.1 hd hn (kk ls hl)) (hk _ _ _ _ hs)
theorem xs_ineg (hk : ∀ pc L st h, k pc L st h → xAt lim g Q pc L st h) (hd : decode (sgB g) pc = .ok (.ineg, len)) (hc : xck g (pc, .ineg, len, lk) = true) (hs : xstep lim g k Q pc L st h .ineg len lk) : xAt lim g Q pc L st h := by
  obtain ⟨x, r, rfl, hs⟩ := xpi_el hs
  have h2 := nb_eq hc
  subst h2
  exact xa_of (fun p l e R s m args below meth c H locs cells slots Qw ls b X hl kk => lv_ineg X.1 X.2.1 hd (kk ls hl)) (hk _ _ _ _ hs)
theorem xs_ladd (hk : ∀ pc L st h, k pc L st h → xAt lim g Q pc L st h) (hd : decode (sgB g) pc = .ok (.ladd, len)) (hc : xck g (pc, .ladd, len, lk) = true) (hs : xstep lim g k Q pc L st h .ladd len lk) : xAt lim g Q pc L st h := by
  obtain ⟨y, r, rfl, hs⟩ := xpl_el hs
  obtain ⟨x, r, rfl, hs⟩ := xpl_el hs
  have h2 := nb_eq hc
  subst h2
  exact xa_of (fun p l e R s m args below meth c H locs cells slots Qw ls b X hl kk => lv_ladd X.1 X.2.1 hd (kk ls hl)) (hk _ _ _ _ hs)
theorem xs_lmul (hk : ∀ pc L st h, k pc L st h → xAt lim g Q pc L st h) (hd : decode (sgB g) pc = .ok (.lmul, len)) (hc : xck g (pc, .lmul, len, lk) = true) (hs : xstep lim g k Q pc L st h .lmul len lk) : xAt lim g Q pc L st h := by
  obtain ⟨y, r, rfl, hs⟩ := xpl_el hs
  obtain ⟨x, r, rfl, hs⟩ := xpl_el hs
  have h2 := nb_eq hc
  subst h2
  exact xa_of (fun p l e R s m args below meth c H locs cells slots Qw ls b X hl kk => lv_lmul X.1 X.2.1 hd (kk ls hl)) (hk _ _ _ _ hs)
theorem xs_i2l (hk : ∀ pc L st h, k pc L st h → xAt lim g Q pc L st h) (hd : decode (sgB g) pc = .ok (.i2l, len)) (hc : xck g (pc, .i2l, len, lk) = true) (hs : xstep lim g k Q pc L st h .i2l len lk) : xAt lim g Q pc L st h := by
  obtain ⟨x, r, rfl, hs⟩ := xpi_el hs
  have h2 := nb_eq hc
  subst h2
  exact xa_of (fun p l e R s m args below meth c H locs cells slots Qw ls b X hl kk => lv_i2l X.1 X.2.1 hd rfl (kk ls hl)) (hk _ _ _ _ hs)
theorem xs_dup (hk : ∀ pc L st h, k pc L st h → xAt lim g Q pc L st h) (hd : decode (sgB g) pc = .ok (.dup, len)) (hc : xck g (pc, .dup, len, lk) = true) (hs : xstep lim g k Q pc L st h .dup len lk) : xAt lim g Q pc L st h := by
  obtain ⟨v, r, rfl, hs⟩ := xp1_el hs
  obtain ⟨hv, hs⟩ := bif_el hs
  have hv := nb_eq hv
  have h2 := nb_eq hc
  subst h2
  exact xa_of (fun p l e R s m args below meth c H locs cells slots Qw ls b X hl kk => lv_dup X.1 X.2.1 hd ((xcv_cat b v).trans hv) (kk ls hl)) (hk _ _ _ _ hs)
theorem xs_pop (hk : ∀ pc L st h, k pc L st h → xAt lim g Q pc L st h) (hd : decode (sgB g) pc = .ok (.pop, len)) (hc : xck g (pc, .pop, len, lk) = true) (hs : xstep lim g k Q pc L st h .pop len lk) : xAt lim g Q pc L st h := by
  obtain ⟨v, r, rfl, hs⟩ := xp1_el hs
  obtain ⟨hv, hs⟩ := bif_el hs
  have hv := nb_eq hv
  have h2 := nb_eq hc
  subst h2
  exact xa_of (fun p l e R s m args below meth c H locs cells slots Qw ls b X hl kk => lv_pop X.1 X.2.1 hd ((xcv_cat b v).trans hv) (kk ls hl)) (hk _ _ _ _ hs)
theorem xs_dup2 (hk : ∀ pc L st h, k pc L st h → xAt lim g Q pc L st h) (hd : decode (sgB g) pc = .ok (.dup2, len)) (hc : xck g (pc, .dup2, len, lk) = true) (hs : xstep lim g k Q pc L st h .dup2 len lk) : xAt lim g Q pc L st h := by
  obtain ⟨v, r, rfl, hs⟩ := xp1_el hs
  obtain ⟨u, r, rfl, hs⟩ := xp1_el hs
  obtain ⟨hv, hs⟩ := bif_el hs
  obtain ⟨hv, hu⟩ := and_el hv
  have hv := nb_eq hv
  have hu := nb_eq hu
  have h2 := nb_eq hc
  subst h2
  exact xa_of (fun p l e R s m args below meth c H locs cells slots Qw ls b X hl kk => lv_dup2_11 X.1 X.2.1 hd ((xcv_cat b v).trans hv) ((xcv_cat b u).trans hu) (kk ls hl)) (hk _ _ _ _ hs)
theorem xs_ifCond_eq (hk : ∀ pc L st h, k pc L st h → xAt lim g Q pc L st h) {n : Int} (hd : decode (sgB g) pc = .ok (.ifCond .eq n, len)) (hc : xck g (pc, .ifCond .eq n, len, lk) = true) (hs : xstep lim g k Q pc L st h (.ifCond .eq n) len lk) : xAt lim g Q pc L st h := by
  obtain ⟨t, t2, rfl, hs⟩ := xlf_el hs
  obtain ⟨x, r, rfl, hs⟩ := xpi_el hs
  obtain ⟨h1, h2⟩ := and_el hc
  have h2 := nb_eq h2
  subst h2
  have h1 : (pc : Int) + n = (t : Int) := of_decide_eq_true h1
  intro p l e s m args below meth c D cI cR b N0 S0 H locs ls X C hl
  exact lv_if_eq X.1 X.2.1 hd h1 (fun z => hk _ _ _ _ (hs.1 z) p l e s m args below meth c D cI cR b N0 S0 H locs ls X C hl) (fun z => hk _ _ _ _ (hs.2 z) p l e s m args below meth c D cI cR b N0 S0 H locs ls X C hl)
theorem xs_if_icmp_eq (hk : ∀ pc L st h, k pc L st h → xAt lim g Q pc L st h) {n : Int} (hd : decode (sgB g) pc = .ok (.if_icmp .eq n, len)) (hc : xck g (pc, .if_icmp .eq n, len, lk) = true) (hs : xstep lim g k Q pc L st h (.if_icmp .eq n) len lk) : xAt lim g Q pc L st h := by
  obtain ⟨t, t2, rfl, hs⟩ := xlf_el hs
  obtain ⟨y, r, rfl, hs⟩ := xpi_el hs
  obtain ⟨x, r, rfl, hs⟩ := xpi_el hs
  obtain ⟨h1, h2⟩ := and_el hc
  have h2 := nb_eq h2
  subst h2
  have h1 : (pc : Int) + n = (t : Int) := of_decide_eq_true h1
  intro p l e s m args below meth c D cI cR b N0 S0 H locs ls X C hl
  exact lv_icmp_eq X.1 X.2.1 hd h1 (fun z => hk _ _ _ _ (hs.1 z) p l e s m args below meth c D cI cR b N0 S0 H locs ls X C hl) (fun z => hk _ _ _ _ (hs.2 z) p l e s m args below meth c D cI cR b N0 S0 H locs ls X C hl)
theorem xs_ifCond_ne (hk : ∀ pc L st h, k pc L st h → xAt lim g Q pc L st h) {n : Int} (hd : decode (sgB g) pc = .ok (.ifCond .ne n, len)) (hc : xck g (pc, .ifCond .ne n, len, lk) = true) (hs : xstep lim g k Q pc L st h (.ifCond .ne n) len lk) : xAt lim g Q pc L st h := by
  obtain ⟨t, t2, rfl, hs⟩ := xlf_el hs
  obtain ⟨x, r, rfl, hs⟩ := xpi_el hs
  obtain ⟨h1, h2⟩ := and_el hc
  have h2 := nb_eq h2
  subst h2
  have h1 : (pc : Int) + n = (t : Int) := of_decide_eq_true h1
  intro p l e s m args below meth c D cI cR b N0 S0 H locs ls X C hl
  exact lv_if_ne X.1 X.2.1 hd h1 (fun z => hk _ _ _ _ (hs.2 z) p l e s m args below meth c D cI cR b N0 S0 H locs ls X C hl) (fun z => hk _ _ _ _ (hs.1 z) p l e s m args below meth c D cI cR b N0 S0 H locs ls X C hl)
theorem xs_if_icmp_ne (hk : ∀ pc L st h, k pc L st h → xAt lim g Q pc L st h) {n : Int} (hd : decode (sgB g) pc = .ok (.if_icmp .ne n, len)) (hc : xck g (pc, .if_icmp .ne n, len, lk) = true) (hs : xstep lim g k Q pc L st h (.if_icmp .ne n) len lk) : xAt lim g Q pc L st h := by
  obtain ⟨t, t2, rfl, hs⟩ := xlf_el hs
  obtain ⟨y, r, rfl, hs⟩ := xpi_el hs
  obtain ⟨x, r, rfl, hs⟩ := xpi_el hs
  obtain ⟨h1, h2⟩ := and_el hc
  have h2 := nb_eq h2
  subst h2
  have h1 : (pc : Int) + n = (t : Int) := of_decide_eq_true h1
  intro p l e s m args below meth c D cI cR b N0 S0 H locs ls X C hl
  exact lv_icmp_ne X.1 X.2.1 hd h1 (fun z => hk _ _ _ _ (hs.2 z) p l e s m args below meth c D cI cR b N0 S0 H locs ls X C hl) (fun z => hk _ _ _ _ (hs.1 z) p l e s m args below meth c D cI cR b N0 S0 H locs ls X C hl)
theorem xs_ifCond_lt (hk : ∀ pc L st h, k pc L st h → xAt lim g Q pc L st h) {n : Int} (hd : decode (sgB g) pc = .ok (.ifCond .lt n, len)) (hc : xck g (pc, .ifCond .lt n, len, lk) = true) (hs : xstep lim g k Q pc L st h (.ifCond .lt n) len lk) : xAt lim g Q pc L st h := by
  obtain ⟨t, t2, rfl, hs⟩ := xlf_el hs
  obtain ⟨x, r, rfl, hs⟩ := xpi_el hs
  obtain ⟨h1, h2⟩ := and_el hc
  have h2 := nb_eq h2
  subst h2
  have h1 : (pc : Int) + n = (t : Int) := of_decide_eq_true h1
  intro p l e s m args below meth c D cI cR b N0 S0 H locs ls X C hl
  exact lv_if_lt X.1 X.2.1 hd h1 (fun z => hk _ _ _ _ (hs.1 z) p l e s m args below meth c D cI cR b N0 S0 H locs ls X C hl) (fun z => hk _ _ _ _ (hs.2 z) p l e s m args below meth c D cI cR b N0 S0 H locs ls X C hl)
theorem xs_if_icmp_lt (hk : ∀ pc L st h, k pc L st h → xAt lim g Q pc L st h) {n : Int} (hd : decode (sgB g) pc = .ok (.if_icmp .lt n, len)) (hc : xck g (pc, .if_icmp .lt n, len, lk) = true) (hs : xstep lim g k Q pc L st h (.if_icmp .lt n) len lk) : xAt lim g Q pc L st h := by
  obtain ⟨t, t2, rfl, hs⟩ := xlf_el hs
  obtain ⟨y, r, rfl, hs⟩ := xpi_el hs
  obtain ⟨x, r, rfl, hs⟩ := xpi_el hs
  obtain ⟨h1, h2⟩ := and_el hc
  have h2 := nb_eq h2
  subst h2
  have h1 : (pc : Int) + n = (t : Int) := of_decide_eq_true h1
  intro p l e s m args below meth c D cI cR b N0 S0 H locs ls X C hl
  exact lv_icmp_lt X.1 X.2.1 hd h1 (fun z => hk _ _ _ _ (hs.1 z) p l e s m args below meth c D cI cR b N0 S0 H locs ls X C hl) (fun z => hk _ _ _ _ (hs.2 z) p l e s m args below meth c D cI cR b N0 S0 H locs ls X C hl)
theorem xs_ifCond_ge (hk : ∀ pc L st h, k pc L st h → xAt lim g Q pc L st h) {n : Int} (hd : decode (sgB g) pc = .ok (.ifCond .ge n, len)) (hc : xck g (pc, .ifCond .ge n, len, lk) = true) (hs : xstep lim g k Q pc L st h (.ifCond .ge n) len lk) : xAt lim g Q pc L st h := by
  obtain ⟨t, t2, rfl, hs⟩ := xlf_el hs
  obtain ⟨x, r, rfl, hs⟩ := xpi_el hs
  obtain ⟨h1, h2⟩ := and_el hc
  have h2 := nb_eq h2
  subst h2
  have h1 : (pc : Int) + n = (t : Int) := of_decide_eq_true h1
  intro p l e s m args below meth c D cI cR b N0 S0 H locs ls X C hl
  exact lv_if_ge X.1 X.2.1 hd h1 (fun z => hk _ _ _ _ (hs.1 z) p l e s m args below meth c D cI cR b N0 S0 H locs ls X C hl) (fun z => hk _ _ _ _ (hs.2 z) p l e s m args below meth c D cI cR b N0 S0 H locs ls X C hl)
theorem xs_if_icmp_ge (hk : ∀ pc L st h, k pc L st h → xAt lim g Q pc L st h) {n : Int} (hd : decode (sgB g) pc = .ok (.if_icmp .ge n, len)) (hc : xck g (pc, .if_icmp .ge n, len, lk) = true) (hs : xstep lim g k Q pc L st h (.if_icmp .ge n) len lk) : xAt lim g Q pc L st h := by
  obtain ⟨t, t2, rfl, hs⟩ := xlf_el hs
  obtain ⟨y, r, rfl, hs⟩ := xpi_el hs
  obtain ⟨x, r, rfl, hs⟩ := xpi_el hs
  obtain ⟨h1, h2⟩ := and_el hc
  have h2 := nb_eq h2
  subst h2
  have h1 : (pc : Int) + n = (t : Int) := of_decide_eq_true h1
  intro p l e s m args below meth c D cI cR b N0 S0 H locs ls X C hl
  exact lv_icmp_ge X.1 X.2.1 hd h1 (fun z => hk _ _ _ _ (hs.1 z) p l e s m args below meth c D cI cR b N0 S0 H locs ls X C hl) (fun z => hk _ _ _ _ (hs.2 z) p l e s m args below meth c D cI cR b N0 S0 H locs ls X C hl)
theorem xs_ifCond_gt (hk : ∀ pc L st h, k pc L st h → xAt lim g Q pc L st h) {n : Int} (hd : decode (sgB g) pc = .ok (.ifCond .gt n, len)) (hc : xck g (pc, .ifCond .gt n, len, lk) = true) (hs : xstep lim g k Q pc L st h (.ifCond .gt n) len lk) : xAt lim g Q pc L st h := by
  obtain ⟨t, t2, rfl, hs⟩ := xlf_el hs
  obtain ⟨x, r, rfl, hs⟩ := xpi_el hs
  obtain ⟨h1, h2⟩ := and_el hc
  have h2 := nb_eq h2
  subst h2
  have h1 : (pc : Int) + n = (t : Int) := of_decide_eq_true h1
  intro p l e s m args below meth c D cI cR b N0 S0 H locs ls X C hl
  exact lv_if_gt X.1 X.2.1 hd h1 (fun z => hk _ _ _ _ (hs.1 z) p l e s m args below meth c D cI cR b N0 S0 H locs ls X C hl) (fun z => hk _ _ _ _ (hs.2 z) p l e s m args below meth c D cI cR b N0 S0 H locs ls X C hl)
theorem xs_if_icmp_gt (hk : ∀ pc L st h, k pc L st h → xAt lim g Q pc L st h) {n : Int} (hd : decode (sgB g) pc = .ok (.if_icmp .gt n, len)) (hc : xck g (pc, .if_icmp .gt n, len, lk) = true) (hs : xstep lim g k Q pc L st h (.if_icmp .gt n) len lk) : xAt lim g Q pc L st h := by
  obtain ⟨t, t2, rfl, hs⟩ := xlf_el hs
  obtain ⟨y, r, rfl, hs⟩ := xpi_el hs
  obtain ⟨x, r, rfl, hs⟩ := xpi_el hs
  obtain ⟨h1, h2⟩ := and_el hc
  have h2 := nb_eq h2
  subst h2
  have h1 : (pc : Int) + n = (t : Int) := of_decide_eq_true h1
  intro p l e s m args below meth c D cI cR b N0 S0 H locs ls X C hl
  exact lv_icmp_gt X.1 X.2.1 hd h1 (fun z => hk _ _ _ _ (hs.1 z) p l e s m args below meth c D cI cR b N0 S0 H locs ls X C hl) (fun z => hk _ _ _ _ (hs.2 z) p l e s m args below meth c D cI cR b N0 S0 H locs ls X C hl)
theorem xs_ifCond_le (hk : ∀ pc L st h, k pc L st h → xAt lim g Q pc L st h) {n : Int} (hd : decode (sgB g) pc = .ok (.ifCond .le n, len)) (hc : xck g (pc, .ifCond .le n, len, lk) = true) (hs : xstep lim g k Q pc L st h (.ifCond .le n) len lk) : xAt lim g Q pc L st h := by
  obtain ⟨t, t2, rfl, hs⟩ := xlf_el hs
  obtain ⟨x, r, rfl, hs⟩ := xpi_el hs
  obtain ⟨h1, h2⟩ := and_el hc
  have h2 := nb_eq h2
  subst h2
  have h1 : (pc : Int) + n = (t : Int) := of_decide_eq_true h1
  intro p l e s m args below meth c D cI cR b N0 S0 H locs ls X C hl
  exact lv_if_le X.1 X.2.1 hd h1 (fun z => hk _ _ _ _ (hs.1 z) p l e s m args below meth c D cI cR b N0 S0 H locs ls X C hl) (fun z => hk _ _ _ _ (hs.2 z) p l e s m args below meth c D cI cR b N0 S0 H locs ls X C hl)
theorem xs_if_icmp_le (hk : ∀ pc L st h, k pc L st h → xAt lim g Q pc L st h) {n : Int} (hd : decode (sgB g) pc = .ok (.if_icmp .le n, len)) (hc : xck g (pc, .if_icmp .le n, len, lk) = true) (hs : xstep lim g k Q pc L st h (.if_icmp .le n) len lk) : xAt lim g Q pc L st h := by
  obtain ⟨t, t2, rfl, hs⟩ := xlf_el hs
  obtain ⟨y, r, rfl, hs⟩ := xpi_el hs
  obtain ⟨x, r, rfl, hs⟩ := xpi_el hs
  obtain ⟨h1, h2⟩ := and_el hc
  have h2 := nb_eq h2
  subst h2
  have h1 : (pc : Int) + n = (t : Int) := of_decide_eq_true h1
  intro p l e s m args below meth c D cI cR b N0 S0 H locs ls X C hl
  exact lv_icmp_le X.1 X.2.1 hd h1 (fun z => hk _ _ _ _ (hs.1 z) p l e s m args below meth c D cI cR b N0 S0 H locs ls X C hl) (fun z => hk _ _ _ _ (hs.2 z) p l e s m args below meth c D cI cR b N0 S0 H locs ls X C hl)
theorem xs_goto (hk : ∀ pc L st h, k pc L st h → xAt lim g Q pc L st h) {n : Int} (hd : decode (sgB g) pc = .ok (.goto n, len)) (hc : xck g (pc, .goto n, len, lk) = true) (hs : xstep lim g k Q pc L st h (.goto n) len lk) : xAt lim g Q pc L st h := by
  obtain ⟨t, t2, rfl, hs⟩ := xlf_el hs
  obtain ⟨h1, h2⟩ := and_el hc
  have h2 := nb_eq h2
  subst h2
  exact xa_of (fun p l e R s m args below meth c H locs cells slots Qw ls b X hl kk => lv_goto X.1 X.2.1 hd (of_decide_eq_true h1) (kk ls hl)) (hk _ _ _ _ hs)
theorem xsw_el {pc d : Nat} {P : Nat → Prop} : ∀ {offs : List Int} {lo : Int} {ps : List (Int32 × Nat)} {x : Int32}, xswk pc offs lo ps = true → xsw ps x P d →
    (∃ (o : Int) (t : Nat), lo ≤ x.toInt ∧ x.toInt < lo + ps.length ∧ offs[(x.toInt - lo).toNat]? = some o ∧ (pc : Int) + o = (t : Int) ∧ P t) ∨ ((x.toInt < lo ∨ lo + ps.length ≤ x.toInt) ∧ P d)
  | offs, lo, [], x, hc, hs => by
    refine Or.inr ⟨?_, hs⟩
    simp only [List.length_nil]
    omega
  | [], lo, (v, t) :: r, x, hc, hs => by
    cases hc
  | o :: os, lo, (v, t) :: r, x, hc, hs => by
    unfold xswk at hc
    obtain ⟨h01, h2⟩ := and_el hc
    obtain ⟨h0, h1⟩ := and_el h01
    have h0 : v.toInt = lo := of_decide_eq_true h0
    have h1 : (pc : Int) + o = (t : Int) := of_decide_eq_true h1
    by_cases hx : x = v
    · subst hx
      refine Or.inl ⟨o, t, by omega, by simp only [List.length_cons]; omega, ?_, h1, hs.1 rfl⟩
      rw [h0, Int.sub_self]
      rfl
    · have hne : ¬ x.toInt = lo := fun q => hx (Int32.toInt_inj.mp (q.trans h0.symm))
      rcases xsw_el h2 (hs.2 hx) with ⟨o', t', g1, g2, g3, g4, g5⟩ | ⟨g1, g2⟩
      · refine Or.inl ⟨o', t', by omega, by simp only [List.length_cons]; omega, ?_, g4, g5⟩
        rw [show (x.toInt - lo).toNat = (x.toInt - (lo + 1)).toNat + 1 by omega]
        exact g3
      · refine Or.inr ⟨?_, g2⟩
        simp only [List.length_cons]
        omega
theorem xs_tableswitch (hk : ∀ pc L st h, k pc L st h → xAt lim g Q pc L st h) {n lo hi : Int} {offs : Array Int} (hd : decode (sgB g) pc = .ok (.tableswitch n lo hi offs, len)) (hc : xck g (pc, .tableswitch n lo hi offs, len, lk) = true) (hs : xstep lim g k Q pc L st h (.tableswitch n lo hi offs) len lk) : xAt lim g Q pc L st h := by
  replace hs : xtsw k L st h lk := hs
  unfold xtsw at hs
  split at hs
  next d ps =>
    obtain ⟨x, r, rfl, hs⟩ := xpi_el hs
    obtain ⟨h01, h2⟩ := and_el hc
    obtain ⟨h0, h1⟩ := and_el h01
    have h0 : (pc : Int) + n = (d : Int) := of_decide_eq_true h0
    have h2 : hi = lo + ps.length - 1 := of_decide_eq_true h2
    rcases xsw_el h1 hs with ⟨o, t, g1, g2, g3, g4, g5⟩ | ⟨g1, g2⟩
    · exact xa_of (fun p l e R s m args below meth c H locs cells slots Qw ls b X hl kk => lv_tableIn X.1 X.2.1 hd (by omega) (by omega) (by simpa using g3) g4 (kk ls hl)) (hk _ _ _ _ g5)
    · exact xa_of (fun p l e R s m args below meth c H locs cells slots Qw ls b X hl kk => lv_tableOut X.1 X.2.1 hd (by omega) h0 (kk ls hl)) (hk _ _ _ _ g2)
  · exact hs.elim
/-! the world -/
theorem xWd_one {D : va_G} {cI cR : ClassId} {b : Nat} {H : Heap} {a : Nat} {e : xE} (hW : xWd D cI cR b h H) (ha : xat h a e) : va_P D xcl [(b + a, xce cI cR b e)] H := by
  intro k q hq
  have hk : k < 1 := (List.getElem?_eq_some_iff.mp hq).1
  rw [show k = 0 by omega] at hq
  cases hq
  have := hW.2 a ha.1
  rw [ha.2] at this
  exact this
theorem xWd_put {D : va_G} {cI cR : ClassId} {b : Nat} {H H1 : Heap} {a : Nat} {e : xE} (hW : xWd D cI cR b h H) (ha : a < h.1) (z : H1.size = H.size) (he : va_at D xcl (b + a, xce cI cR b e) H1) (oq : ∀ q : Nat, q ≠ b + a → H1[q]? = H[q]?) : xWd D cI cR b (xset h a e) H1 := by
  refine ⟨z.trans hW.1, fun k hk => ?_⟩
  show va_at D xcl (b + k, xce cI cR b (va_up h.2.2 a e k)) H1
  by_cases hka : k = a
  · subst hka
    rw [va_up_self]
    exact he
  · rw [va_up_ne _ _ hka]
    exact (hW.2 k hk).kept (oq (b + k) (by omega))
theorem xWd_new {D : va_G} {cI cR : ClassId} {b n : Nat} {H H1 : Heap} {e : xE} (hW : xWd D cI cR b h H) (z : H1.size = H.size + 1) (he : va_at D xcl (b + h.1, xce cI cR b e) H1) (oq : ∀ q : Nat, q < H.size → H1[q]? = H[q]?) : xWd D cI cR b (xnew h n e) H1 := by
  refine ⟨by rw [z, hW.1]; exact Nat.add_assoc _ _ _, fun k hk => ?_⟩
  have hk : k < h.1 + 1 := hk
  show va_at D xcl (b + k, xce cI cR b (va_up h.2.2 h.1 e k)) H1
  by_cases hka : k = h.1
  · subst hka
    rw [va_up_self]
    exact he
  · rw [va_up_ne _ _ hka]
    exact (hW.2 k (by omega)).kept (oq (b + k) (by rw [hW.1]; omega))
theorem xCx_put {D : va_G} {cI cR : ClassId} {b N0 S0 : Nat} {s : State} {H H1 : Heap} {locs : List Loc} {a i : Nat} {e : xE} (C : xCx lim g D cI cR b N0 S0 s h H locs) (ha : a < h.1) (z : H1.size = H.size) (he : va_at D xcl (b + a, xce cI cR b e) H1) (oq : ∀ q : Nat, q ≠ b + a → H1[q]? = H[q]?) : xCx lim g D cI cR b N0 S0 s (xset h a e) H1 (locs ++ [⟨b + a, i⟩]) := by
  obtain ⟨hK, hW, hS, r⟩ := C
  exact ⟨hK, xWd_put hW ha z he oq, hS.put z oq (Nat.le_add_right b a), r⟩
theorem xCx_new {D : va_G} {cI cR : ClassId} {b N0 S0 n : Nat} {s : State} {H H1 : Heap} {locs : List Loc} {e : xE} (C : xCx lim g D cI cR b N0 S0 s h H locs) (z : H1.size = H.size + 1) (he : va_at D xcl (b + h.1, xce cI cR b e) H1) (oq : ∀ q : Nat, q < H.size → H1[q]? = H[q]?) (l1 : h.1 + 1 ≤ lim.1) (l2 : h.2.1 + n ≤ lim.2) : xCx lim g D cI cR b N0 S0 s (xnew h n e) H1 locs := by
  obtain ⟨hK, hW, hS, r1, r2, r3, r4, r5⟩ := C
  refine ⟨hK, xWd_new hW z he oq, ⟨by rw [z]; exact Nat.le_succ_of_le hS.1, fun q h1 h2 => (oq q (Nat.lt_of_lt_of_le h1 hS.1)).trans (hS.2.1 q h1 h2), hS.2.2⟩, r1, ?_, l1, ?_, l2⟩
  · show N0 ≤ h.1 + 1
    omega
  · show S0 ≤ h.2.1 + n
    omega
theorem xcl_in {ci : Nat} {r : vw_C} (hr : xcl[ci]? = some r) : xclP ci r := xcl_ok ci r hr
theorem xs_getfield (hk : ∀ pc L st h, k pc L st h → xAt lim g Q pc L st h) {n : Nat} (hd : decode (sgB g) pc = .ok (.getfield n, len)) (hc : xck g (pc, .getfield n, len, lk) = true) (hq : xlk g (pc, .getfield n, len, lk)) (hs : xstep lim g k Q pc L st h (.getfield n) len lk) : xAt lim g Q pc L st h := by
  obtain ⟨ci, fk, rfl, hs⟩ := xlf_el hs
  obtain ⟨a, r, rfl, fs, v, ha, hv, hs⟩ := xpr_el hs
  have h2 := nb_eq hc
  subst h2
  obtain ⟨rc, hrc, hfk, hlink⟩ := hq
  obtain ⟨C0, T, N⟩ := rc
  have hin := (xcl_in hrc).2.2.2.2.1
  intro p l e s m args below meth c D cI cR b N0 S0 H locs ls X C hl
  have hts : ∀ w ∈ lw_g, w.before args s = true := fun w hw => X.2.2.2.2.2.2.2 w (List.mem_cons_of_mem _ hw)
  exact va_get (ws := [(b + a, xce cI cR b (xob ci fs))]) X.1 X.2.1 hts hin X.2.2.2.2.2.1 C.1.1 (xWd_one C.2.1 ha) 0 rfl hrc fk hfk (hts _ hlink) (fun _ h9 => h9) (by rw [List.getElem?_map, hv]; rfl) hd (hk _ _ _ _ hs p l e s m args below meth c D cI cR b N0 S0 H locs ls X C hl)
theorem x_put {p : Program} {l : Launch} {e : Env} {R : Room} {s : State} {m : MethodId} {args : Array Value} {below : List Frame} {meth : Method} {c : Code} {H : Heap} {locs : List Loc} {cells slots : Nat} {Qw : State → Prop} {D : va_G} {cI cR : ClassId} {b n a ci fk : Nat} {fs rest : List Value} {v : Value} {ls : Array Slot}
    (X : xFix p s m args meth c g) (hK : va_K D xcl (xtys cI cR) s) (hW : xWd D cI cR b h H) (ha : xat h a (xob ci fs)) (hl : fk < fs.length) (hv : xvk (xfty ci fk) v = true) (hq : xfl (sgN g).cls n ci fk) (hd : decode (sgB g) pc = .ok (.putfield n, 3))
    (hfin : ∀ r, xcl[ci]? = some r → (r.2.1 fk).2.2.2 = true → meth.name = "<init>" ∧ r.1 = (sgN g).cls)
    (kk : ∀ (H1 : Heap) (i : Nat), H1.size = H.size → va_at D xcl (b + a, xce cI cR b (xob ci (fs.set fk v))) H1 → (∀ q : Nat, q ≠ b + a → H1[q]? = H[q]?) → W p l e R s m args below meth c H1 (locs ++ [⟨b + a, i⟩]) cells slots Qw (F0 m (pc + 3) ls rest)) : W p l e R s m args below meth c H locs cells slots Qw (F0 m pc ls (xcv b v :: .ref (b + a) :: rest)) := by
  obtain ⟨rc, hrc, hk, hlink⟩ := hq
  have hts : ∀ w ∈ lw_g, w.before args s = true := fun w hw => X.2.2.2.2.2.2.2 w (List.mem_cons_of_mem _ hw)
  obtain ⟨C0, T, N⟩ := rc
  obtain ⟨hty, hnm, hdecl, -, hin, -⟩ := xcl_in hrc
  have hown := X.2.2.2.2.2.1
  have hap := va_apart (own := (sgN g).cls) hts hin (xfty ci) hty hnm hK hrc
  have hat := hW.2 a ha.1
  rw [ha.2] at hat
  obtain ⟨r, h1, cell, q1, q2, q3, q4⟩ := hat
  have hr : r = (C0, T, N) := Option.some.inj (h1.symm.trans hrc)
  subst hr
  obtain ⟨hS, hfc, kC, hkC, hkind⟩ := hK.1 ci _ hrc
  obtain ⟨cf, kf, fi, f, hi, hsl⟩ := hS fk hk
  have hst := (u_facts hfc hkC (u_lays hts hin hk) hi).1
  obtain ⟨hn, hfit⟩ := xvk_ok b hv
  have fin : ∀ H' : Heap, H'[b + a]? = some (cell.setSlot f.slot (xcv b v)) → H'.size = H.size → (∀ q, q ≠ b + a → H'[q]? = H[q]?) → W p l e R s m args below meth c H' (locs ++ [⟨b + a, f.slot⟩]) cells slots Qw (F0 m (pc + 3) ls rest) := by
    intro H' e1 e2 e3
    rw [hsl] at e1 ⊢
    refine kk H' _ e2 ⟨_, hrc, ?_⟩ e3
    have e0 : (fs.set fk v).map (xcv b) = (fs.map (xcv b)).set fk (xcv b v) := by rw [List.map_set]
    show t_OB (b + a) (D.1 ci) N (D.2 ci) H' (vp_V ((fs.set fk v).map (xcv b)))
    rw [e0]
    exact t_OB.to (V := updV (vp_V (fs.map (xcv b))) fk (xcv b v)) ⟨_, e1, q2, q3, t_set q4 hap hk (xcv b v)⟩ (fun j _ => vp_updV_set (by rw [List.length_map]; exact hl) (xcv b v) j)
  have hlay := hts _ (hin _ (u_in_lay hk))
  unfold u_lay at hlay
  by_cases hf : (T fk).2.2.2 = true
  · rw [if_pos hf] at hlay
    obtain ⟨hin2, hcls⟩ := hfin _ hrc hf
    have hcls : C0 = (sgN g).cls := hcls
    have hcf : m.cls = cf := by
      obtain ⟨_, _, c', _, _, _, -, -, hf', -, -, -, hown2, -⟩ := Cond.laysFinal_spec hlay
      have e1 : c' = cf := by have := hi.symm.trans hf'; simp at this; exact this.1.symm
      have hd2 : (T fk).1 = C0 := hdecl fk hk
      rw [hd2, hcls] at hown2
      rw [← e1]; exact Option.some.inj (hown.symm.trans hown2)
    have h6 := u_fits hfc hkC hkind (Or.inr hlay) hi (hty fk hk) hn hfit
    exact W.putFinK X.1 X.2.1 hown (hts _ hlink) hi hst hcf hin2 (by rw [q2]; exact h6) q1 q3 (by rw [hsl]; exact k2_hasslot (q4 fk hk)) rfl rfl hd fin
  · rw [if_neg hf] at hlay
    have h6 := u_store hfc hkC hkind hlay hi (hty fk hk) hn hfit
    exact W.putK X.1 X.2.1 (f := f) ⟨hown, hts _ hlink, ⟨_, _, _, hi⟩, hst⟩ (by rw [q2]; exact h6) q1 q3 (by rw [hsl]; exact k2_hasslot (q4 fk hk)) rfl rfl hd fin
theorem xs_putfield (hk : ∀ pc L st h, k pc L st h → xAt lim g Q pc L st h) {n : Nat} (hd : decode (sgB g) pc = .ok (.putfield n, len)) (hc : xck g (pc, .putfield n, len, lk) = true) (hq : xlk g (pc, .putfield n, len, lk)) (hs : xstep lim g k Q pc L st h (.putfield n) len lk) : xAt lim g Q pc L st h := by
  obtain ⟨ci, fk, rfl, hs⟩ := xlf_el hs
  obtain ⟨v, r, rfl, hs⟩ := xp1_el hs
  obtain ⟨a, r, rfl, fs, ha, hl, hs⟩ := xpr_el hs
  obtain ⟨hv, hs⟩ := bif_el hs
  have h2 := nb_eq hc
  subst h2
  intro p l e s m args below meth c D cI cR b N0 S0 H locs ls X C hl0
  exact x_put X C.1.1 C.2.1 ha hl hv hq.1 hd (fun rc hrc hf => by
    obtain ⟨g1, g2⟩ := hq.2 rc hrc hf
    exact ⟨X.2.2.2.2.2.2.1.trans g1, g2⟩) (fun H1 i z he oq => hk _ _ _ _ hs p l e s m args below meth c D cI cR b N0 S0 H1 _ ls X (xCx_put C ha.1 z he oq) hl0)
theorem xs_iaload (hk : ∀ pc L st h, k pc L st h → xAt lim g Q pc L st h) (hd : decode (sgB g) pc = .ok (.iaload, len)) (hc : xck g (pc, .iaload, len, lk) = true) (hs : xstep lim g k Q pc L st h .iaload len lk) : xAt lim g Q pc L st h := by
  obtain ⟨i, r, rfl, hs⟩ := xpi_el hs
  obtain ⟨a, r, rfl, n, f, j, ha, hi, hs⟩ := xpr_el hs
  have h2 := nb_eq hc
  subst h2
  obtain ⟨hi1, hi2⟩ := xix_in hi
  subst hi2
  intro p l e s m args below meth c D cI cR b N0 S0 H locs ls X C hl
  exact va_iald (ws := [(b + a, xce cI cR b (xia n f))]) X.1 X.2.1 C.1.1 (xWd_one C.2.1 ha) 0 0 rfl rfl hi1 hd (hk _ _ _ _ hs p l e s m args below meth c D cI cR b N0 S0 H locs ls X C hl)
theorem xs_arraylength (hk : ∀ pc L st h, k pc L st h → xAt lim g Q pc L st h) (hd : decode (sgB g) pc = .ok (.arraylength, len)) (hc : xck g (pc, .arraylength, len, lk) = true) (hs : xstep lim g k Q pc L st h .arraylength len lk) : xAt lim g Q pc L st h := by
  obtain ⟨a, r, rfl, n, f, ha, hs⟩ := xpr_el hs
  have h2 := nb_eq hc
  subst h2
  intro p l e s m args below meth c D cI cR b N0 S0 H locs ls X C hl
  exact va_alen (ws := [(b + a, xce cI cR b (xia n f))]) (x := (n, .inl f)) X.1 X.2.1 C.1.1 (xWd_one C.2.1 ha) 0 0 rfl rfl rfl hd (hk _ _ _ _ hs p l e s m args below meth c D cI cR b N0 S0 H locs ls X C hl)
theorem xs_aaload (hk : ∀ pc L st h, k pc L st h → xAt lim g Q pc L st h) (hd : decode (sgB g) pc = .ok (.aaload, len)) (hc : xck g (pc, .aaload, len, lk) = true) (hs : xstep lim g k Q pc L st h .aaload len lk) : xAt lim g Q pc L st h := by
  obtain ⟨i, r, rfl, hs⟩ := xpi_el hs
  obtain ⟨a, r, rfl, n, f, j, q, ha, hi, hf, hs⟩ := xpr_el hs
  have h2 := nb_eq hc
  subst h2
  obtain ⟨hi1, hi2⟩ := xix_in hi
  subst hi2
  intro p l e s m args below meth c D cI cR b N0 S0 H locs ls X C hl
  refine va_aldq (ws := [(b + a, xce cI cR b (xra n f))]) X.1 X.2.1 C.1.1 (xWd_one C.2.1 ha) 0 1 rfl rfl hi1 hd ?_
  have e1 : va_rf ((f i.toNatClampNeg).map (fun k => b + k)) = .ref (b + q) := by rw [hf]; rfl
  show W _ _ _ _ _ _ _ _ _ _ _ _ _ _ _ (F0 m (pc + 1) ls (va_rf ((f i.toNatClampNeg).map (fun k => b + k)) :: _))
  rw [e1]
  exact hk _ _ _ _ hs p l e s m args below meth c D cI cR b N0 S0 H locs ls X C hl
theorem xs_iastore (hk : ∀ pc L st h, k pc L st h → xAt lim g Q pc L st h) (hd : decode (sgB g) pc = .ok (.iastore, len)) (hc : xck g (pc, .iastore, len, lk) = true) (hs : xstep lim g k Q pc L st h .iastore len lk) : xAt lim g Q pc L st h := by
  obtain ⟨x, r, rfl, hs⟩ := xpi_el hs
  obtain ⟨i, r, rfl, hs⟩ := xpi_el hs
  obtain ⟨a, r, rfl, n, f, j, ha, hi, hs⟩ := xpr_el hs
  have h2 := nb_eq hc
  subst h2
  obtain ⟨hi1, hi2⟩ := xix_in hi
  subst hi2
  intro p l e s m args below meth c D cI cR b N0 S0 H locs ls X C hl
  refine W.iast X.1 X.2.1 (xWd_one C.2.1 ha 0 _ rfl) ((C.1.1.2 0 _ rfl).1 n (fun j => .int (f j))) (fun q => by cases q) (by show ¬ (i < 0 ∨ (arrV _ _ _).slots.size ≤ _); rw [arrV_size]; exact hi1) rfl rfl hd fun H1 e1 z oq => ?_
  refine hk _ _ _ _ hs p l e s m args below meth c D cI cR b N0 S0 H1 _ ls X (xCx_put C ha.1 z ?_ oq) hl
  show H1[b + a]? = some (vp_cell _ _)
  rw [e1]
  show some ((vp_cell cI (n, .inl f)).setSlot _ _) = some (vp_cell cI (n, .inl (upd f i.toNatClampNeg x)))
  rw [vp_cell_i, vp_cell_i, arrV_store]
  congr 2
  funext q
  by_cases hq : q = i.toNatClampNeg
  · subst hq
    simp [updV, upd]
  · simp [updV, upd, hq]
theorem xs_aastore (hk : ∀ pc L st h, k pc L st h → xAt lim g Q pc L st h) (hd : decode (sgB g) pc = .ok (.aastore, len)) (hc : xck g (pc, .aastore, len, lk) = true) (hs : xstep lim g k Q pc L st h .aastore len lk) : xAt lim g Q pc L st h := by
  obtain ⟨v, r, rfl, hs⟩ := xpr_el hs
  obtain ⟨i, r, rfl, hs⟩ := xpi_el hs
  obtain ⟨a, r, rfl, n, f, j, fs, ha, hi, hv, hs⟩ := xpr_el hs
  have h2 := nb_eq hc
  subst h2
  obtain ⟨hi1, hi2⟩ := xix_in hi
  subst hi2
  intro p l e s m args below meth c D cI cR b N0 S0 H locs ls X C hl
  have hlt : i.toNatClampNeg < n := hi.2.1
  have h0 : ¬ i < 0 := fun q => hi1 (Or.inl q)
  obtain ⟨r', hr', cellV, g1, g2, g3, -⟩ := xWd_one C.2.1 hv 0 _ rfl
  obtain ⟨rc, hrc, hrn⟩ := xrc_ok
  have hcls := (C.1.1.1 xrc rc hrc).2
  obtain ⟨kA, comp, k1, k2, k3, -⟩ := (C.1.1.2 1 _ rfl).2
  rw [hrn] at hcls
  have hcomp : comp = D.1 xrc := Option.some.inj (k3.symm.trans hcls.1)
  subst hcomp
  obtain ⟨kC, hkC, -⟩ := hcls.2
  refine W.aast X.1 X.2.1 (xWd_one C.2.1 ha 0 _ rfl) (fun q h => by cases h) (fun h => by cases h) k1 k2 rfl hkC ⟨h0, by show _ < (arrV _ _ _).slots.size; rw [arrV_size]; exact hlt⟩ g1 (fun q h => by rw [g3] at h; cases h) (by rw [g2]; exact hkC) (by rw [g2]; exact va_assign hcls) rfl rfl hd fun H1 e1 z oq => ?_
  refine hk _ _ _ _ hs p l e s m args below meth c D cI cR b N0 S0 H1 _ ls X (xCx_put C ha.1 z ?_ oq) hl
  show H1[b + a]? = some (vp_cell _ _)
  rw [e1]
  show some ((vp_cell cR (n, .inr (.inr (.inr (.inr (fun j => (f j).map (fun k => b + k))))))).setSlot _ _) = some (vp_cell cR (n, .inr (.inr (.inr (.inr (fun j => (va_up f i.toNatClampNeg (some v) j).map (fun k => b + k)))))))
  rw [vp_cell_q, vp_cell_q, arrV_store]
  congr 2
  funext q
  by_cases hq : q = i.toNatClampNeg
  · subst hq
    simp [updV, va_up, va_rf]
  · simp [updV, va_up, hq]

theorem xnI_nn {j : Nat} (hj : j < 100000) : ¬ nI j < 0 ∧ (nI j).toNatClampNeg = j := ⟨nI_pos (by omega), nI_clamp (by omega)⟩
theorem xs_newarray (hk : ∀ pc L st h, k pc L st h → xAt lim g Q pc L st h) {ty : ArrayType} (hd : decode (sgB g) pc = .ok (.newarray ty, len)) (hc : xck g (pc, .newarray ty, len, lk) = true) (hq : xlk g (pc, .newarray ty, len, lk)) (hs : xstep lim g k Q pc L st h (.newarray ty) len lk) : xAt lim g Q pc L st h := by
  obtain ⟨i, r, rfl, j, rfl, hj, l1, l2, hs2⟩ := xpi_el hs
  clear hs
  have h2 := nb_eq hc
  subst h2
  obtain ⟨rfl, hac⟩ : ty = .int ∧ Cond.arrayClass .int ∈ lw_g := by
    cases ty <;> first | exact hq.elim | exact ⟨rfl, hq⟩
  obtain ⟨hn, hN⟩ := xnI_nn hj
  intro p l e s m args below meth c D cI cR b N0 S0 H locs ls X C hl
  have hts : ∀ w ∈ lw_g, w.before args s = true := fun w hw => X.2.2.2.2.2.2.2 w (List.mem_cons_of_mem _ hw)
  refine va_newaK (atype := .int) X.1 X.2.1 (hts _ hac) (g := F0 m pc ls (.int (nI j) :: r.map (xcv b))) rfl hd rfl hn hN (by show j * 4 ≤ 536870912; omega) ?_ ?_ rfl fun H1 cA e1 z1 o1 hAr hNm => ?_
  · show h.1 - N0 + 1 ≤ lim.1 - N0
    have := C.2.2.2.2.1; omega
  · show h.2.1 - S0 + j ≤ lim.2 - S0
    have := C.2.2.2.2.2.2.1; omega
  · have hcA : cA = cI := by
      have h9 : s.vm.findClass ("[" ++ (FieldType.int).toString) = some cI := (C.1.1.2 0 _ rfl).2
      exact Option.some.inj (hNm.symm.trans h9)
    subst hcA
    have C1 : xCx lim g D cA cR b N0 S0 s (xnew h j (xia j (fun _ => 0))) H1 locs := xCx_new C z1 (by
      show H1[b + h.1]? = some (vp_cell _ _)
      rw [← C.2.1.1]
      exact e1) o1 l1 l2
    have k1 := hk _ _ _ _ hs2 p l e s m args below meth c D cA cR b N0 S0 H1 locs ls X C1 hl
    have := C.2.2.2.2.1
    have := C.2.2.2.2.2.2.1
    refine W.cs (show h.1 - N0 + 1 = h.1 + 1 - N0 by omega) (show h.2.1 - S0 + j = h.2.1 + j - S0 by omega) ?_
    have e2 : H.size = b + h.1 := C.2.1.1
    rw [e2]
    exact k1
theorem xs_anewarray (hk : ∀ pc L st h, k pc L st h → xAt lim g Q pc L st h) {n : Nat} (hd : decode (sgB g) pc = .ok (.anewarray n, len)) (hc : xck g (pc, .anewarray n, len, lk) = true) (hq : xlk g (pc, .anewarray n, len, lk)) (hs : xstep lim g k Q pc L st h (.anewarray n) len lk) : xAt lim g Q pc L st h := by
  obtain ⟨i, r, rfl, j, rfl, hj, l1, l2, hs⟩ := xpi_el hs
  have h2 := nb_eq hc
  subst h2
  have hq : Cond.classLink (sgN g).cls n xrn ∈ lw_g := by
    exact hq
  obtain ⟨hn, hN⟩ := xnI_nn hj
  intro p l e s m args below meth c D cI cR b N0 S0 H locs ls X C hl
  have hts : ∀ w ∈ lw_g, w.before args s = true := fun w hw => X.2.2.2.2.2.2.2 w (List.mem_cons_of_mem _ hw)
  refine W.anew X.1 X.2.1 X.2.2.2.2.2.1 (hts _ hq) (va_AO.use C.1.2) (g := F0 m pc ls (.int (nI j) :: r.map (xcv b))) rfl hd rfl hn (by rw [hN]; omega) ?_ ?_ fun cA kA comp f1 f2 f3 f4 => ?_
  · show h.1 - N0 + 1 ≤ lim.1 - N0
    have := C.2.2.2.2.1; omega
  · show h.2.1 - S0 + (nI j).toNatClampNeg ≤ lim.2 - S0
    rw [hN]
    have := C.2.2.2.2.2.2.1; omega
  · rw [hN]
    have hcA : cA = cR := by
      obtain ⟨_, _, -, -, -, h9⟩ := (C.1.1.2 1 _ rfl).2
      exact Option.some.inj (f1.symm.trans h9)
    subst hcA
    generalize hH1 : H.push ({ cls := cA, slots := Array.replicate j .null, vm := .none } : Cell) = H1
    have z1 : H1.size = H.size + 1 := by rw [← hH1, Array.size_push]
    have e1 : H1[H.size]? = some (arrV cA j (fun _ => .null)) := by rw [← hH1, Array.getElem?_push_size, ← arrV_new]
    have o1 : ∀ q : Nat, q < H.size → H1[q]? = H[q]? := fun q hq => by rw [← hH1, Array.getElem?_push, if_neg (Nat.ne_of_lt hq)]
    have C1 : xCx lim g D cI cA b N0 S0 s (xnew h j (xra j (fun _ => none))) H1 locs := xCx_new C z1 (by
      show H1[b + h.1]? = some (vp_cell _ _)
      rw [← C.2.1.1]
      exact e1) o1 l1 l2
    have k1 := hk _ _ _ _ hs p l e s m args below meth c D cI cA b N0 S0 H1 locs ls X C1 hl
    have := C.2.2.2.2.1
    have := C.2.2.2.2.2.2.1
    refine W.cs (show h.1 - N0 + 1 = h.1 + 1 - N0 by omega) (show h.2.1 - S0 + j = h.2.1 + j - S0 by omega) ?_
    have e2 : H.size = b + h.1 := C.2.1.1
    rw [e2]
    exact k1
theorem xs_new (hk : ∀ pc L st h, k pc L st h → xAt lim g Q pc L st h) {n : Nat} (hd : decode (sgB g) pc = .ok (.new n, len)) (hc : xck g (pc, .new n, len, lk) = true) (hq : xlk g (pc, .new n, len, lk)) (hs : xstep lim g k Q pc L st h (.new n) len lk) : xAt lim g Q pc L st h := by
  obtain ⟨ci, nn, rfl, l1, l2, hs⟩ := xlf_el hs
  have h2 := nb_eq hc
  subst h2
  obtain ⟨rc, hrc, hnn, q1, q2, q3⟩ := hq
  subst hnn
  obtain ⟨C0, T, N⟩ := rc
  obtain ⟨hty, -, -, hdef, hin, hcv⟩ := xcl_in hrc
  intro p l e s m args below meth c D cI cR b N0 S0 H locs ls X C hl
  have hts : ∀ w ∈ lw_g, w.before args s = true := fun w hw => X.2.2.2.2.2.2.2 w (List.mem_cons_of_mem _ hw)
  have hKn := C.1.1.1 ci _ hrc
  refine W.newcK X.1 X.2.1 X.2.2.2.2.2.1 (hts _ q1) (hts _ q2) (hts _ q3) (g := F0 m pc ls (st.map (xcv b))) rfl hd ?_ ?_ hKn.2.1 rfl fun H1 kC hkC e1 z1 o1 => ?_
  · show h.1 - N0 + 1 ≤ lim.1 - N0
    have := C.2.2.2.2.1; omega
  · show h.2.1 - S0 + N ≤ lim.2 - S0
    have l2 : h.2.1 + N ≤ lim.2 := l2
    have := C.2.2.2.2.2.2.1; omega
  · have C1 : xCx lim g D cI cR b N0 S0 s (xnew h N (xob ci (xdef ci))) H1 locs := xCx_new C z1 (by
      refine ⟨_, hrc, ?_⟩
      show t_OB (b + h.1) (D.1 ci) N (D.2 ci) H1 (vp_V ((xdef ci).map (xcv b)))
      rw [hcv, ← C.2.1.1]
      exact (u_born (xfty ci) hts hin hKn hkC e1 hty).to hdef) o1 l1 l2
    have k1 := hk _ _ _ _ hs p l e s m args below meth c D cI cR b N0 S0 H1 locs ls X C1 hl
    have := C.2.2.2.2.1
    have := C.2.2.2.2.2.2.1
    refine W.cs (show h.1 - N0 + 1 = h.1 + 1 - N0 by omega) (show h.2.1 - S0 + N = h.2.1 + N - S0 by omega) ?_
    have e2 : H.size = b + h.1 := C.2.1.1
    rw [e2]
    exact k1
/-! calls -/
theorem xgood {ws : List Cond} (hw : ∀ w ∈ ws, w ∈ lw_g) : GoodIn (xwd g) ws := fun w h => ⟨List.mem_cons_of_mem _ (hw w h), good_of_word (List.all_eq_true.mp lw_all w (hw w h))⟩
theorem xwd_in {c : xSig} (hm : xmc c) : ∀ w ∈ xwd c, w ∈ lw_g := fun w h => (List.mem_cons.mp h).elim (fun e => e ▸ hm.2.1) id
theorem x_after {p : Program} {l : Launch} {e : Env} {R : Room} {s : State} {m : MethodId} {args : Array Value} {below : List Frame} {meth : Method} {c : Code} {H : Heap} {locs : List Loc} {cells slots mc ms : Nat} {Qw : State → Prop} {D : va_G} {cI cR : ClassId} {b : Nat} {rest st0 : List Value} {v : Option Value} {h' : xHp} {ls : Array Slot} {a : Array Value} {H0 : Heap}
    (hr : va_Run p l e R s m args below meth c H locs cells slots mc ms (F0 m pc ls st0) rest (xQc D cI cR b v h' a) (fun q => b ≤ q)) (hS : va_S (fun q => b ≤ q) H0 H locs)
    (kk : ∀ (H1 : Heap) (locs1 : List Loc), xWd D cI cR b h' H1 → va_S (fun q => b ≤ q) H0 H1 locs1 → W p l e R s m args below meth c H1 locs1 (cells + mc) (slots + ms) Qw (F0 m (pc + 3) ls ((v.map (xcv b)).toList ++ rest))) : W p l e R s m args below meth c H locs cells slots Qw (F0 m pc ls st0) := by
  intro T hT X
  obtain ⟨v', st₀, t, T', L, h0, X', hL, e1, e2, ⟨hv, hw, hkk, hz, hf⟩, st⟩ := hr T hT X
  have hv := Outcome.returned.inj hv
  subst hv
  rw [h0] at hz hf
  obtain ⟨t2, a1, b1⟩ := kk T'.heap (locs ++ L) (by rw [e1]; exact hw) ⟨by rw [e1]; exact Nat.le_trans hS.1 hz, fun q h1 h2 => by rw [e1, hf q (Nat.lt_of_lt_of_le h1 hS.1) h2]; exact hS.2.1 q h1 h2, fun q hq => by
      rcases List.mem_append.mp hq with h | h
      · exact hS.2.2 q h
      · exact hL q h⟩ T' rfl X'
  exact ⟨t2, st t2 a1, b1⟩
theorem xcal_el {c : xSig} {As : List Value} {kf : List Value → xHp → Prop} (hs : xcal c As h kf) : ∃ (v : Option Value) (h' : xHp), Spec c As h v h' ∧ kf v.toList h' := by
  unfold xcal at hs
  split at hs
  · obtain ⟨h', h1, h2⟩ := hs
    exact ⟨none, h', h1, h2⟩
  · obtain ⟨r, h', h1, h2⟩ := hs
    exact ⟨some (.long r), h', h1, h2⟩
  · obtain ⟨r, h', h1, h2⟩ := hs
    exact ⟨some (.int r), h', h1, h2⟩
theorem x_blind {D : va_G} {cI cR : ClassId} {b : Nat} {av : List Value} : FrameBlind (va_Pc av (fun U => xWd D cI cR b h U.heap ∧ xKk D cI cR U)) := fun a U g mk q => ⟨q.1, q.2.1, xKk.moved (u := U) (U := U.calling g mk a) (Vm.Alike.refl U.vm) q.2.2⟩
theorem x_ok8 {r : List Value} {m : MethodId} {ls : Array Slot} {st0 : List Value} (b : Nat) (h8 : Nat.ble (xcats r) 8 = true) : 2 * (F0 m pc ls st0).monitorRoom + ((r.map (xcv b)).map fun v => v.category).sum ≤ 8 := by
  rw [xcats_eq]
  have := Nat.le_of_ble_eq_true h8
  show 2 * 0 + _ ≤ 8
  omega
theorem x_map {v : Option Value} {r : List Value} (b : Nat) : (v.map (xcv b)).toList ++ r.map (xcv b) = (v.toList ++ r).map (xcv b) := by cases v <;> rfl
theorem xCx_putL {D : va_G} {cI cR : ClassId} {b N0 S0 : Nat} {s : State} {H H1 : Heap} {locs L : List Loc} {a : Nat} {e : xE} (C : xCx lim g D cI cR b N0 S0 s h H locs) (ha : a < h.1) (z : H1.size = H.size) (he : va_at D xcl (b + a, xce cI cR b e) H1) (oq : ∀ q : Nat, q ≠ b + a → H1[q]? = H[q]?) (hL : ∀ q ∈ L, q.base = b + a) : xCx lim g D cI cR b N0 S0 s (xset h a e) H1 (locs ++ L) := by
  obtain ⟨hK, hW, hS, r⟩ := C
  refine ⟨hK, xWd_put hW ha z he oq, ⟨by rw [z]; exact hS.1, fun q h1 h2 => ?_, fun q hq => ?_⟩, r⟩
  · rw [oq q (fun e => h2 (by rw [e]; exact Nat.le_add_right b a))]
    exact hS.2.1 q h1 h2
  · rcases List.mem_append.mp hq with h3 | h3
    · exact hS.2.2 q h3
    · show b ≤ q.base
      rw [hL q h3]
      exact Nat.le_add_right b a
theorem x_copy {p : Program} {l : Launch} {e : Env} {R : Room} {s : State} {m : MethodId} {args : Array Value} {below : List Frame} {meth : Method} {c : Code} {H : Heap} {locs : List Loc} {cells slots : Nat} {Qw : State → Prop} {D : va_G} {cI cR : ClassId} {b n a a0 n0 n1 jn jd js : Nat} {f f1 : Nat → Int32} {rest : List Value} {ls : Array Slot}
    (X : xFix p s m args meth c g) (hK : va_K D xcl (xtys cI cR) s) (hW : xWd D cI cR b h H) (ha0 : xat h a0 (xia n0 f)) (ha : xat h a (xia n1 f1)) (b1 : js + jn ≤ n0) (b2 : jd + jn ≤ n1) (b3 : n0 < 100000) (b4 : n1 < 100000) (hls : c.maxLocals = ls.size) (hfr : 1 ≤ R.frames) (hlo : (rest.map fun v => v.category).sum + xcpw ≤ R.locals)
    (hq : Cond.methodLink (sgN g).cls n arraycopyName ∈ lw_g ∧ Cond.native arraycopyName ∈ lw_g ∧ Cond.static arraycopyName ∈ lw_g ∧ Cond.initialized "java/lang/System" ∈ lw_g) (hd : decode (sgB g) pc = .ok (.invokestatic n, 3))
    (kk : ∀ (H1 : Heap) (L : List Loc), H1.size = H.size → va_at D xcl (b + a, xce cI cR b (xia n1 (va_cpy f f1 js jd jn))) H1 → (∀ q : Nat, q ≠ b + a → H1[q]? = H[q]?) → (∀ q ∈ L, q.base = b + a) → W p l e R s m args below meth c H1 (locs ++ L) cells slots Qw (F0 m (pc + 3) ls rest)) : W p l e R s m args below meth c H locs cells slots Qw (F0 m pc ls (.int (nI jn) :: .int (nI jd) :: .ref (b + a) :: .int (nI js) :: .ref (b + a0) :: rest)) := by
  have hts : ∀ w ∈ lw_g, w.before args s = true := fun w hw => X.2.2.2.2.2.2.2 w (List.mem_cons_of_mem _ hw)
  have nn : ∀ z : Nat, z < 100000 → (nI z).toInt = (z : Int) := fun z hz => nI_toInt (by omega)
  have cl : ∀ z : Nat, z < 100000 → (nI z).toNatClampNeg = z := fun z hz => nI_clamp (by omega)
  have ps : ∀ z : Nat, z < 100000 → ¬ nI z < 0 := fun z hz => nI_pos (by omega)
  have jn9 : jn < 100000 := by omega
  have jd9 : jd < 100000 := by omega
  have js9 : js < 100000 := by omega
  intro T hT X0
  have hc0 : H[b + a0]? = some (vp_cell cI (n0, .inl f)) := xWd_one hW ha0 0 _ rfl
  have hc1 : H[b + a]? = some (vp_cell cI (n1, .inl f1)) := xWd_one hW ha 0 _ rfl
  obtain ⟨-, k0, hk0, cm0, hkk0⟩ := (hK.2 0 _ rfl).1 n0 (fun j => .int (f j))
  obtain ⟨-, k1, hk1, cm1, hkk1⟩ := (hK.2 0 _ rfl).1 n1 (fun j => .int (f1 j))
  obtain ⟨vm', X', step⟩ := X0.arraycopy X.1 X.2.2.2.2.2.1 (hts _ hq.1) (hts _ hq.2.1) (hts _ hq.2.2.1) (hts _ hq.2.2.2) (src := b + a0) (dst := b + a) (cs := vp_cell cI (n0, .inl f)) (cd := vp_cell cI (n1, .inl f1)) (srcPos := nI js) (destPos := nI jd) (n := nI jn) (by rw [hT]; exact hc0) (by rw [hT]; exact hc1)
    (fun _ h => by cases h) (fun _ h => by cases h) (fun h => by cases h) (fun h => by cases h) hk0 hk1 hkk0 hkk1 (by simp [refKind]) (ps _ js9) (ps _ jd9) (ps _ jn9)
    (by rw [nn _ js9, nn _ jn9]; show ¬ _ > ((arrV cI n0 (fun j => .int (f j))).slots.size : Int); rw [arrV_size]; omega)
    (by rw [nn _ jd9, nn _ jn9]; show ¬ _ > ((arrV cI n1 (fun j => .int (f1 j))).slots.size : Int); rw [arrV_size]; omega)
    (fun vm₁ _ i hi => by
      have e0 : (vp_cell cI (n0, .inl f)).slots.getD ((nI js).toNatClampNeg + i) .null = .int (f (js + i)) := by
        rw [cl _ jn9] at hi
        show (arrV cI n0 (fun j => .int (f j))).slots.getD _ _ = _
        rw [cl _ js9, Array.getD_eq_getD_getElem?, arrV_read _ _ (by omega)]
        rfl
      refine ⟨?_, ?_⟩
      · rw [e0]
        rfl
      · rw [e0]
        exact trivial)
    (g := F0 m pc ls (.int (nI jn) :: .int (nI jd) :: .ref (b + a) :: .int (nI js) :: .ref (b + a0) :: rest)) rfl (by rw [hls]) (rest := rest) rfl (by rw [X.2.1]; exact hd) hfr (by show 2 * 0 + _ + xcpw ≤ _; omega)
  have e1 : copied (vp_cell cI (n0, .inl f)) (vp_cell cI (n1, .inl f1)) (nI js) (nI jd) (nI jn) = vp_cell cI (n1, .inl (va_cpy f f1 js jd jn)) := by
    have e9 := va_copied (fun z => .int z) cI cI (n0 := n0) (n1 := n1) (sp := js) (dp := jd) (n := jn) f f1 b1
    unfold copied
    rw [cl _ jn9, cl _ jd9, cl _ js9]
    exact e9
  rw [e1] at X' step
  have hl : b + a < H.size := (Array.getElem?_eq_some_iff.mp hc1).1
  have hheap : ((T.setVm vm').setCell (b + a) (vp_cell cI (n1, .inl (va_cpy f f1 js jd jn)))).heap = H.setIfInBounds (b + a) (vp_cell cI (n1, .inl (va_cpy f f1 js jd jn))) := by rw [← hT]; rfl
  obtain ⟨t, a1, b1⟩ := kk (H.setIfInBounds (b + a) (vp_cell cI (n1, .inl (va_cpy f f1 js jd jn)))) _ (by simp) (show (H.setIfInBounds (b + a) _)[b + a]? = some _ by simp [Array.getElem?_setIfInBounds, hl]) (fun q hq => by simp [Array.getElem?_setIfInBounds, Ne.symm hq]) (fun q hq => by
    obtain ⟨z, -, hz⟩ := List.mem_map.mp hq
    rw [← hz]) _ hheap X'
  exact ⟨t, step t a1, b1⟩
theorem xs_invokestatic (hk : ∀ pc L st h, k pc L st h → xAt lim g Q pc L st h) {n : Nat} (hd : decode (sgB g) pc = .ok (.invokestatic n, len)) (hc : xck g (pc, .invokestatic n, len, lk) = true) (hq : xlk g (pc, .invokestatic n, len, lk)) (hs : xstep lim g k Q pc L st h (.invokestatic n) len lk) : xAt lim g Q pc L st h := by
  replace hs : xist k pc len L st h lk := hs
  unfold xist at hs
  split at hs
  next c0 =>
    split at hs
    next As r hpop =>
      obtain ⟨h8, hs⟩ := bif_el hs
      obtain ⟨v, h', hsp, hs⟩ := xcal_el hs
      obtain ⟨h1, h2⟩ := and_el hc
      have h2 := nb_eq h2
      subst h2
      obtain ⟨hfr, hlo⟩ := and_el h1
      have hfr := Nat.le_of_ble_eq_true hfr
      have hlo := Nat.le_of_ble_eq_true hlo
      obtain ⟨hlink, hmc, hstat⟩ := hq
      obtain ⟨B, hB, hst, hlen⟩ := xpop_el hpop
      rw [List.append_nil] at hB
      subst hB
      intro p l e s m args below meth c D cI cR b N0 S0 H locs ls X C hl
      obtain ⟨⟨g1, g2, -, hM⟩, g3, g4⟩ := hsp
      have hM := hM l D cI cR b
      have hts := X.2.2.2.2.2.2.2
      refine x_after (va_runS (As := As.map (xcv b)) (rest := r.map (xcv b)) ⟨X.1, X.2.1, X.2.2.2.2.1, X.2.2.2.2.2.1, hts⟩ hM (va_cwS (sgP c0) hts (xgood (fun w hw => ?_)) rfl rfl rfl ⟨hmc.2.2.1, hmc.2.2.2.1, hmc.2.2.2.2⟩ ⟨hfr, hlo⟩) ⟨x_blind, fun U hU hW => ⟨rfl, by rw [hU]; exact C.2.1, xKk.moved hW.alike C.1⟩⟩ rfl (by rw [List.length_map]; exact hlen) hl.1 (by rw [hst]; simp) (x_ok8 b h8) hd ?_) C.2.2.1 fun H1 locs1 hW1 hS1 => ?_
      · rcases List.mem_append.mp hw with hw | hw
        · rcases List.mem_cons.mp hw with hw | hw
          · rw [hw]; exact hlink
          · rcases List.mem_cons.mp hw with hw | hw
            · rw [hw]; exact hstat
            · rw [List.mem_singleton.mp hw]; exact hmc.1
        · exact xwd_in hmc w hw
      · rw [g3, g4, Nat.sub_self, Nat.sub_self]
        have := C.2.2.2.2
        show h.1 - N0 + 0 ≤ lim.1 - N0 ∧ h.2.1 - S0 + 0 ≤ lim.2 - S0
        omega
      · rw [x_map]
        refine W.cs (show h.1 - N0 + (h'.1 - h.1) = h'.1 - N0 by omega) (show h.2.1 - S0 + (h'.2.1 - h.2.1) = h'.2.1 - S0 by omega) ?_
        exact hk _ _ _ _ hs p l e s m args below meth c D cI cR b N0 S0 H1 locs1 ls X ⟨C.1, hW1, hS1, C.2.2.2.1, by rw [g3, g4]; exact C.2.2.2.2⟩ hl
    · exact hs.elim
  next q =>
    obtain ⟨n9, r1, e1, hs1⟩ := xpi_el hs
    obtain ⟨dp, r2, e2, hs2⟩ := xpi_el hs1
    obtain ⟨a, r3, e3, hs3⟩ := xpr_el hs2
    obtain ⟨sp, r4, e4, hs4⟩ := xpi_el hs3
    obtain ⟨a0, r, e5, hs5⟩ := xpr_el hs4
    clear hs hs1 hs2 hs3 hs4
    subst e1 e2 e3 e4 e5
    obtain ⟨h8, n0, f, n1, f1, jn, jd, js, ha0, ha, rfl, rfl, rfl, b1, b2, b3, b4, hs⟩ := bif_el hs5
    clear hs5
    obtain ⟨h1, h2⟩ := and_el hc
    have h2 := nb_eq h2
    subst h2
    obtain ⟨hfr, hlo⟩ := and_el h1
    have hfr := Nat.le_of_ble_eq_true hfr
    have hlo := Nat.le_of_ble_eq_true hlo
    intro p l e s m args below meth c D cI cR b N0 S0 H locs ls X C hl0
    have h9 := Nat.le_of_ble_eq_true h8
    exact x_copy X C.1.1 C.2.1 ha0 ha b1 b2 b3 b4 (X.2.2.2.2.1.trans hl0.1.symm) hfr (by rw [xcats_eq]; exact Nat.le_trans (Nat.add_le_add_right h9 _) hlo) hq hd (fun H1 L9 z he oq hL => hk _ _ _ _ hs p l e s m args below meth c D cI cR b N0 S0 H1 _ ls X (xCx_putL C ha.1 z he oq hL) hl0)
  · exact hs.elim
theorem xs_invokevirtual (hk : ∀ pc L st h, k pc L st h → xAt lim g Q pc L st h) {n : Nat} (hd : decode (sgB g) pc = .ok (.invokevirtual n, len)) (hc : xck g (pc, .invokevirtual n, len, lk) = true) (hq : xlk g (pc, .invokevirtual n, len, lk)) (hs : xstep lim g k Q pc L st h (.invokevirtual n) len lk) : xAt lim g Q pc L st h := by
  replace hs : xivt k pc len L st h lk := hs
  unfold xivt at hs
  split at hs
  next c0 =>
    split at hs
    next As r hpop =>
      obtain ⟨ra, r, rfl, hs⟩ := xpr_el hs
      obtain ⟨h8, hs⟩ := bif_el hs
      obtain ⟨v, h', hsp, hs⟩ := xcal_el hs
      obtain ⟨h1, h2⟩ := and_el hc
      have h2 := nb_eq h2
      subst h2
      obtain ⟨hfr, hlo⟩ := and_el h1
      have hfr := Nat.le_of_ble_eq_true hfr
      have hlo := Nat.le_of_ble_eq_true hlo
      obtain ⟨hlink, hmc, hinst, hsel, ci, rc, hci, hrc, hcn⟩ := hq
      obtain ⟨B, hB, hst, hlen⟩ := xpop_el hpop
      rw [List.append_nil] at hB
      subst hB
      intro p l e s m args below meth c D cI cR b N0 S0 H locs ls X C hl
      obtain ⟨⟨g1, g2, hrv, hM⟩, g3, g4⟩ := hsp
      obtain ⟨ra', fs, As', hra, hat⟩ := hrv ci hci
      cases hra
      have hM := hM l D cI cR b
      have hts := X.2.2.2.2.2.2.2
      have hrec := va_recv (q0 := 0) C.1.1 (xWd_one C.2.1 hat) hrc rfl
      rw [hcn] at hrec
      refine x_after (va_runV (C := (sgN c0).cls) (b := b + ra) (As := As.map (xcv b)) (rest := r.map (xcv b)) ⟨X.1, X.2.1, X.2.2.2.2.1, X.2.2.2.2.2.1, hts⟩ hM (cwV (sgP c0) hts (xgood (fun w hw => ?_)) rfl rfl rfl ⟨rfl, hmc.2.2.1, hmc.2.2.2.1, hmc.2.2.2.2⟩ ⟨hfr, hlo⟩) ⟨x_blind, hrec, fun U hU hW => ⟨rfl, by rw [hU]; exact C.2.1, xKk.moved hW.alike C.1⟩⟩ rfl (by rw [List.length_map]; exact hlen) hl.1 (by rw [hst]; simp [xcv]) (x_ok8 b h8) hd ?_) C.2.2.1 fun H1 locs1 hW1 hS1 => ?_
      · rcases List.mem_append.mp hw with hw | hw
        · rcases List.mem_cons.mp hw with hw | hw
          · rw [hw]; exact hlink
          · rcases List.mem_cons.mp hw with hw | hw
            · rw [hw]; exact hinst
            · rcases List.mem_cons.mp hw with hw | hw
              · rw [hw]; exact hsel
              · rw [List.mem_singleton.mp hw]; exact hmc.1
        · exact xwd_in hmc w hw
      · rw [g3, g4, Nat.sub_self, Nat.sub_self]
        have := C.2.2.2.2
        show h.1 - N0 + 0 ≤ lim.1 - N0 ∧ h.2.1 - S0 + 0 ≤ lim.2 - S0
        omega
      · rw [x_map]
        refine W.cs (show h.1 - N0 + (h'.1 - h.1) = h'.1 - N0 by omega) (show h.2.1 - S0 + (h'.2.1 - h.2.1) = h'.2.1 - S0 by omega) ?_
        exact hk _ _ _ _ hs p l e s m args below meth c D cI cR b N0 S0 H1 locs1 ls X ⟨C.1, hW1, hS1, C.2.2.2.1, by rw [g3, g4]; exact C.2.2.2.2⟩ hl
    · exact hs.elim
  · exact hs.elim
theorem xs_invokespecial (hk : ∀ pc L st h, k pc L st h → xAt lim g Q pc L st h) {n : Nat} (hd : decode (sgB g) pc = .ok (.invokespecial n, len)) (hc : xck g (pc, .invokespecial n, len, lk) = true) (hq : xlk g (pc, .invokespecial n, len, lk)) (hs : xstep lim g k Q pc L st h (.invokespecial n) len lk) : xAt lim g Q pc L st h := by
  replace hs : xisp lim k pc len L st h lk := hs
  unfold xisp at hs
  split at hs
  next c0 =>
    split at hs
    next As r hpop =>
      obtain ⟨ra, r, rfl, hs⟩ := xpr_el hs
      obtain ⟨h8, h', ⟨g1, g2, -, hM⟩, l1, l2, hs⟩ := bif_el hs
      obtain ⟨h1, h2⟩ := and_el hc
      have h2 := nb_eq h2
      subst h2
      obtain ⟨hfr, hlo⟩ := and_el h1
      have hfr := Nat.le_of_ble_eq_true hfr
      have hlo := Nat.le_of_ble_eq_true hlo
      obtain ⟨hlink, hmc, hinst, hnm, hret⟩ := hq
      obtain ⟨B, hB, hst, hlen⟩ := xpop_el hpop
      rw [List.append_nil] at hB
      subst hB
      intro p l e s m args below meth c D cI cR b N0 S0 H locs ls X C hl
      have hM := hM l D cI cR b
      have hts := X.2.2.2.2.2.2.2
      have hxw : xwd c0 = Cond.code (sgN c0) (sgB c0) (sgL c0) none :: lw_g := by unfold xwd; rw [hret]
      refine x_after (va_runI (b := b + ra) (As := As.map (xcv b)) (rest := r.map (xcv b)) ⟨X.1, X.2.1, X.2.2.2.2.1, X.2.2.2.2.2.1, hts⟩ hM (cwI (sgP c0) hts (xgood (xwd_in hmc)) hxw rfl rfl (hts _ (List.mem_cons_of_mem _ hmc.1)) (hts _ (List.mem_cons_of_mem _ hlink)) (hts _ (List.mem_cons_of_mem _ hinst)) hnm ⟨hmc.2.2.1, hmc.2.2.2.1, hmc.2.2.2.2⟩ ⟨hfr, hlo⟩) ⟨x_blind, fun U hU hW => ⟨rfl, by rw [hU]; exact C.2.1, xKk.moved hW.alike C.1⟩⟩ rfl (by rw [List.length_map]; exact hlen) hl.1 (by rw [hst]; simp [xcv]) (x_ok8 b h8) hd ?_) C.2.2.1 fun H1 locs1 hW1 hS1 => ?_
      · have := C.2.2.2.2
        show h.1 - N0 + (h'.1 - h.1) ≤ lim.1 - N0 ∧ h.2.1 - S0 + (h'.2.1 - h.2.1) ≤ lim.2 - S0
        omega
      · have := C.2.2.2.2
        refine W.cs (show h.1 - N0 + (h'.1 - h.1) = h'.1 - N0 by omega) (show h.2.1 - S0 + (h'.2.1 - h.2.1) = h'.2.1 - S0 by omega) ?_
        exact hk _ _ _ _ hs p l e s m args below meth c D cI cR b N0 S0 H1 locs1 ls X ⟨C.1, hW1, hS1, C.2.2.2.1, by omega⟩ hl
    · exact hs.elim
  next q =>
    obtain ⟨ra, r, rfl, hs⟩ := xpr_el hs
    obtain ⟨h8, hs⟩ := bif_el hs
    obtain ⟨h1, h2⟩ := and_el hc
    have h2 := nb_eq h2
    subst h2
    obtain ⟨hfr, hlo⟩ := and_el h1
    have hfr := Nat.le_of_ble_eq_true hfr
    have hlo := Nat.le_of_ble_eq_true hlo
    obtain ⟨q1, q2, q3⟩ := hq
    intro p l e s m args below meth c D cI cR b N0 S0 H locs ls X C hl
    have hts : ∀ w ∈ lw_g, w.before args s = true := fun w hw => X.2.2.2.2.2.2.2 w (List.mem_cons_of_mem _ hw)
    have h9 := x_ok8 (pc := pc) (m := m) (ls := ls) (st0 := .ref (b + ra) :: r.map (xcv b)) b h8
    exact W.objInit X.1 X.2.1 X.2.2.2.2.2.1 (hts _ q1) (hts _ q2) (hts _ q3) (g := F0 m pc ls (.ref (b + ra) :: r.map (xcv b))) rfl (hl.1.trans X.2.2.2.2.1.symm) rfl hd hfr (Nat.le_trans (Nat.add_le_add_right h9 12) hlo) (hk _ _ _ _ hs p l e s m args below meth c D cI cR b N0 S0 H locs ls X C hl)
  · exact hs.elim
/-! answers -/
theorem xnil_el {st : List Value} {p : Prop} (h : xnil st p) : st = [] ∧ p := by
  unfold xnil at h
  split at h
  · exact ⟨rfl, h⟩
  · exact h.elim
theorem x_end {D : va_G} {cI cR : ClassId} {b N0 S0 : Nat} {s t : State} {H : Heap} {locs : List Loc} {v : Option Value} {args : Array Value} (C : xCx lim g D cI cR b N0 S0 s h H locs) (hQ : Q v h) (ht : t.heap = H) (hW : s.WarmedH t.vm) : xQ D cI cR b Q args s (.returned (v.map (xcv b))) t :=
  ⟨v, h, hQ, rfl, by rw [ht]; exact C.2.1, xKk.moved hW.alike C.1, C.2.2.1.F ht⟩
theorem xs_ireturn (hd : decode (sgB g) pc = .ok (.ireturn, len)) (hc : xck g (pc, .ireturn, len, lk) = true) (hs : xstep lim g k Q pc L st h .ireturn len lk) : xAt lim g Q pc L st h := by
  obtain ⟨x, r, rfl, hs⟩ := xpi_el hs
  obtain ⟨rfl, hs⟩ := xnil_el hs
  have h2 := nb_eq hc
  subst h2
  intro p l e s m args below meth c D cI cR b N0 S0 H locs ls X C hl
  have c5 := C.2.2.2.2
  refine W.widen (k := lim.1 - N0) (n := lim.2 - S0) (by omega) (by omega) ?_
  replace hs : xrt g x (Q (some (.int x)) h) := hs
  unfold xrt at hs
  split at hs
  next hr => exact W.iret (v := x) X.1 X.2.1 (X.2.2.1.trans hr) (fun t ht hW => x_end C hs ht hW) C.2.2.1.2.2 hd X.2.2.2.1
  next hr =>
    refine W.zret (v := x) X.1 X.2.1 (X.2.2.1.trans hr) ?_ (fun t ht hW => x_end C hs.2 ht hW) C.2.2.1.2.2 hd X.2.2.2.1
    rcases hs.1 with h0 | h0 <;> subst h0 <;> decide
  · exact hs.elim
theorem xs_lreturn (hd : decode (sgB g) pc = .ok (.lreturn, len)) (hc : xck g (pc, .lreturn, len, lk) = true) (hs : xstep lim g k Q pc L st h .lreturn len lk) : xAt lim g Q pc L st h := by
  obtain ⟨x, r, rfl, hs⟩ := xpl_el hs
  obtain ⟨rfl, hs⟩ := xnil_el hs
  obtain ⟨hr, h2⟩ := and_el hc
  have hr : sgR g = some .long := of_decide_eq_true hr
  have h2 := nb_eq h2
  subst h2
  intro p l e s m args below meth c D cI cR b N0 S0 H locs ls X C hl
  have c5 := C.2.2.2.2
  refine W.widen (k := lim.1 - N0) (n := lim.2 - S0) (by omega) (by omega) ?_
  exact W.lret (v := x) X.1 X.2.1 (X.2.2.1.trans hr) (fun t ht hW => x_end C hs ht hW) C.2.2.1.2.2 hd X.2.2.2.1
theorem xs_return (hd : decode (sgB g) pc = .ok (.return_, len)) (hc : xck g (pc, .return_, len, lk) = true) (hs : xstep lim g k Q pc L st h .return_ len lk) : xAt lim g Q pc L st h := by
  obtain ⟨rfl, hs⟩ := xnil_el hs
  obtain ⟨hr, h2⟩ := and_el hc
  have hr : sgR g = none := of_decide_eq_true hr
  have h2 := nb_eq h2
  subst h2
  intro p l e s m args below meth c D cI cR b N0 S0 H locs ls X C hl
  have c5 := C.2.2.2.2
  refine W.widen (k := lim.1 - N0) (n := lim.2 - S0) (by omega) (by omega) ?_
  exact W.vret X.1 X.2.1 (X.2.2.1.trans hr) (fun t ht hW => x_end C hs ht hW) C.2.2.1.2.2 hd X.2.2.2.1

theorem xstep_sound (hk : ∀ pc L st h, k pc L st h → xAt lim g Q pc L st h) {i : Instr} (hd : decode (sgB g) pc = .ok (i, len)) (hc : xck g (pc, i, len, lk) = true) (hq : xlk g (pc, i, len, lk)) (hs : xstep lim g k Q pc L st h i len lk) : xAt lim g Q pc L st h := by
  cases i with
  | iconst n => exact xs_iconst hk hd hc hs
  | bipush n => exact xs_bipush hk hd hc hs
  | sipush n => exact xs_sipush hk hd hc hs
  | iload n => exact xs_iload hk hd hc hs
  | lload n => exact xs_lload hk hd hc hs
  | aload n => exact xs_aload hk hd hc hs
  | iload_n n => exact xs_iload_n hk hd hc hs
  | lload_n n => exact xs_lload_n hk hd hc hs
  | aload_n n => exact xs_aload_n hk hd hc hs
  | istore n => exact xs_istore hk hd hc hs
  | lstore n => exact xs_lstore hk hd hc hs
  | astore n => exact xs_astore hk hd hc hs
  | istore_n n => exact xs_istore_n hk hd hc hs
  | lstore_n n => exact xs_lstore_n hk hd hc hs
  | astore_n n => exact xs_astore_n hk hd hc hs
  | iinc n n2 => exact xs_iinc hk hd hc hs
  | iadd  => exact xs_iadd hk hd hc hs
  | isub  => exact xs_isub hk hd hc hs
  | imul  => exact xs_imul hk hd hc hs
  | iand  => exact xs_iand hk hd hc hs
  | ior  => exact xs_ior hk hd hc hs
  | ixor  => exact xs_ixor hk hd hc hs
  | ishl  => exact xs_ishl hk hd hc hs
  | ishr  => exact xs_ishr hk hd hc hs
  | iushr  => exact xs_iushr hk hd hc hs
  | idiv  => exact xs_idiv hk hd hc hs
  | irem  => exact xs_irem hk hd hc hs
  | ineg  => exact xs_ineg hk hd hc hs
  | ladd  => exact xs_ladd hk hd hc hs
  | lmul  => exact xs_lmul hk hd hc hs
  | i2l  => exact xs_i2l hk hd hc hs
  | dup  => exact xs_dup hk hd hc hs
  | dup2  => exact xs_dup2 hk hd hc hs
  | pop  => exact xs_pop hk hd hc hs
  | goto n => exact xs_goto hk hd hc hs
  | tableswitch n1 n2 n3 n4 => exact xs_tableswitch hk hd hc hs
  | iaload  => exact xs_iaload hk hd hc hs
  | iastore  => exact xs_iastore hk hd hc hs
  | aaload  => exact xs_aaload hk hd hc hs
  | aastore  => exact xs_aastore hk hd hc hs
  | arraylength  => exact xs_arraylength hk hd hc hs
  | ldc n => exact xs_ldc hk hd hc hq hs
  | ldc_w n => exact xs_ldc_w hk hd hc hq hs
  | ldc2_w n => exact xs_ldc2_w hk hd hc hq hs
  | getfield n => exact xs_getfield hk hd hc hq hs
  | putfield n => exact xs_putfield hk hd hc hq hs
  | newarray n => exact xs_newarray hk hd hc hq hs
  | anewarray n => exact xs_anewarray hk hd hc hq hs
  | new n => exact xs_new hk hd hc hq hs
  | invokestatic n => exact xs_invokestatic hk hd hc hq hs
  | invokevirtual n => exact xs_invokevirtual hk hd hc hq hs
  | invokespecial n => exact xs_invokespecial hk hd hc hq hs
  | ireturn => exact xs_ireturn hd hc hs
  | lreturn => exact xs_lreturn hd hc hs
  | return_ => exact xs_return hd hc hs
  | ifCond cn n =>
    cases cn with
    | eq => exact xs_ifCond_eq hk hd hc hs
    | ne => exact xs_ifCond_ne hk hd hc hs
    | lt => exact xs_ifCond_lt hk hd hc hs
    | ge => exact xs_ifCond_ge hk hd hc hs
    | gt => exact xs_ifCond_gt hk hd hc hs
    | le => exact xs_ifCond_le hk hd hc hs
  | if_icmp cn n =>
    cases cn with
    | eq => exact xs_if_icmp_eq hk hd hc hs
    | ne => exact xs_if_icmp_ne hk hd hc hs
    | lt => exact xs_if_icmp_lt hk hd hc hs
    | ge => exact xs_if_icmp_ge hk hd hc hs
    | gt => exact xs_if_icmp_gt hk hd hc hs
    | le => exact xs_if_icmp_le hk hd hc hs
  | _ => exact False.elim hs
end XS
/-! SOUNDNESS of the generator, and a method's contract out of it -/
theorem wp_sound {lim : Nat × Nat} {g : xSig} {cd : xCd} {cut : List (Nat × List Nat)} {K : xK} {Q : Option Value → xHp → Prop} (ok : xOK g cd) (hK : ∀ pc L st h, K pc L st h → xAt lim g Q pc L st h) : ∀ (n pc : Nat) (L : xLo) (st : List Value) (h : xHp), wp lim g cd cut K Q n pc L st h → xAt lim g Q pc L st h := by
  intro n
  induction n with
  | zero => intro pc L st h hs; exact hs.elim
  | succ n ih =>
    intro pc L st h hs
    replace hs : xgo (xfind cd pc) (xstep lim g (xnext cut K (wp lim g cd cut K Q n)) Q pc L st h) := hs
    obtain ⟨i, len, lk, hf, hs⟩ := xgo_el hs
    have hm := xfind_mem hf
    have h1 : decode (sgB g) pc = .ok (i, len) := ok.1 (pc, i, len, lk) hm
    have h2 : xck g (pc, i, len, lk) = true := List.all_eq_true.mp ok.2.1 (pc, i, len, lk) hm
    have h3 : xlk g (pc, i, len, lk) := ok.2.2 (pc, i, len, lk) hm
    generalize hkk : xnext cut K (wp lim g cd cut K Q n) = kx at hs
    have hkx : ∀ pc L st h, kx pc L st h → xAt lim g Q pc L st h := by
      intro pc' L' st' h' hk
      rw [← hkk] at hk
      rcases xnext_el hk with hk | ⟨ks, hk⟩
      · exact ih _ _ _ _ hk
      · exact xAt_sub (hK _ _ _ _ hk) xsel_mem
    exact xstep_sound hkx h1 h2 h3 hs
theorem lg_sl_cv (b : Nat) : ∀ vs : List Value, (lg_sl (vs.map (xcv b))).length = (lg_sl vs).length
  | [] => rfl
  | v :: vs => by
    have ih := lg_sl_cv b vs
    unfold lg_sl at ih ⊢
    simp only [List.map_cons, List.flatMap_cons, List.length_append, ih, xcv_cat]
    by_cases hc : v.category = 2 <;> simp [hc]
theorem lv_args_cv (b : Nat) : ∀ (vs : List Value) (i : Nat), lv_args i (vs.map (xcv b)) = xcL b (lv_args i vs)
  | [], _ => rfl
  | v :: vs, i => by
    have ih := lv_args_cv b vs
    simp only [List.map_cons, lv_args, xcL, xcv_cat] at ih ⊢
    rw [ih]
theorem SpecA.of {g : xSig} {args : List Value} {h h' : xHp} {v : Option Value} (hp : plainName (sgN g).cls = true) (hl : (lg_sl args).length ≤ sgL g) (h1 : h.1 ≤ h'.1) (h2 : h.2.1 ≤ h'.2.1) (hr : xrecv g args h)
    (hA : xAt (h'.1, h'.2.1) g (fun v2 h2 => v2 = v ∧ h2 = h') 0 (lv_args 0 args) [] h) : SpecA g args h v h' := by
  refine ⟨h1, h2, hr, fun l D cI cR b => Met.ofW (cc := sgB g) (maxL := sgL g) (ret := sgR g) hp rfl ?_⟩
  intro p e s m as below meth c s₁ B hml hv
  obtain ⟨rfl, hW, hK⟩ := hv
  have hts := atoms_spec (ws := xwd g) B.pre
  rw [lg_entry_eq]
  have hl2 := lv_entry (args.map (xcv b)) (n := sgL g) (by rw [lg_sl_cv]; exact hl)
  rw [lv_args_cv] at hl2
  have hsz : s.heap.size = b + h.1 := hW.1
  have key := hA p l e s m _ below meth c D cI cR b h.1 h.2.1 s.heap [] _ ⟨B.exec, B.bytes, B.returns, B.notSynchronized, hml, findClass_of_methodNamed B.named, (name_of_methodNamed B.named B.method).1, hts⟩ ⟨hK, hW, va_S.rf, hsz.symm, Nat.le_refl _, h1, Nat.le_refl _, h2⟩ hl2
  rw [Nat.sub_self, Nat.sub_self] at key
  intro T hT X
  obtain ⟨t, a1, o, q1, q2, ⟨v2, h3, ⟨rfl, rfl⟩, q3⟩, q4⟩ := key T hT X
  exact ⟨t, a1, o, q1, q2, q3, q4⟩
theorem Spec.of {g : xSig} {args : List Value} {h h' : xHp} {v : Option Value} (hp : plainName (sgN g).cls = true) (hl : (lg_sl args).length ≤ sgL g) (h1 : h'.1 = h.1) (h2 : h'.2.1 = h.2.1) (hr : xrecv g args h)
    (hA : xAt (h.1, h.2.1) g (fun v2 h2 => v2 = v ∧ h2 = h') 0 (lv_args 0 args) [] h) : Spec g args h v h' :=
  ⟨SpecA.of hp hl (Nat.le_of_eq h1.symm) (Nat.le_of_eq h2.symm) hr (by rw [h1, h2]; exact hA), h1, h2⟩
end
