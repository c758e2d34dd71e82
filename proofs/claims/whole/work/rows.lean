section
-- ===== PART A: goes FIRST, ahead of the names: the tables' words, and 'selects' of the private methods out of them =====
/-- a private method of a class that the tables say can be made, by its rows of tables_1 -/
def lw_okq (q : MethodName × Nat) : Prop := (q.1.cls ≠ "java/lang/invoke/MethodHandle" ∧ q.1.cls ≠ "java/lang/invoke/VarHandle") ∧ Cond.instantiable q.1.cls q.2 ∈ tables_1 ∧ Cond.privateMethod q.1 ∈ tables_1 ∧ Cond.instanceMethod q.1 ∈ tables_1
theorem lw_p0 : lw_okq (⟨"TurningVerse", "isLine", "(I)Z"⟩, 8) := ⟨⟨by decide +kernel, by decide +kernel⟩, List.mem_of_getElem? (i := 19) (by decide +kernel), List.mem_of_getElem? (i := 270) (by decide +kernel), List.mem_of_getElem? (i := 271) (by decide +kernel)⟩
theorem lw_p1 : lw_okq (⟨"TurningVerse$PoemReader", "readFirstStanza", "(LTurningVerse$Text;)I"⟩, 3) := ⟨⟨by decide +kernel, by decide +kernel⟩, List.mem_of_getElem? (i := 141) (by decide +kernel), List.mem_of_getElem? (i := 299) (by decide +kernel), List.mem_of_getElem? (i := 300) (by decide +kernel)⟩
theorem lw_p2 : lw_okq (⟨"TurningVerse$PoemReader", "wordBelow", "(LTurningVerse$Text;I)I"⟩, 3) := ⟨⟨by decide +kernel, by decide +kernel⟩, List.mem_of_getElem? (i := 141) (by decide +kernel), List.mem_of_getElem? (i := 303) (by decide +kernel), List.mem_of_getElem? (i := 304) (by decide +kernel)⟩
theorem lw_p3 : lw_okq (⟨"TurningVerse$PoemReader", "isStanzaOver", "(LTurningVerse$Text;)Z"⟩, 3) := ⟨⟨by decide +kernel, by decide +kernel⟩, List.mem_of_getElem? (i := 141) (by decide +kernel), List.mem_of_getElem? (i := 312) (by decide +kernel), List.mem_of_getElem? (i := 313) (by decide +kernel)⟩
theorem lw_p4 : lw_okq (⟨"TurningVerse$PoemReader", "readStanza", "(LTurningVerse$Text;)I"⟩, 3) := ⟨⟨by decide +kernel, by decide +kernel⟩, List.mem_of_getElem? (i := 141) (by decide +kernel), List.mem_of_getElem? (i := 321) (by decide +kernel), List.mem_of_getElem? (i := 322) (by decide +kernel)⟩
theorem lw_p5 : lw_okq (⟨"TurningVerse$PoemReader", "readTail", "(LTurningVerse$Text;)I"⟩, 3) := ⟨⟨by decide +kernel, by decide +kernel⟩, List.mem_of_getElem? (i := 141) (by decide +kernel), List.mem_of_getElem? (i := 325) (by decide +kernel), List.mem_of_getElem? (i := 326) (by decide +kernel)⟩
theorem lw_p6 : lw_okq (⟨"TurningVerse$PoemReader", "readTailLine", "(LTurningVerse$Text;)I"⟩, 3) := ⟨⟨by decide +kernel, by decide +kernel⟩, List.mem_of_getElem? (i := 141) (by decide +kernel), List.mem_of_getElem? (i := 329) (by decide +kernel), List.mem_of_getElem? (i := 330) (by decide +kernel)⟩
theorem lw_p7 : lw_okq (⟨"TurningVerse", "store", "(II)I"⟩, 8) := ⟨⟨by decide +kernel, by decide +kernel⟩, List.mem_of_getElem? (i := 19) (by decide +kernel), List.mem_of_getElem? (i := 352) (by decide +kernel), List.mem_of_getElem? (i := 353) (by decide +kernel)⟩
theorem lw_p8 : lw_okq (⟨"TurningVerse$Search", "note", "(II)V"⟩, 6) := ⟨⟨by decide +kernel, by decide +kernel⟩, List.mem_of_getElem? (i := 172) (by decide +kernel), List.mem_of_getElem? (i := 477) (by decide +kernel), List.mem_of_getElem? (i := 478) (by decide +kernel)⟩
theorem lw_p9 : lw_okq (⟨"TurningVerse$Search", "isFactor", "(I)Z"⟩, 6) := ⟨⟨by decide +kernel, by decide +kernel⟩, List.mem_of_getElem? (i := 172) (by decide +kernel), List.mem_of_getElem? (i := 486) (by decide +kernel), List.mem_of_getElem? (i := 487) (by decide +kernel)⟩
theorem lw_p10 : lw_okq (⟨"TurningVerse$Search", "firstFactor", "(I)I"⟩, 6) := ⟨⟨by decide +kernel, by decide +kernel⟩, List.mem_of_getElem? (i := 172) (by decide +kernel), List.mem_of_getElem? (i := 504) (by decide +kernel), List.mem_of_getElem? (i := 505) (by decide +kernel)⟩
theorem lw_p11 : lw_okq (⟨"TurningVerse$Search", "without", "(II)I"⟩, 6) := ⟨⟨by decide +kernel, by decide +kernel⟩, List.mem_of_getElem? (i := 172) (by decide +kernel), List.mem_of_getElem? (i := 508) (by decide +kernel), List.mem_of_getElem? (i := 509) (by decide +kernel)⟩
theorem lw_p12 : lw_okq (⟨"TurningVerse", "isStanza", "(I)Z"⟩, 8) := ⟨⟨by decide +kernel, by decide +kernel⟩, List.mem_of_getElem? (i := 19) (by decide +kernel), List.mem_of_getElem? (i := 527) (by decide +kernel), List.mem_of_getElem? (i := 528) (by decide +kernel)⟩
theorem lw_p13 : lw_okq (⟨"TurningVerse$Fit", "compare", "(LTurningVerse$Poem;II)V"⟩, 4) := ⟨⟨by decide +kernel, by decide +kernel⟩, List.mem_of_getElem? (i := 198) (by decide +kernel), List.mem_of_getElem? (i := 584) (by decide +kernel), List.mem_of_getElem? (i := 585) (by decide +kernel)⟩
theorem lw_p14 : lw_okq (⟨"TurningVerse$Fit", "mostKept", "()I"⟩, 4) := ⟨⟨by decide +kernel, by decide +kernel⟩, List.mem_of_getElem? (i := 198) (by decide +kernel), List.mem_of_getElem? (i := 592) (by decide +kernel), List.mem_of_getElem? (i := 593) (by decide +kernel)⟩
theorem lw_p15 : lw_okq (⟨"TurningVerse$Fit", "keptWith", "(III)I"⟩, 4) := ⟨⟨by decide +kernel, by decide +kernel⟩, List.mem_of_getElem? (i := 198) (by decide +kernel), List.mem_of_getElem? (i := 597) (by decide +kernel), List.mem_of_getElem? (i := 598) (by decide +kernel)⟩
def lw_privs_1 : List (MethodName × Nat) := [(⟨"TurningVerse", "isLine", "(I)Z"⟩, 8), (⟨"TurningVerse$PoemReader", "readFirstStanza", "(LTurningVerse$Text;)I"⟩, 3), (⟨"TurningVerse$PoemReader", "wordBelow", "(LTurningVerse$Text;I)I"⟩, 3), (⟨"TurningVerse$PoemReader", "isStanzaOver", "(LTurningVerse$Text;)Z"⟩, 3), (⟨"TurningVerse$PoemReader", "readStanza", "(LTurningVerse$Text;)I"⟩, 3), (⟨"TurningVerse$PoemReader", "readTail", "(LTurningVerse$Text;)I"⟩, 3), (⟨"TurningVerse$PoemReader", "readTailLine", "(LTurningVerse$Text;)I"⟩, 3), (⟨"TurningVerse", "store", "(II)I"⟩, 8), (⟨"TurningVerse$Search", "note", "(II)V"⟩, 6), (⟨"TurningVerse$Search", "isFactor", "(I)Z"⟩, 6), (⟨"TurningVerse$Search", "firstFactor", "(I)I"⟩, 6), (⟨"TurningVerse$Search", "without", "(II)I"⟩, 6), (⟨"TurningVerse", "isStanza", "(I)Z"⟩, 8), (⟨"TurningVerse$Fit", "compare", "(LTurningVerse$Poem;II)V"⟩, 4), (⟨"TurningVerse$Fit", "mostKept", "()I"⟩, 4), (⟨"TurningVerse$Fit", "keptWith", "(III)I"⟩, 4)]
theorem lw_r1 : ∀ q ∈ lw_privs_1, lw_okq q := List.forall_mem_cons.mpr ⟨lw_p0, List.forall_mem_cons.mpr ⟨lw_p1, List.forall_mem_cons.mpr ⟨lw_p2, List.forall_mem_cons.mpr ⟨lw_p3, List.forall_mem_cons.mpr ⟨lw_p4, List.forall_mem_cons.mpr ⟨lw_p5, List.forall_mem_cons.mpr ⟨lw_p6, List.forall_mem_cons.mpr ⟨lw_p7, List.forall_mem_cons.mpr ⟨lw_p8, List.forall_mem_cons.mpr ⟨lw_p9, List.forall_mem_cons.mpr ⟨lw_p10, List.forall_mem_cons.mpr ⟨lw_p11, List.forall_mem_cons.mpr ⟨lw_p12, List.forall_mem_cons.mpr ⟨lw_p13, List.forall_mem_cons.mpr ⟨lw_p14, List.forall_mem_cons.mpr ⟨lw_p15, fun _ h => absurd h List.not_mem_nil⟩⟩⟩⟩⟩⟩⟩⟩⟩⟩⟩⟩⟩⟩⟩⟩
theorem lw_p16 : lw_okq (⟨"TurningVerse$Fit", "firstWord", "(II)I"⟩, 4) := ⟨⟨by decide +kernel, by decide +kernel⟩, List.mem_of_getElem? (i := 198) (by decide +kernel), List.mem_of_getElem? (i := 610) (by decide +kernel), List.mem_of_getElem? (i := 611) (by decide +kernel)⟩
theorem lw_p17 : lw_okq (⟨"TurningVerse$Fit", "atMostKept", "()I"⟩, 4) := ⟨⟨by decide +kernel, by decide +kernel⟩, List.mem_of_getElem? (i := 198) (by decide +kernel), List.mem_of_getElem? (i := 629) (by decide +kernel), List.mem_of_getElem? (i := 630) (by decide +kernel)⟩
theorem lw_p18 : lw_okq (⟨"TurningVerse$Fit", "mostOfLine", "(I)I"⟩, 4) := ⟨⟨by decide +kernel, by decide +kernel⟩, List.mem_of_getElem? (i := 198) (by decide +kernel), List.mem_of_getElem? (i := 633) (by decide +kernel), List.mem_of_getElem? (i := 634) (by decide +kernel)⟩
theorem lw_p19 : lw_okq (⟨"TurningVerse$Fit", "mostOfWord", "(I)I"⟩, 4) := ⟨⟨by decide +kernel, by decide +kernel⟩, List.mem_of_getElem? (i := 198) (by decide +kernel), List.mem_of_getElem? (i := 637) (by decide +kernel), List.mem_of_getElem? (i := 638) (by decide +kernel)⟩
theorem lw_p20 : lw_okq (⟨"TurningVerse", "soundsOf", "(I)I"⟩, 8) := ⟨⟨by decide +kernel, by decide +kernel⟩, List.mem_of_getElem? (i := 19) (by decide +kernel), List.mem_of_getElem? (i := 664) (by decide +kernel), List.mem_of_getElem? (i := 665) (by decide +kernel)⟩
theorem lw_p21 : lw_okq (⟨"TurningVerse", "withStanza", "(JI)J"⟩, 8) := ⟨⟨by decide +kernel, by decide +kernel⟩, List.mem_of_getElem? (i := 19) (by decide +kernel), List.mem_of_getElem? (i := 729) (by decide +kernel), List.mem_of_getElem? (i := 730) (by decide +kernel)⟩
theorem lw_p22 : lw_okq (⟨"TurningVerse", "withTail", "(J)J"⟩, 8) := ⟨⟨by decide +kernel, by decide +kernel⟩, List.mem_of_getElem? (i := 19) (by decide +kernel), List.mem_of_getElem? (i := 737) (by decide +kernel), List.mem_of_getElem? (i := 738) (by decide +kernel)⟩
theorem lw_p23 : lw_okq (⟨"TurningVerseModel", "resets", "(I)V"⟩, 18) := ⟨⟨by decide +kernel, by decide +kernel⟩, List.mem_of_getElem? (i := 743) (by decide +kernel), List.mem_of_getElem? (i := 749) (by decide +kernel), List.mem_of_getElem? (i := 750) (by decide +kernel)⟩
theorem lw_p24 : lw_okq (⟨"TurningVerseModel", "records", "()V"⟩, 18) := ⟨⟨by decide +kernel, by decide +kernel⟩, List.mem_of_getElem? (i := 743) (by decide +kernel), List.mem_of_getElem? (i := 815) (by decide +kernel), List.mem_of_getElem? (i := 816) (by decide +kernel)⟩
theorem lw_p25 : lw_okq (⟨"TurningVerseModel", "size", "()I"⟩, 18) := ⟨⟨by decide +kernel, by decide +kernel⟩, List.mem_of_getElem? (i := 743) (by decide +kernel), List.mem_of_getElem? (i := 819) (by decide +kernel), List.mem_of_getElem? (i := 820) (by decide +kernel)⟩
theorem lw_p26 : lw_okq (⟨"TurningVerseModel", "empties", "()V"⟩, 18) := ⟨⟨by decide +kernel, by decide +kernel⟩, List.mem_of_getElem? (i := 743) (by decide +kernel), List.mem_of_getElem? (i := 823) (by decide +kernel), List.mem_of_getElem? (i := 824) (by decide +kernel)⟩
theorem lw_p27 : lw_okq (⟨"TurningVerseModel", "isLine", "(I)Z"⟩, 18) := ⟨⟨by decide +kernel, by decide +kernel⟩, List.mem_of_getElem? (i := 743) (by decide +kernel), List.mem_of_getElem? (i := 831) (by decide +kernel), List.mem_of_getElem? (i := 832) (by decide +kernel)⟩
theorem lw_p28 : lw_okq (⟨"TurningVerseModel", "identity", "([I)V"⟩, 18) := ⟨⟨by decide +kernel, by decide +kernel⟩, List.mem_of_getElem? (i := 743) (by decide +kernel), List.mem_of_getElem? (i := 842) (by decide +kernel), List.mem_of_getElem? (i := 843) (by decide +kernel)⟩
theorem lw_p29 : lw_okq (⟨"TurningVerseModel", "puts", "([II)V"⟩, 18) := ⟨⟨by decide +kernel, by decide +kernel⟩, List.mem_of_getElem? (i := 743) (by decide +kernel), List.mem_of_getElem? (i := 846) (by decide +kernel), List.mem_of_getElem? (i := 847) (by decide +kernel)⟩
theorem lw_p30 : lw_okq (⟨"TurningVerseModel", "rank", "([I)I"⟩, 18) := ⟨⟨by decide +kernel, by decide +kernel⟩, List.mem_of_getElem? (i := 743) (by decide +kernel), List.mem_of_getElem? (i := 850) (by decide +kernel), List.mem_of_getElem? (i := 851) (by decide +kernel)⟩
theorem lw_p31 : lw_okq (⟨"TurningVerseModel", "takes", "(I[I)V"⟩, 18) := ⟨⟨by decide +kernel, by decide +kernel⟩, List.mem_of_getElem? (i := 743) (by decide +kernel), List.mem_of_getElem? (i := 858) (by decide +kernel), List.mem_of_getElem? (i := 859) (by decide +kernel)⟩
def lw_privs_2 : List (MethodName × Nat) := [(⟨"TurningVerse$Fit", "firstWord", "(II)I"⟩, 4), (⟨"TurningVerse$Fit", "atMostKept", "()I"⟩, 4), (⟨"TurningVerse$Fit", "mostOfLine", "(I)I"⟩, 4), (⟨"TurningVerse$Fit", "mostOfWord", "(I)I"⟩, 4), (⟨"TurningVerse", "soundsOf", "(I)I"⟩, 8), (⟨"TurningVerse", "withStanza", "(JI)J"⟩, 8), (⟨"TurningVerse", "withTail", "(J)J"⟩, 8), (⟨"TurningVerseModel", "resets", "(I)V"⟩, 18), (⟨"TurningVerseModel", "records", "()V"⟩, 18), (⟨"TurningVerseModel", "size", "()I"⟩, 18), (⟨"TurningVerseModel", "empties", "()V"⟩, 18), (⟨"TurningVerseModel", "isLine", "(I)Z"⟩, 18), (⟨"TurningVerseModel", "identity", "([I)V"⟩, 18), (⟨"TurningVerseModel", "puts", "([II)V"⟩, 18), (⟨"TurningVerseModel", "rank", "([I)I"⟩, 18), (⟨"TurningVerseModel", "takes", "(I[I)V"⟩, 18)]
theorem lw_r2 : ∀ q ∈ lw_privs_2, lw_okq q := List.forall_mem_cons.mpr ⟨lw_p16, List.forall_mem_cons.mpr ⟨lw_p17, List.forall_mem_cons.mpr ⟨lw_p18, List.forall_mem_cons.mpr ⟨lw_p19, List.forall_mem_cons.mpr ⟨lw_p20, List.forall_mem_cons.mpr ⟨lw_p21, List.forall_mem_cons.mpr ⟨lw_p22, List.forall_mem_cons.mpr ⟨lw_p23, List.forall_mem_cons.mpr ⟨lw_p24, List.forall_mem_cons.mpr ⟨lw_p25, List.forall_mem_cons.mpr ⟨lw_p26, List.forall_mem_cons.mpr ⟨lw_p27, List.forall_mem_cons.mpr ⟨lw_p28, List.forall_mem_cons.mpr ⟨lw_p29, List.forall_mem_cons.mpr ⟨lw_p30, List.forall_mem_cons.mpr ⟨lw_p31, fun _ h => absurd h List.not_mem_nil⟩⟩⟩⟩⟩⟩⟩⟩⟩⟩⟩⟩⟩⟩⟩⟩
theorem lw_p32 : lw_okq (⟨"TurningVerseModel", "multiplies", "([I[I[I)V"⟩, 18) := ⟨⟨by decide +kernel, by decide +kernel⟩, List.mem_of_getElem? (i := 743) (by decide +kernel), List.mem_of_getElem? (i := 862) (by decide +kernel), List.mem_of_getElem? (i := 863) (by decide +kernel)⟩
theorem lw_p33 : lw_okq (⟨"TurningVerseModel", "orderOf", "([I)I"⟩, 18) := ⟨⟨by decide +kernel, by decide +kernel⟩, List.mem_of_getElem? (i := 743) (by decide +kernel), List.mem_of_getElem? (i := 872) (by decide +kernel), List.mem_of_getElem? (i := 873) (by decide +kernel)⟩
theorem lw_p34 : lw_okq (⟨"TurningVerseModel", "cycleOf", "([II)I"⟩, 18) := ⟨⟨by decide +kernel, by decide +kernel⟩, List.mem_of_getElem? (i := 743) (by decide +kernel), List.mem_of_getElem? (i := 876) (by decide +kernel), List.mem_of_getElem? (i := 877) (by decide +kernel)⟩
theorem lw_p35 : lw_okq (⟨"TurningVerseModel", "raises", "([II[I)V"⟩, 18) := ⟨⟨by decide +kernel, by decide +kernel⟩, List.mem_of_getElem? (i := 743) (by decide +kernel), List.mem_of_getElem? (i := 880) (by decide +kernel), List.mem_of_getElem? (i := 881) (by decide +kernel)⟩
theorem lw_p36 : lw_okq (⟨"TurningVerseModel", "factorial", "()I"⟩, 18) := ⟨⟨by decide +kernel, by decide +kernel⟩, List.mem_of_getElem? (i := 743) (by decide +kernel), List.mem_of_getElem? (i := 888) (by decide +kernel), List.mem_of_getElem? (i := 889) (by decide +kernel)⟩
theorem lw_p37 : lw_okq (⟨"TurningVerseModel", "unranks", "(I[I)V"⟩, 18) := ⟨⟨by decide +kernel, by decide +kernel⟩, List.mem_of_getElem? (i := 743) (by decide +kernel), List.mem_of_getElem? (i := 892) (by decide +kernel), List.mem_of_getElem? (i := 893) (by decide +kernel)⟩
theorem lw_p38 : lw_okq (⟨"TurningVerseModel", "isSame", "([I[I)Z"⟩, 18) := ⟨⟨by decide +kernel, by decide +kernel⟩, List.mem_of_getElem? (i := 743) (by decide +kernel), List.mem_of_getElem? (i := 900) (by decide +kernel), List.mem_of_getElem? (i := 901) (by decide +kernel)⟩
theorem lw_p39 : lw_okq (⟨"TurningVerseModel", "turnOf", "(II)I"⟩, 18) := ⟨⟨by decide +kernel, by decide +kernel⟩, List.mem_of_getElem? (i := 743) (by decide +kernel), List.mem_of_getElem? (i := 912) (by decide +kernel), List.mem_of_getElem? (i := 913) (by decide +kernel)⟩
theorem lw_p40 : lw_okq (⟨"TurningVerseModel", "isFirst", "([II)Z"⟩, 18) := ⟨⟨by decide +kernel, by decide +kernel⟩, List.mem_of_getElem? (i := 743) (by decide +kernel), List.mem_of_getElem? (i := 916) (by decide +kernel), List.mem_of_getElem? (i := 917) (by decide +kernel)⟩
theorem lw_p41 : lw_okq (⟨"TurningVerseModel", "walks", "(I)V"⟩, 18) := ⟨⟨by decide +kernel, by decide +kernel⟩, List.mem_of_getElem? (i := 743) (by decide +kernel), List.mem_of_getElem? (i := 931) (by decide +kernel), List.mem_of_getElem? (i := 932) (by decide +kernel)⟩
theorem lw_p42 : lw_okq (⟨"TurningVerseModel", "rests", "(I)V"⟩, 18) := ⟨⟨by decide +kernel, by decide +kernel⟩, List.mem_of_getElem? (i := 743) (by decide +kernel), List.mem_of_getElem? (i := 943) (by decide +kernel), List.mem_of_getElem? (i := 944) (by decide +kernel)⟩
theorem lw_p43 : lw_okq (⟨"TurningVerseModel", "reads", "()Z"⟩, 18) := ⟨⟨by decide +kernel, by decide +kernel⟩, List.mem_of_getElem? (i := 743) (by decide +kernel), List.mem_of_getElem? (i := 959) (by decide +kernel), List.mem_of_getElem? (i := 960) (by decide +kernel)⟩
theorem lw_p44 : lw_okq (⟨"TurningVerseModel", "readsFirst", "()Z"⟩, 18) := ⟨⟨by decide +kernel, by decide +kernel⟩, List.mem_of_getElem? (i := 743) (by decide +kernel), List.mem_of_getElem? (i := 963) (by decide +kernel), List.mem_of_getElem? (i := 964) (by decide +kernel)⟩
theorem lw_p45 : lw_okq (⟨"TurningVerseModel", "isLetter", "(II)Z"⟩, 18) := ⟨⟨by decide +kernel, by decide +kernel⟩, List.mem_of_getElem? (i := 743) (by decide +kernel), List.mem_of_getElem? (i := 967) (by decide +kernel), List.mem_of_getElem? (i := 968) (by decide +kernel)⟩
theorem lw_p46 : lw_okq (⟨"TurningVerseModel", "byteAt", "(I)I"⟩, 18) := ⟨⟨by decide +kernel, by decide +kernel⟩, List.mem_of_getElem? (i := 743) (by decide +kernel), List.mem_of_getElem? (i := 971) (by decide +kernel), List.mem_of_getElem? (i := 972) (by decide +kernel)⟩
theorem lw_p47 : lw_okq (⟨"TurningVerseModel", "readsStanza", "()Z"⟩, 18) := ⟨⟨by decide +kernel, by decide +kernel⟩, List.mem_of_getElem? (i := 743) (by decide +kernel), List.mem_of_getElem? (i := 975) (by decide +kernel), List.mem_of_getElem? (i := 976) (by decide +kernel)⟩
def lw_privs_3 : List (MethodName × Nat) := [(⟨"TurningVerseModel", "multiplies", "([I[I[I)V"⟩, 18), (⟨"TurningVerseModel", "orderOf", "([I)I"⟩, 18), (⟨"TurningVerseModel", "cycleOf", "([II)I"⟩, 18), (⟨"TurningVerseModel", "raises", "([II[I)V"⟩, 18), (⟨"TurningVerseModel", "factorial", "()I"⟩, 18), (⟨"TurningVerseModel", "unranks", "(I[I)V"⟩, 18), (⟨"TurningVerseModel", "isSame", "([I[I)Z"⟩, 18), (⟨"TurningVerseModel", "turnOf", "(II)I"⟩, 18), (⟨"TurningVerseModel", "isFirst", "([II)Z"⟩, 18), (⟨"TurningVerseModel", "walks", "(I)V"⟩, 18), (⟨"TurningVerseModel", "rests", "(I)V"⟩, 18), (⟨"TurningVerseModel", "reads", "()Z"⟩, 18), (⟨"TurningVerseModel", "readsFirst", "()Z"⟩, 18), (⟨"TurningVerseModel", "isLetter", "(II)Z"⟩, 18), (⟨"TurningVerseModel", "byteAt", "(I)I"⟩, 18), (⟨"TurningVerseModel", "readsStanza", "()Z"⟩, 18)]
theorem lw_r3 : ∀ q ∈ lw_privs_3, lw_okq q := List.forall_mem_cons.mpr ⟨lw_p32, List.forall_mem_cons.mpr ⟨lw_p33, List.forall_mem_cons.mpr ⟨lw_p34, List.forall_mem_cons.mpr ⟨lw_p35, List.forall_mem_cons.mpr ⟨lw_p36, List.forall_mem_cons.mpr ⟨lw_p37, List.forall_mem_cons.mpr ⟨lw_p38, List.forall_mem_cons.mpr ⟨lw_p39, List.forall_mem_cons.mpr ⟨lw_p40, List.forall_mem_cons.mpr ⟨lw_p41, List.forall_mem_cons.mpr ⟨lw_p42, List.forall_mem_cons.mpr ⟨lw_p43, List.forall_mem_cons.mpr ⟨lw_p44, List.forall_mem_cons.mpr ⟨lw_p45, List.forall_mem_cons.mpr ⟨lw_p46, List.forall_mem_cons.mpr ⟨lw_p47, fun _ h => absurd h List.not_mem_nil⟩⟩⟩⟩⟩⟩⟩⟩⟩⟩⟩⟩⟩⟩⟩⟩
theorem lw_p48 : lw_okq (⟨"TurningVerseModel", "readsTail", "()Z"⟩, 18) := ⟨⟨by decide +kernel, by decide +kernel⟩, List.mem_of_getElem? (i := 743) (by decide +kernel), List.mem_of_getElem? (i := 979) (by decide +kernel), List.mem_of_getElem? (i := 980) (by decide +kernel)⟩
theorem lw_p49 : lw_okq (⟨"TurningVerseModel", "readsTurn", "()Z"⟩, 18) := ⟨⟨by decide +kernel, by decide +kernel⟩, List.mem_of_getElem? (i := 743) (by decide +kernel), List.mem_of_getElem? (i := 987) (by decide +kernel), List.mem_of_getElem? (i := 988) (by decide +kernel)⟩
theorem lw_p50 : lw_okq (⟨"TurningVerseModel", "placeOf", "(II)I"⟩, 18) := ⟨⟨by decide +kernel, by decide +kernel⟩, List.mem_of_getElem? (i := 743) (by decide +kernel), List.mem_of_getElem? (i := 995) (by decide +kernel), List.mem_of_getElem? (i := 996) (by decide +kernel)⟩
theorem lw_p51 : lw_okq (⟨"TurningVerseModel", "isStanza", "(I)Z"⟩, 18) := ⟨⟨by decide +kernel, by decide +kernel⟩, List.mem_of_getElem? (i := 743) (by decide +kernel), List.mem_of_getElem? (i := 1007) (by decide +kernel), List.mem_of_getElem? (i := 1008) (by decide +kernel)⟩
theorem lw_p52 : lw_okq (⟨"TurningVerseModel", "isProper", "(I)Z"⟩, 18) := ⟨⟨by decide +kernel, by decide +kernel⟩, List.mem_of_getElem? (i := 743) (by decide +kernel), List.mem_of_getElem? (i := 1023) (by decide +kernel), List.mem_of_getElem? (i := 1024) (by decide +kernel)⟩
theorem lw_p53 : lw_okq (⟨"TurningVerseModel", "turningOf", "(I)I"⟩, 18) := ⟨⟨by decide +kernel, by decide +kernel⟩, List.mem_of_getElem? (i := 743) (by decide +kernel), List.mem_of_getElem? (i := 1031) (by decide +kernel), List.mem_of_getElem? (i := 1032) (by decide +kernel)⟩
theorem lw_p54 : lw_okq (⟨"TurningVerseModel", "turns", "(I)V"⟩, 18) := ⟨⟨by decide +kernel, by decide +kernel⟩, List.mem_of_getElem? (i := 743) (by decide +kernel), List.mem_of_getElem? (i := 1035) (by decide +kernel), List.mem_of_getElem? (i := 1036) (by decide +kernel)⟩
theorem lw_p55 : lw_okq (⟨"TurningVerseModel", "followed", "()I"⟩, 18) := ⟨⟨by decide +kernel, by decide +kernel⟩, List.mem_of_getElem? (i := 743) (by decide +kernel), List.mem_of_getElem? (i := 1043) (by decide +kernel), List.mem_of_getElem? (i := 1044) (by decide +kernel)⟩
theorem lw_p56 : lw_okq (⟨"TurningVerseModel", "isFollowed", "(I)Z"⟩, 18) := ⟨⟨by decide +kernel, by decide +kernel⟩, List.mem_of_getElem? (i := 743) (by decide +kernel), List.mem_of_getElem? (i := 1051) (by decide +kernel), List.mem_of_getElem? (i := 1052) (by decide +kernel)⟩
theorem lw_p57 : lw_okq (⟨"TurningVerseModel", "wrong", "(I)I"⟩, 18) := ⟨⟨by decide +kernel, by decide +kernel⟩, List.mem_of_getElem? (i := 743) (by decide +kernel), List.mem_of_getElem? (i := 1059) (by decide +kernel), List.mem_of_getElem? (i := 1060) (by decide +kernel)⟩
theorem lw_p58 : lw_okq (⟨"TurningVerseModel", "costOf", "([I)I"⟩, 18) := ⟨⟨by decide +kernel, by decide +kernel⟩, List.mem_of_getElem? (i := 743) (by decide +kernel), List.mem_of_getElem? (i := 1063) (by decide +kernel), List.mem_of_getElem? (i := 1064) (by decide +kernel)⟩
theorem lw_p59 : lw_okq (⟨"TurningVerseModel", "missing", "()I"⟩, 18) := ⟨⟨by decide +kernel, by decide +kernel⟩, List.mem_of_getElem? (i := 743) (by decide +kernel), List.mem_of_getElem? (i := 1079) (by decide +kernel), List.mem_of_getElem? (i := 1080) (by decide +kernel)⟩
theorem lw_p60 : lw_okq (⟨"TurningVerseModel", "tailWords", "()I"⟩, 18) := ⟨⟨by decide +kernel, by decide +kernel⟩, List.mem_of_getElem? (i := 743) (by decide +kernel), List.mem_of_getElem? (i := 1083) (by decide +kernel), List.mem_of_getElem? (i := 1084) (by decide +kernel)⟩
theorem lw_p61 : lw_okq (⟨"TurningVerseModel", "takesVerse", "(I)V"⟩, 18) := ⟨⟨by decide +kernel, by decide +kernel⟩, List.mem_of_getElem? (i := 743) (by decide +kernel), List.mem_of_getElem? (i := 1095) (by decide +kernel), List.mem_of_getElem? (i := 1096) (by decide +kernel)⟩
theorem lw_p62 : lw_okq (⟨"TurningVerseModel", "schemeOfVerse", "()I"⟩, 18) := ⟨⟨by decide +kernel, by decide +kernel⟩, List.mem_of_getElem? (i := 743) (by decide +kernel), List.mem_of_getElem? (i := 1099) (by decide +kernel), List.mem_of_getElem? (i := 1100) (by decide +kernel)⟩
theorem lw_p63 : lw_okq (⟨"TurningVerseModel", "soundAt", "(I)I"⟩, 18) := ⟨⟨by decide +kernel, by decide +kernel⟩, List.mem_of_getElem? (i := 743) (by decide +kernel), List.mem_of_getElem? (i := 1103) (by decide +kernel), List.mem_of_getElem? (i := 1104) (by decide +kernel)⟩
def lw_privs_4 : List (MethodName × Nat) := [(⟨"TurningVerseModel", "readsTail", "()Z"⟩, 18), (⟨"TurningVerseModel", "readsTurn", "()Z"⟩, 18), (⟨"TurningVerseModel", "placeOf", "(II)I"⟩, 18), (⟨"TurningVerseModel", "isStanza", "(I)Z"⟩, 18), (⟨"TurningVerseModel", "isProper", "(I)Z"⟩, 18), (⟨"TurningVerseModel", "turningOf", "(I)I"⟩, 18), (⟨"TurningVerseModel", "turns", "(I)V"⟩, 18), (⟨"TurningVerseModel", "followed", "()I"⟩, 18), (⟨"TurningVerseModel", "isFollowed", "(I)Z"⟩, 18), (⟨"TurningVerseModel", "wrong", "(I)I"⟩, 18), (⟨"TurningVerseModel", "costOf", "([I)I"⟩, 18), (⟨"TurningVerseModel", "missing", "()I"⟩, 18), (⟨"TurningVerseModel", "tailWords", "()I"⟩, 18), (⟨"TurningVerseModel", "takesVerse", "(I)V"⟩, 18), (⟨"TurningVerseModel", "schemeOfVerse", "()I"⟩, 18), (⟨"TurningVerseModel", "soundAt", "(I)I"⟩, 18)]
theorem lw_r4 : ∀ q ∈ lw_privs_4, lw_okq q := List.forall_mem_cons.mpr ⟨lw_p48, List.forall_mem_cons.mpr ⟨lw_p49, List.forall_mem_cons.mpr ⟨lw_p50, List.forall_mem_cons.mpr ⟨lw_p51, List.forall_mem_cons.mpr ⟨lw_p52, List.forall_mem_cons.mpr ⟨lw_p53, List.forall_mem_cons.mpr ⟨lw_p54, List.forall_mem_cons.mpr ⟨lw_p55, List.forall_mem_cons.mpr ⟨lw_p56, List.forall_mem_cons.mpr ⟨lw_p57, List.forall_mem_cons.mpr ⟨lw_p58, List.forall_mem_cons.mpr ⟨lw_p59, List.forall_mem_cons.mpr ⟨lw_p60, List.forall_mem_cons.mpr ⟨lw_p61, List.forall_mem_cons.mpr ⟨lw_p62, List.forall_mem_cons.mpr ⟨lw_p63, fun _ h => absurd h List.not_mem_nil⟩⟩⟩⟩⟩⟩⟩⟩⟩⟩⟩⟩⟩⟩⟩⟩
theorem lw_p64 : lw_okq (⟨"TurningVerseModel", "properMany", "()I"⟩, 18) := ⟨⟨by decide +kernel, by decide +kernel⟩, List.mem_of_getElem? (i := 743) (by decide +kernel), List.mem_of_getElem? (i := 1119) (by decide +kernel), List.mem_of_getElem? (i := 1120) (by decide +kernel)⟩
theorem lw_p65 : lw_okq (⟨"TurningVerseModel", "locked", "()I"⟩, 18) := ⟨⟨by decide +kernel, by decide +kernel⟩, List.mem_of_getElem? (i := 743) (by decide +kernel), List.mem_of_getElem? (i := 1123) (by decide +kernel), List.mem_of_getElem? (i := 1124) (by decide +kernel)⟩
theorem lw_p66 : lw_okq (⟨"TurningVerseModel", "mixedStanza", "(JI)J"⟩, 18) := ⟨⟨by decide +kernel, by decide +kernel⟩, List.mem_of_getElem? (i := 743) (by decide +kernel), List.mem_of_getElem? (i := 1138) (by decide +kernel), List.mem_of_getElem? (i := 1139) (by decide +kernel)⟩
theorem lw_p67 : lw_okq (⟨"TurningVerseModel", "mixedTail", "(J)J"⟩, 18) := ⟨⟨by decide +kernel, by decide +kernel⟩, List.mem_of_getElem? (i := 743) (by decide +kernel), List.mem_of_getElem? (i := 1143) (by decide +kernel), List.mem_of_getElem? (i := 1144) (by decide +kernel)⟩
def lw_privs_5 : List (MethodName × Nat) := [(⟨"TurningVerseModel", "properMany", "()I"⟩, 18), (⟨"TurningVerseModel", "locked", "()I"⟩, 18), (⟨"TurningVerseModel", "mixedStanza", "(JI)J"⟩, 18), (⟨"TurningVerseModel", "mixedTail", "(J)J"⟩, 18)]
theorem lw_r5 : ∀ q ∈ lw_privs_5, lw_okq q := List.forall_mem_cons.mpr ⟨lw_p64, List.forall_mem_cons.mpr ⟨lw_p65, List.forall_mem_cons.mpr ⟨lw_p66, List.forall_mem_cons.mpr ⟨lw_p67, fun _ h => absurd h List.not_mem_nil⟩⟩⟩⟩
def lw_privs : List (MethodName × Nat) := lw_privs_1 ++ (lw_privs_2 ++ (lw_privs_3 ++ (lw_privs_4 ++ (lw_privs_5))))
def lw_tbl : List Cond := k2_sels lw_privs ++ tables_1
theorem lw_privs_ok : ∀ q ∈ lw_privs, lw_okq q := by
  show ∀ q ∈ lw_privs_1 ++ (lw_privs_2 ++ (lw_privs_3 ++ (lw_privs_4 ++ (lw_privs_5)))), lw_okq q
  exact List.forall_mem_append.mpr ⟨lw_r1, List.forall_mem_append.mpr ⟨lw_r2, List.forall_mem_append.mpr ⟨lw_r3, List.forall_mem_append.mpr ⟨lw_r4, lw_r5⟩⟩⟩⟩
-- ===== end of PART A =====
def lw_g : List Cond := lw_tbl.filter goodWord
theorem lw_gm {w : Cond} (i : Nat) (h : lw_tbl[i]? = some w) (hg : goodWord w = true) : w ∈ lw_g := List.mem_filter.mpr ⟨List.mem_of_getElem? h, hg⟩
theorem lw_gt {w : Cond} (h : w ∈ lw_g) : w ∈ lw_tbl := (List.mem_filter.mp h).1
theorem lw_all : lw_g.all goodWord = true := List.all_eq_true.mpr fun _ h => (List.mem_filter.mp h).2
abbrev xR0 : String := "TurningVerse$Fit"
def xT0 : u_T := fun k => match k with
  | 0 => ("TurningVerse$Fit", "n", "I", false)
  | 1 => ("TurningVerse$Fit", "kept", "[I", true)
  | 2 => ("TurningVerse$Fit", "allowed", "[I", true)
  | _ => ("TurningVerse$Fit", "most", "[I", true)
abbrev xR1 : String := "TurningVerse$History"
def xT1 : u_T := fun k => match k with
  | 0 => ("TurningVerse$History", "count", "I", false)
  | 1 => ("TurningVerse$History", "next", "I", false)
  | _ => ("TurningVerse$History", "states", "[LTurningVerse$State;", true)
abbrev xR2 : String := "TurningVerse$Poem"
def xT2 : u_T := fun k => match k with
  | 0 => ("TurningVerse$Poem", "count", "I", false)
  | 1 => ("TurningVerse$Poem", "tailLines", "I", false)
  | 2 => ("TurningVerse$Poem", "rows", "[I", true)
  | 3 => ("TurningVerse$Poem", "locks", "[I", true)
  | 4 => ("TurningVerse$Poem", "tailRows", "[I", true)
  | _ => ("TurningVerse$Poem", "tailLengths", "[I", true)
abbrev xR3 : String := "TurningVerse$PoemReader"
def xT3 : u_T := fun k => match k with
  | 0 => ("TurningVerse$PoemReader", "n", "I", false)
  | 1 => ("TurningVerse$PoemReader", "poem", "LTurningVerse$Poem;", true)
  | _ => ("TurningVerse$PoemReader", "pos", "I", false)
abbrev xR4 : String := "TurningVerse$Search"
def xT4 : u_T := fun k => match k with
  | 0 => ("TurningVerse$Search", "count", "I", false)
  | 1 => ("TurningVerse$Search", "n", "I", false)
  | 2 => ("TurningVerse$Search", "set", "I", false)
  | 3 => ("TurningVerse$Search", "factors", "[I", true)
  | 4 => ("TurningVerse$Search", "found", "[I", true)
  | _ => ("TurningVerse$Search", "depths", "[I", true)
abbrev xR5 : String := "TurningVerse$State"
def xT5 : u_T := fun k => match k with
  | 0 => ("TurningVerse$State", "n", "I", false)
  | 1 => ("TurningVerse$State", "sounds", "I", false)
  | 2 => ("TurningVerse$State", "registers", "[I", true)
  | _ => ("TurningVerse$State", "poem", "LTurningVerse$Poem;", true)
abbrev xR6 : String := "TurningVerse$Text"
def xT6 : u_T := fun k => match k with
  | 0 => ("TurningVerse$Text", "length", "I", false)
  | _ => ("TurningVerse$Text", "bytes", "[I", true)
abbrev xR7 : String := "TurningVerse$TurnReader"
def xT7 : u_T := fun k => match k with
  | _ => ("TurningVerse$TurnReader", "permutation", "I", false)
abbrev xR8 : String := "TurningVerse"
def xT8 : u_T := fun k => match k with
  | 0 => ("TurningVerse", "now", "LTurningVerse$State;", true)
  | 1 => ("TurningVerse", "history", "LTurningVerse$History;", true)
  | 2 => ("TurningVerse", "text", "LTurningVerse$Text;", true)
  | 3 => ("TurningVerse", "poemReader", "LTurningVerse$PoemReader;", true)
  | 4 => ("TurningVerse", "turnReader", "LTurningVerse$TurnReader;", true)
  | 5 => ("TurningVerse", "search", "LTurningVerse$Search;", true)
  | 6 => ("TurningVerse", "fit", "LTurningVerse$Fit;", true)
  | _ => ("TurningVerse", "schemesSeen", "[I", true)
abbrev xR9 : String := "TurningVerseModel"
def xT9 : u_T := fun k => match k with
  | 0 => ("TurningVerseModel", "page", "[I", true)
  | 1 => ("TurningVerseModel", "remembered", "I", false)
  | 2 => ("TurningVerseModel", "text", "[I", true)
  | 3 => ("TurningVerseModel", "typed", "I", false)
  | 4 => ("TurningVerseModel", "row", "[I", true)
  | 5 => ("TurningVerseModel", "other", "[I", true)
  | 6 => ("TurningVerseModel", "third", "[I", true)
  | 7 => ("TurningVerseModel", "far", "[I", true)
  | 8 => ("TurningVerseModel", "line", "[I", true)
  | 9 => ("TurningVerseModel", "lines", "I", false)
  | 10 => ("TurningVerseModel", "made", "[I", true)
  | 11 => ("TurningVerseModel", "madeWords", "I", false)
  | 12 => ("TurningVerseModel", "spot", "I", false)
  | 13 => ("TurningVerseModel", "prices", "[I", true)
  | 14 => ("TurningVerseModel", "least", "[I", true)
  | 15 => ("TurningVerseModel", "verse", "[I", true)
  | 16 => ("TurningVerseModel", "turned", "[I", true)
  | _ => ("TurningVerseModel", "seen", "[I", true)
abbrev xcl : List vw_C := [(xR0, xT0, 4), (xR1, xT1, 3), (xR2, xT2, 6), (xR3, xT3, 3), (xR4, xT4, 6), (xR5, xT5, 4), (xR6, xT6, 2), (xR7, xT7, 1), (xR8, xT8, 8), (xR9, xT9, 18)]
def xfty (ci k : Nat) : FieldType := match ci with
  | 0 => match k with
    | 0 => .int
    | 1 => .array .int
    | 2 => .array .int
    | _ => .array .int
  | 1 => match k with
    | 0 => .int
    | 1 => .int
    | _ => .array (.object "TurningVerse$State")
  | 2 => match k with
    | 0 => .int
    | 1 => .int
    | 2 => .array .int
    | 3 => .array .int
    | 4 => .array .int
    | _ => .array .int
  | 3 => match k with
    | 0 => .int
    | 1 => .object "TurningVerse$Poem"
    | _ => .int
  | 4 => match k with
    | 0 => .int
    | 1 => .int
    | 2 => .int
    | 3 => .array .int
    | 4 => .array .int
    | _ => .array .int
  | 5 => match k with
    | 0 => .int
    | 1 => .int
    | 2 => .array .int
    | _ => .object "TurningVerse$Poem"
  | 6 => match k with
    | 0 => .int
    | _ => .array .int
  | 7 => match k with
    | _ => .int
  | 8 => match k with
    | 0 => .object "TurningVerse$State"
    | 1 => .object "TurningVerse$History"
    | 2 => .object "TurningVerse$Text"
    | 3 => .object "TurningVerse$PoemReader"
    | 4 => .object "TurningVerse$TurnReader"
    | 5 => .object "TurningVerse$Search"
    | 6 => .object "TurningVerse$Fit"
    | _ => .array .int
  | 9 => match k with
    | 0 => .array .int
    | 1 => .int
    | 2 => .array .int
    | 3 => .int
    | 4 => .array .int
    | 5 => .array .int
    | 6 => .array .int
    | 7 => .array .int
    | 8 => .array .int
    | 9 => .int
    | 10 => .array .int
    | 11 => .int
    | 12 => .int
    | 13 => .array .int
    | 14 => .array .int
    | 15 => .array .int
    | 16 => .array .int
    | _ => .array .int
  | _ => .int
def xdef (ci : Nat) : List Value := match ci with
  | 0 => [.int 0, .null, .null, .null]
  | 1 => [.int 0, .int 0, .null]
  | 2 => [.int 0, .int 0, .null, .null, .null, .null]
  | 3 => [.int 0, .null, .int 0]
  | 4 => [.int 0, .int 0, .int 0, .null, .null, .null]
  | 5 => [.int 0, .int 0, .null, .null]
  | 6 => [.int 0, .null]
  | 7 => [.int 0]
  | 8 => [.null, .null, .null, .null, .null, .null, .null, .null]
  | 9 => [.null, .int 0, .null, .int 0, .null, .null, .null, .null, .null, .int 0, .null, .int 0, .int 0, .null, .null, .null, .null, .null]
  | _ => []
abbrev xrn : String := "TurningVerse$State"
abbrev xrc : Nat := 5
theorem xrc_ok : ∃ rc, xcl[xrc]? = some rc ∧ rc.1 = xrn := ⟨_, rfl, rfl⟩
end
section
/-! THE ABSTRACT MACHINE: heaps as functions of relative addresses, a generator of conditions (wp) over the decoded code, and its soundness over the kit's W -/
abbrev xE : Type := (Nat × (Nat → Int32)) ⊕ ((Nat × (Nat → Option Nat)) ⊕ (Nat × List Value))
abbrev xia (n : Nat) (f : Nat → Int32) : xE := .inl (n, f)
abbrev xra (n : Nat) (g : Nat → Option Nat) : xE := .inr (.inl (n, g))
abbrev xob (c : Nat) (fs : List Value) : xE := .inr (.inr (c, fs))
abbrev xHp : Type := Nat × Nat × (Nat → xE)
def xat (h : xHp) (a : Nat) (e : xE) : Prop := a < h.1 ∧ h.2.2 a = e
def xset (h : xHp) (a : Nat) (e : xE) : xHp := (h.1, h.2.1, va_up h.2.2 a e)
def xnew (h : xHp) (n : Nat) (e : xE) : xHp := (h.1 + 1, h.2.1 + n, va_up h.2.2 h.1 e)
abbrev xLo : Type := List (Nat × Value)
def xcv (b : Nat) : Value → Value
  | .ref k => .ref (b + k)
  | v => v
def xce (cI cR : ClassId) (b : Nat) : xE → va_E
  | .inl (n, f) => .inl (cI, (n, .inl f))
  | .inr (.inl (n, g)) => .inl (cR, (n, .inr (.inr (.inr (.inr (fun j => (g j).map (fun k => b + k)))))))
  | .inr (.inr (c, fs)) => .inr (c, fs.map (xcv b))
def xtys (cI cR : ClassId) : List (ClassId × FieldType) := [(cI, .int), (cR, .object xrn)]
def xWd (D : va_G) (cI cR : ClassId) (b : Nat) (h : xHp) (H : Heap) : Prop := H.size = b + h.1 ∧ ∀ k, k < h.1 → va_at D xcl (b + k, xce cI cR b (h.2.2 k)) H
def xKk (D : va_G) (cI cR : ClassId) (U : State) : Prop := va_K D xcl (xtys cI cR) U ∧ va_AO xrn U
theorem xKk.moved {D : va_G} {cI cR : ClassId} {u U : State} (hvm : u.vm.Alike U.vm) (h : xKk D cI cR u) : xKk D cI cR U := ⟨va_K.moved hvm h.1, va_AO.moved hvm h.2⟩
/-- a signature: name, bytes, locals, answer's type, frames, words of locals below, parameters, the receiver's class -/
abbrev xSig : Type := MethodName × ByteArray × Nat × Option FieldType × Nat × Nat × Nat × Option Nat
abbrev sgN (g : xSig) : MethodName := g.1
abbrev sgB (g : xSig) : ByteArray := g.2.1
abbrev sgL (g : xSig) : Nat := g.2.2.1
abbrev sgR (g : xSig) : Option FieldType := g.2.2.2.1
abbrev sgF (g : xSig) : Nat := g.2.2.2.2.1
abbrev sgO (g : xSig) : Nat := g.2.2.2.2.2.1
abbrev sgP (g : xSig) : Nat := g.2.2.2.2.2.2.1
abbrev sgV (g : xSig) : Option Nat := g.2.2.2.2.2.2.2
def xwd (g : xSig) : List Cond := Cond.code (sgN g) (sgB g) (sgL g) (sgR g) :: lw_g
def xrm (g : xSig) (mc ms : Nat) : Room := { frames := sgF g, cells := mc, slots := ms, locals := sgO g }
abbrev xL : Type := (Nat × Nat) ⊕ (xSig ⊕ (Int32 ⊕ (Int64 ⊕ (Nat × List (Int32 × Nat)))))
abbrev xI : Type := Instr × Nat × xL
abbrev xCd : Type := List (Nat × xI)
/-! the contract of a method at one start and one end -/
def xQc (D : va_G) (cI cR : ClassId) (b : Nat) (v : Option Value) (h' : xHp) : Array Value → State → Outcome → State → Prop := fun _ st o t => o = .returned (v.map (xcv b)) ∧ xWd D cI cR b h' t.heap ∧ xKk D cI cR t ∧ va_F (fun q => b ≤ q) st t
def xQ (D : va_G) (cI cR : ClassId) (b : Nat) (Q : Option Value → xHp → Prop) : Array Value → State → Outcome → State → Prop := fun a st o t => ∃ v h', Q v h' ∧ xQc D cI cR b v h' a st o t
def xrecv (g : xSig) (args : List Value) (h : xHp) : Prop := ∀ c, sgV g = some c → ∃ a fs As, args = .ref a :: As ∧ xat h a (xob c fs)
def xtym (t : Option FieldType) (v : Option Value) : Prop := match t with
  | none => v = none
  | some .long => ∃ x, v = some (.long x)
  | some _ => ∃ x, v = some (.int x)
/-- a method that makes cells: its one end -/
def SpecA (g : xSig) (args : List Value) (h : xHp) (v : Option Value) (h' : xHp) : Prop :=
  h.1 ≤ h'.1 ∧ h.2.1 ≤ h'.2.1 ∧ xrecv g args h ∧ ∀ (l : Launch) (D : va_G) (cI cR : ClassId) (b : Nat),
    Met l (sgN g) (xwd g) (xrm g (h'.1 - h.1) (h'.2.1 - h.2.1)) (va_Pc (args.map (xcv b)) (fun U => xWd D cI cR b h U.heap ∧ xKk D cI cR U)) (xQ D cI cR b (fun v2 h2 => v2 = v ∧ h2 = h')) (h'.1 - h.1) (h'.2.1 - h.2.1) (fun q => b ≤ q)
/-- a method that makes none: what holds of its answer and the heap behind it -/
def SpecR (g : xSig) (args : List Value) (h : xHp) (P : Option Value → xHp → Prop) : Prop :=
  xrecv g args h ∧ (∀ v h', P v h' → xtym (sgR g) v ∧ h'.1 = h.1 ∧ h'.2.1 = h.2.1) ∧ ∀ (l : Launch) (D : va_G) (cI cR : ClassId) (b : Nat),
    Met l (sgN g) (xwd g) (xrm g 0 0) (va_Pc (args.map (xcv b)) (fun U => xWd D cI cR b h U.heap ∧ xKk D cI cR U)) (xQ D cI cR b P) 0 0 (fun q => b ≤ q)
def Spec (g : xSig) (args : List Value) (h : xHp) (v : Option Value) (h' : xHp) : Prop := SpecR g args h (fun v2 h2 => v2 = v ∧ h2 = h')
/-! a point of a method's walk -/
def xFix (p : Program) (s : State) (m : MethodId) (args : Array Value) (meth : Method) (c : Code) (g : xSig) : Prop :=
  p.tables.exec = Jvm.exec ∧ c.code = sgB g ∧ meth.sig.returnType = sgR g ∧ meth.locks = false ∧ c.maxLocals = sgL g ∧ s.vm.findClass (sgN g).cls = some m.cls ∧ meth.name = (sgN g).name ∧ ∀ w ∈ xwd g, w.before args s = true
def xcL (b : Nat) (L : xLo) : xLo := L.map (fun q => (q.1, xcv b q.2))
def xCx (lim : Nat × Nat) (g : xSig) (D : va_G) (cI cR : ClassId) (b N0 S0 : Nat) (s : State) (h : xHp) (H : Heap) (locs : List Loc) : Prop :=
  xKk D cI cR s ∧ xWd D cI cR b h H ∧ va_S (fun q => b ≤ q) s.heap H locs ∧ b + N0 = s.heap.size ∧ N0 ≤ h.1 ∧ h.1 ≤ lim.1 ∧ S0 ≤ h.2.1 ∧ h.2.1 ≤ lim.2
def xAt (lim : Nat × Nat) (g : xSig) (Q : Option Value → xHp → Prop) (pc : Nat) (L : xLo) (st : List Value) (h : xHp) : Prop :=
  ∀ (p : Program) (l : Launch) (e : Env) (s : State) (m : MethodId) (args : Array Value) (below : List Frame) (meth : Method) (c : Code) (D : va_G) (cI cR : ClassId) (b N0 S0 : Nat) (H : Heap) (locs : List Loc) (ls : Array Slot),
    xFix p s m args meth c g → xCx lim g D cI cR b N0 S0 s h H locs → lv_has ls (sgL g) (xcL b L) →
    W p l e (xrm g (lim.1 - N0) (lim.2 - S0)) s m args below meth c H locs (h.1 - N0) (h.2.1 - S0) (MQ below (xQ D cI cR b Q) args s (lim.1 - N0) (lim.2 - S0) (fun q => b ≤ q)) (F0 m pc ls (st.map (xcv b)))
/-! locals -/
def xget : xLo → Nat → Option Value
  | [], _ => none
  | (j, v) :: L, i => bif Nat.beq j i then some v else xget L i
def xins : xLo → Nat → Value → xLo
  | [], i, v => [(i, v)]
  | (j, w) :: L, i, v => bif Nat.blt i j then (i, v) :: (j, w) :: L else (j, w) :: xins L i v
def xk1 (i : Nat) (q : Nat × Value) : Bool := !(q.1 == i) && !(q.1 + 1 == i && q.2.category == 2)
def xk2 (i : Nat) (q : Nat × Value) : Bool := !(q.1 == i) && (!(q.1 == i + 1) && !(q.1 + 1 == i && q.2.category == 2))
def xflt (p : Nat × Value → Bool) : xLo → xLo
  | [] => []
  | q :: L => bif p q then q :: xflt p L else xflt p L
def xput1 (L : xLo) (i : Nat) (v : Value) : xLo := xins (xflt (xk1 i) L) i v
def xput2 (L : xLo) (i : Nat) (v : Value) : xLo := xins (xflt (xk2 i) L) i v
def xmem : List Nat → Nat → Bool
  | [], _ => false
  | j :: l, i => bif Nat.beq j i then true else xmem l i
def xsel (L : xLo) (ks : List Nat) : xLo := xflt (fun q => xmem ks q.1) L
def xfind : xCd → Nat → Option xI
  | [], _ => none
  | (q, i) :: r, pc => bif Nat.beq q pc then some i else xfind r pc
def xcut : List (Nat × List Nat) → Nat → Option (List Nat)
  | [], _ => none
  | (q, i) :: r, pc => bif Nat.beq q pc then some i else xcut r pc
def xcats : List Value → Nat
  | [] => 0
  | v :: st => v.category + xcats st
theorem nb_eq {a b : Nat} (h : Nat.beq a b = true) : a = b := Nat.eq_of_beq_eq_true h
theorem nb_ne {a b : Nat} (h : Nat.beq a b = false) : ¬ a = b := Nat.ne_of_beq_eq_false h
theorem xget_mem : ∀ {L : xLo} {i : Nat} {v : Value}, xget L i = some v → (i, v) ∈ L
  | [], _, _, h => by cases h
  | (j, w) :: L, i, v, h => by
    unfold xget at h
    cases hb : Nat.beq j i with
    | true => rw [hb] at h; cases h; rw [nb_eq hb]; exact List.mem_cons_self
    | false => rw [hb] at h; exact List.mem_cons_of_mem _ (xget_mem h)
theorem xins_mem : ∀ {L : xLo} {i : Nat} {v : Value} {q : Nat × Value}, q ∈ xins L i v → q = (i, v) ∨ q ∈ L
  | [], _, _, _, h => by
    unfold xins at h
    exact Or.inl (List.mem_singleton.mp h)
  | (j, w) :: L, i, v, q, h => by
    unfold xins at h
    cases hb : Nat.blt i j with
    | true => rw [hb] at h; exact (List.mem_cons.mp h).elim Or.inl Or.inr
    | false =>
      rw [hb] at h
      rcases List.mem_cons.mp h with h | h
      · exact Or.inr (h ▸ List.mem_cons_self)
      · exact (xins_mem h).elim Or.inl (fun z => Or.inr (List.mem_cons_of_mem _ z))
theorem xflt_mem {p : Nat × Value → Bool} : ∀ {L : xLo} {q : Nat × Value}, q ∈ xflt p L → q ∈ L ∧ p q = true
  | [], _, h => by cases h
  | r :: L, q, h => by
    unfold xflt at h
    cases hb : p r with
    | true =>
      rw [hb] at h
      rcases List.mem_cons.mp h with h | h
      · subst h; exact ⟨List.mem_cons_self, hb⟩
      · exact ⟨List.mem_cons_of_mem _ (xflt_mem h).1, (xflt_mem h).2⟩
    | false => rw [hb] at h; exact ⟨List.mem_cons_of_mem _ (xflt_mem h).1, (xflt_mem h).2⟩
theorem xfind_mem : ∀ {cd : xCd} {pc : Nat} {i : xI}, xfind cd pc = some i → (pc, i) ∈ cd
  | [], _, _, h => by cases h
  | (j, w) :: L, i, v, h => by
    unfold xfind at h
    cases hb : Nat.beq j i with
    | true => rw [hb] at h; cases h; rw [nb_eq hb]; exact List.mem_cons_self
    | false => rw [hb] at h; exact List.mem_cons_of_mem _ (xfind_mem h)
theorem xcv_cat (b : Nat) (v : Value) : (xcv b v).category = v.category := by cases v <;> rfl
theorem xcats_eq (b : Nat) : ∀ st : List Value, ((st.map (xcv b)).map fun v => v.category).sum = xcats st
  | [] => rfl
  | v :: st => by
    simp only [List.map_cons, List.sum_cons, xcats, xcv_cat]
    rw [xcats_eq b st]
theorem xl_get {ls : Array Slot} {n b i : Nat} {L : xLo} {v : Value} (h : lv_has ls n (xcL b L)) (hg : xget L i = some v) : ls[i]? = some (.val (xcv b v)) :=
  h.2.2 (i, xcv b v) (List.mem_map.mpr ⟨(i, v), xget_mem hg, rfl⟩)
theorem xl_sub {ls : Array Slot} {n b : Nat} {L L' : xLo} (h : lv_has ls n (xcL b L)) (hs : ∀ q ∈ L', q ∈ L) : lv_has ls n (xcL b L') :=
  ⟨h.1, h.2.1, fun q hq => by
    obtain ⟨r, hr, rfl⟩ := List.mem_map.mp hq
    exact h.2.2 _ (List.mem_map.mpr ⟨r, hs r hr, rfl⟩)⟩
theorem xl_of {ls : Array Slot} {n : Nat} {l l' : xLo} (h : lv_has ls n l) (hs : ∀ q ∈ l', q ∈ l) : lv_has ls n l' := ⟨h.1, h.2.1, fun q hq => h.2.2 q (hs q hq)⟩
theorem xl_put1 {b : Nat} {L : xLo} {i : Nat} {v : Value} : ∀ q ∈ xcL b (xput1 L i v), q ∈ (i, xcv b v) :: (xcL b L).filter (fun q => !(q.1 == i) && !(q.1 + 1 == i && q.2.category == 2)) := by
  intro q hq
  obtain ⟨r, hr, rfl⟩ := List.mem_map.mp hq
  rcases xins_mem hr with h | h
  · subst h; exact List.mem_cons_self
  · obtain ⟨h1, h2⟩ := xflt_mem h
    refine List.mem_cons_of_mem _ (List.mem_filter.mpr ⟨List.mem_map.mpr ⟨r, h1, rfl⟩, ?_⟩)
    simp only [xcv_cat]
    exact h2
theorem xl_put2 {b : Nat} {L : xLo} {i : Nat} {v : Value} : ∀ q ∈ xcL b (xput2 L i v), q ∈ (i, xcv b v) :: (xcL b L).filter (fun q => !(q.1 == i) && (!(q.1 == i + 1) && !(q.1 + 1 == i && q.2.category == 2))) := by
  intro q hq
  obtain ⟨r, hr, rfl⟩ := List.mem_map.mp hq
  rcases xins_mem hr with h | h
  · subst h; exact List.mem_cons_self
  · obtain ⟨h1, h2⟩ := xflt_mem h
    refine List.mem_cons_of_mem _ (List.mem_filter.mpr ⟨List.mem_map.mpr ⟨r, h1, rfl⟩, ?_⟩)
    simp only [xcv_cat]
    exact h2
theorem xAt_sub {lim : Nat × Nat} {g : xSig} {Q : Option Value → xHp → Prop} {pc : Nat} {L L' : xLo} {st : List Value} {h : xHp} (k : xAt lim g Q pc L' st h) (hs : ∀ q ∈ L', q ∈ L) : xAt lim g Q pc L st h :=
  fun p l e s m args below meth c D cI cR b N0 S0 H locs ls X C hl => k p l e s m args below meth c D cI cR b N0 S0 H locs ls X C (xl_sub hl hs)
theorem xsel_mem {L : xLo} {ks : List Nat} : ∀ q ∈ xsel L ks, q ∈ L := fun _ h => (xflt_mem h).1
/-! stacks -/
def xp1 (st : List Value) (f : Value → List Value → Prop) : Prop := match st with
  | v :: r => f v r
  | _ => False
def xpi (st : List Value) (f : Int32 → List Value → Prop) : Prop := match st with
  | .int x :: r => f x r
  | _ => False
def xpl (st : List Value) (f : Int64 → List Value → Prop) : Prop := match st with
  | .long x :: r => f x r
  | _ => False
def xpr (st : List Value) (f : Nat → List Value → Prop) : Prop := match st with
  | .ref x :: r => f x r
  | _ => False
theorem xp1_el {st : List Value} {f : Value → List Value → Prop} (h : xp1 st f) : ∃ x r, st = x :: r ∧ f x r := by
  match st, h with
  | v :: r, h => exact ⟨v, r, rfl, h⟩
theorem xpi_el {st : List Value} {f : Int32 → List Value → Prop} (h : xpi st f) : ∃ x r, st = .int x :: r ∧ f x r := by
  match st, h with
  | .int v :: r, h => exact ⟨v, r, rfl, h⟩
theorem xpl_el {st : List Value} {f : Int64 → List Value → Prop} (h : xpl st f) : ∃ x r, st = .long x :: r ∧ f x r := by
  match st, h with
  | .long v :: r, h => exact ⟨v, r, rfl, h⟩
theorem xpr_el {st : List Value} {f : Nat → List Value → Prop} (h : xpr st f) : ∃ x r, st = .ref x :: r ∧ f x r := by
  match st, h with
  | .ref v :: r, h => exact ⟨v, r, rfl, h⟩
/-- the topmost n values, the deepest first -/
def xpop : Nat → List Value → List Value → Option (List Value × List Value)
  | 0, As, st => some (As, st)
  | n + 1, As, v :: st => xpop n (v :: As) st
  | _ + 1, _, [] => none
theorem xpop_el : ∀ {n : Nat} {As0 st As r : List Value}, xpop n As0 st = some (As, r) → ∃ B, As = B ++ As0 ∧ st = B.reverse ++ r ∧ B.length = n
  | 0, As0, st, As, r, h => by
    unfold xpop at h
    cases h
    exact ⟨[], rfl, rfl, rfl⟩
  | n + 1, As0, v :: st, As, r, h => by
    unfold xpop at h
    obtain ⟨B, h1, h2, h3⟩ := xpop_el h
    refine ⟨B ++ [v], by rw [h1]; simp, by rw [h2]; simp, by simp [h3]⟩
  | n + 1, As0, [], As, r, h => by
    unfold xpop at h
    cases h
def xix (i : Int32) (j n : Nat) : Prop := i = nI j ∧ j < n ∧ n < 2147483648
theorem xix_in {i : Int32} {j n : Nat} (h : xix i j n) : vp_in i n ∧ i.toNatClampNeg = j := by
  obtain ⟨rfl, h1, h2⟩ := h
  exact ⟨nI_in h1 h2, nI_clamp (Nat.lt_trans h1 h2)⟩
def xvk : FieldType → Value → Bool
  | .int, .int _ => true
  | .object _, .ref _ => true
  | .array _, .ref _ => true
  | _, _ => false
theorem xvk_ok {ty : FieldType} {v : Value} (b : Nat) (h : xvk ty v = true) : narrow ty (xcv b v) = xcv b v ∧ fits ty (xcv b v) = true := by
  cases ty <;> cases v <;> first | exact ⟨rfl, rfl⟩ | cases h
def xsw : List (Int32 × Nat) → Int32 → (Nat → Prop) → Nat → Prop
  | [], _, k, d => k d
  | (v, t) :: r, x, k, d => (x = v → k t) ∧ (¬ x = v → xsw r x k d)
end
section
/-! ONE STEP: the condition of an instruction; 'k' is what must hold behind it -/
def xlv (lk : xL) (f : Int32 → Prop) : Prop := match lk with
  | .inr (.inr (.inl v)) => f v
  | _ => False
def xlw (lk : xL) (f : Int64 → Prop) : Prop := match lk with
  | .inr (.inr (.inr (.inl v))) => f v
  | _ => False
def xlf (lk : xL) (f : Nat → Nat → Prop) : Prop := match lk with
  | .inl (a, b) => f a b
  | _ => False
def xgi (L : xLo) (i : Nat) (f : Int32 → Prop) : Prop := match xget L i with
  | some (.int x) => f x
  | _ => False
def xgl (L : xLo) (i : Nat) (f : Int64 → Prop) : Prop := match xget L i with
  | some (.long x) => f x
  | _ => False
def xgr (L : xLo) (i : Nat) (f : Nat → Prop) : Prop := match xget L i with
  | some (.ref x) => f x
  | _ => False
theorem xgi_el {L : xLo} {i : Nat} {f : Int32 → Prop} (h : xgi L i f) : ∃ x, xget L i = some (.int x) ∧ f x := by
  unfold xgi at h
  split at h
  · exact ⟨_, by assumption, h⟩
  · exact h.elim
theorem xgl_el {L : xLo} {i : Nat} {f : Int64 → Prop} (h : xgl L i f) : ∃ x, xget L i = some (.long x) ∧ f x := by
  unfold xgl at h
  split at h
  · exact ⟨_, by assumption, h⟩
  · exact h.elim
theorem xgr_el {L : xLo} {i : Nat} {f : Nat → Prop} (h : xgr L i f) : ∃ x, xget L i = some (.ref x) ∧ f x := by
  unfold xgr at h
  split at h
  · exact ⟨_, by assumption, h⟩
  · exact h.elim
/-- what a call asks, by the answer's type -/
def xcal (g : xSig) (As : List Value) (h : xHp) (k : List Value → xHp → Prop) : Prop := match sgR g with
  | none => ∃ P : Option Value → xHp → Prop, SpecR g As h P ∧ ∀ h', P none h' → k [] h'
  | some .long => ∃ P : Option Value → xHp → Prop, SpecR g As h P ∧ ∀ (r : Int64) (h' : xHp), P (some (.long r)) h' → k [.long r] h'
  | some _ => ∃ P : Option Value → xHp → Prop, SpecR g As h P ∧ ∀ (r : Int32) (h' : xHp), P (some (.int r)) h' → k [.int r] h'
/-- a branch -/
def xbr (c : Prop) (a b : Prop) : Prop := (c → a) ∧ (¬ c → b)
/-- an answer of a type that is narrower than int -/
def xrt (g : xSig) (v : Int32) (q : Prop) : Prop := match sgR g with
  | some .int => q
  | some .boolean => (v = nI 0 ∨ v = nI 1) ∧ q
  | _ => False
def xcpw : Nat := nativeFrameWords "java/lang/System" "arraycopy" 5 + 11
abbrev xK : Type := Nat → xLo → List Value → xHp → Prop
def xnil (st : List Value) (p : Prop) : Prop := match st with
  | [] => p
  | _ => False
def xtsw (k : xK) (L : xLo) (st : List Value) (h : xHp) (lk : xL) : Prop := match lk with
  | .inr (.inr (.inr (.inr (d, ps)))) => xpi st fun x r => xsw ps x (fun t => k t L r h) d
  | _ => False
def xist (k : xK) (pc len : Nat) (L : xLo) (st : List Value) (h : xHp) (lk : xL) : Prop := match lk with
  | .inr (.inl c) => match xpop (sgP c) [] st with
    | some (As, r) => bif Nat.ble (xcats r) 8 then xcal c As h (fun v h' => k (pc + len) L (v ++ r) h') else False
    | none => False
  | .inl _ => xpi st fun n r => xpi r fun dp r => xpr r fun a r => xpi r fun sp r => xpr r fun a0 r => bif Nat.ble (xcats r) 8 then ∃ n0 f n1 f1 jn jd js, xat h a0 (xia n0 f) ∧ xat h a (xia n1 f1) ∧ n = nI jn ∧ dp = nI jd ∧ sp = nI js ∧ js + jn ≤ n0 ∧ jd + jn ≤ n1 ∧ n0 < 100000 ∧ n1 < 100000 ∧ k (pc + len) L r (xset h a (xia n1 (va_cpy f f1 js jd jn))) else False
  | .inr (.inr (.inr (.inr (0, _)))) => xpi st fun y r => xpi r fun x r => bif Nat.ble (xcats r) 8 then k (pc + len) L (.int (if x < y then y else x) :: r) h else False
  | .inr (.inr (.inr (.inr (1, _)))) => xpi st fun y r => xpi r fun x r => bif Nat.ble (xcats r) 8 then k (pc + len) L (.int (if y < x then y else x) :: r) h else False
  | .inr (.inr (.inr (.inr (2, _)))) => xpi st fun x r => bif Nat.ble (xcats r) 8 then k (pc + len) L (.int (if 0 ≤ x then x else 0 - x) :: r) h else False
  | _ => False
def xivt (k : xK) (pc len : Nat) (L : xLo) (st : List Value) (h : xHp) (lk : xL) : Prop := match lk with
  | .inr (.inl c) => match xpop (sgP c) [] st with
    | some (As, r) => xpr r fun a r => bif Nat.ble (xcats r) 8 then xcal c (.ref a :: As) h (fun v h' => k (pc + len) L (v ++ r) h') else False
    | none => False
  | _ => False
def xisp (lim : Nat × Nat) (k : xK) (pc len : Nat) (L : xLo) (st : List Value) (h : xHp) (lk : xL) : Prop := match lk with
  | .inr (.inl c) => match xpop (sgP c) [] st with
    | some (As, r) => xpr r fun a r => bif Nat.ble (xcats r) 8 then ∃ h', SpecA c (.ref a :: As) h none h' ∧ h'.1 ≤ lim.1 ∧ h'.2.1 ≤ lim.2 ∧ k (pc + len) L r h' else False
    | none => False
  | .inl _ => xpr st fun a r => bif Nat.ble (xcats r) 8 then k (pc + len) L r h else False
  | _ => False

def xstep (lim : Nat × Nat) (g : xSig) (k : xK) (Q : Option Value → xHp → Prop) (pc : Nat) (L : xLo) (st : List Value) (h : xHp) (i : Instr) (len : Nat) (lk : xL) : Prop := match i with
  | .iconst _ => xlv lk fun v => k (pc + len) L (.int v :: st) h
  | .bipush _ => xlv lk fun v => k (pc + len) L (.int v :: st) h
  | .sipush _ => xlv lk fun v => k (pc + len) L (.int v :: st) h
  | .ldc _ => xlv lk fun v => k (pc + len) L (.int v :: st) h
  | .ldc_w _ => xlv lk fun v => k (pc + len) L (.int v :: st) h
  | .ldc2_w _ => xlw lk fun v => k (pc + len) L (.long v :: st) h
  | .iload i => xgi L i fun x => k (pc + len) L (.int x :: st) h
  | .iload_n n => xgi L n.val fun x => k (pc + len) L (.int x :: st) h
  | .lload i => xgl L i fun x => k (pc + len) L (.long x :: st) h
  | .lload_n n => xgl L n.val fun x => k (pc + len) L (.long x :: st) h
  | .aload i => xgr L i fun x => k (pc + len) L (.ref x :: st) h
  | .aload_n n => xgr L n.val fun x => k (pc + len) L (.ref x :: st) h
  | .istore i => xpi st fun x r => k (pc + len) (xput1 L i (.int x)) r h
  | .istore_n n => xpi st fun x r => k (pc + len) (xput1 L n.val (.int x)) r h
  | .lstore i => xpl st fun x r => k (pc + len) (xput2 L i (.long x)) r h
  | .lstore_n n => xpl st fun x r => k (pc + len) (xput2 L n.val (.long x)) r h
  | .astore i => xpr st fun x r => k (pc + len) (xput1 L i (.ref x)) r h
  | .astore_n n => xpr st fun x r => k (pc + len) (xput1 L n.val (.ref x)) r h
  | .iinc i _ => xlv lk fun v => xgi L i fun x => k (pc + len) (xput1 L i (.int (x + v))) st h
  | .iadd => xpi st fun y r => xpi r fun x r => k (pc + len) L (.int (x + y) :: r) h
  | .isub => xpi st fun y r => xpi r fun x r => k (pc + len) L (.int (x - y) :: r) h
  | .imul => xpi st fun y r => xpi r fun x r => k (pc + len) L (.int (x * y) :: r) h
  | .iand => xpi st fun y r => xpi r fun x r => k (pc + len) L (.int (x &&& y) :: r) h
  | .ior => xpi st fun y r => xpi r fun x r => k (pc + len) L (.int (x ||| y) :: r) h
  | .ixor => xpi st fun y r => xpi r fun x r => k (pc + len) L (.int (x ^^^ y) :: r) h
  | .ishl => xpi st fun y r => xpi r fun x r => k (pc + len) L (.int (x <<< (y &&& 31)) :: r) h
  | .ishr => xpi st fun y r => xpi r fun x r => k (pc + len) L (.int (x >>> (y &&& 31)) :: r) h
  | .iushr => xpi st fun y r => xpi r fun x r => k (pc + len) L (.int ((x.toUInt32 >>> (y.toUInt32 &&& Int32.toUInt32 31)).toInt32) :: r) h
  | .idiv => xpi st fun y r => xpi r fun x r => ¬ y = 0 ∧ k (pc + len) L (.int (x / y) :: r) h
  | .irem => xpi st fun y r => xpi r fun x r => ¬ y = 0 ∧ k (pc + len) L (.int (x - x / y * y) :: r) h
  | .ineg => xpi st fun x r => k (pc + len) L (.int (-x) :: r) h
  | .ladd => xpl st fun y r => xpl r fun x r => k (pc + len) L (.long (x + y) :: r) h
  | .lmul => xpl st fun y r => xpl r fun x r => k (pc + len) L (.long (x * y) :: r) h
  | .i2l => xpi st fun x r => k (pc + len) L (.long x.toInt64 :: r) h
  | .dup => xp1 st fun v r => bif Nat.beq v.category 1 then k (pc + len) L (v :: v :: r) h else False
  | .dup2 => xp1 st fun v r => xp1 r fun u r => bif Nat.beq v.category 1 && Nat.beq u.category 1 then k (pc + len) L (v :: u :: v :: u :: r) h else False
  | .pop => xp1 st fun v r => bif Nat.beq v.category 1 then k (pc + len) L r h else False
  | .ifCond .eq _ => xlf lk fun t _ => xpi st fun x r => xbr (x = nI 0) (k t L r h) (k (pc + len) L r h)
  | .ifCond .ne _ => xlf lk fun t _ => xpi st fun x r => xbr (x = nI 0) (k (pc + len) L r h) (k t L r h)
  | .ifCond .lt _ => xlf lk fun t _ => xpi st fun x r => xbr (x < nI 0) (k t L r h) (k (pc + len) L r h)
  | .ifCond .ge _ => xlf lk fun t _ => xpi st fun x r => xbr (nI 0 ≤ x) (k t L r h) (k (pc + len) L r h)
  | .ifCond .gt _ => xlf lk fun t _ => xpi st fun x r => xbr (nI 0 < x) (k t L r h) (k (pc + len) L r h)
  | .ifCond .le _ => xlf lk fun t _ => xpi st fun x r => xbr (x ≤ nI 0) (k t L r h) (k (pc + len) L r h)
  | .if_icmp .eq _ => xlf lk fun t _ => xpi st fun y r => xpi r fun x r => xbr (x = y) (k t L r h) (k (pc + len) L r h)
  | .if_icmp .ne _ => xlf lk fun t _ => xpi st fun y r => xpi r fun x r => xbr (x = y) (k (pc + len) L r h) (k t L r h)
  | .if_icmp .lt _ => xlf lk fun t _ => xpi st fun y r => xpi r fun x r => xbr (x < y) (k t L r h) (k (pc + len) L r h)
  | .if_icmp .ge _ => xlf lk fun t _ => xpi st fun y r => xpi r fun x r => xbr (y ≤ x) (k t L r h) (k (pc + len) L r h)
  | .if_icmp .gt _ => xlf lk fun t _ => xpi st fun y r => xpi r fun x r => xbr (y < x) (k t L r h) (k (pc + len) L r h)
  | .if_icmp .le _ => xlf lk fun t _ => xpi st fun y r => xpi r fun x r => xbr (x ≤ y) (k t L r h) (k (pc + len) L r h)
  | .goto _ => xlf lk fun t _ => k t L st h
  | .tableswitch _ _ _ _ => xtsw k L st h lk
  | .getfield _ => xlf lk fun ci n => xpr st fun a r => ∃ fs v, xat h a (xob ci fs) ∧ fs[n]? = some v ∧ k (pc + len) L (v :: r) h
  | .putfield _ => xlf lk fun ci n => xp1 st fun v r => xpr r fun a r => ∃ fs, xat h a (xob ci fs) ∧ n < fs.length ∧ bif xvk (xfty ci n) v then k (pc + len) L r (xset h a (xob ci (fs.set n v))) else False
  | .iaload => xpi st fun i r => xpr r fun a r => ∃ n f j, xat h a (xia n f) ∧ xix i j n ∧ k (pc + len) L (.int (f j) :: r) h
  | .iastore => xpi st fun x r => xpi r fun i r => xpr r fun a r => ∃ n f j, xat h a (xia n f) ∧ xix i j n ∧ k (pc + len) L r (xset h a (xia n (upd f j x)))
  | .aaload => xpi st fun i r => xpr r fun a r => ∃ n f j q, xat h a (xra n f) ∧ xix i j n ∧ f j = some q ∧ k (pc + len) L (.ref q :: r) h
  | .aastore => xpr st fun v r => xpi r fun i r => xpr r fun a r => ∃ n f j fs, xat h a (xra n f) ∧ xix i j n ∧ xat h v (xob xrc fs) ∧ k (pc + len) L r (xset h a (xra n (va_up f j (some v))))
  | .arraylength => xpr st fun a r => ∃ n f, xat h a (xia n f) ∧ k (pc + len) L (.int (nI n) :: r) h
  | .newarray _ => xpi st fun i r => ∃ j, i = nI j ∧ j < 100000 ∧ h.1 + 1 ≤ lim.1 ∧ h.2.1 + j ≤ lim.2 ∧ k (pc + len) L (.ref h.1 :: r) (xnew h j (xia j (fun _ => 0)))
  | .anewarray _ => xpi st fun i r => ∃ j, i = nI j ∧ j < 100000 ∧ h.1 + 1 ≤ lim.1 ∧ h.2.1 + j ≤ lim.2 ∧ k (pc + len) L (.ref h.1 :: r) (xnew h j (xra j (fun _ => none)))
  | .new _ => xlf lk fun ci n => h.1 + 1 ≤ lim.1 ∧ h.2.1 + n ≤ lim.2 ∧ k (pc + len) L (.ref h.1 :: st) (xnew h n (xob ci (xdef ci)))
  | .invokestatic _ => xist k pc len L st h lk
  | .invokevirtual _ => xivt k pc len L st h lk
  | .invokespecial _ => xisp lim k pc len L st h lk
  | .ireturn => xpi st fun x r => xnil r (xrt g x (Q (some (.int x)) h))
  | .lreturn => xpl st fun x r => xnil r (Q (some (.long x)) h)
  | .return_ => xnil st (Q none h)
  | _ => False
def xgo (r : Option xI) (f : Instr → Nat → xL → Prop) : Prop := match r with
  | none => False
  | some i => f i.1 i.2.1 i.2.2
def xnext (cut : List (Nat × List Nat)) (K w : xK) : xK := fun pc L st h => match xcut cut pc with
  | none => w pc L st h
  | some ks => K pc (xsel L ks) st h
theorem xgo_el {r : Option xI} {f : Instr → Nat → xL → Prop} (h : xgo r f) : ∃ i len lk, r = some (i, len, lk) ∧ f i len lk := by
  match r, h with
  | some (i, len, lk), h => exact ⟨i, len, lk, rfl, h⟩
theorem xnext_el {cut : List (Nat × List Nat)} {K w : xK} {pc : Nat} {L : xLo} {st : List Value} {h : xHp} (hh : xnext cut K w pc L st h) : w pc L st h ∨ ∃ ks, K pc (xsel L ks) st h := by
  unfold xnext at hh
  split at hh
  · exact Or.inl hh
  · exact Or.inr ⟨_, hh⟩
def wp (lim : Nat × Nat) (g : xSig) (cd : xCd) (cut : List (Nat × List Nat)) (K : xK) (Q : Option Value → xHp → Prop) : Nat → Nat → xLo → List Value → xHp → Prop
  | 0, _, _, _, _ => False
  | n + 1, pc, L, st, h => xgo (xfind cd pc) (xstep lim g (xnext cut K (wp lim g cd cut K Q n)) Q pc L st h)
/-! what is checked of the code, once -/
def xckv (lk : xL) (f : Int32 → Bool) : Bool := match lk with
  | .inr (.inr (.inl v)) => f v
  | _ => true
def xckt (lk : xL) (f : Nat → Bool) : Bool := match lk with
  | .inl (t, _) => f t
  | _ => true
def xswk (pc : Nat) (offs : List Int) : Int → List (Int32 × Nat) → Bool
  | _, [] => match offs with
    | [] => true
    | _ => false
  | lo, (v, t) :: r => match offs with
    | [] => false
    | o :: os => decide (v.toInt = lo) && decide ((pc : Int) + o = (t : Int)) && xswk pc os (lo + 1) r
def xck (g : xSig) (e : Nat × xI) : Bool := match e.2.1 with
  | .iconst n => xckv e.2.2.2 (fun v => decide (Int32.ofInt n = v)) && Nat.beq e.2.2.1 1
  | .bipush n => xckv e.2.2.2 (fun v => decide ((Int8.ofInt n).toInt32 = v)) && Nat.beq e.2.2.1 2
  | .sipush n => xckv e.2.2.2 (fun v => decide ((Int16.ofInt n).toInt32 = v)) && Nat.beq e.2.2.1 3
  | .ldc _ => Nat.beq e.2.2.1 2
  | .ldc_w _ | .ldc2_w _ => Nat.beq e.2.2.1 3
  | .iload _ | .lload _ | .aload _ => Nat.beq e.2.2.1 2
  | .istore i | .astore i => Nat.blt i (sgL g) && Nat.beq e.2.2.1 2
  | .lstore i => Nat.blt (i + 1) (sgL g) && Nat.beq e.2.2.1 2
  | .istore_n n | .astore_n n => Nat.blt n.val (sgL g) && Nat.beq e.2.2.1 1
  | .lstore_n n => Nat.blt (n.val + 1) (sgL g) && Nat.beq e.2.2.1 1
  | .iinc i n => xckv e.2.2.2 (fun v => decide (Int32.ofInt n = v)) && Nat.blt i (sgL g) && Nat.beq e.2.2.1 3
  | .ifCond _ off => xckt e.2.2.2 (fun t => decide ((e.1 : Int) + off = (t : Int))) && Nat.beq e.2.2.1 3
  | .if_icmp _ off => xckt e.2.2.2 (fun t => decide ((e.1 : Int) + off = (t : Int))) && Nat.beq e.2.2.1 3
  | .goto off => xckt e.2.2.2 (fun t => decide ((e.1 : Int) + off = (t : Int))) && Nat.beq e.2.2.1 3
  | .tableswitch d lo hi offs => match e.2.2.2 with
    | .inr (.inr (.inr (.inr (t, ps)))) => decide ((e.1 : Int) + d = (t : Int)) && xswk e.1 offs.toList lo ps && decide (hi = lo + ps.length - 1)
    | _ => true
  | .lreturn => decide (sgR g = some .long) && Nat.beq e.2.2.1 1
  | .return_ => decide (sgR g = none) && Nat.beq e.2.2.1 1
  | .getfield _ | .putfield _ | .new _ | .anewarray _ => Nat.beq e.2.2.1 3
  | .newarray _ => Nat.beq e.2.2.1 2
  | .invokestatic _ => (match e.2.2.2 with
    | .inr (.inl c) => Nat.ble (sgF c + 1) (sgF g) && Nat.ble (8 + (sgL c + 11) + sgO c) (sgO g)
    | _ => Nat.ble 1 (sgF g) && Nat.ble (8 + xcpw) (sgO g)) && Nat.beq e.2.2.1 3
  | .invokevirtual _ => (match e.2.2.2 with
    | .inr (.inl c) => Nat.ble (sgF c + 1) (sgF g) && Nat.ble (8 + (sgL c + 11) + sgO c) (sgO g)
    | _ => true) && Nat.beq e.2.2.1 3
  | .invokespecial _ => (match e.2.2.2 with
    | .inr (.inl c) => Nat.ble (sgF c + 1) (sgF g) && Nat.ble (8 + (sgL c + 11) + sgO c) (sgO g)
    | _ => Nat.ble 1 (sgF g) && Nat.ble 20 (sgO g)) && Nat.beq e.2.2.1 3
  | _ => Nat.beq e.2.2.1 1
/-! what the tables must say of an instruction that links -/
def xfl (own : String) (idx ci k : Nat) : Prop := ∃ r, xcl[ci]? = some r ∧ k < r.2.2 ∧ Cond.fieldLink own idx (r.2.1 k).1 (r.2.1 k).2.1 (r.2.1 k).2.2.1 ∈ lw_g
def xmc (c : xSig) : Prop := Cond.initialized (sgN c).cls ∈ lw_g ∧ Cond.code (sgN c) (sgB c) (sgL c) (sgR c) ∈ lw_g ∧ (sgN c).cls ≠ "java/lang/invoke/MethodHandle" ∧ (sgN c).cls ≠ "java/lang/invoke/VarHandle" ∧ (parseMethodDescriptor (sgN c).desc).map (fun d => d.parameters.length) = some (sgP c)
def xms (c : xSig) : Prop := xmc c ∧ Cond.static (sgN c) ∈ lw_g
def xmv (c : xSig) : Prop := xmc c ∧ Cond.instanceMethod (sgN c) ∈ lw_g ∧ Cond.selects (sgN c).cls (sgN c) (sgN c) ∈ lw_g ∧ ∃ ci r, sgV c = some ci ∧ xcl[ci]? = some r ∧ r.1 = (sgN c).cls
def xmi (c : xSig) : Prop := xmc c ∧ Cond.instanceMethod (sgN c) ∈ lw_g ∧ (sgN c).name = "<init>" ∧ sgR c = none
def xfp (g : xSig) (ci k : Nat) : Prop := ∀ r, xcl[ci]? = some r → (r.2.1 k).2.2.2 = true → (sgN g).name = "<init>" ∧ r.1 = (sgN g).cls
def xlk (g : xSig) (e : Nat × xI) : Prop := match e.2.1, e.2.2.2 with
  | .getfield idx, .inl (ci, k) => xfl (sgN g).cls idx ci k
  | .putfield idx, .inl (ci, k) => xfl (sgN g).cls idx ci k ∧ xfp g ci k
  | .new idx, .inl (ci, n) => ∃ r, xcl[ci]? = some r ∧ r.2.2 = n ∧ Cond.classLink (sgN g).cls idx r.1 ∈ lw_g ∧ Cond.instantiable r.1 r.2.2 ∈ lw_g ∧ Cond.initialized r.1 ∈ lw_g
  | .invokestatic idx, .inr (.inl c) => Cond.methodLink (sgN g).cls idx (sgN c) ∈ lw_g ∧ xms c
  | .invokestatic idx, .inl _ => Cond.methodLink (sgN g).cls idx arraycopyName ∈ lw_g ∧ Cond.native arraycopyName ∈ lw_g ∧ Cond.static arraycopyName ∈ lw_g ∧ Cond.initialized "java/lang/System" ∈ lw_g
  | .invokestatic idx, .inr (.inr (.inr (.inr (0, _)))) => Cond.methodLink (sgN g).cls idx Lib.Math.max.name ∈ lw_g ∧ Cond.static Lib.Math.max.name ∈ lw_g ∧ Cond.initialized "java/lang/Math" ∈ lw_g ∧ Cond.code Lib.Math.max.name Lib.Math.max.code 2 (some .int) ∈ lw_g
  | .invokestatic idx, .inr (.inr (.inr (.inr (1, _)))) => Cond.methodLink (sgN g).cls idx Lib.Math.min.name ∈ lw_g ∧ Cond.static Lib.Math.min.name ∈ lw_g ∧ Cond.initialized "java/lang/Math" ∈ lw_g ∧ Cond.code Lib.Math.min.name Lib.Math.min.code 2 (some .int) ∈ lw_g
  | .invokestatic idx, .inr (.inr (.inr (.inr (2, _)))) => Cond.methodLink (sgN g).cls idx Lib.Math.abs.name ∈ lw_g ∧ Cond.static Lib.Math.abs.name ∈ lw_g ∧ Cond.initialized "java/lang/Math" ∈ lw_g ∧ Cond.code Lib.Math.abs.name Lib.Math.abs.code 1 (some .int) ∈ lw_g
  | .invokevirtual idx, .inr (.inl c) => Cond.methodLink (sgN g).cls idx (sgN c) ∈ lw_g ∧ xmv c
  | .invokespecial idx, .inr (.inl c) => Cond.methodLink (sgN g).cls idx (sgN c) ∈ lw_g ∧ xmi c
  | .invokespecial idx, .inl _ => Cond.methodLink (sgN g).cls idx Lib.objectInit ∈ lw_g ∧ Cond.instanceMethod Lib.objectInit ∈ lw_g ∧ Cond.code Lib.objectInit ⟨#[0xb1]⟩ 1 none ∈ lw_g
  | .newarray .int, _ => Cond.arrayClass .int ∈ lw_g
  | .newarray _, _ => False
  | .anewarray idx, _ => Cond.classLink (sgN g).cls idx xrn ∈ lw_g
  | .ldc idx, .inr (.inr (.inl v)) => Cond.constant (sgN g).cls idx v ∈ lw_g
  | .ldc_w idx, .inr (.inr (.inl v)) => Cond.constant (sgN g).cls idx v ∈ lw_g
  | .ldc2_w idx, .inr (.inr (.inr (.inl v))) => Cond.constantLong (sgN g).cls idx v ∈ lw_g
  | _, _ => True
def xOK (g : xSig) (cd : xCd) : Prop := (∀ e ∈ cd, decode (sgB g) e.1 = .ok (e.2.1, e.2.2.1)) ∧ cd.all (xck g) = true ∧ ∀ e ∈ cd, xlk g e
end
section
/-! what the tables say of the classes whose objects there are -/
def xclP (ci : Nat) (r : vw_C) : Prop := (∀ k, k < r.2.2 → parseFieldDescriptor (r.2.1 k).2.2.1 = some (xfty ci k)) ∧ (∀ a, a < r.2.2 → ∀ b, b < r.2.2 → a ≠ b → (r.2.1 a).2.1 ≠ (r.2.1 b).2.1) ∧ (∀ k, k < r.2.2 → (r.2.1 k).1 = r.1) ∧ (∀ k, k < r.2.2 → defaultValue (xfty ci k) = vp_V (xdef ci) k) ∧ (∀ w ∈ u_ws r.1 r.2.1 r.2.2, w ∈ lw_g) ∧ (∀ b, (xdef ci).map (xcv b) = xdef ci)
set_option maxRecDepth 100000 in
theorem xlay_0_0 : u_lay xR0 xT0 0 ∈ lw_g := lw_gm 275 rfl rfl
set_option maxRecDepth 100000 in
theorem xlay_0_1 : u_lay xR0 xT0 1 ∈ lw_g := lw_gm 277 rfl rfl
set_option maxRecDepth 100000 in
theorem xlay_0_2 : u_lay xR0 xT0 2 ∈ lw_g := lw_gm 279 rfl rfl
set_option maxRecDepth 100000 in
theorem xlay_0_3 : u_lay xR0 xT0 3 ∈ lw_g := lw_gm 281 rfl rfl
theorem xcl_0 : xclP 0 (xR0, xT0, 4) := by
  refine ⟨by decide +kernel, by decide +kernel, by decide +kernel, by decide +kernel, fun w hw => ?_, fun b => rfl⟩
  obtain ⟨k, hk, rfl⟩ := List.mem_map.mp hw
  have hk := List.mem_range.mp hk
  match k, hk with
  | 0, _ => exact xlay_0_0
  | 1, _ => exact xlay_0_1
  | 2, _ => exact xlay_0_2
  | 3, _ => exact xlay_0_3
  | z + 4, h => exact absurd h (Nat.not_lt.mpr (Nat.le_add_left 4 z))
set_option maxRecDepth 100000 in
theorem xlay_1_0 : u_lay xR1 xT1 0 ∈ lw_g := lw_gm 185 rfl rfl
set_option maxRecDepth 100000 in
theorem xlay_1_1 : u_lay xR1 xT1 1 ∈ lw_g := lw_gm 187 rfl rfl
set_option maxRecDepth 100000 in
theorem xlay_1_2 : u_lay xR1 xT1 2 ∈ lw_g := lw_gm 189 rfl rfl
theorem xcl_1 : xclP 1 (xR1, xT1, 3) := by
  refine ⟨by decide +kernel, by decide +kernel, by decide +kernel, by decide +kernel, fun w hw => ?_, fun b => rfl⟩
  obtain ⟨k, hk, rfl⟩ := List.mem_map.mp hw
  have hk := List.mem_range.mp hk
  match k, hk with
  | 0, _ => exact xlay_1_0
  | 1, _ => exact xlay_1_1
  | 2, _ => exact xlay_1_2
  | z + 3, h => exact absurd h (Nat.not_lt.mpr (Nat.le_add_left 3 z))
set_option maxRecDepth 100000 in
theorem xlay_2_0 : u_lay xR2 xT2 0 ∈ lw_g := lw_gm 121 rfl rfl
set_option maxRecDepth 100000 in
theorem xlay_2_1 : u_lay xR2 xT2 1 ∈ lw_g := lw_gm 123 rfl rfl
set_option maxRecDepth 100000 in
theorem xlay_2_2 : u_lay xR2 xT2 2 ∈ lw_g := lw_gm 125 rfl rfl
set_option maxRecDepth 100000 in
theorem xlay_2_3 : u_lay xR2 xT2 3 ∈ lw_g := lw_gm 127 rfl rfl
set_option maxRecDepth 100000 in
theorem xlay_2_4 : u_lay xR2 xT2 4 ∈ lw_g := lw_gm 129 rfl rfl
set_option maxRecDepth 100000 in
theorem xlay_2_5 : u_lay xR2 xT2 5 ∈ lw_g := lw_gm 131 rfl rfl
theorem xcl_2 : xclP 2 (xR2, xT2, 6) := by
  refine ⟨by decide +kernel, by decide +kernel, by decide +kernel, by decide +kernel, fun w hw => ?_, fun b => rfl⟩
  obtain ⟨k, hk, rfl⟩ := List.mem_map.mp hw
  have hk := List.mem_range.mp hk
  match k, hk with
  | 0, _ => exact xlay_2_0
  | 1, _ => exact xlay_2_1
  | 2, _ => exact xlay_2_2
  | 3, _ => exact xlay_2_3
  | 4, _ => exact xlay_2_4
  | 5, _ => exact xlay_2_5
  | z + 6, h => exact absurd h (Nat.not_lt.mpr (Nat.le_add_left 6 z))
set_option maxRecDepth 100000 in
theorem xlay_3_0 : u_lay xR3 xT3 0 ∈ lw_g := lw_gm 221 rfl rfl
set_option maxRecDepth 100000 in
theorem xlay_3_1 : u_lay xR3 xT3 1 ∈ lw_g := lw_gm 223 rfl rfl
set_option maxRecDepth 100000 in
theorem xlay_3_2 : u_lay xR3 xT3 2 ∈ lw_g := lw_gm 225 rfl rfl
theorem xcl_3 : xclP 3 (xR3, xT3, 3) := by
  refine ⟨by decide +kernel, by decide +kernel, by decide +kernel, by decide +kernel, fun w hw => ?_, fun b => rfl⟩
  obtain ⟨k, hk, rfl⟩ := List.mem_map.mp hw
  have hk := List.mem_range.mp hk
  match k, hk with
  | 0, _ => exact xlay_3_0
  | 1, _ => exact xlay_3_1
  | 2, _ => exact xlay_3_2
  | z + 3, h => exact absurd h (Nat.not_lt.mpr (Nat.le_add_left 3 z))
set_option maxRecDepth 100000 in
theorem xlay_4_0 : u_lay xR4 xT4 0 ∈ lw_g := lw_gm 252 rfl rfl
set_option maxRecDepth 100000 in
theorem xlay_4_1 : u_lay xR4 xT4 1 ∈ lw_g := lw_gm 254 rfl rfl
set_option maxRecDepth 100000 in
theorem xlay_4_2 : u_lay xR4 xT4 2 ∈ lw_g := lw_gm 256 rfl rfl
set_option maxRecDepth 100000 in
theorem xlay_4_3 : u_lay xR4 xT4 3 ∈ lw_g := lw_gm 258 rfl rfl
set_option maxRecDepth 100000 in
theorem xlay_4_4 : u_lay xR4 xT4 4 ∈ lw_g := lw_gm 260 rfl rfl
set_option maxRecDepth 100000 in
theorem xlay_4_5 : u_lay xR4 xT4 5 ∈ lw_g := lw_gm 262 rfl rfl
theorem xcl_4 : xclP 4 (xR4, xT4, 6) := by
  refine ⟨by decide +kernel, by decide +kernel, by decide +kernel, by decide +kernel, fun w hw => ?_, fun b => rfl⟩
  obtain ⟨k, hk, rfl⟩ := List.mem_map.mp hw
  have hk := List.mem_range.mp hk
  match k, hk with
  | 0, _ => exact xlay_4_0
  | 1, _ => exact xlay_4_1
  | 2, _ => exact xlay_4_2
  | 3, _ => exact xlay_4_3
  | 4, _ => exact xlay_4_4
  | 5, _ => exact xlay_4_5
  | z + 6, h => exact absurd h (Nat.not_lt.mpr (Nat.le_add_left 6 z))
set_option maxRecDepth 100000 in
theorem xlay_5_0 : u_lay xR5 xT5 0 ∈ lw_g := lw_gm 163 rfl rfl
set_option maxRecDepth 100000 in
theorem xlay_5_1 : u_lay xR5 xT5 1 ∈ lw_g := lw_gm 165 rfl rfl
set_option maxRecDepth 100000 in
theorem xlay_5_2 : u_lay xR5 xT5 2 ∈ lw_g := lw_gm 167 rfl rfl
set_option maxRecDepth 100000 in
theorem xlay_5_3 : u_lay xR5 xT5 3 ∈ lw_g := lw_gm 169 rfl rfl
theorem xcl_5 : xclP 5 (xR5, xT5, 4) := by
  refine ⟨by decide +kernel, by decide +kernel, by decide +kernel, by decide +kernel, fun w hw => ?_, fun b => rfl⟩
  obtain ⟨k, hk, rfl⟩ := List.mem_map.mp hw
  have hk := List.mem_range.mp hk
  match k, hk with
  | 0, _ => exact xlay_5_0
  | 1, _ => exact xlay_5_1
  | 2, _ => exact xlay_5_2
  | 3, _ => exact xlay_5_3
  | z + 4, h => exact absurd h (Nat.not_lt.mpr (Nat.le_add_left 4 z))
set_option maxRecDepth 100000 in
theorem xlay_6_0 : u_lay xR6 xT6 0 ∈ lw_g := lw_gm 203 rfl rfl
set_option maxRecDepth 100000 in
theorem xlay_6_1 : u_lay xR6 xT6 1 ∈ lw_g := lw_gm 205 rfl rfl
theorem xcl_6 : xclP 6 (xR6, xT6, 2) := by
  refine ⟨by decide +kernel, by decide +kernel, by decide +kernel, by decide +kernel, fun w hw => ?_, fun b => rfl⟩
  obtain ⟨k, hk, rfl⟩ := List.mem_map.mp hw
  have hk := List.mem_range.mp hk
  match k, hk with
  | 0, _ => exact xlay_6_0
  | 1, _ => exact xlay_6_1
  | z + 2, h => exact absurd h (Nat.not_lt.mpr (Nat.le_add_left 2 z))
set_option maxRecDepth 100000 in
theorem xlay_7_0 : u_lay xR7 xT7 0 ∈ lw_g := lw_gm 236 rfl rfl
theorem xcl_7 : xclP 7 (xR7, xT7, 1) := by
  refine ⟨by decide +kernel, by decide +kernel, by decide +kernel, by decide +kernel, fun w hw => ?_, fun b => rfl⟩
  obtain ⟨k, hk, rfl⟩ := List.mem_map.mp hw
  have hk := List.mem_range.mp hk
  match k, hk with
  | 0, _ => exact xlay_7_0
  | z + 1, h => exact absurd h (Nat.not_lt.mpr (Nat.le_add_left 1 z))
set_option maxRecDepth 100000 in
theorem xlay_8_0 : u_lay xR8 xT8 0 ∈ lw_g := lw_gm 292 rfl rfl
set_option maxRecDepth 100000 in
theorem xlay_8_1 : u_lay xR8 xT8 1 ∈ lw_g := lw_gm 294 rfl rfl
set_option maxRecDepth 100000 in
theorem xlay_8_2 : u_lay xR8 xT8 2 ∈ lw_g := lw_gm 296 rfl rfl
set_option maxRecDepth 100000 in
theorem xlay_8_3 : u_lay xR8 xT8 3 ∈ lw_g := lw_gm 298 rfl rfl
set_option maxRecDepth 100000 in
theorem xlay_8_4 : u_lay xR8 xT8 4 ∈ lw_g := lw_gm 300 rfl rfl
set_option maxRecDepth 100000 in
theorem xlay_8_5 : u_lay xR8 xT8 5 ∈ lw_g := lw_gm 302 rfl rfl
set_option maxRecDepth 100000 in
theorem xlay_8_6 : u_lay xR8 xT8 6 ∈ lw_g := lw_gm 304 rfl rfl
set_option maxRecDepth 100000 in
theorem xlay_8_7 : u_lay xR8 xT8 7 ∈ lw_g := lw_gm 306 rfl rfl
theorem xcl_8 : xclP 8 (xR8, xT8, 8) := by
  refine ⟨by decide +kernel, by decide +kernel, by decide +kernel, by decide +kernel, fun w hw => ?_, fun b => rfl⟩
  obtain ⟨k, hk, rfl⟩ := List.mem_map.mp hw
  have hk := List.mem_range.mp hk
  match k, hk with
  | 0, _ => exact xlay_8_0
  | 1, _ => exact xlay_8_1
  | 2, _ => exact xlay_8_2
  | 3, _ => exact xlay_8_3
  | 4, _ => exact xlay_8_4
  | 5, _ => exact xlay_8_5
  | 6, _ => exact xlay_8_6
  | 7, _ => exact xlay_8_7
  | z + 8, h => exact absurd h (Nat.not_lt.mpr (Nat.le_add_left 8 z))
set_option maxRecDepth 100000 in
theorem xlay_9_0 : u_lay xR9 xT9 0 ∈ lw_g := lw_gm 838 rfl rfl
set_option maxRecDepth 100000 in
theorem xlay_9_1 : u_lay xR9 xT9 1 ∈ lw_g := lw_gm 840 rfl rfl
set_option maxRecDepth 100000 in
theorem xlay_9_2 : u_lay xR9 xT9 2 ∈ lw_g := lw_gm 842 rfl rfl
set_option maxRecDepth 100000 in
theorem xlay_9_3 : u_lay xR9 xT9 3 ∈ lw_g := lw_gm 844 rfl rfl
set_option maxRecDepth 100000 in
theorem xlay_9_4 : u_lay xR9 xT9 4 ∈ lw_g := lw_gm 846 rfl rfl
set_option maxRecDepth 100000 in
theorem xlay_9_5 : u_lay xR9 xT9 5 ∈ lw_g := lw_gm 848 rfl rfl
set_option maxRecDepth 100000 in
theorem xlay_9_6 : u_lay xR9 xT9 6 ∈ lw_g := lw_gm 850 rfl rfl
set_option maxRecDepth 100000 in
theorem xlay_9_7 : u_lay xR9 xT9 7 ∈ lw_g := lw_gm 852 rfl rfl
set_option maxRecDepth 100000 in
theorem xlay_9_8 : u_lay xR9 xT9 8 ∈ lw_g := lw_gm 854 rfl rfl
set_option maxRecDepth 100000 in
theorem xlay_9_9 : u_lay xR9 xT9 9 ∈ lw_g := lw_gm 856 rfl rfl
set_option maxRecDepth 100000 in
theorem xlay_9_10 : u_lay xR9 xT9 10 ∈ lw_g := lw_gm 858 rfl rfl
set_option maxRecDepth 100000 in
theorem xlay_9_11 : u_lay xR9 xT9 11 ∈ lw_g := lw_gm 860 rfl rfl
set_option maxRecDepth 100000 in
theorem xlay_9_12 : u_lay xR9 xT9 12 ∈ lw_g := lw_gm 862 rfl rfl
set_option maxRecDepth 100000 in
theorem xlay_9_13 : u_lay xR9 xT9 13 ∈ lw_g := lw_gm 864 rfl rfl
set_option maxRecDepth 100000 in
theorem xlay_9_14 : u_lay xR9 xT9 14 ∈ lw_g := lw_gm 866 rfl rfl
set_option maxRecDepth 100000 in
theorem xlay_9_15 : u_lay xR9 xT9 15 ∈ lw_g := lw_gm 868 rfl rfl
set_option maxRecDepth 100000 in
theorem xlay_9_16 : u_lay xR9 xT9 16 ∈ lw_g := lw_gm 870 rfl rfl
set_option maxRecDepth 100000 in
theorem xlay_9_17 : u_lay xR9 xT9 17 ∈ lw_g := lw_gm 872 rfl rfl
theorem xcl_9 : xclP 9 (xR9, xT9, 18) := by
  refine ⟨by decide +kernel, by decide +kernel, by decide +kernel, by decide +kernel, fun w hw => ?_, fun b => rfl⟩
  obtain ⟨k, hk, rfl⟩ := List.mem_map.mp hw
  have hk := List.mem_range.mp hk
  match k, hk with
  | 0, _ => exact xlay_9_0
  | 1, _ => exact xlay_9_1
  | 2, _ => exact xlay_9_2
  | 3, _ => exact xlay_9_3
  | 4, _ => exact xlay_9_4
  | 5, _ => exact xlay_9_5
  | 6, _ => exact xlay_9_6
  | 7, _ => exact xlay_9_7
  | 8, _ => exact xlay_9_8
  | 9, _ => exact xlay_9_9
  | 10, _ => exact xlay_9_10
  | 11, _ => exact xlay_9_11
  | 12, _ => exact xlay_9_12
  | 13, _ => exact xlay_9_13
  | 14, _ => exact xlay_9_14
  | 15, _ => exact xlay_9_15
  | 16, _ => exact xlay_9_16
  | 17, _ => exact xlay_9_17
  | z + 18, h => exact absurd h (Nat.not_lt.mpr (Nat.le_add_left 18 z))
theorem xcl_ok (ci : Nat) (r : vw_C) (h : xcl[ci]? = some r) : xclP ci r := by
  match ci, h with
  | 0, h => cases h; exact xcl_0
  | 1, h => cases h; exact xcl_1
  | 2, h => cases h; exact xcl_2
  | 3, h => cases h; exact xcl_3
  | 4, h => cases h; exact xcl_4
  | 5, h => cases h; exact xcl_5
  | 6, h => cases h; exact xcl_6
  | 7, h => cases h; exact xcl_7
  | 8, h => cases h; exact xcl_8
  | 9, h => cases h; exact xcl_9
  | n + 10, h => cases h
end
section
/-! SOUNDNESS OF A STEP over the kit's W -/
section XS
variable {lim : Nat × Nat} {g : xSig} {Q : Option Value → xHp → Prop} {pc : Nat} {L : xLo} {st : List Value} {h : xHp} {len : Nat} {lk : xL} {k : xK}
/-- an instruction that leaves the heap as it is -/
theorem xa_of {pc' : Nat} {L' : xLo} {st' : List Value}
    (step : ∀ (p : Program) (l : Launch) (e : Env) (R : Room) (s : State) (m : MethodId) (args : Array Value) (below : List Frame) (meth : Method) (c : Code) (H : Heap) (locs : List Loc) (cells slots : Nat) (Qw : State → Prop) (ls : Array Slot) (b : Nat),
      xFix p s m args meth c g → lv_has ls (sgL g) (xcL b L) → (∀ ls' : Array Slot, lv_has ls' (sgL g) (xcL b L') → W p l e R s m args below meth c H locs cells slots Qw (F0 m pc' ls' (st'.map (xcv b)))) → W p l e R s m args below meth c H locs cells slots Qw (F0 m pc ls (st.map (xcv b))))
    (kk : xAt lim g Q pc' L' st' h) : xAt lim g Q pc L st h :=
  fun p l e s m args below meth c D cI cR b N0 S0 H locs ls X C hl => step p l e _ s m args below meth c H locs _ _ _ ls b X hl (fun ls' hl' => kk p l e s m args below meth c D cI cR b N0 S0 H locs ls' X C hl')
theorem xlv_el {f : Int32 → Prop} (h : xlv lk f) : ∃ v, lk = .inr (.inr (.inl v)) ∧ f v := by
  unfold xlv at h
  split at h
  · exact ⟨_, rfl, h⟩
  · exact h.elim
theorem xlw_el {f : Int64 → Prop} (h : xlw lk f) : ∃ v, lk = .inr (.inr (.inr (.inl v))) ∧ f v := by
  unfold xlw at h
  split at h
  · exact ⟨_, rfl, h⟩
  · exact h.elim
theorem xlf_el {f : Nat → Nat → Prop} (h : xlf lk f) : ∃ a b, lk = .inl (a, b) ∧ f a b := by
  unfold xlf at h
  split at h
  · exact ⟨_, _, rfl, h⟩
  · exact h.elim
theorem bif_el {b : Bool} {p : Prop} (h : bif b then p else False) : b = true ∧ p := by
  cases b with
  | true => exact ⟨rfl, h⟩
  | false => exact h.elim
theorem and_el {a b : Bool} (h : (a && b) = true) : a = true ∧ b = true := by
  cases a <;> cases b <;> first | exact ⟨rfl, rfl⟩ | cases h

theorem xs_iconst (hk : ∀ pc L st h, k pc L st h → xAt lim g Q pc L st h) {n : Int} (hd : decode (sgB g) pc = .ok (.iconst n, len)) (hc : xck g (pc, .iconst n, len, lk) = true) (hs : xstep lim g k Q pc L st h (.iconst n) len lk) : xAt lim g Q pc L st h := by
  obtain ⟨v, rfl, hs⟩ := xlv_el hs
  obtain ⟨h1, h2⟩ := and_el hc
  have h2 := nb_eq h2
  subst h2
  exact xa_of (fun p l e R s m args below meth c H locs cells slots Qw ls b X hl kk => lv_iconst X.1 X.2.1 hd (of_decide_eq_true h1) (kk ls hl)) (hk _ _ _ _ hs)
theorem xs_bipush (hk : ∀ pc L st h, k pc L st h → xAt lim g Q pc L st h) {n : Int} (hd : decode (sgB g) pc = .ok (.bipush n, len)) (hc : xck g (pc, .bipush n, len, lk) = true) (hs : xstep lim g k Q pc L st h (.bipush n) len lk) : xAt lim g Q pc L st h := by
  obtain ⟨v, rfl, hs⟩ := xlv_el hs
  obtain ⟨h1, h2⟩ := and_el hc
  have h2 := nb_eq h2
  subst h2
  exact xa_of (fun p l e R s m args below meth c H locs cells slots Qw ls b X hl kk => lv_bipush X.1 X.2.1 hd (of_decide_eq_true h1) (kk ls hl)) (hk _ _ _ _ hs)
theorem xs_sipush (hk : ∀ pc L st h, k pc L st h → xAt lim g Q pc L st h) {n : Int} (hd : decode (sgB g) pc = .ok (.sipush n, len)) (hc : xck g (pc, .sipush n, len, lk) = true) (hs : xstep lim g k Q pc L st h (.sipush n) len lk) : xAt lim g Q pc L st h := by
  obtain ⟨v, rfl, hs⟩ := xlv_el hs
  obtain ⟨h1, h2⟩ := and_el hc
  have h2 := nb_eq h2
  subst h2
  exact xa_of (fun p l e R s m args below meth c H locs cells slots Qw ls b X hl kk => lv_sipush X.1 X.2.1 hd (of_decide_eq_true h1) (kk ls hl)) (hk _ _ _ _ hs)
theorem xs_ldc (hk : ∀ pc L st h, k pc L st h → xAt lim g Q pc L st h) {n : Nat} (hd : decode (sgB g) pc = .ok (.ldc n, len)) (hc : xck g (pc, .ldc n, len, lk) = true) (hq : xlk g (pc, .ldc n, len, lk)) (hs : xstep lim g k Q pc L st h (.ldc n) len lk) : xAt lim g Q pc L st h := by
  obtain ⟨v, rfl, hs⟩ := xlv_el hs
  have h2 := nb_eq hc
  subst h2
  exact xa_of (fun p l e R s m args below meth c H locs cells slots Qw ls b X hl kk => lv_ldc X.1 X.2.1 X.2.2.2.2.2.1 (X.2.2.2.2.2.2.2 _ (List.mem_cons_of_mem _ hq)) hd (kk ls hl)) (hk _ _ _ _ hs)
theorem xs_ldc_w (hk : ∀ pc L st h, k pc L st h → xAt lim g Q pc L st h) {n : Nat} (hd : decode (sgB g) pc = .ok (.ldc_w n, len)) (hc : xck g (pc, .ldc_w n, len, lk) = true) (hq : xlk g (pc, .ldc_w n, len, lk)) (hs : xstep lim g k Q pc L st h (.ldc_w n) len lk) : xAt lim g Q pc L st h := by
  obtain ⟨v, rfl, hs⟩ := xlv_el hs
  have h2 := nb_eq hc
  subst h2
  exact xa_of (fun p l e R s m args below meth c H locs cells slots Qw ls b X hl kk => lv_ldcw X.1 X.2.1 X.2.2.2.2.2.1 (X.2.2.2.2.2.2.2 _ (List.mem_cons_of_mem _ hq)) hd (kk ls hl)) (hk _ _ _ _ hs)
theorem xs_ldc2_w (hk : ∀ pc L st h, k pc L st h → xAt lim g Q pc L st h) {n : Nat} (hd : decode (sgB g) pc = .ok (.ldc2_w n, len)) (hc : xck g (pc, .ldc2_w n, len, lk) = true) (hq : xlk g (pc, .ldc2_w n, len, lk)) (hs : xstep lim g k Q pc L st h (.ldc2_w n) len lk) : xAt lim g Q pc L st h := by
  obtain ⟨v, rfl, hs⟩ := xlw_el hs
  have h2 := nb_eq hc
  subst h2
  exact xa_of (fun p l e R s m args below meth c H locs cells slots Qw ls b X hl kk => lv_ldc2 X.1 X.2.1 X.2.2.2.2.2.1 (X.2.2.2.2.2.2.2 _ (List.mem_cons_of_mem _ hq)) hd (kk ls hl)) (hk _ _ _ _ hs)
theorem xs_iload (hk : ∀ pc L st h, k pc L st h → xAt lim g Q pc L st h) {i : Nat} (hd : decode (sgB g) pc = .ok (.iload i, len)) (hc : xck g (pc, .iload i, len, lk) = true) (hs : xstep lim g k Q pc L st h (.iload i) len lk) : xAt lim g Q pc L st h := by
  obtain ⟨x, hx, hs⟩ := xgi_el hs
  have h2 := nb_eq hc
  subst h2
  exact xa_of (fun p l e R s m args below meth c H locs cells slots Qw ls b X hl kk => lv_iload X.1 X.2.1 hd (xl_get hl hx) (kk ls hl)) (hk _ _ _ _ hs)
theorem xs_iload_n (hk : ∀ pc L st h, k pc L st h → xAt lim g Q pc L st h) {i : Fin 4} (hd : decode (sgB g) pc = .ok (.iload_n i, len)) (hc : xck g (pc, .iload_n i, len, lk) = true) (hs : xstep lim g k Q pc L st h (.iload_n i) len lk) : xAt lim g Q pc L st h := by
  obtain ⟨x, hx, hs⟩ := xgi_el hs
  have h2 := nb_eq hc
  subst h2
  exact xa_of (fun p l e R s m args below meth c H locs cells slots Qw ls b X hl kk => lv_iload_n X.1 X.2.1 hd rfl (xl_get hl hx) (kk ls hl)) (hk _ _ _ _ hs)
theorem xs_lload (hk : ∀ pc L st h, k pc L st h → xAt lim g Q pc L st h) {i : Nat} (hd : decode (sgB g) pc = .ok (.lload i, len)) (hc : xck g (pc, .lload i, len, lk) = true) (hs : xstep lim g k Q pc L st h (.lload i) len lk) : xAt lim g Q pc L st h := by
  obtain ⟨x, hx, hs⟩ := xgl_el hs
  have h2 := nb_eq hc
  subst h2
  exact xa_of (fun p l e R s m args below meth c H locs cells slots Qw ls b X hl kk => lv_lload X.1 X.2.1 hd (xl_get hl hx) (kk ls hl)) (hk _ _ _ _ hs)
theorem xs_lload_n (hk : ∀ pc L st h, k pc L st h → xAt lim g Q pc L st h) {i : Fin 4} (hd : decode (sgB g) pc = .ok (.lload_n i, len)) (hc : xck g (pc, .lload_n i, len, lk) = true) (hs : xstep lim g k Q pc L st h (.lload_n i) len lk) : xAt lim g Q pc L st h := by
  obtain ⟨x, hx, hs⟩ := xgl_el hs
  have h2 := nb_eq hc
  subst h2
  exact xa_of (fun p l e R s m args below meth c H locs cells slots Qw ls b X hl kk => lv_lload_n X.1 X.2.1 hd rfl (xl_get hl hx) (kk ls hl)) (hk _ _ _ _ hs)
theorem xs_aload (hk : ∀ pc L st h, k pc L st h → xAt lim g Q pc L st h) {i : Nat} (hd : decode (sgB g) pc = .ok (.aload i, len)) (hc : xck g (pc, .aload i, len, lk) = true) (hs : xstep lim g k Q pc L st h (.aload i) len lk) : xAt lim g Q pc L st h := by
  obtain ⟨x, hx, hs⟩ := xgr_el hs
  have h2 := nb_eq hc
  subst h2
  exact xa_of (fun p l e R s m args below meth c H locs cells slots Qw ls b X hl kk => lv_aload X.1 X.2.1 hd (xl_get hl hx) (kk ls hl)) (hk _ _ _ _ hs)
theorem xs_aload_n (hk : ∀ pc L st h, k pc L st h → xAt lim g Q pc L st h) {i : Fin 4} (hd : decode (sgB g) pc = .ok (.aload_n i, len)) (hc : xck g (pc, .aload_n i, len, lk) = true) (hs : xstep lim g k Q pc L st h (.aload_n i) len lk) : xAt lim g Q pc L st h := by
  obtain ⟨x, hx, hs⟩ := xgr_el hs
  have h2 := nb_eq hc
  subst h2
  exact xa_of (fun p l e R s m args below meth c H locs cells slots Qw ls b X hl kk => lv_aload_n X.1 X.2.1 hd rfl (xl_get hl hx) (kk ls hl)) (hk _ _ _ _ hs)
theorem xs_istore (hk : ∀ pc L st h, k pc L st h → xAt lim g Q pc L st h) {i : Nat} (hd : decode (sgB g) pc = .ok (.istore i, len)) (hc : xck g (pc, .istore i, len, lk) = true) (hs : xstep lim g k Q pc L st h (.istore i) len lk) : xAt lim g Q pc L st h := by
  obtain ⟨x, r, rfl, hs⟩ := xpi_el hs
  obtain ⟨h1, h2⟩ := and_el hc
  have h2 := nb_eq h2
  subst h2
  exact xa_of (fun p l e R s m args below meth c H locs cells slots Qw ls b X hl kk => lv_istore X.1 X.2.1 hd hl (Nat.le_of_ble_eq_true h1) rfl (fun ls' h' => kk ls' (xl_of h' xl_put1))) (hk _ _ _ _ hs)
theorem xs_istore_n (hk : ∀ pc L st h, k pc L st h → xAt lim g Q pc L st h) {i : Fin 4} (hd : decode (sgB g) pc = .ok (.istore_n i, len)) (hc : xck g (pc, .istore_n i, len, lk) = true) (hs : xstep lim g k Q pc L st h (.istore_n i) len lk) : xAt lim g Q pc L st h := by
  obtain ⟨x, r, rfl, hs⟩ := xpi_el hs
  obtain ⟨h1, h2⟩ := and_el hc
  have h2 := nb_eq h2
  subst h2
  exact xa_of (fun p l e R s m args below meth c H locs cells slots Qw ls b X hl kk => lv_istore_n X.1 X.2.1 hd rfl hl (Nat.le_of_ble_eq_true h1) rfl (fun ls' h' => kk ls' (xl_of h' xl_put1))) (hk _ _ _ _ hs)
theorem xs_lstore (hk : ∀ pc L st h, k pc L st h → xAt lim g Q pc L st h) {i : Nat} (hd : decode (sgB g) pc = .ok (.lstore i, len)) (hc : xck g (pc, .lstore i, len, lk) = true) (hs : xstep lim g k Q pc L st h (.lstore i) len lk) : xAt lim g Q pc L st h := by
  obtain ⟨x, r, rfl, hs⟩ := xpl_el hs
  obtain ⟨h1, h2⟩ := and_el hc
  have h2 := nb_eq h2
  subst h2
  exact xa_of (fun p l e R s m args below meth c H locs cells slots Qw ls b X hl kk => lv_lstore X.1 X.2.1 hd hl (Nat.le_of_ble_eq_true h1) rfl (fun ls' h' => kk ls' (xl_of h' xl_put2))) (hk _ _ _ _ hs)
theorem xs_lstore_n (hk : ∀ pc L st h, k pc L st h → xAt lim g Q pc L st h) {i : Fin 4} (hd : decode (sgB g) pc = .ok (.lstore_n i, len)) (hc : xck g (pc, .lstore_n i, len, lk) = true) (hs : xstep lim g k Q pc L st h (.lstore_n i) len lk) : xAt lim g Q pc L st h := by
  obtain ⟨x, r, rfl, hs⟩ := xpl_el hs
  obtain ⟨h1, h2⟩ := and_el hc
  have h2 := nb_eq h2
  subst h2
  exact xa_of (fun p l e R s m args below meth c H locs cells slots Qw ls b X hl kk => lv_lstore_n X.1 X.2.1 hd rfl hl (Nat.le_of_ble_eq_true h1) rfl (fun ls' h' => kk ls' (xl_of h' xl_put2))) (hk _ _ _ _ hs)
theorem xs_astore (hk : ∀ pc L st h, k pc L st h → xAt lim g Q pc L st h) {i : Nat} (hd : decode (sgB g) pc = .ok (.astore i, len)) (hc : xck g (pc, .astore i, len, lk) = true) (hs : xstep lim g k Q pc L st h (.astore i) len lk) : xAt lim g Q pc L st h := by
  obtain ⟨x, r, rfl, hs⟩ := xpr_el hs
  obtain ⟨h1, h2⟩ := and_el hc
  have h2 := nb_eq h2
  subst h2
  exact xa_of (fun p l e R s m args below meth c H locs cells slots Qw ls b X hl kk => lv_astore X.1 X.2.1 hd hl (Nat.le_of_ble_eq_true h1) rfl (fun ls' h' => kk ls' (xl_of h' xl_put1))) (hk _ _ _ _ hs)
theorem xs_astore_n (hk : ∀ pc L st h, k pc L st h → xAt lim g Q pc L st h) {i : Fin 4} (hd : decode (sgB g) pc = .ok (.astore_n i, len)) (hc : xck g (pc, .astore_n i, len, lk) = true) (hs : xstep lim g k Q pc L st h (.astore_n i) len lk) : xAt lim g Q pc L st h := by
  obtain ⟨x, r, rfl, hs⟩ := xpr_el hs
  obtain ⟨h1, h2⟩ := and_el hc
  have h2 := nb_eq h2
  subst h2
  exact xa_of (fun p l e R s m args below meth c H locs cells slots Qw ls b X hl kk => lv_astore_n X.1 X.2.1 hd rfl hl (Nat.le_of_ble_eq_true h1) rfl (fun ls' h' => kk ls' (xl_of h' xl_put1))) (hk _ _ _ _ hs)
theorem xs_iinc (hk : ∀ pc L st h, k pc L st h → xAt lim g Q pc L st h) {i : Nat} {n : Int} (hd : decode (sgB g) pc = .ok (.iinc i n, len)) (hc : xck g (pc, .iinc i n, len, lk) = true) (hs : xstep lim g k Q pc L st h (.iinc i n) len lk) : xAt lim g Q pc L st h := by
  obtain ⟨v, rfl, hs⟩ := xlv_el hs
  obtain ⟨x, hx, hs⟩ := xgi_el hs
  obtain ⟨h01, h2⟩ := and_el hc
  obtain ⟨h0, h1⟩ := and_el h01
  have h2 := nb_eq h2
  subst h2
  have h0 : Int32.ofInt n = v := of_decide_eq_true h0
  subst h0
  refine xa_of (fun p l e R s m args below meth c H locs cells slots Qw ls b X hl kk => ?_) (hk _ _ _ _ hs)
  obtain ⟨q, hq⟩ := List.getElem?_of_mem (List.mem_map.mpr ⟨(i, .int x), xget_mem hx, rfl⟩ : (i, xcv b (.int x)) ∈ xcL b L)
  exact lv_iinc X.1 X.2.1 hd hl hq rfl (Nat.le_of_ble_eq_true h1) rfl (fun ls' h' => kk ls' (xl_of h' xl_put1))
theorem xs_iadd (hk : ∀ pc L st h, k pc L st h → xAt lim g Q pc L st h) (hd : decode (sgB g) pc = .ok (.iadd, len)) (hc : xck g (pc, .iadd, len, lk) = true) (hs : xstep lim g k Q pc L st h .iadd len lk) : xAt lim g Q pc L st h := by
  obtain ⟨y, r, rfl, hs⟩ := xpi_el hs
  obtain ⟨x, r, rfl, hs⟩ := xpi_el hs
  have h2 := nb_eq hc
  subst h2
  exact xa_of (fun p l e R s m args below meth c H locs cells slots Qw ls b X hl kk => lv_iadd X.1 X.2.1 hd (kk ls hl)) (hk _ _ _ _ hs)
theorem xs_isub (hk : ∀ pc L st h, k pc L st h → xAt lim g Q pc L st h) (hd : decode (sgB g) pc = .ok (.isub, len)) (hc : xck g (pc, .isub, len, lk) = true) (hs : xstep lim g k Q pc L st h .isub len lk) : xAt lim g Q pc L st h := by
  obtain ⟨y, r, rfl, hs⟩ := xpi_el hs
  obtain ⟨x, r, rfl, hs⟩ := xpi_el hs
  have h2 := nb_eq hc
  subst h2
  exact xa_of (fun p l e R s m args below meth c H locs cells slots Qw ls b X hl kk => lv_isub X.1 X.2.1 hd (kk ls hl)) (hk _ _ _ _ hs)
theorem xs_imul (hk : ∀ pc L st h, k pc L st h → xAt lim g Q pc L st h) (hd : decode (sgB g) pc = .ok (.imul, len)) (hc : xck g (pc, .imul, len, lk) = true) (hs : xstep lim g k Q pc L st h .imul len lk) : xAt lim g Q pc L st h := by
  obtain ⟨y, r, rfl, hs⟩ := xpi_el hs
  obtain ⟨x, r, rfl, hs⟩ := xpi_el hs
  have h2 := nb_eq hc
  subst h2
  exact xa_of (fun p l e R s m args below meth c H locs cells slots Qw ls b X hl kk => lv_imul X.1 X.2.1 hd (kk ls hl)) (hk _ _ _ _ hs)
theorem xs_iand (hk : ∀ pc L st h, k pc L st h → xAt lim g Q pc L st h) (hd : decode (sgB g) pc = .ok (.iand, len)) (hc : xck g (pc, .iand, len, lk) = true) (hs : xstep lim g k Q pc L st h .iand len lk) : xAt lim g Q pc L st h := by
  obtain ⟨y, r, rfl, hs⟩ := xpi_el hs
  obtain ⟨x, r, rfl, hs⟩ := xpi_el hs
  have h2 := nb_eq hc
  subst h2
  exact xa_of (fun p l e R s m args below meth c H locs cells slots Qw ls b X hl kk => lv_iand X.1 X.2.1 hd (kk ls hl)) (hk _ _ _ _ hs)
theorem xs_ior (hk : ∀ pc L st h, k pc L st h → xAt lim g Q pc L st h) (hd : decode (sgB g) pc = .ok (.ior, len)) (hc : xck g (pc, .ior, len, lk) = true) (hs : xstep lim g k Q pc L st h .ior len lk) : xAt lim g Q pc L st h := by
  obtain ⟨y, r, rfl, hs⟩ := xpi_el hs
  obtain ⟨x, r, rfl, hs⟩ := xpi_el hs
  have h2 := nb_eq hc
  subst h2
  exact xa_of (fun p l e R s m args below meth c H locs cells slots Qw ls b X hl kk => lv_ior X.1 X.2.1 hd (kk ls hl)) (hk _ _ _ _ hs)
theorem xs_ixor (hk : ∀ pc L st h, k pc L st h → xAt lim g Q pc L st h) (hd : decode (sgB g) pc = .ok (.ixor, len)) (hc : xck g (pc, .ixor, len, lk) = true) (hs : xstep lim g k Q pc L st h .ixor len lk) : xAt lim g Q pc L st h := by
  obtain ⟨y, r, rfl, hs⟩ := xpi_el hs
  obtain ⟨x, r, rfl, hs⟩ := xpi_el hs
  have h2 := nb_eq hc
  subst h2
  exact xa_of (fun p l e R s m args below meth c H locs cells slots Qw ls b X hl kk => lv_ixor X.1 X.2.1 hd (kk ls hl)) (hk _ _ _ _ hs)
theorem xs_ishl (hk : ∀ pc L st h, k pc L st h → xAt lim g Q pc L st h) (hd : decode (sgB g) pc = .ok (.ishl, len)) (hc : xck g (pc, .ishl, len, lk) = true) (hs : xstep lim g k Q pc L st h .ishl len lk) : xAt lim g Q pc L st h := by
  obtain ⟨y, r, rfl, hs⟩ := xpi_el hs
  obtain ⟨x, r, rfl, hs⟩ := xpi_el hs
  have h2 := nb_eq hc
  subst h2
  exact xa_of (fun p l e R s m args below meth c H locs cells slots Qw ls b X hl kk => lv_ishl X.1 X.2.1 hd (kk ls hl)) (hk _ _ _ _ hs)
theorem xs_ishr (hk : ∀ pc L st h, k pc L st h → xAt lim g Q pc L st h) (hd : decode (sgB g) pc = .ok (.ishr, len)) (hc : xck g (pc, .ishr, len, lk) = true) (hs : xstep lim g k Q pc L st h .ishr len lk) : xAt lim g Q pc L st h := by
  obtain ⟨y, r, rfl, hs⟩ := xpi_el hs
  obtain ⟨x, r, rfl, hs⟩ := xpi_el hs
  have h2 := nb_eq hc
  subst h2
  exact xa_of (fun p l e R s m args below meth c H locs cells slots Qw ls b X hl kk => lv_ishr X.1 X.2.1 hd (kk ls hl)) (hk _ _ _ _ hs)
theorem xs_iushr (hk : ∀ pc L st h, k pc L st h → xAt lim g Q pc L st h) (hd : decode (sgB g) pc = .ok (.iushr, len)) (hc : xck g (pc, .iushr, len, lk) = true) (hs : xstep lim g k Q pc L st h .iushr len lk) : xAt lim g Q pc L st h := by
  obtain ⟨y, r, rfl, hs⟩ := xpi_el hs
  obtain ⟨x, r, rfl, hs⟩ := xpi_el hs
  have h2 := nb_eq hc
  subst h2
  exact xa_of (fun p l e R s m args below meth c H locs cells slots Qw ls b X hl kk => lv_iushr X.1 X.2.1 hd rfl (kk ls hl)) (hk _ _ _ _ hs)
theorem xs_idiv (hk : ∀ pc L st h, k pc L st h → xAt lim g Q pc L st h) (hd : decode (sgB g) pc = .ok (.idiv, len)) (hc : xck g (pc, .idiv, len, lk) = true) (hs : xstep lim g k Q pc L st h .idiv len lk) : xAt lim g Q pc L st h := by
  obtain ⟨y, r, rfl, hs⟩ := xpi_el hs
  obtain ⟨x, r, rfl, hs⟩ := xpi_el hs
  obtain ⟨hn, hs⟩ := hs
  have h2 := nb_eq hc
  subst h2
  exact xa_of (fun p l e R s m args below meth c H locs cells slots Qw ls b X hl kk => lv_idiv X.1 X.2.1 hd hn (kk ls hl)) (hk _ _ _ _ hs)
theorem xs_irem (hk : ∀ pc L st h, k pc L st h → xAt lim g Q pc L st h) (hd : decode (sgB g) pc = .ok (.irem, len)) (hc : xck g (pc, .irem, len, lk) = true) (hs : xstep lim g k Q pc L st h .irem len lk) : xAt lim g Q pc L st h := by
  obtain ⟨y, r, rfl, hs⟩ := xpi_el hs
  obtain ⟨x, r, rfl, hs⟩ := xpi_el hs
  obtain ⟨hn, hs⟩ := hs
  have h2 := nb_eq hc
  subst h2
  exact xa_of (fun p l e R s m args below meth c H locs cells slots Qw ls b X hl kk => lv_irem X.1 X.2.1 hd hn (kk ls hl)) (hk _ _ _ _ hs)
theorem xs_ineg (hk : ∀ pc L st h, k pc L st h → xAt lim g Q pc L st h) (hd : decode (sgB g) pc = .ok (.ineg, len)) (hc : xck g (pc, .ineg, len, lk) = true) (hs : xstep lim g k Q pc L st h .ineg len lk) : xAt lim g Q pc L st h := by
  obtain ⟨x, r, rfl, hs⟩ := xpi_el hs
  have h2 := nb_eq hc
  subst h2
  exact xa_of (fun p l e R s m args below meth c H locs cells slots Qw ls b X hl kk => lv_ineg X.1 X.2.1 hd (kk ls hl)) (hk _ _ _ _ hs)
theorem xs_ladd (hk : ∀ pc L st h, k pc L st h → xAt lim g Q pc L st h) (hd : decode (sgB g) pc = .ok (.ladd, len)) (hc : xck g (pc, .ladd, len, lk) = true) (hs : xstep lim g k Q pc L st h .ladd len lk) : xAt lim g Q pc L st h := by
  obtain ⟨y, r, rfl, hs⟩ := xpl_el hs
  obtain ⟨x, r, rfl, hs⟩ := xpl_el hs
  have h2 := nb_eq hc
  subst h2
  exact xa_of (fun p l e R s m args below meth c H locs cells slots Qw ls b X hl kk => lv_ladd X.1 X.2.1 hd (kk ls hl)) (hk _ _ _ _ hs)
theorem xs_lmul (hk : ∀ pc L st h, k pc L st h → xAt lim g Q pc L st h) (hd : decode (sgB g) pc = .ok (.lmul, len)) (hc : xck g (pc, .lmul, len, lk) = true) (hs : xstep lim g k Q pc L st h .lmul len lk) : xAt lim g Q pc L st h := by
  obtain ⟨y, r, rfl, hs⟩ := xpl_el hs
  obtain ⟨x, r, rfl, hs⟩ := xpl_el hs
  have h2 := nb_eq hc
  subst h2
  exact xa_of (fun p l e R s m args below meth c H locs cells slots Qw ls b X hl kk => lv_lmul X.1 X.2.1 hd (kk ls hl)) (hk _ _ _ _ hs)
theorem xs_i2l (hk : ∀ pc L st h, k pc L st h → xAt lim g Q pc L st h) (hd : decode (sgB g) pc = .ok (.i2l, len)) (hc : xck g (pc, .i2l, len, lk) = true) (hs : xstep lim g k Q pc L st h .i2l len lk) : xAt lim g Q pc L st h := by
  obtain ⟨x, r, rfl, hs⟩ := xpi_el hs
  have h2 := nb_eq hc
  subst h2
  exact xa_of (fun p l e R s m args below meth c H locs cells slots Qw ls b X hl kk => lv_i2l X.1 X.2.1 hd rfl (kk ls hl)) (hk _ _ _ _ hs)
theorem xs_dup (hk : ∀ pc L st h, k pc L st h → xAt lim g Q pc L st h) (hd : decode (sgB g) pc = .ok (.dup, len)) (hc : xck g (pc, .dup, len, lk) = true) (hs : xstep lim g k Q pc L st h .dup len lk) : xAt lim g Q pc L st h := by
  obtain ⟨v, r, rfl, hs⟩ := xp1_el hs
  obtain ⟨hv, hs⟩ := bif_el hs
  have hv := nb_eq hv
  have h2 := nb_eq hc
  subst h2
  exact xa_of (fun p l e R s m args below meth c H locs cells slots Qw ls b X hl kk => lv_dup X.1 X.2.1 hd ((xcv_cat b v).trans hv) (kk ls hl)) (hk _ _ _ _ hs)
theorem xs_pop (hk : ∀ pc L st h, k pc L st h → xAt lim g Q pc L st h) (hd : decode (sgB g) pc = .ok (.pop, len)) (hc : xck g (pc, .pop, len, lk) = true) (hs : xstep lim g k Q pc L st h .pop len lk) : xAt lim g Q pc L st h := by
  obtain ⟨v, r, rfl, hs⟩ := xp1_el hs
  obtain ⟨hv, hs⟩ := bif_el hs
  have hv := nb_eq hv
  have h2 := nb_eq hc
  subst h2
  exact xa_of (fun p l e R s m args below meth c H locs cells slots Qw ls b X hl kk => lv_pop X.1 X.2.1 hd ((xcv_cat b v).trans hv) (kk ls hl)) (hk _ _ _ _ hs)
theorem xs_dup2 (hk : ∀ pc L st h, k pc L st h → xAt lim g Q pc L st h) (hd : decode (sgB g) pc = .ok (.dup2, len)) (hc : xck g (pc, .dup2, len, lk) = true) (hs : xstep lim g k Q pc L st h .dup2 len lk) : xAt lim g Q pc L st h := by
  obtain ⟨v, r, rfl, hs⟩ := xp1_el hs
  obtain ⟨u, r, rfl, hs⟩ := xp1_el hs
  obtain ⟨hv, hs⟩ := bif_el hs
  obtain ⟨hv, hu⟩ := and_el hv
  have hv := nb_eq hv
  have hu := nb_eq hu
  have h2 := nb_eq hc
  subst h2
  exact xa_of (fun p l e R s m args below meth c H locs cells slots Qw ls b X hl kk => lv_dup2_11 X.1 X.2.1 hd ((xcv_cat b v).trans hv) ((xcv_cat b u).trans hu) (kk ls hl)) (hk _ _ _ _ hs)
theorem xs_ifCond_eq (hk : ∀ pc L st h, k pc L st h → xAt lim g Q pc L st h) {n : Int} (hd : decode (sgB g) pc = .ok (.ifCond .eq n, len)) (hc : xck g (pc, .ifCond .eq n, len, lk) = true) (hs : xstep lim g k Q pc L st h (.ifCond .eq n) len lk) : xAt lim g Q pc L st h := by
  obtain ⟨t, t2, rfl, hs⟩ := xlf_el hs
  obtain ⟨x, r, rfl, hs⟩ := xpi_el hs
  obtain ⟨h1, h2⟩ := and_el hc
  have h2 := nb_eq h2
  subst h2
  have h1 : (pc : Int) + n = (t : Int) := of_decide_eq_true h1
  intro p l e s m args below meth c D cI cR b N0 S0 H locs ls X C hl
  exact lv_if_eq X.1 X.2.1 hd h1 (fun z => hk _ _ _ _ (hs.1 z) p l e s m args below meth c D cI cR b N0 S0 H locs ls X C hl) (fun z => hk _ _ _ _ (hs.2 z) p l e s m args below meth c D cI cR b N0 S0 H locs ls X C hl)
theorem xs_if_icmp_eq (hk : ∀ pc L st h, k pc L st h → xAt lim g Q pc L st h) {n : Int} (hd : decode (sgB g) pc = .ok (.if_icmp .eq n, len)) (hc : xck g (pc, .if_icmp .eq n, len, lk) = true) (hs : xstep lim g k Q pc L st h (.if_icmp .eq n) len lk) : xAt lim g Q pc L st h := by
  obtain ⟨t, t2, rfl, hs⟩ := xlf_el hs
  obtain ⟨y, r, rfl, hs⟩ := xpi_el hs
  obtain ⟨x, r, rfl, hs⟩ := xpi_el hs
  obtain ⟨h1, h2⟩ := and_el hc
  have h2 := nb_eq h2
  subst h2
  have h1 : (pc : Int) + n = (t : Int) := of_decide_eq_true h1
  intro p l e s m args below meth c D cI cR b N0 S0 H locs ls X C hl
  exact lv_icmp_eq X.1 X.2.1 hd h1 (fun z => hk _ _ _ _ (hs.1 z) p l e s m args below meth c D cI cR b N0 S0 H locs ls X C hl) (fun z => hk _ _ _ _ (hs.2 z) p l e s m args below meth c D cI cR b N0 S0 H locs ls X C hl)
theorem xs_ifCond_ne (hk : ∀ pc L st h, k pc L st h → xAt lim g Q pc L st h) {n : Int} (hd : decode (sgB g) pc = .ok (.ifCond .ne n, len)) (hc : xck g (pc, .ifCond .ne n, len, lk) = true) (hs : xstep lim g k Q pc L st h (.ifCond .ne n) len lk) : xAt lim g Q pc L st h := by
  obtain ⟨t, t2, rfl, hs⟩ := xlf_el hs
  obtain ⟨x, r, rfl, hs⟩ := xpi_el hs
  obtain ⟨h1, h2⟩ := and_el hc
  have h2 := nb_eq h2
  subst h2
  have h1 : (pc : Int) + n = (t : Int) := of_decide_eq_true h1
  intro p l e s m args below meth c D cI cR b N0 S0 H locs ls X C hl
  exact lv_if_ne X.1 X.2.1 hd h1 (fun z => hk _ _ _ _ (hs.2 z) p l e s m args below meth c D cI cR b N0 S0 H locs ls X C hl) (fun z => hk _ _ _ _ (hs.1 z) p l e s m args below meth c D cI cR b N0 S0 H locs ls X C hl)
theorem xs_if_icmp_ne (hk : ∀ pc L st h, k pc L st h → xAt lim g Q pc L st h) {n : Int} (hd : decode (sgB g) pc = .ok (.if_icmp .ne n, len)) (hc : xck g (pc, .if_icmp .ne n, len, lk) = true) (hs : xstep lim g k Q pc L st h (.if_icmp .ne n) len lk) : xAt lim g Q pc L st h := by
  obtain ⟨t, t2, rfl, hs⟩ := xlf_el hs
  obtain ⟨y, r, rfl, hs⟩ := xpi_el hs
  obtain ⟨x, r, rfl, hs⟩ := xpi_el hs
  obtain ⟨h1, h2⟩ := and_el hc
  have h2 := nb_eq h2
  subst h2
  have h1 : (pc : Int) + n = (t : Int) := of_decide_eq_true h1
  intro p l e s m args below meth c D cI cR b N0 S0 H locs ls X C hl
  exact lv_icmp_ne X.1 X.2.1 hd h1 (fun z => hk _ _ _ _ (hs.2 z) p l e s m args below meth c D cI cR b N0 S0 H locs ls X C hl) (fun z => hk _ _ _ _ (hs.1 z) p l e s m args below meth c D cI cR b N0 S0 H locs ls X C hl)
theorem xs_ifCond_lt (hk : ∀ pc L st h, k pc L st h → xAt lim g Q pc L st h) {n : Int} (hd : decode (sgB g) pc = .ok (.ifCond .lt n, len)) (hc : xck g (pc, .ifCond .lt n, len, lk) = true) (hs : xstep lim g k Q pc L st h (.ifCond .lt n) len lk) : xAt lim g Q pc L st h := by
  obtain ⟨t, t2, rfl, hs⟩ := xlf_el hs
  obtain ⟨x, r, rfl, hs⟩ := xpi_el hs
  obtain ⟨h1, h2⟩ := and_el hc
  have h2 := nb_eq h2
  subst h2
  have h1 : (pc : Int) + n = (t : Int) := of_decide_eq_true h1
  intro p l e s m args below meth c D cI cR b N0 S0 H locs ls X C hl
  exact lv_if_lt X.1 X.2.1 hd h1 (fun z => hk _ _ _ _ (hs.1 z) p l e s m args below meth c D cI cR b N0 S0 H locs ls X C hl) (fun z => hk _ _ _ _ (hs.2 z) p l e s m args below meth c D cI cR b N0 S0 H locs ls X C hl)
theorem xs_if_icmp_lt (hk : ∀ pc L st h, k pc L st h → xAt lim g Q pc L st h) {n : Int} (hd : decode (sgB g) pc = .ok (.if_icmp .lt n, len)) (hc : xck g (pc, .if_icmp .lt n, len, lk) = true) (hs : xstep lim g k Q pc L st h (.if_icmp .lt n) len lk) : xAt lim g Q pc L st h := by
  obtain ⟨t, t2, rfl, hs⟩ := xlf_el hs
  obtain ⟨y, r, rfl, hs⟩ := xpi_el hs
  obtain ⟨x, r, rfl, hs⟩ := xpi_el hs
  obtain ⟨h1, h2⟩ := and_el hc
  have h2 := nb_eq h2
  subst h2
  have h1 : (pc : Int) + n = (t : Int) := of_decide_eq_true h1
  intro p l e s m args below meth c D cI cR b N0 S0 H locs ls X C hl
  exact lv_icmp_lt X.1 X.2.1 hd h1 (fun z => hk _ _ _ _ (hs.1 z) p l e s m args below meth c D cI cR b N0 S0 H locs ls X C hl) (fun z => hk _ _ _ _ (hs.2 z) p l e s m args below meth c D cI cR b N0 S0 H locs ls X C hl)
theorem xs_ifCond_ge (hk : ∀ pc L st h, k pc L st h → xAt lim g Q pc L st h) {n : Int} (hd : decode (sgB g) pc = .ok (.ifCond .ge n, len)) (hc : xck g (pc, .ifCond .ge n, len, lk) = true) (hs : xstep lim g k Q pc L st h (.ifCond .ge n) len lk) : xAt lim g Q pc L st h := by
  obtain ⟨t, t2, rfl, hs⟩ := xlf_el hs
  obtain ⟨x, r, rfl, hs⟩ := xpi_el hs
  obtain ⟨h1, h2⟩ := and_el hc
  have h2 := nb_eq h2
  subst h2
  have h1 : (pc : Int) + n = (t : Int) := of_decide_eq_true h1
  intro p l e s m args below meth c D cI cR b N0 S0 H locs ls X C hl
  exact lv_if_ge X.1 X.2.1 hd h1 (fun z => hk _ _ _ _ (hs.1 z) p l e s m args below meth c D cI cR b N0 S0 H locs ls X C hl) (fun z => hk _ _ _ _ (hs.2 z) p l e s m args below meth c D cI cR b N0 S0 H locs ls X C hl)
theorem xs_if_icmp_ge (hk : ∀ pc L st h, k pc L st h → xAt lim g Q pc L st h) {n : Int} (hd : decode (sgB g) pc = .ok (.if_icmp .ge n, len)) (hc : xck g (pc, .if_icmp .ge n, len, lk) = true) (hs : xstep lim g k Q pc L st h (.if_icmp .ge n) len lk) : xAt lim g Q pc L st h := by
  obtain ⟨t, t2, rfl, hs⟩ := xlf_el hs
  obtain ⟨y, r, rfl, hs⟩ := xpi_el hs
  obtain ⟨x, r, rfl, hs⟩ := xpi_el hs
  obtain ⟨h1, h2⟩ := and_el hc
  have h2 := nb_eq h2
  subst h2
  have h1 : (pc : Int) + n = (t : Int) := of_decide_eq_true h1
  intro p l e s m args below meth c D cI cR b N0 S0 H locs ls X C hl
  exact lv_icmp_ge X.1 X.2.1 hd h1 (fun z => hk _ _ _ _ (hs.1 z) p l e s m args below meth c D cI cR b N0 S0 H locs ls X C hl) (fun z => hk _ _ _ _ (hs.2 z) p l e s m args below meth c D cI cR b N0 S0 H locs ls X C hl)
theorem xs_ifCond_gt (hk : ∀ pc L st h, k pc L st h → xAt lim g Q pc L st h) {n : Int} (hd : decode (sgB g) pc = .ok (.ifCond .gt n, len)) (hc : xck g (pc, .ifCond .gt n, len, lk) = true) (hs : xstep lim g k Q pc L st h (.ifCond .gt n) len lk) : xAt lim g Q pc L st h := by
  obtain ⟨t, t2, rfl, hs⟩ := xlf_el hs
  obtain ⟨x, r, rfl, hs⟩ := xpi_el hs
  obtain ⟨h1, h2⟩ := and_el hc
  have h2 := nb_eq h2
  subst h2
  have h1 : (pc : Int) + n = (t : Int) := of_decide_eq_true h1
  intro p l e s m args below meth c D cI cR b N0 S0 H locs ls X C hl
  exact lv_if_gt X.1 X.2.1 hd h1 (fun z => hk _ _ _ _ (hs.1 z) p l e s m args below meth c D cI cR b N0 S0 H locs ls X C hl) (fun z => hk _ _ _ _ (hs.2 z) p l e s m args below meth c D cI cR b N0 S0 H locs ls X C hl)
theorem xs_if_icmp_gt (hk : ∀ pc L st h, k pc L st h → xAt lim g Q pc L st h) {n : Int} (hd : decode (sgB g) pc = .ok (.if_icmp .gt n, len)) (hc : xck g (pc, .if_icmp .gt n, len, lk) = true) (hs : xstep lim g k Q pc L st h (.if_icmp .gt n) len lk) : xAt lim g Q pc L st h := by
  obtain ⟨t, t2, rfl, hs⟩ := xlf_el hs
  obtain ⟨y, r, rfl, hs⟩ := xpi_el hs
  obtain ⟨x, r, rfl, hs⟩ := xpi_el hs
  obtain ⟨h1, h2⟩ := and_el hc
  have h2 := nb_eq h2
  subst h2
  have h1 : (pc : Int) + n = (t : Int) := of_decide_eq_true h1
  intro p l e s m args below meth c D cI cR b N0 S0 H locs ls X C hl
  exact lv_icmp_gt X.1 X.2.1 hd h1 (fun z => hk _ _ _ _ (hs.1 z) p l e s m args below meth c D cI cR b N0 S0 H locs ls X C hl) (fun z => hk _ _ _ _ (hs.2 z) p l e s m args below meth c D cI cR b N0 S0 H locs ls X C hl)
theorem xs_ifCond_le (hk : ∀ pc L st h, k pc L st h → xAt lim g Q pc L st h) {n : Int} (hd : decode (sgB g) pc = .ok (.ifCond .le n, len)) (hc : xck g (pc, .ifCond .le n, len, lk) = true) (hs : xstep lim g k Q pc L st h (.ifCond .le n) len lk) : xAt lim g Q pc L st h := by
  obtain ⟨t, t2, rfl, hs⟩ := xlf_el hs
  obtain ⟨x, r, rfl, hs⟩ := xpi_el hs
  obtain ⟨h1, h2⟩ := and_el hc
  have h2 := nb_eq h2
  subst h2
  have h1 : (pc : Int) + n = (t : Int) := of_decide_eq_true h1
  intro p l e s m args below meth c D cI cR b N0 S0 H locs ls X C hl
  exact lv_if_le X.1 X.2.1 hd h1 (fun z => hk _ _ _ _ (hs.1 z) p l e s m args below meth c D cI cR b N0 S0 H locs ls X C hl) (fun z => hk _ _ _ _ (hs.2 z) p l e s m args below meth c D cI cR b N0 S0 H locs ls X C hl)
theorem xs_if_icmp_le (hk : ∀ pc L st h, k pc L st h → xAt lim g Q pc L st h) {n : Int} (hd : decode (sgB g) pc = .ok (.if_icmp .le n, len)) (hc : xck g (pc, .if_icmp .le n, len, lk) = true) (hs : xstep lim g k Q pc L st h (.if_icmp .le n) len lk) : xAt lim g Q pc L st h := by
  obtain ⟨t, t2, rfl, hs⟩ := xlf_el hs
  obtain ⟨y, r, rfl, hs⟩ := xpi_el hs
  obtain ⟨x, r, rfl, hs⟩ := xpi_el hs
  obtain ⟨h1, h2⟩ := and_el hc
  have h2 := nb_eq h2
  subst h2
  have h1 : (pc : Int) + n = (t : Int) := of_decide_eq_true h1
  intro p l e s m args below meth c D cI cR b N0 S0 H locs ls X C hl
  exact lv_icmp_le X.1 X.2.1 hd h1 (fun z => hk _ _ _ _ (hs.1 z) p l e s m args below meth c D cI cR b N0 S0 H locs ls X C hl) (fun z => hk _ _ _ _ (hs.2 z) p l e s m args below meth c D cI cR b N0 S0 H locs ls X C hl)
theorem xs_goto (hk : ∀ pc L st h, k pc L st h → xAt lim g Q pc L st h) {n : Int} (hd : decode (sgB g) pc = .ok (.goto n, len)) (hc : xck g (pc, .goto n, len, lk) = true) (hs : xstep lim g k Q pc L st h (.goto n) len lk) : xAt lim g Q pc L st h := by
  obtain ⟨t, t2, rfl, hs⟩ := xlf_el hs
  obtain ⟨h1, h2⟩ := and_el hc
  have h2 := nb_eq h2
  subst h2
  exact xa_of (fun p l e R s m args below meth c H locs cells slots Qw ls b X hl kk => lv_goto X.1 X.2.1 hd (of_decide_eq_true h1) (kk ls hl)) (hk _ _ _ _ hs)
theorem xsw_el {pc d : Nat} {P : Nat → Prop} : ∀ {offs : List Int} {lo : Int} {ps : List (Int32 × Nat)} {x : Int32}, xswk pc offs lo ps = true → xsw ps x P d →
    (∃ (o : Int) (t : Nat), lo ≤ x.toInt ∧ x.toInt < lo + ps.length ∧ offs[(x.toInt - lo).toNat]? = some o ∧ (pc : Int) + o = (t : Int) ∧ P t) ∨ ((x.toInt < lo ∨ lo + ps.length ≤ x.toInt) ∧ P d)
  | offs, lo, [], x, hc, hs => by
    refine Or.inr ⟨?_, hs⟩
    simp only [List.length_nil]
    omega
  | [], lo, (v, t) :: r, x, hc, hs => by
    cases hc
  | o :: os, lo, (v, t) :: r, x, hc, hs => by
    unfold xswk at hc
    obtain ⟨h01, h2⟩ := and_el hc
    obtain ⟨h0, h1⟩ := and_el h01
    have h0 : v.toInt = lo := of_decide_eq_true h0
    have h1 : (pc : Int) + o = (t : Int) := of_decide_eq_true h1
    by_cases hx : x = v
    · subst hx
      refine Or.inl ⟨o, t, by omega, by simp only [List.length_cons]; omega, ?_, h1, hs.1 rfl⟩
      rw [h0, Int.sub_self]
      rfl
    · have hne : ¬ x.toInt = lo := fun q => hx (Int32.toInt_inj.mp (q.trans h0.symm))
      rcases xsw_el h2 (hs.2 hx) with ⟨o', t', g1, g2, g3, g4, g5⟩ | ⟨g1, g2⟩
      · refine Or.inl ⟨o', t', by omega, by simp only [List.length_cons]; omega, ?_, g4, g5⟩
        rw [show (x.toInt - lo).toNat = (x.toInt - (lo + 1)).toNat + 1 by omega]
        exact g3
      · refine Or.inr ⟨?_, g2⟩
        simp only [List.length_cons]
        omega
theorem xs_tableswitch (hk : ∀ pc L st h, k pc L st h → xAt lim g Q pc L st h) {n lo hi : Int} {offs : Array Int} (hd : decode (sgB g) pc = .ok (.tableswitch n lo hi offs, len)) (hc : xck g (pc, .tableswitch n lo hi offs, len, lk) = true) (hs : xstep lim g k Q pc L st h (.tableswitch n lo hi offs) len lk) : xAt lim g Q pc L st h := by
  replace hs : xtsw k L st h lk := hs
  unfold xtsw at hs
  split at hs
  next d ps =>
    obtain ⟨x, r, rfl, hs⟩ := xpi_el hs
    obtain ⟨h01, h2⟩ := and_el hc
    obtain ⟨h0, h1⟩ := and_el h01
    have h0 : (pc : Int) + n = (d : Int) := of_decide_eq_true h0
    have h2 : hi = lo + ps.length - 1 := of_decide_eq_true h2
    rcases xsw_el h1 hs with ⟨o, t, g1, g2, g3, g4, g5⟩ | ⟨g1, g2⟩
    · exact xa_of (fun p l e R s m args below meth c H locs cells slots Qw ls b X hl kk => lv_tableIn X.1 X.2.1 hd (by omega) (by omega) (by simpa using g3) g4 (kk ls hl)) (hk _ _ _ _ g5)
    · exact xa_of (fun p l e R s m args below meth c H locs cells slots Qw ls b X hl kk => lv_tableOut X.1 X.2.1 hd (by omega) h0 (kk ls hl)) (hk _ _ _ _ g2)
  · exact hs.elim
/-! the world -/
theorem xWd_one {D : va_G} {cI cR : ClassId} {b : Nat} {H : Heap} {a : Nat} {e : xE} (hW : xWd D cI cR b h H) (ha : xat h a e) : va_P D xcl [(b + a, xce cI cR b e)] H := by
  intro k q hq
  have hk : k < 1 := (List.getElem?_eq_some_iff.mp hq).1
  rw [show k = 0 by omega] at hq
  cases hq
  have := hW.2 a ha.1
  rw [ha.2] at this
  exact this
theorem xWd_put {D : va_G} {cI cR : ClassId} {b : Nat} {H H1 : Heap} {a : Nat} {e : xE} (hW : xWd D cI cR b h H) (ha : a < h.1) (z : H1.size = H.size) (he : va_at D xcl (b + a, xce cI cR b e) H1) (oq : ∀ q : Nat, q ≠ b + a → H1[q]? = H[q]?) : xWd D cI cR b (xset h a e) H1 := by
  refine ⟨z.trans hW.1, fun k hk => ?_⟩
  show va_at D xcl (b + k, xce cI cR b (va_up h.2.2 a e k)) H1
  by_cases hka : k = a
  · subst hka
    rw [va_up_self]
    exact he
  · rw [va_up_ne _ _ hka]
    exact (hW.2 k hk).kept (oq (b + k) (by omega))
theorem xWd_new {D : va_G} {cI cR : ClassId} {b n : Nat} {H H1 : Heap} {e : xE} (hW : xWd D cI cR b h H) (z : H1.size = H.size + 1) (he : va_at D xcl (b + h.1, xce cI cR b e) H1) (oq : ∀ q : Nat, q < H.size → H1[q]? = H[q]?) : xWd D cI cR b (xnew h n e) H1 := by
  refine ⟨by rw [z, hW.1]; exact Nat.add_assoc _ _ _, fun k hk => ?_⟩
  have hk : k < h.1 + 1 := hk
  show va_at D xcl (b + k, xce cI cR b (va_up h.2.2 h.1 e k)) H1
  by_cases hka : k = h.1
  · subst hka
    rw [va_up_self]
    exact he
  · rw [va_up_ne _ _ hka]
    exact (hW.2 k (by omega)).kept (oq (b + k) (by rw [hW.1]; omega))
theorem xCx_put {D : va_G} {cI cR : ClassId} {b N0 S0 : Nat} {s : State} {H H1 : Heap} {locs : List Loc} {a i : Nat} {e : xE} (C : xCx lim g D cI cR b N0 S0 s h H locs) (ha : a < h.1) (z : H1.size = H.size) (he : va_at D xcl (b + a, xce cI cR b e) H1) (oq : ∀ q : Nat, q ≠ b + a → H1[q]? = H[q]?) : xCx lim g D cI cR b N0 S0 s (xset h a e) H1 (locs ++ [⟨b + a, i⟩]) := by
  obtain ⟨hK, hW, hS, r⟩ := C
  exact ⟨hK, xWd_put hW ha z he oq, hS.put z oq (Nat.le_add_right b a), r⟩
theorem xCx_new {D : va_G} {cI cR : ClassId} {b N0 S0 n : Nat} {s : State} {H H1 : Heap} {locs : List Loc} {e : xE} (C : xCx lim g D cI cR b N0 S0 s h H locs) (z : H1.size = H.size + 1) (he : va_at D xcl (b + h.1, xce cI cR b e) H1) (oq : ∀ q : Nat, q < H.size → H1[q]? = H[q]?) (l1 : h.1 + 1 ≤ lim.1) (l2 : h.2.1 + n ≤ lim.2) : xCx lim g D cI cR b N0 S0 s (xnew h n e) H1 locs := by
  obtain ⟨hK, hW, hS, r1, r2, r3, r4, r5⟩ := C
  refine ⟨hK, xWd_new hW z he oq, ⟨by rw [z]; exact Nat.le_succ_of_le hS.1, fun q h1 h2 => (oq q (Nat.lt_of_lt_of_le h1 hS.1)).trans (hS.2.1 q h1 h2), hS.2.2⟩, r1, ?_, l1, ?_, l2⟩
  · show N0 ≤ h.1 + 1
    omega
  · show S0 ≤ h.2.1 + n
    omega
theorem xcl_in {ci : Nat} {r : vw_C} (hr : xcl[ci]? = some r) : xclP ci r := xcl_ok ci r hr
theorem xs_getfield (hk : ∀ pc L st h, k pc L st h → xAt lim g Q pc L st h) {n : Nat} (hd : decode (sgB g) pc = .ok (.getfield n, len)) (hc : xck g (pc, .getfield n, len, lk) = true) (hq : xlk g (pc, .getfield n, len, lk)) (hs : xstep lim g k Q pc L st h (.getfield n) len lk) : xAt lim g Q pc L st h := by
  obtain ⟨ci, fk, rfl, hs⟩ := xlf_el hs
  obtain ⟨a, r, rfl, fs, v, ha, hv, hs⟩ := xpr_el hs
  have h2 := nb_eq hc
  subst h2
  obtain ⟨rc, hrc, hfk, hlink⟩ := hq
  obtain ⟨C0, T, N⟩ := rc
  have hin := (xcl_in hrc).2.2.2.2.1
  intro p l e s m args below meth c D cI cR b N0 S0 H locs ls X C hl
  have hts : ∀ w ∈ lw_g, w.before args s = true := fun w hw => X.2.2.2.2.2.2.2 w (List.mem_cons_of_mem _ hw)
  exact va_get (ws := [(b + a, xce cI cR b (xob ci fs))]) X.1 X.2.1 hts hin X.2.2.2.2.2.1 C.1.1 (xWd_one C.2.1 ha) 0 rfl hrc fk hfk (hts _ hlink) (fun _ h9 => h9) (by rw [List.getElem?_map, hv]; rfl) hd (hk _ _ _ _ hs p l e s m args below meth c D cI cR b N0 S0 H locs ls X C hl)
theorem x_put {p : Program} {l : Launch} {e : Env} {R : Room} {s : State} {m : MethodId} {args : Array Value} {below : List Frame} {meth : Method} {c : Code} {H : Heap} {locs : List Loc} {cells slots : Nat} {Qw : State → Prop} {D : va_G} {cI cR : ClassId} {b n a ci fk : Nat} {fs rest : List Value} {v : Value} {ls : Array Slot}
    (X : xFix p s m args meth c g) (hK : va_K D xcl (xtys cI cR) s) (hW : xWd D cI cR b h H) (ha : xat h a (xob ci fs)) (hl : fk < fs.length) (hv : xvk (xfty ci fk) v = true) (hq : xfl (sgN g).cls n ci fk) (hd : decode (sgB g) pc = .ok (.putfield n, 3))
    (hfin : ∀ r, xcl[ci]? = some r → (r.2.1 fk).2.2.2 = true → meth.name = "<init>" ∧ r.1 = (sgN g).cls)
    (kk : ∀ (H1 : Heap) (i : Nat), H1.size = H.size → va_at D xcl (b + a, xce cI cR b (xob ci (fs.set fk v))) H1 → (∀ q : Nat, q ≠ b + a → H1[q]? = H[q]?) → W p l e R s m args below meth c H1 (locs ++ [⟨b + a, i⟩]) cells slots Qw (F0 m (pc + 3) ls rest)) : W p l e R s m args below meth c H locs cells slots Qw (F0 m pc ls (xcv b v :: .ref (b + a) :: rest)) := by
  obtain ⟨rc, hrc, hk, hlink⟩ := hq
  have hts : ∀ w ∈ lw_g, w.before args s = true := fun w hw => X.2.2.2.2.2.2.2 w (List.mem_cons_of_mem _ hw)
  obtain ⟨C0, T, N⟩ := rc
  obtain ⟨hty, hnm, hdecl, -, hin, -⟩ := xcl_in hrc
  have hown := X.2.2.2.2.2.1
  have hap := va_apart (own := (sgN g).cls) hts hin (xfty ci) hty hnm hK hrc
  have hat := hW.2 a ha.1
  rw [ha.2] at hat
  obtain ⟨r, h1, cell, q1, q2, q3, q4⟩ := hat
  have hr : r = (C0, T, N) := Option.some.inj (h1.symm.trans hrc)
  subst hr
  obtain ⟨hS, hfc, kC, hkC, hkind⟩ := hK.1 ci _ hrc
  obtain ⟨cf, kf, fi, f, hi, hsl⟩ := hS fk hk
  have hst := (u_facts hfc hkC (u_lays hts hin hk) hi).1
  obtain ⟨hn, hfit⟩ := xvk_ok b hv
  have fin : ∀ H' : Heap, H'[b + a]? = some (cell.setSlot f.slot (xcv b v)) → H'.size = H.size → (∀ q, q ≠ b + a → H'[q]? = H[q]?) → W p l e R s m args below meth c H' (locs ++ [⟨b + a, f.slot⟩]) cells slots Qw (F0 m (pc + 3) ls rest) := by
    intro H' e1 e2 e3
    rw [hsl] at e1 ⊢
    refine kk H' _ e2 ⟨_, hrc, ?_⟩ e3
    have e0 : (fs.set fk v).map (xcv b) = (fs.map (xcv b)).set fk (xcv b v) := by rw [List.map_set]
    show t_OB (b + a) (D.1 ci) N (D.2 ci) H' (vp_V ((fs.set fk v).map (xcv b)))
    rw [e0]
    exact t_OB.to (V := updV (vp_V (fs.map (xcv b))) fk (xcv b v)) ⟨_, e1, q2, q3, t_set q4 hap hk (xcv b v)⟩ (fun j _ => vp_updV_set (by rw [List.length_map]; exact hl) (xcv b v) j)
  have hlay := hts _ (hin _ (u_in_lay hk))
  unfold u_lay at hlay
  by_cases hf : (T fk).2.2.2 = true
  · rw [if_pos hf] at hlay
    obtain ⟨hin2, hcls⟩ := hfin _ hrc hf
    have hcls : C0 = (sgN g).cls := hcls
    have hcf : m.cls = cf := by
      obtain ⟨_, _, c', _, _, _, -, -, hf', -, -, -, hown2, -⟩ := Cond.laysFinal_spec hlay
      have e1 : c' = cf := by have := hi.symm.trans hf'; simp at this; exact this.1.symm
      have hd2 : (T fk).1 = C0 := hdecl fk hk
      rw [hd2, hcls] at hown2
      rw [← e1]; exact Option.some.inj (hown.symm.trans hown2)
    have h6 := u_fits hfc hkC hkind (Or.inr hlay) hi (hty fk hk) hn hfit
    exact W.putFinK X.1 X.2.1 hown (hts _ hlink) hi hst hcf hin2 (by rw [q2]; exact h6) q1 q3 (by rw [hsl]; exact k2_hasslot (q4 fk hk)) rfl rfl hd fin
  · rw [if_neg hf] at hlay
    have h6 := u_store hfc hkC hkind hlay hi (hty fk hk) hn hfit
    exact W.putK X.1 X.2.1 (f := f) ⟨hown, hts _ hlink, ⟨_, _, _, hi⟩, hst⟩ (by rw [q2]; exact h6) q1 q3 (by rw [hsl]; exact k2_hasslot (q4 fk hk)) rfl rfl hd fin
theorem xs_putfield (hk : ∀ pc L st h, k pc L st h → xAt lim g Q pc L st h) {n : Nat} (hd : decode (sgB g) pc = .ok (.putfield n, len)) (hc : xck g (pc, .putfield n, len, lk) = true) (hq : xlk g (pc, .putfield n, len, lk)) (hs : xstep lim g k Q pc L st h (.putfield n) len lk) : xAt lim g Q pc L st h := by
  obtain ⟨ci, fk, rfl, hs⟩ := xlf_el hs
  obtain ⟨v, r, rfl, hs⟩ := xp1_el hs
  obtain ⟨a, r, rfl, fs, ha, hl, hs⟩ := xpr_el hs
  obtain ⟨hv, hs⟩ := bif_el hs
  have h2 := nb_eq hc
  subst h2
  intro p l e s m args below meth c D cI cR b N0 S0 H locs ls X C hl0
  exact x_put X C.1.1 C.2.1 ha hl hv hq.1 hd (fun rc hrc hf => by
    obtain ⟨g1, g2⟩ := hq.2 rc hrc hf
    exact ⟨X.2.2.2.2.2.2.1.trans g1, g2⟩) (fun H1 i z he oq => hk _ _ _ _ hs p l e s m args below meth c D cI cR b N0 S0 H1 _ ls X (xCx_put C ha.1 z he oq) hl0)
theorem xs_iaload (hk : ∀ pc L st h, k pc L st h → xAt lim g Q pc L st h) (hd : decode (sgB g) pc = .ok (.iaload, len)) (hc : xck g (pc, .iaload, len, lk) = true) (hs : xstep lim g k Q pc L st h .iaload len lk) : xAt lim g Q pc L st h := by
  obtain ⟨i, r, rfl, hs⟩ := xpi_el hs
  obtain ⟨a, r, rfl, n, f, j, ha, hi, hs⟩ := xpr_el hs
  have h2 := nb_eq hc
  subst h2
  obtain ⟨hi1, hi2⟩ := xix_in hi
  subst hi2
  intro p l e s m args below meth c D cI cR b N0 S0 H locs ls X C hl
  exact va_iald (ws := [(b + a, xce cI cR b (xia n f))]) X.1 X.2.1 C.1.1 (xWd_one C.2.1 ha) 0 0 rfl rfl hi1 hd (hk _ _ _ _ hs p l e s m args below meth c D cI cR b N0 S0 H locs ls X C hl)
theorem xs_arraylength (hk : ∀ pc L st h, k pc L st h → xAt lim g Q pc L st h) (hd : decode (sgB g) pc = .ok (.arraylength, len)) (hc : xck g (pc, .arraylength, len, lk) = true) (hs : xstep lim g k Q pc L st h .arraylength len lk) : xAt lim g Q pc L st h := by
  obtain ⟨a, r, rfl, n, f, ha, hs⟩ := xpr_el hs
  have h2 := nb_eq hc
  subst h2
  intro p l e s m args below meth c D cI cR b N0 S0 H locs ls X C hl
  exact va_alen (ws := [(b + a, xce cI cR b (xia n f))]) (x := (n, .inl f)) X.1 X.2.1 C.1.1 (xWd_one C.2.1 ha) 0 0 rfl rfl rfl hd (hk _ _ _ _ hs p l e s m args below meth c D cI cR b N0 S0 H locs ls X C hl)
theorem xs_aaload (hk : ∀ pc L st h, k pc L st h → xAt lim g Q pc L st h) (hd : decode (sgB g) pc = .ok (.aaload, len)) (hc : xck g (pc, .aaload, len, lk) = true) (hs : xstep lim g k Q pc L st h .aaload len lk) : xAt lim g Q pc L st h := by
  obtain ⟨i, r, rfl, hs⟩ := xpi_el hs
  obtain ⟨a, r, rfl, n, f, j, q, ha, hi, hf, hs⟩ := xpr_el hs
  have h2 := nb_eq hc
  subst h2
  obtain ⟨hi1, hi2⟩ := xix_in hi
  subst hi2
  intro p l e s m args below meth c D cI cR b N0 S0 H locs ls X C hl
  refine va_aldq (ws := [(b + a, xce cI cR b (xra n f))]) X.1 X.2.1 C.1.1 (xWd_one C.2.1 ha) 0 1 rfl rfl hi1 hd ?_
  have e1 : va_rf ((f i.toNatClampNeg).map (fun k => b + k)) = .ref (b + q) := by rw [hf]; rfl
  show W _ _ _ _ _ _ _ _ _ _ _ _ _ _ _ (F0 m (pc + 1) ls (va_rf ((f i.toNatClampNeg).map (fun k => b + k)) :: _))
  rw [e1]
  exact hk _ _ _ _ hs p l e s m args below meth c D cI cR b N0 S0 H locs ls X C hl
theorem xs_iastore (hk : ∀ pc L st h, k pc L st h → xAt lim g Q pc L st h) (hd : decode (sgB g) pc = .ok (.iastore, len)) (hc : xck g (pc, .iastore, len, lk) = true) (hs : xstep lim g k Q pc L st h .iastore len lk) : xAt lim g Q pc L st h := by
  obtain ⟨x, r, rfl, hs⟩ := xpi_el hs
  obtain ⟨i, r, rfl, hs⟩ := xpi_el hs
  obtain ⟨a, r, rfl, n, f, j, ha, hi, hs⟩ := xpr_el hs
  have h2 := nb_eq hc
  subst h2
  obtain ⟨hi1, hi2⟩ := xix_in hi
  subst hi2
  intro p l e s m args below meth c D cI cR b N0 S0 H locs ls X C hl
  refine W.iast X.1 X.2.1 (xWd_one C.2.1 ha 0 _ rfl) ((C.1.1.2 0 _ rfl).1 n (fun j => .int (f j))) (fun q => by cases q) (by show ¬ (i < 0 ∨ (arrV _ _ _).slots.size ≤ _); rw [arrV_size]; exact hi1) rfl rfl hd fun H1 e1 z oq => ?_
  refine hk _ _ _ _ hs p l e s m args below meth c D cI cR b N0 S0 H1 _ ls X (xCx_put C ha.1 z ?_ oq) hl
  show H1[b + a]? = some (vp_cell _ _)
  rw [e1]
  show some ((vp_cell cI (n, .inl f)).setSlot _ _) = some (vp_cell cI (n, .inl (upd f i.toNatClampNeg x)))
  rw [vp_cell_i, vp_cell_i, arrV_store]
  congr 2
  funext q
  by_cases hq : q = i.toNatClampNeg
  · subst hq
    simp [updV, upd]
  · simp [updV, upd, hq]
theorem xs_aastore (hk : ∀ pc L st h, k pc L st h → xAt lim g Q pc L st h) (hd : decode (sgB g) pc = .ok (.aastore, len)) (hc : xck g (pc, .aastore, len, lk) = true) (hs : xstep lim g k Q pc L st h .aastore len lk) : xAt lim g Q pc L st h := by
  obtain ⟨v, r, rfl, hs⟩ := xpr_el hs
  obtain ⟨i, r, rfl, hs⟩ := xpi_el hs
  obtain ⟨a, r, rfl, n, f, j, fs, ha, hi, hv, hs⟩ := xpr_el hs
  have h2 := nb_eq hc
  subst h2
  obtain ⟨hi1, hi2⟩ := xix_in hi
  subst hi2
  intro p l e s m args below meth c D cI cR b N0 S0 H locs ls X C hl
  have hlt : i.toNatClampNeg < n := hi.2.1
  have h0 : ¬ i < 0 := fun q => hi1 (Or.inl q)
  obtain ⟨r', hr', cellV, g1, g2, g3, -⟩ := xWd_one C.2.1 hv 0 _ rfl
  obtain ⟨rc, hrc, hrn⟩ := xrc_ok
  have hcls := (C.1.1.1 xrc rc hrc).2
  obtain ⟨kA, comp, k1, k2, k3, -⟩ := (C.1.1.2 1 _ rfl).2
  rw [hrn] at hcls
  have hcomp : comp = D.1 xrc := Option.some.inj (k3.symm.trans hcls.1)
  subst hcomp
  obtain ⟨kC, hkC, -⟩ := hcls.2
  refine W.aast X.1 X.2.1 (xWd_one C.2.1 ha 0 _ rfl) (fun q h => by cases h) (fun h => by cases h) k1 k2 rfl hkC ⟨h0, by show _ < (arrV _ _ _).slots.size; rw [arrV_size]; exact hlt⟩ g1 (fun q h => by rw [g3] at h; cases h) (by rw [g2]; exact hkC) (by rw [g2]; exact va_assign hcls) rfl rfl hd fun H1 e1 z oq => ?_
  refine hk _ _ _ _ hs p l e s m args below meth c D cI cR b N0 S0 H1 _ ls X (xCx_put C ha.1 z ?_ oq) hl
  show H1[b + a]? = some (vp_cell _ _)
  rw [e1]
  show some ((vp_cell cR (n, .inr (.inr (.inr (.inr (fun j => (f j).map (fun k => b + k))))))).setSlot _ _) = some (vp_cell cR (n, .inr (.inr (.inr (.inr (fun j => (va_up f i.toNatClampNeg (some v) j).map (fun k => b + k)))))))
  rw [vp_cell_q, vp_cell_q, arrV_store]
  congr 2
  funext q
  by_cases hq : q = i.toNatClampNeg
  · subst hq
    simp [updV, va_up, va_rf]
  · simp [updV, va_up, hq]

theorem xnI_nn {j : Nat} (hj : j < 100000) : ¬ nI j < 0 ∧ (nI j).toNatClampNeg = j := ⟨nI_pos (by omega), nI_clamp (by omega)⟩
theorem xs_newarray (hk : ∀ pc L st h, k pc L st h → xAt lim g Q pc L st h) {ty : ArrayType} (hd : decode (sgB g) pc = .ok (.newarray ty, len)) (hc : xck g (pc, .newarray ty, len, lk) = true) (hq : xlk g (pc, .newarray ty, len, lk)) (hs : xstep lim g k Q pc L st h (.newarray ty) len lk) : xAt lim g Q pc L st h := by
  obtain ⟨i, r, rfl, j, rfl, hj, l1, l2, hs2⟩ := xpi_el hs
  clear hs
  have h2 := nb_eq hc
  subst h2
  obtain ⟨rfl, hac⟩ : ty = .int ∧ Cond.arrayClass .int ∈ lw_g := by
    cases ty <;> first | exact hq.elim | exact ⟨rfl, hq⟩
  obtain ⟨hn, hN⟩ := xnI_nn hj
  intro p l e s m args below meth c D cI cR b N0 S0 H locs ls X C hl
  have hts : ∀ w ∈ lw_g, w.before args s = true := fun w hw => X.2.2.2.2.2.2.2 w (List.mem_cons_of_mem _ hw)
  refine va_newaK (atype := .int) X.1 X.2.1 (hts _ hac) (g := F0 m pc ls (.int (nI j) :: r.map (xcv b))) rfl hd rfl hn hN (by show j * 4 ≤ 536870912; omega) ?_ ?_ rfl fun H1 cA e1 z1 o1 hAr hNm => ?_
  · show h.1 - N0 + 1 ≤ lim.1 - N0
    have := C.2.2.2.2.1; omega
  · show h.2.1 - S0 + j ≤ lim.2 - S0
    have := C.2.2.2.2.2.2.1; omega
  · have hcA : cA = cI := by
      have h9 : s.vm.findClass ("[" ++ (FieldType.int).toString) = some cI := (C.1.1.2 0 _ rfl).2
      exact Option.some.inj (hNm.symm.trans h9)
    subst hcA
    have C1 : xCx lim g D cA cR b N0 S0 s (xnew h j (xia j (fun _ => 0))) H1 locs := xCx_new C z1 (by
      show H1[b + h.1]? = some (vp_cell _ _)
      rw [← C.2.1.1]
      exact e1) o1 l1 l2
    have k1 := hk _ _ _ _ hs2 p l e s m args below meth c D cA cR b N0 S0 H1 locs ls X C1 hl
    have := C.2.2.2.2.1
    have := C.2.2.2.2.2.2.1
    refine W.cs (show h.1 - N0 + 1 = h.1 + 1 - N0 by omega) (show h.2.1 - S0 + j = h.2.1 + j - S0 by omega) ?_
    have e2 : H.size = b + h.1 := C.2.1.1
    rw [e2]
    exact k1
theorem xs_anewarray (hk : ∀ pc L st h, k pc L st h → xAt lim g Q pc L st h) {n : Nat} (hd : decode (sgB g) pc = .ok (.anewarray n, len)) (hc : xck g (pc, .anewarray n, len, lk) = true) (hq : xlk g (pc, .anewarray n, len, lk)) (hs : xstep lim g k Q pc L st h (.anewarray n) len lk) : xAt lim g Q pc L st h := by
  obtain ⟨i, r, rfl, j, rfl, hj, l1, l2, hs⟩ := xpi_el hs
  have h2 := nb_eq hc
  subst h2
  have hq : Cond.classLink (sgN g).cls n xrn ∈ lw_g := by
    exact hq
  obtain ⟨hn, hN⟩ := xnI_nn hj
  intro p l e s m args below meth c D cI cR b N0 S0 H locs ls X C hl
  have hts : ∀ w ∈ lw_g, w.before args s = true := fun w hw => X.2.2.2.2.2.2.2 w (List.mem_cons_of_mem _ hw)
  refine W.anew X.1 X.2.1 X.2.2.2.2.2.1 (hts _ hq) (va_AO.use C.1.2) (g := F0 m pc ls (.int (nI j) :: r.map (xcv b))) rfl hd rfl hn (by rw [hN]; omega) ?_ ?_ fun cA kA comp f1 f2 f3 f4 => ?_
  · show h.1 - N0 + 1 ≤ lim.1 - N0
    have := C.2.2.2.2.1; omega
  · show h.2.1 - S0 + (nI j).toNatClampNeg ≤ lim.2 - S0
    rw [hN]
    have := C.2.2.2.2.2.2.1; omega
  · rw [hN]
    have hcA : cA = cR := by
      obtain ⟨_, _, -, -, -, h9⟩ := (C.1.1.2 1 _ rfl).2
      exact Option.some.inj (f1.symm.trans h9)
    subst hcA
    generalize hH1 : H.push ({ cls := cA, slots := Array.replicate j .null, vm := .none } : Cell) = H1
    have z1 : H1.size = H.size + 1 := by rw [← hH1, Array.size_push]
    have e1 : H1[H.size]? = some (arrV cA j (fun _ => .null)) := by rw [← hH1, Array.getElem?_push_size, ← arrV_new]
    have o1 : ∀ q : Nat, q < H.size → H1[q]? = H[q]? := fun q hq => by rw [← hH1, Array.getElem?_push, if_neg (Nat.ne_of_lt hq)]
    have C1 : xCx lim g D cI cA b N0 S0 s (xnew h j (xra j (fun _ => none))) H1 locs := xCx_new C z1 (by
      show H1[b + h.1]? = some (vp_cell _ _)
      rw [← C.2.1.1]
      exact e1) o1 l1 l2
    have k1 := hk _ _ _ _ hs p l e s m args below meth c D cI cA b N0 S0 H1 locs ls X C1 hl
    have := C.2.2.2.2.1
    have := C.2.2.2.2.2.2.1
    refine W.cs (show h.1 - N0 + 1 = h.1 + 1 - N0 by omega) (show h.2.1 - S0 + j = h.2.1 + j - S0 by omega) ?_
    have e2 : H.size = b + h.1 := C.2.1.1
    rw [e2]
    exact k1
theorem xs_new (hk : ∀ pc L st h, k pc L st h → xAt lim g Q pc L st h) {n : Nat} (hd : decode (sgB g) pc = .ok (.new n, len)) (hc : xck g (pc, .new n, len, lk) = true) (hq : xlk g (pc, .new n, len, lk)) (hs : xstep lim g k Q pc L st h (.new n) len lk) : xAt lim g Q pc L st h := by
  obtain ⟨ci, nn, rfl, l1, l2, hs⟩ := xlf_el hs
  have h2 := nb_eq hc
  subst h2
  obtain ⟨rc, hrc, hnn, q1, q2, q3⟩ := hq
  subst hnn
  obtain ⟨C0, T, N⟩ := rc
  obtain ⟨hty, -, -, hdef, hin, hcv⟩ := xcl_in hrc
  intro p l e s m args below meth c D cI cR b N0 S0 H locs ls X C hl
  have hts : ∀ w ∈ lw_g, w.before args s = true := fun w hw => X.2.2.2.2.2.2.2 w (List.mem_cons_of_mem _ hw)
  have hKn := C.1.1.1 ci _ hrc
  refine W.newcK X.1 X.2.1 X.2.2.2.2.2.1 (hts _ q1) (hts _ q2) (hts _ q3) (g := F0 m pc ls (st.map (xcv b))) rfl hd ?_ ?_ hKn.2.1 rfl fun H1 kC hkC e1 z1 o1 => ?_
  · show h.1 - N0 + 1 ≤ lim.1 - N0
    have := C.2.2.2.2.1; omega
  · show h.2.1 - S0 + N ≤ lim.2 - S0
    have l2 : h.2.1 + N ≤ lim.2 := l2
    have := C.2.2.2.2.2.2.1; omega
  · have C1 : xCx lim g D cI cR b N0 S0 s (xnew h N (xob ci (xdef ci))) H1 locs := xCx_new C z1 (by
      refine ⟨_, hrc, ?_⟩
      show t_OB (b + h.1) (D.1 ci) N (D.2 ci) H1 (vp_V ((xdef ci).map (xcv b)))
      rw [hcv, ← C.2.1.1]
      exact (u_born (xfty ci) hts hin hKn hkC e1 hty).to hdef) o1 l1 l2
    have k1 := hk _ _ _ _ hs p l e s m args below meth c D cI cR b N0 S0 H1 locs ls X C1 hl
    have := C.2.2.2.2.1
    have := C.2.2.2.2.2.2.1
    refine W.cs (show h.1 - N0 + 1 = h.1 + 1 - N0 by omega) (show h.2.1 - S0 + N = h.2.1 + N - S0 by omega) ?_
    have e2 : H.size = b + h.1 := C.2.1.1
    rw [e2]
    exact k1
/-! calls -/
theorem xgood {ws : List Cond} (hw : ∀ w ∈ ws, w ∈ lw_g) : GoodIn (xwd g) ws := fun w h => ⟨List.mem_cons_of_mem _ (hw w h), good_of_word (List.all_eq_true.mp lw_all w (hw w h))⟩
theorem xwd_in {c : xSig} (hm : xmc c) : ∀ w ∈ xwd c, w ∈ lw_g := fun w h => (List.mem_cons.mp h).elim (fun e => e ▸ hm.2.1) id
theorem x_after {p : Program} {l : Launch} {e : Env} {R : Room} {s : State} {m : MethodId} {args : Array Value} {below : List Frame} {meth : Method} {c : Code} {H : Heap} {locs : List Loc} {cells slots mc ms : Nat} {Qw : State → Prop} {D : va_G} {cI cR : ClassId} {b : Nat} {rest st0 : List Value} {P : Option Value → xHp → Prop} {ls : Array Slot} {a : Array Value} {H0 : Heap}
    (hr : va_Run p l e R s m args below meth c H locs cells slots mc ms (F0 m pc ls st0) rest (xQ D cI cR b P a) (fun q => b ≤ q)) (hS : va_S (fun q => b ≤ q) H0 H locs)
    (kk : ∀ (v : Option Value) (h' : xHp) (H1 : Heap) (locs1 : List Loc), P v h' → xWd D cI cR b h' H1 → va_S (fun q => b ≤ q) H0 H1 locs1 → W p l e R s m args below meth c H1 locs1 (cells + mc) (slots + ms) Qw (F0 m (pc + 3) ls ((v.map (xcv b)).toList ++ rest))) : W p l e R s m args below meth c H locs cells slots Qw (F0 m pc ls st0) := by
  intro T hT X
  obtain ⟨v', st₀, t, T', L, h0, X', hL, e1, e2, ⟨v, h', hP, hv, hw, hkk, hz, hf⟩, st⟩ := hr T hT X
  have hv := Outcome.returned.inj hv
  subst hv
  rw [h0] at hz hf
  obtain ⟨t2, a1, b1⟩ := kk v h' T'.heap (locs ++ L) hP (by rw [e1]; exact hw) ⟨by rw [e1]; exact Nat.le_trans hS.1 hz, fun q h1 h2 => by rw [e1, hf q (Nat.lt_of_lt_of_le h1 hS.1) h2]; exact hS.2.1 q h1 h2, fun q hq => by
      rcases List.mem_append.mp hq with h | h
      · exact hS.2.2 q h
      · exact hL q h⟩ T' rfl X'
  exact ⟨t2, st t2 a1, b1⟩
theorem xcal_el {c : xSig} {As : List Value} {kf : List Value → xHp → Prop} (hs : xcal c As h kf) : ∃ P : Option Value → xHp → Prop, SpecR c As h P ∧ ∀ v h', P v h' → kf v.toList h' := by
  unfold xcal at hs
  split at hs
  next hr =>
    obtain ⟨P, h1, h2⟩ := hs
    refine ⟨P, h1, fun v h' hP => ?_⟩
    have h3 := (h1.2.1 v h' hP).1
    rw [hr] at h3
    cases h3
    exact h2 h' hP
  next hr =>
    obtain ⟨P, h1, h2⟩ := hs
    refine ⟨P, h1, fun v h' hP => ?_⟩
    have h3 := (h1.2.1 v h' hP).1
    rw [hr] at h3
    obtain ⟨x, rfl⟩ := h3
    exact h2 x h' hP
  next t hne hr =>
    obtain ⟨P, h1, h2⟩ := hs
    refine ⟨P, h1, fun v h' hP => ?_⟩
    have h3 := (h1.2.1 v h' hP).1
    rw [hr] at h3
    have h4 : ∃ x, v = some (.int x) := by
      unfold xtym at h3
      split at h3
      next q => cases q
      next q => cases q; exact absurd rfl hne
      · exact h3
    obtain ⟨x, rfl⟩ := h4
    exact h2 x h' hP
theorem x_blind {D : va_G} {cI cR : ClassId} {b : Nat} {av : List Value} : FrameBlind (va_Pc av (fun U => xWd D cI cR b h U.heap ∧ xKk D cI cR U)) := fun a U g mk q => ⟨q.1, q.2.1, xKk.moved (u := U) (U := U.calling g mk a) (Vm.Alike.refl U.vm) q.2.2⟩
theorem x_ok8 {r : List Value} {m : MethodId} {ls : Array Slot} {st0 : List Value} (b : Nat) (h8 : Nat.ble (xcats r) 8 = true) : 2 * (F0 m pc ls st0).monitorRoom + ((r.map (xcv b)).map fun v => v.category).sum ≤ 8 := by
  rw [xcats_eq]
  have := Nat.le_of_ble_eq_true h8
  show 2 * 0 + _ ≤ 8
  omega
theorem x_map {v : Option Value} {r : List Value} (b : Nat) : (v.map (xcv b)).toList ++ r.map (xcv b) = (v.toList ++ r).map (xcv b) := by cases v <;> rfl
theorem xCx_putL {D : va_G} {cI cR : ClassId} {b N0 S0 : Nat} {s : State} {H H1 : Heap} {locs L : List Loc} {a : Nat} {e : xE} (C : xCx lim g D cI cR b N0 S0 s h H locs) (ha : a < h.1) (z : H1.size = H.size) (he : va_at D xcl (b + a, xce cI cR b e) H1) (oq : ∀ q : Nat, q ≠ b + a → H1[q]? = H[q]?) (hL : ∀ q ∈ L, q.base = b + a) : xCx lim g D cI cR b N0 S0 s (xset h a e) H1 (locs ++ L) := by
  obtain ⟨hK, hW, hS, r⟩ := C
  refine ⟨hK, xWd_put hW ha z he oq, ⟨by rw [z]; exact hS.1, fun q h1 h2 => ?_, fun q hq => ?_⟩, r⟩
  · rw [oq q (fun e => h2 (by rw [e]; exact Nat.le_add_right b a))]
    exact hS.2.1 q h1 h2
  · rcases List.mem_append.mp hq with h3 | h3
    · exact hS.2.2 q h3
    · show b ≤ q.base
      rw [hL q h3]
      exact Nat.le_add_right b a
theorem x_copy {p : Program} {l : Launch} {e : Env} {R : Room} {s : State} {m : MethodId} {args : Array Value} {below : List Frame} {meth : Method} {c : Code} {H : Heap} {locs : List Loc} {cells slots : Nat} {Qw : State → Prop} {D : va_G} {cI cR : ClassId} {b n a a0 n0 n1 jn jd js : Nat} {f f1 : Nat → Int32} {rest : List Value} {ls : Array Slot}
    (X : xFix p s m args meth c g) (hK : va_K D xcl (xtys cI cR) s) (hW : xWd D cI cR b h H) (ha0 : xat h a0 (xia n0 f)) (ha : xat h a (xia n1 f1)) (b1 : js + jn ≤ n0) (b2 : jd + jn ≤ n1) (b3 : n0 < 100000) (b4 : n1 < 100000) (hls : c.maxLocals = ls.size) (hfr : 1 ≤ R.frames) (hlo : (rest.map fun v => v.category).sum + xcpw ≤ R.locals)
    (hq : Cond.methodLink (sgN g).cls n arraycopyName ∈ lw_g ∧ Cond.native arraycopyName ∈ lw_g ∧ Cond.static arraycopyName ∈ lw_g ∧ Cond.initialized "java/lang/System" ∈ lw_g) (hd : decode (sgB g) pc = .ok (.invokestatic n, 3))
    (kk : ∀ (H1 : Heap) (L : List Loc), H1.size = H.size → va_at D xcl (b + a, xce cI cR b (xia n1 (va_cpy f f1 js jd jn))) H1 → (∀ q : Nat, q ≠ b + a → H1[q]? = H[q]?) → (∀ q ∈ L, q.base = b + a) → W p l e R s m args below meth c H1 (locs ++ L) cells slots Qw (F0 m (pc + 3) ls rest)) : W p l e R s m args below meth c H locs cells slots Qw (F0 m pc ls (.int (nI jn) :: .int (nI jd) :: .ref (b + a) :: .int (nI js) :: .ref (b + a0) :: rest)) := by
  have hts : ∀ w ∈ lw_g, w.before args s = true := fun w hw => X.2.2.2.2.2.2.2 w (List.mem_cons_of_mem _ hw)
  have nn : ∀ z : Nat, z < 100000 → (nI z).toInt = (z : Int) := fun z hz => nI_toInt (by omega)
  have cl : ∀ z : Nat, z < 100000 → (nI z).toNatClampNeg = z := fun z hz => nI_clamp (by omega)
  have ps : ∀ z : Nat, z < 100000 → ¬ nI z < 0 := fun z hz => nI_pos (by omega)
  have jn9 : jn < 100000 := by omega
  have jd9 : jd < 100000 := by omega
  have js9 : js < 100000 := by omega
  intro T hT X0
  have hc0 : H[b + a0]? = some (vp_cell cI (n0, .inl f)) := xWd_one hW ha0 0 _ rfl
  have hc1 : H[b + a]? = some (vp_cell cI (n1, .inl f1)) := xWd_one hW ha 0 _ rfl
  obtain ⟨-, k0, hk0, cm0, hkk0⟩ := (hK.2 0 _ rfl).1 n0 (fun j => .int (f j))
  obtain ⟨-, k1, hk1, cm1, hkk1⟩ := (hK.2 0 _ rfl).1 n1 (fun j => .int (f1 j))
  obtain ⟨vm', X', step⟩ := X0.arraycopy X.1 X.2.2.2.2.2.1 (hts _ hq.1) (hts _ hq.2.1) (hts _ hq.2.2.1) (hts _ hq.2.2.2) (src := b + a0) (dst := b + a) (cs := vp_cell cI (n0, .inl f)) (cd := vp_cell cI (n1, .inl f1)) (srcPos := nI js) (destPos := nI jd) (n := nI jn) (by rw [hT]; exact hc0) (by rw [hT]; exact hc1)
    (fun _ h => by cases h) (fun _ h => by cases h) (fun h => by cases h) (fun h => by cases h) hk0 hk1 hkk0 hkk1 (by simp [refKind]) (ps _ js9) (ps _ jd9) (ps _ jn9)
    (by rw [nn _ js9, nn _ jn9]; show ¬ _ > ((arrV cI n0 (fun j => .int (f j))).slots.size : Int); rw [arrV_size]; omega)
    (by rw [nn _ jd9, nn _ jn9]; show ¬ _ > ((arrV cI n1 (fun j => .int (f1 j))).slots.size : Int); rw [arrV_size]; omega)
    (fun vm₁ _ i hi => by
      have e0 : (vp_cell cI (n0, .inl f)).slots.getD ((nI js).toNatClampNeg + i) .null = .int (f (js + i)) := by
        rw [cl _ jn9] at hi
        show (arrV cI n0 (fun j => .int (f j))).slots.getD _ _ = _
        rw [cl _ js9, Array.getD_eq_getD_getElem?, arrV_read _ _ (by omega)]
        rfl
      refine ⟨?_, ?_⟩
      · rw [e0]
        rfl
      · rw [e0]
        exact trivial)
    (g := F0 m pc ls (.int (nI jn) :: .int (nI jd) :: .ref (b + a) :: .int (nI js) :: .ref (b + a0) :: rest)) rfl (by rw [hls]) (rest := rest) rfl (by rw [X.2.1]; exact hd) hfr (by show 2 * 0 + _ + xcpw ≤ _; omega)
  have e1 : copied (vp_cell cI (n0, .inl f)) (vp_cell cI (n1, .inl f1)) (nI js) (nI jd) (nI jn) = vp_cell cI (n1, .inl (va_cpy f f1 js jd jn)) := by
    have e9 := va_copied (fun z => .int z) cI cI (n0 := n0) (n1 := n1) (sp := js) (dp := jd) (n := jn) f f1 b1
    unfold copied
    rw [cl _ jn9, cl _ jd9, cl _ js9]
    exact e9
  rw [e1] at X' step
  have hl : b + a < H.size := (Array.getElem?_eq_some_iff.mp hc1).1
  have hheap : ((T.setVm vm').setCell (b + a) (vp_cell cI (n1, .inl (va_cpy f f1 js jd jn)))).heap = H.setIfInBounds (b + a) (vp_cell cI (n1, .inl (va_cpy f f1 js jd jn))) := by rw [← hT]; rfl
  obtain ⟨t, a1, b1⟩ := kk (H.setIfInBounds (b + a) (vp_cell cI (n1, .inl (va_cpy f f1 js jd jn)))) _ (by simp) (show (H.setIfInBounds (b + a) _)[b + a]? = some _ by simp [Array.getElem?_setIfInBounds, hl]) (fun q hq => by simp [Array.getElem?_setIfInBounds, Ne.symm hq]) (fun q hq => by
    obtain ⟨z, -, hz⟩ := List.mem_map.mp hq
    rw [← hz]) _ hheap X'
  exact ⟨t, step t a1, b1⟩
theorem xs_invokestatic (hk : ∀ pc L st h, k pc L st h → xAt lim g Q pc L st h) {n : Nat} (hd : decode (sgB g) pc = .ok (.invokestatic n, len)) (hc : xck g (pc, .invokestatic n, len, lk) = true) (hq : xlk g (pc, .invokestatic n, len, lk)) (hs : xstep lim g k Q pc L st h (.invokestatic n) len lk) : xAt lim g Q pc L st h := by
  replace hs : xist k pc len L st h lk := hs
  unfold xist at hs
  split at hs
  next c0 =>
    split at hs
    next As r hpop =>
      obtain ⟨h8, hs⟩ := bif_el hs
      obtain ⟨P, hsp, hs⟩ := xcal_el hs
      obtain ⟨h1, h2⟩ := and_el hc
      have h2 := nb_eq h2
      subst h2
      obtain ⟨hfr, hlo⟩ := and_el h1
      have hfr := Nat.le_of_ble_eq_true hfr
      have hlo := Nat.le_of_ble_eq_true hlo
      obtain ⟨hlink, hmc, hstat⟩ := hq
      obtain ⟨B, hB, hst, hlen⟩ := xpop_el hpop
      rw [List.append_nil] at hB
      subst hB
      intro p l e s m args below meth c D cI cR b N0 S0 H locs ls X C hl
      obtain ⟨-, hPt, hM⟩ := hsp
      have hM := hM l D cI cR b
      have hts := X.2.2.2.2.2.2.2
      refine x_after (va_runS (As := As.map (xcv b)) (rest := r.map (xcv b)) ⟨X.1, X.2.1, X.2.2.2.2.1, X.2.2.2.2.2.1, hts⟩ hM (va_cwS (sgP c0) hts (xgood (fun w hw => ?_)) rfl rfl rfl ⟨hmc.2.2.1, hmc.2.2.2.1, hmc.2.2.2.2⟩ ⟨hfr, hlo⟩) ⟨x_blind, fun U hU hW => ⟨rfl, by rw [hU]; exact C.2.1, xKk.moved hW.alike C.1⟩⟩ rfl (by rw [List.length_map]; exact hlen) hl.1 (by rw [hst]; simp) (x_ok8 b h8) hd ?_) C.2.2.1 fun v h' H1 locs1 hP hW1 hS1 => ?_
      · rcases List.mem_append.mp hw with hw | hw
        · rcases List.mem_cons.mp hw with hw | hw
          · rw [hw]; exact hlink
          · rcases List.mem_cons.mp hw with hw | hw
            · rw [hw]; exact hstat
            · rw [List.mem_singleton.mp hw]; exact hmc.1
        · exact xwd_in hmc w hw
      · have := C.2.2.2.2
        show h.1 - N0 + 0 ≤ lim.1 - N0 ∧ h.2.1 - S0 + 0 ≤ lim.2 - S0
        omega
      · obtain ⟨-, g3, g4⟩ := hPt v h' hP
        rw [x_map]
        refine W.cs (show h.1 - N0 + 0 = h'.1 - N0 by omega) (show h.2.1 - S0 + 0 = h'.2.1 - S0 by omega) ?_
        exact hk _ _ _ _ (hs v h' hP) p l e s m args below meth c D cI cR b N0 S0 H1 locs1 ls X ⟨C.1, hW1, hS1, C.2.2.2.1, by rw [g3, g4]; exact C.2.2.2.2⟩ hl
    · exact hs.elim
  next q =>
    obtain ⟨n9, r1, e1, hs1⟩ := xpi_el hs
    obtain ⟨dp, r2, e2, hs2⟩ := xpi_el hs1
    obtain ⟨a, r3, e3, hs3⟩ := xpr_el hs2
    obtain ⟨sp, r4, e4, hs4⟩ := xpi_el hs3
    obtain ⟨a0, r, e5, hs5⟩ := xpr_el hs4
    clear hs hs1 hs2 hs3 hs4
    subst e1 e2 e3 e4 e5
    obtain ⟨h8, n0, f, n1, f1, jn, jd, js, ha0, ha, rfl, rfl, rfl, b1, b2, b3, b4, hs⟩ := bif_el hs5
    clear hs5
    obtain ⟨h1, h2⟩ := and_el hc
    have h2 := nb_eq h2
    subst h2
    obtain ⟨hfr, hlo⟩ := and_el h1
    have hfr := Nat.le_of_ble_eq_true hfr
    have hlo := Nat.le_of_ble_eq_true hlo
    intro p l e s m args below meth c D cI cR b N0 S0 H locs ls X C hl0
    have h9 := Nat.le_of_ble_eq_true h8
    exact x_copy X C.1.1 C.2.1 ha0 ha b1 b2 b3 b4 (X.2.2.2.2.1.trans hl0.1.symm) hfr (by rw [xcats_eq]; exact Nat.le_trans (Nat.add_le_add_right h9 _) hlo) hq hd (fun H1 L9 z he oq hL => hk _ _ _ _ hs p l e s m args below meth c D cI cR b N0 S0 H1 _ ls X (xCx_putL C ha.1 z he oq hL) hl0)
  next ps =>
    obtain ⟨y, r1, e1, hs1⟩ := xpi_el hs
    obtain ⟨x, r, e2, hs2⟩ := xpi_el hs1
    clear hs hs1
    subst e1 e2
    obtain ⟨h8, hs⟩ := bif_el hs2
    clear hs2
    obtain ⟨h1, h2⟩ := and_el hc
    have h2 := nb_eq h2
    subst h2
    obtain ⟨hfr, hlo⟩ := and_el h1
    have hfr := Nat.le_of_ble_eq_true hfr
    have hlo := Nat.le_of_ble_eq_true hlo
    obtain ⟨q1, q2, q3, q4⟩ := hq
    intro p l e s m args below meth c D cI cR b N0 S0 H locs ls X C hl
    have hts : ∀ w ∈ lw_g, w.before args s = true := fun w hw => X.2.2.2.2.2.2.2 w (List.mem_cons_of_mem _ hw)
    have h9 := Nat.le_of_ble_eq_true h8
    have c5 := C.2.2.2.2
    exact va_mmax X.1 X.2.1 (X.2.2.2.2.1.trans hl.1.symm) X.2.2.2.2.2.1 (hts _ q1) (hts _ q2) (hts _ q3) (hts _ q4) hfr (by rw [xcats_eq]; exact Nat.le_trans (Nat.add_le_add_right h9 13) (Nat.le_trans (by decide) hlo)) (by show h.1 - N0 ≤ lim.1 - N0; omega) (by show h.2.1 - S0 ≤ lim.2 - S0; omega) hd (hk _ _ _ _ hs p l e s m args below meth c D cI cR b N0 S0 H locs ls X C hl)
  next ps =>
    obtain ⟨y, r1, e1, hs1⟩ := xpi_el hs
    obtain ⟨x, r, e2, hs2⟩ := xpi_el hs1
    clear hs hs1
    subst e1 e2
    obtain ⟨h8, hs⟩ := bif_el hs2
    clear hs2
    obtain ⟨h1, h2⟩ := and_el hc
    have h2 := nb_eq h2
    subst h2
    obtain ⟨hfr, hlo⟩ := and_el h1
    have hfr := Nat.le_of_ble_eq_true hfr
    have hlo := Nat.le_of_ble_eq_true hlo
    obtain ⟨q1, q2, q3, q4⟩ := hq
    intro p l e s m args below meth c D cI cR b N0 S0 H locs ls X C hl
    have hts : ∀ w ∈ lw_g, w.before args s = true := fun w hw => X.2.2.2.2.2.2.2 w (List.mem_cons_of_mem _ hw)
    have h9 := Nat.le_of_ble_eq_true h8
    have c5 := C.2.2.2.2
    exact va_mmin X.1 X.2.1 (X.2.2.2.2.1.trans hl.1.symm) X.2.2.2.2.2.1 (hts _ q1) (hts _ q2) (hts _ q3) (hts _ q4) hfr (by rw [xcats_eq]; exact Nat.le_trans (Nat.add_le_add_right h9 13) (Nat.le_trans (by decide) hlo)) (by show h.1 - N0 ≤ lim.1 - N0; omega) (by show h.2.1 - S0 ≤ lim.2 - S0; omega) hd (hk _ _ _ _ hs p l e s m args below meth c D cI cR b N0 S0 H locs ls X C hl)
  next ps =>
    obtain ⟨x, r, e1, hs1⟩ := xpi_el hs
    clear hs
    subst e1
    obtain ⟨h8, hs⟩ := bif_el hs1
    clear hs1
    obtain ⟨h1, h2⟩ := and_el hc
    have h2 := nb_eq h2
    subst h2
    obtain ⟨hfr, hlo⟩ := and_el h1
    have hfr := Nat.le_of_ble_eq_true hfr
    have hlo := Nat.le_of_ble_eq_true hlo
    obtain ⟨q1, q2, q3, q4⟩ := hq
    intro p l e s m args below meth c D cI cR b N0 S0 H locs ls X C hl
    have hts : ∀ w ∈ lw_g, w.before args s = true := fun w hw => X.2.2.2.2.2.2.2 w (List.mem_cons_of_mem _ hw)
    have h9 := Nat.le_of_ble_eq_true h8
    have c5 := C.2.2.2.2
    exact va_mabs X.1 X.2.1 (X.2.2.2.2.1.trans hl.1.symm) X.2.2.2.2.2.1 (hts _ q1) (hts _ q2) (hts _ q3) (hts _ q4) hfr (by rw [xcats_eq]; exact Nat.le_trans (Nat.add_le_add_right h9 13) (Nat.le_trans (by decide) hlo)) (by show h.1 - N0 ≤ lim.1 - N0; omega) (by show h.2.1 - S0 ≤ lim.2 - S0; omega) hd (hk _ _ _ _ hs p l e s m args below meth c D cI cR b N0 S0 H locs ls X C hl)
  · exact hs.elim
theorem xs_invokevirtual (hk : ∀ pc L st h, k pc L st h → xAt lim g Q pc L st h) {n : Nat} (hd : decode (sgB g) pc = .ok (.invokevirtual n, len)) (hc : xck g (pc, .invokevirtual n, len, lk) = true) (hq : xlk g (pc, .invokevirtual n, len, lk)) (hs : xstep lim g k Q pc L st h (.invokevirtual n) len lk) : xAt lim g Q pc L st h := by
  replace hs : xivt k pc len L st h lk := hs
  unfold xivt at hs
  split at hs
  next c0 =>
    split at hs
    next As r hpop =>
      obtain ⟨ra, r, rfl, hs⟩ := xpr_el hs
      obtain ⟨h8, hs⟩ := bif_el hs
      obtain ⟨P, hsp, hs⟩ := xcal_el hs
      obtain ⟨h1, h2⟩ := and_el hc
      have h2 := nb_eq h2
      subst h2
      obtain ⟨hfr, hlo⟩ := and_el h1
      have hfr := Nat.le_of_ble_eq_true hfr
      have hlo := Nat.le_of_ble_eq_true hlo
      obtain ⟨hlink, hmc, hinst, hsel, ci, rc, hci, hrc, hcn⟩ := hq
      obtain ⟨B, hB, hst, hlen⟩ := xpop_el hpop
      rw [List.append_nil] at hB
      subst hB
      intro p l e s m args below meth c D cI cR b N0 S0 H locs ls X C hl
      obtain ⟨hrv, hPt, hM⟩ := hsp
      obtain ⟨ra', fs, As', hra, hat⟩ := hrv ci hci
      cases hra
      have hM := hM l D cI cR b
      have hts := X.2.2.2.2.2.2.2
      have hrec := va_recv (q0 := 0) C.1.1 (xWd_one C.2.1 hat) hrc rfl
      rw [hcn] at hrec
      refine x_after (va_runV (C := (sgN c0).cls) (b := b + ra) (As := As.map (xcv b)) (rest := r.map (xcv b)) ⟨X.1, X.2.1, X.2.2.2.2.1, X.2.2.2.2.2.1, hts⟩ hM (cwV (sgP c0) hts (xgood (fun w hw => ?_)) rfl rfl rfl ⟨rfl, hmc.2.2.1, hmc.2.2.2.1, hmc.2.2.2.2⟩ ⟨hfr, hlo⟩) ⟨x_blind, hrec, fun U hU hW => ⟨rfl, by rw [hU]; exact C.2.1, xKk.moved hW.alike C.1⟩⟩ rfl (by rw [List.length_map]; exact hlen) hl.1 (by rw [hst]; simp [xcv]) (x_ok8 b h8) hd ?_) C.2.2.1 fun v h' H1 locs1 hP hW1 hS1 => ?_
      · rcases List.mem_append.mp hw with hw | hw
        · rcases List.mem_cons.mp hw with hw | hw
          · rw [hw]; exact hlink
          · rcases List.mem_cons.mp hw with hw | hw
            · rw [hw]; exact hinst
            · rcases List.mem_cons.mp hw with hw | hw
              · rw [hw]; exact hsel
              · rw [List.mem_singleton.mp hw]; exact hmc.1
        · exact xwd_in hmc w hw
      · have := C.2.2.2.2
        show h.1 - N0 + 0 ≤ lim.1 - N0 ∧ h.2.1 - S0 + 0 ≤ lim.2 - S0
        omega
      · obtain ⟨-, g3, g4⟩ := hPt v h' hP
        rw [x_map]
        refine W.cs (show h.1 - N0 + 0 = h'.1 - N0 by omega) (show h.2.1 - S0 + 0 = h'.2.1 - S0 by omega) ?_
        exact hk _ _ _ _ (hs v h' hP) p l e s m args below meth c D cI cR b N0 S0 H1 locs1 ls X ⟨C.1, hW1, hS1, C.2.2.2.1, by rw [g3, g4]; exact C.2.2.2.2⟩ hl
    · exact hs.elim
  · exact hs.elim
theorem xs_invokespecial (hk : ∀ pc L st h, k pc L st h → xAt lim g Q pc L st h) {n : Nat} (hd : decode (sgB g) pc = .ok (.invokespecial n, len)) (hc : xck g (pc, .invokespecial n, len, lk) = true) (hq : xlk g (pc, .invokespecial n, len, lk)) (hs : xstep lim g k Q pc L st h (.invokespecial n) len lk) : xAt lim g Q pc L st h := by
  replace hs : xisp lim k pc len L st h lk := hs
  unfold xisp at hs
  split at hs
  next c0 =>
    split at hs
    next As r hpop =>
      obtain ⟨ra, r, rfl, hs⟩ := xpr_el hs
      obtain ⟨h8, h', ⟨g1, g2, -, hM⟩, l1, l2, hs⟩ := bif_el hs
      obtain ⟨h1, h2⟩ := and_el hc
      have h2 := nb_eq h2
      subst h2
      obtain ⟨hfr, hlo⟩ := and_el h1
      have hfr := Nat.le_of_ble_eq_true hfr
      have hlo := Nat.le_of_ble_eq_true hlo
      obtain ⟨hlink, hmc, hinst, hnm, hret⟩ := hq
      obtain ⟨B, hB, hst, hlen⟩ := xpop_el hpop
      rw [List.append_nil] at hB
      subst hB
      intro p l e s m args below meth c D cI cR b N0 S0 H locs ls X C hl
      have hM := hM l D cI cR b
      have hts := X.2.2.2.2.2.2.2
      have hxw : xwd c0 = Cond.code (sgN c0) (sgB c0) (sgL c0) none :: lw_g := by unfold xwd; rw [hret]
      refine x_after (va_runI (b := b + ra) (As := As.map (xcv b)) (rest := r.map (xcv b)) ⟨X.1, X.2.1, X.2.2.2.2.1, X.2.2.2.2.2.1, hts⟩ hM (cwI (sgP c0) hts (xgood (xwd_in hmc)) hxw rfl rfl (hts _ (List.mem_cons_of_mem _ hmc.1)) (hts _ (List.mem_cons_of_mem _ hlink)) (hts _ (List.mem_cons_of_mem _ hinst)) hnm ⟨hmc.2.2.1, hmc.2.2.2.1, hmc.2.2.2.2⟩ ⟨hfr, hlo⟩) ⟨x_blind, fun U hU hW => ⟨rfl, by rw [hU]; exact C.2.1, xKk.moved hW.alike C.1⟩⟩ rfl (by rw [List.length_map]; exact hlen) hl.1 (by rw [hst]; simp [xcv]) (x_ok8 b h8) hd ?_) C.2.2.1 fun v2 h2 H1 locs1 hP hW1 hS1 => ?_
      · have := C.2.2.2.2
        show h.1 - N0 + (h'.1 - h.1) ≤ lim.1 - N0 ∧ h.2.1 - S0 + (h'.2.1 - h.2.1) ≤ lim.2 - S0
        omega
      · obtain ⟨rfl, rfl⟩ := hP
        have := C.2.2.2.2
        refine W.cs (show h.1 - N0 + (h2.1 - h.1) = h2.1 - N0 by omega) (show h.2.1 - S0 + (h2.2.1 - h.2.1) = h2.2.1 - S0 by omega) ?_
        exact hk _ _ _ _ hs p l e s m args below meth c D cI cR b N0 S0 H1 locs1 ls X ⟨C.1, hW1, hS1, C.2.2.2.1, by omega⟩ hl
    · exact hs.elim
  next q =>
    obtain ⟨ra, r, rfl, hs⟩ := xpr_el hs
    obtain ⟨h8, hs⟩ := bif_el hs
    obtain ⟨h1, h2⟩ := and_el hc
    have h2 := nb_eq h2
    subst h2
    obtain ⟨hfr, hlo⟩ := and_el h1
    have hfr := Nat.le_of_ble_eq_true hfr
    have hlo := Nat.le_of_ble_eq_true hlo
    obtain ⟨q1, q2, q3⟩ := hq
    intro p l e s m args below meth c D cI cR b N0 S0 H locs ls X C hl
    have hts : ∀ w ∈ lw_g, w.before args s = true := fun w hw => X.2.2.2.2.2.2.2 w (List.mem_cons_of_mem _ hw)
    have h9 := x_ok8 (pc := pc) (m := m) (ls := ls) (st0 := .ref (b + ra) :: r.map (xcv b)) b h8
    exact W.objInit X.1 X.2.1 X.2.2.2.2.2.1 (hts _ q1) (hts _ q2) (hts _ q3) (g := F0 m pc ls (.ref (b + ra) :: r.map (xcv b))) rfl (hl.1.trans X.2.2.2.2.1.symm) rfl hd hfr (Nat.le_trans (Nat.add_le_add_right h9 12) hlo) (hk _ _ _ _ hs p l e s m args below meth c D cI cR b N0 S0 H locs ls X C hl)
  · exact hs.elim
/-! answers -/
theorem xnil_el {st : List Value} {p : Prop} (h : xnil st p) : st = [] ∧ p := by
  unfold xnil at h
  split at h
  · exact ⟨rfl, h⟩
  · exact h.elim
theorem x_end {D : va_G} {cI cR : ClassId} {b N0 S0 : Nat} {s t : State} {H : Heap} {locs : List Loc} {v : Option Value} {args : Array Value} (C : xCx lim g D cI cR b N0 S0 s h H locs) (hQ : Q v h) (ht : t.heap = H) (hW : s.WarmedH t.vm) : xQ D cI cR b Q args s (.returned (v.map (xcv b))) t :=
  ⟨v, h, hQ, rfl, by rw [ht]; exact C.2.1, xKk.moved hW.alike C.1, C.2.2.1.F ht⟩
theorem xs_ireturn (hd : decode (sgB g) pc = .ok (.ireturn, len)) (hc : xck g (pc, .ireturn, len, lk) = true) (hs : xstep lim g k Q pc L st h .ireturn len lk) : xAt lim g Q pc L st h := by
  obtain ⟨x, r, rfl, hs⟩ := xpi_el hs
  obtain ⟨rfl, hs⟩ := xnil_el hs
  have h2 := nb_eq hc
  subst h2
  intro p l e s m args below meth c D cI cR b N0 S0 H locs ls X C hl
  have c5 := C.2.2.2.2
  refine W.widen (k := lim.1 - N0) (n := lim.2 - S0) (by omega) (by omega) ?_
  replace hs : xrt g x (Q (some (.int x)) h) := hs
  unfold xrt at hs
  split at hs
  next hr => exact W.iret (v := x) X.1 X.2.1 (X.2.2.1.trans hr) (fun t ht hW => x_end C hs ht hW) C.2.2.1.2.2 hd X.2.2.2.1
  next hr =>
    refine W.zret (v := x) X.1 X.2.1 (X.2.2.1.trans hr) ?_ (fun t ht hW => x_end C hs.2 ht hW) C.2.2.1.2.2 hd X.2.2.2.1
    rcases hs.1 with h0 | h0 <;> subst h0 <;> decide
  · exact hs.elim
theorem xs_lreturn (hd : decode (sgB g) pc = .ok (.lreturn, len)) (hc : xck g (pc, .lreturn, len, lk) = true) (hs : xstep lim g k Q pc L st h .lreturn len lk) : xAt lim g Q pc L st h := by
  obtain ⟨x, r, rfl, hs⟩ := xpl_el hs
  obtain ⟨rfl, hs⟩ := xnil_el hs
  obtain ⟨hr, h2⟩ := and_el hc
  have hr : sgR g = some .long := of_decide_eq_true hr
  have h2 := nb_eq h2
  subst h2
  intro p l e s m args below meth c D cI cR b N0 S0 H locs ls X C hl
  have c5 := C.2.2.2.2
  refine W.widen (k := lim.1 - N0) (n := lim.2 - S0) (by omega) (by omega) ?_
  exact W.lret (v := x) X.1 X.2.1 (X.2.2.1.trans hr) (fun t ht hW => x_end C hs ht hW) C.2.2.1.2.2 hd X.2.2.2.1
theorem xs_return (hd : decode (sgB g) pc = .ok (.return_, len)) (hc : xck g (pc, .return_, len, lk) = true) (hs : xstep lim g k Q pc L st h .return_ len lk) : xAt lim g Q pc L st h := by
  obtain ⟨rfl, hs⟩ := xnil_el hs
  obtain ⟨hr, h2⟩ := and_el hc
  have hr : sgR g = none := of_decide_eq_true hr
  have h2 := nb_eq h2
  subst h2
  intro p l e s m args below meth c D cI cR b N0 S0 H locs ls X C hl
  have c5 := C.2.2.2.2
  refine W.widen (k := lim.1 - N0) (n := lim.2 - S0) (by omega) (by omega) ?_
  exact W.vret X.1 X.2.1 (X.2.2.1.trans hr) (fun t ht hW => x_end C hs ht hW) C.2.2.1.2.2 hd X.2.2.2.1

theorem xstep_sound (hk : ∀ pc L st h, k pc L st h → xAt lim g Q pc L st h) {i : Instr} (hd : decode (sgB g) pc = .ok (i, len)) (hc : xck g (pc, i, len, lk) = true) (hq : xlk g (pc, i, len, lk)) (hs : xstep lim g k Q pc L st h i len lk) : xAt lim g Q pc L st h := by
  cases i with
  | iconst n => exact xs_iconst hk hd hc hs
  | bipush n => exact xs_bipush hk hd hc hs
  | sipush n => exact xs_sipush hk hd hc hs
  | iload n => exact xs_iload hk hd hc hs
  | lload n => exact xs_lload hk hd hc hs
  | aload n => exact xs_aload hk hd hc hs
  | iload_n n => exact xs_iload_n hk hd hc hs
  | lload_n n => exact xs_lload_n hk hd hc hs
  | aload_n n => exact xs_aload_n hk hd hc hs
  | istore n => exact xs_istore hk hd hc hs
  | lstore n => exact xs_lstore hk hd hc hs
  | astore n => exact xs_astore hk hd hc hs
  | istore_n n => exact xs_istore_n hk hd hc hs
  | lstore_n n => exact xs_lstore_n hk hd hc hs
  | astore_n n => exact xs_astore_n hk hd hc hs
  | iinc n n2 => exact xs_iinc hk hd hc hs
  | iadd  => exact xs_iadd hk hd hc hs
  | isub  => exact xs_isub hk hd hc hs
  | imul  => exact xs_imul hk hd hc hs
  | iand  => exact xs_iand hk hd hc hs
  | ior  => exact xs_ior hk hd hc hs
  | ixor  => exact xs_ixor hk hd hc hs
  | ishl  => exact xs_ishl hk hd hc hs
  | ishr  => exact xs_ishr hk hd hc hs
  | iushr  => exact xs_iushr hk hd hc hs
  | idiv  => exact xs_idiv hk hd hc hs
  | irem  => exact xs_irem hk hd hc hs
  | ineg  => exact xs_ineg hk hd hc hs
  | ladd  => exact xs_ladd hk hd hc hs
  | lmul  => exact xs_lmul hk hd hc hs
  | i2l  => exact xs_i2l hk hd hc hs
  | dup  => exact xs_dup hk hd hc hs
  | dup2  => exact xs_dup2 hk hd hc hs
  | pop  => exact xs_pop hk hd hc hs
  | goto n => exact xs_goto hk hd hc hs
  | tableswitch n1 n2 n3 n4 => exact xs_tableswitch hk hd hc hs
  | iaload  => exact xs_iaload hk hd hc hs
  | iastore  => exact xs_iastore hk hd hc hs
  | aaload  => exact xs_aaload hk hd hc hs
  | aastore  => exact xs_aastore hk hd hc hs
  | arraylength  => exact xs_arraylength hk hd hc hs
  | ldc n => exact xs_ldc hk hd hc hq hs
  | ldc_w n => exact xs_ldc_w hk hd hc hq hs
  | ldc2_w n => exact xs_ldc2_w hk hd hc hq hs
  | getfield n => exact xs_getfield hk hd hc hq hs
  | putfield n => exact xs_putfield hk hd hc hq hs
  | newarray n => exact xs_newarray hk hd hc hq hs
  | anewarray n => exact xs_anewarray hk hd hc hq hs
  | new n => exact xs_new hk hd hc hq hs
  | invokestatic n => exact xs_invokestatic hk hd hc hq hs
  | invokevirtual n => exact xs_invokevirtual hk hd hc hq hs
  | invokespecial n => exact xs_invokespecial hk hd hc hq hs
  | ireturn => exact xs_ireturn hd hc hs
  | lreturn => exact xs_lreturn hd hc hs
  | return_ => exact xs_return hd hc hs
  | ifCond cn n =>
    cases cn with
    | eq => exact xs_ifCond_eq hk hd hc hs
    | ne => exact xs_ifCond_ne hk hd hc hs
    | lt => exact xs_ifCond_lt hk hd hc hs
    | ge => exact xs_ifCond_ge hk hd hc hs
    | gt => exact xs_ifCond_gt hk hd hc hs
    | le => exact xs_ifCond_le hk hd hc hs
  | if_icmp cn n =>
    cases cn with
    | eq => exact xs_if_icmp_eq hk hd hc hs
    | ne => exact xs_if_icmp_ne hk hd hc hs
    | lt => exact xs_if_icmp_lt hk hd hc hs
    | ge => exact xs_if_icmp_ge hk hd hc hs
    | gt => exact xs_if_icmp_gt hk hd hc hs
    | le => exact xs_if_icmp_le hk hd hc hs
  | _ => exact False.elim hs
end XS
/-! SOUNDNESS of the generator, and a method's contract out of it -/
theorem wp_sound {lim : Nat × Nat} {g : xSig} {cd : xCd} {cut : List (Nat × List Nat)} {K : xK} {Q : Option Value → xHp → Prop} (ok : xOK g cd) (hK : ∀ pc L st h, K pc L st h → xAt lim g Q pc L st h) : ∀ (n pc : Nat) (L : xLo) (st : List Value) (h : xHp), wp lim g cd cut K Q n pc L st h → xAt lim g Q pc L st h := by
  intro n
  induction n with
  | zero => intro pc L st h hs; exact hs.elim
  | succ n ih =>
    intro pc L st h hs
    replace hs : xgo (xfind cd pc) (xstep lim g (xnext cut K (wp lim g cd cut K Q n)) Q pc L st h) := hs
    obtain ⟨i, len, lk, hf, hs⟩ := xgo_el hs
    have hm := xfind_mem hf
    have h1 : decode (sgB g) pc = .ok (i, len) := ok.1 (pc, i, len, lk) hm
    have h2 : xck g (pc, i, len, lk) = true := List.all_eq_true.mp ok.2.1 (pc, i, len, lk) hm
    have h3 : xlk g (pc, i, len, lk) := ok.2.2 (pc, i, len, lk) hm
    generalize hkk : xnext cut K (wp lim g cd cut K Q n) = kx at hs
    have hkx : ∀ pc L st h, kx pc L st h → xAt lim g Q pc L st h := by
      intro pc' L' st' h' hk
      rw [← hkk] at hk
      rcases xnext_el hk with hk | ⟨ks, hk⟩
      · exact ih _ _ _ _ hk
      · exact xAt_sub (hK _ _ _ _ hk) xsel_mem
    exact xstep_sound hkx h1 h2 h3 hs
theorem lg_sl_cv (b : Nat) : ∀ vs : List Value, (lg_sl (vs.map (xcv b))).length = (lg_sl vs).length
  | [] => rfl
  | v :: vs => by
    have ih := lg_sl_cv b vs
    unfold lg_sl at ih ⊢
    simp only [List.map_cons, List.flatMap_cons, List.length_append, ih, xcv_cat]
    by_cases hc : v.category = 2 <;> simp [hc]
theorem lv_args_cv (b : Nat) : ∀ (vs : List Value) (i : Nat), lv_args i (vs.map (xcv b)) = xcL b (lv_args i vs)
  | [], _ => rfl
  | v :: vs, i => by
    have ih := lv_args_cv b vs
    simp only [List.map_cons, lv_args, xcL, xcv_cat] at ih ⊢
    rw [ih]
theorem Met_of {g : xSig} {args : List Value} {h : xHp} {mc ms : Nat} {P : Option Value → xHp → Prop} (hp : plainName (sgN g).cls = true) (hl : (lg_sl args).length ≤ sgL g)
    (hA : xAt (h.1 + mc, h.2.1 + ms) g P 0 (lv_args 0 args) [] h) (l : Launch) (D : va_G) (cI cR : ClassId) (b : Nat) :
    Met l (sgN g) (xwd g) (xrm g mc ms) (va_Pc (args.map (xcv b)) (fun U => xWd D cI cR b h U.heap ∧ xKk D cI cR U)) (xQ D cI cR b P) mc ms (fun q => b ≤ q) := by
  refine Met.ofW (cc := sgB g) (maxL := sgL g) (ret := sgR g) hp rfl ?_
  intro p e s m as below meth c s₁ B hml hv
  obtain ⟨rfl, hW, hK⟩ := hv
  have hts := atoms_spec (ws := xwd g) B.pre
  rw [lg_entry_eq]
  have hl2 := lv_entry (args.map (xcv b)) (n := sgL g) (by rw [lg_sl_cv]; exact hl)
  rw [lv_args_cv] at hl2
  have hsz : s.heap.size = b + h.1 := hW.1
  have key := hA p l e s m _ below meth c D cI cR b h.1 h.2.1 s.heap [] _ ⟨B.exec, B.bytes, B.returns, B.notSynchronized, hml, findClass_of_methodNamed B.named, (name_of_methodNamed B.named B.method).1, hts⟩ ⟨hK, hW, va_S.rf, hsz.symm, Nat.le_refl _, Nat.le_add_right _ _, Nat.le_refl _, Nat.le_add_right _ _⟩ hl2
  simp only [Nat.sub_self, Nat.add_sub_cancel_left] at key
  exact key
theorem SpecA.of {g : xSig} {args : List Value} {h h' : xHp} {v : Option Value} (hp : plainName (sgN g).cls = true) (hl : (lg_sl args).length ≤ sgL g) (h1 : h.1 ≤ h'.1) (h2 : h.2.1 ≤ h'.2.1) (hr : xrecv g args h)
    (hA : ∀ Q : Option Value → xHp → Prop, Q v h' → xAt (h'.1, h'.2.1) g Q 0 (lv_args 0 args) [] h) : SpecA g args h v h' := by
  refine ⟨h1, h2, hr, Met_of hp hl ?_⟩
  rw [Nat.add_sub_cancel' h1, Nat.add_sub_cancel' h2]
  exact hA _ ⟨rfl, rfl⟩
theorem SpecR.of {g : xSig} {args : List Value} {h : xHp} {P : Option Value → xHp → Prop} (hp : plainName (sgN g).cls = true) (hl : (lg_sl args).length ≤ sgL g) (hr : xrecv g args h) (ht : ∀ v h', P v h' → xtym (sgR g) v ∧ h'.1 = h.1 ∧ h'.2.1 = h.2.1)
    (hA : ∀ Q : Option Value → xHp → Prop, (∀ v h', P v h' → Q v h') → xAt (h.1, h.2.1) g Q 0 (lv_args 0 args) [] h) : SpecR g args h P :=
  ⟨hr, ht, Met_of (mc := 0) (ms := 0) hp hl (hA P (fun _ _ z => z))⟩
theorem Spec.of {g : xSig} {args : List Value} {h h' : xHp} {v : Option Value} (hp : plainName (sgN g).cls = true) (hl : (lg_sl args).length ≤ sgL g) (ht : xtym (sgR g) v) (h1 : h'.1 = h.1) (h2 : h'.2.1 = h.2.1) (hr : xrecv g args h)
    (hA : ∀ Q : Option Value → xHp → Prop, Q v h' → xAt (h.1, h.2.1) g Q 0 (lv_args 0 args) [] h) : Spec g args h v h' :=
  SpecR.of hp hl hr (fun v2 h2' z => by obtain ⟨rfl, rfl⟩ := z; exact ⟨ht, h1, h2⟩) (fun Q hQ => hA Q (hQ _ _ ⟨rfl, rfl⟩))
end
section
/-! SIGNATURES, and what the tables say of each -/
def g_Fit_init : xSig := (⟨"TurningVerse$Fit", "<init>", "()V"⟩, prog_2_method_1_code, 1, none, 1, 20, 0, none)
def g_Fit_changes : xSig := (⟨"TurningVerse$Fit", "changes", "(LTurningVerse$Poem;II)I"⟩, prog_2_method_2_code, 5, some .int, 3, 74, 3, some 0)
def g_Fit_firstRow : xSig := (⟨"TurningVerse$Fit", "firstRow", "()I"⟩, prog_2_method_3_code, 5, some .int, 2, 47, 0, some 0)
def g_Fit_bestPermutation : xSig := (⟨"TurningVerse$Fit", "bestPermutation", "(LTurningVerse$Poem;I)I"⟩, prog_2_method_4_code, 9, some .int, 3, 74, 2, some 0)
def g_Fit_compare : xSig := (⟨"TurningVerse$Fit", "compare", "(LTurningVerse$Poem;II)V"⟩, prog_2_method_5_code, 9, none, 2, 46, 3, some 0)
def g_Fit_mostKept : xSig := (⟨"TurningVerse$Fit", "mostKept", "()I"⟩, prog_2_method_6_code, 6, some .int, 1, 26, 0, some 0)
def g_Fit_keptWith : xSig := (⟨"TurningVerse$Fit", "keptWith", "(III)I"⟩, prog_2_method_7_code, 5, some .int, 0, 0, 3, some 0)
def g_Fit_firstWord : xSig := (⟨"TurningVerse$Fit", "firstWord", "(II)I"⟩, prog_2_method_8_code, 4, some .int, 1, 24, 2, some 0)
def g_Fit_atMostKept : xSig := (⟨"TurningVerse$Fit", "atMostKept", "()I"⟩, prog_2_method_9_code, 4, some .int, 2, 49, 0, some 0)
def g_Fit_mostOfLine : xSig := (⟨"TurningVerse$Fit", "mostOfLine", "(I)I"⟩, prog_2_method_10_code, 4, some .int, 1, 26, 1, some 0)
def g_Fit_mostOfWord : xSig := (⟨"TurningVerse$Fit", "mostOfWord", "(I)I"⟩, prog_2_method_11_code, 4, some .int, 1, 26, 1, some 0)
def g_Hist_init : xSig := (⟨"TurningVerse$History", "<init>", "()V"⟩, prog_3_method_1_code, 2, none, 4, 86, 0, none)
def g_Hist_remember : xSig := (⟨"TurningVerse$History", "remember", "(LTurningVerse$State;)V"⟩, prog_3_method_2_code, 2, none, 3, 68, 1, some 1)
def g_Hist_restore : xSig := (⟨"TurningVerse$History", "restore", "(LTurningVerse$State;)V"⟩, prog_3_method_3_code, 2, none, 3, 68, 1, some 1)
def g_Perm_count : xSig := (⟨"TurningVerse$Permutation", "count", "(I)I"⟩, prog_4_method_2_code, 3, some .int, 0, 0, 1, none)
def g_Perm_number : xSig := (⟨"TurningVerse$Permutation", "number", "(II)I"⟩, prog_4_method_3_code, 6, some .int, 1, 21, 2, none)
def g_Perm_numbered : xSig := (⟨"TurningVerse$Permutation", "numbered", "(II)I"⟩, prog_4_method_4_code, 9, some .int, 1, 22, 2, none)
def g_Perm_ofKind : xSig := (⟨"TurningVerse$Permutation", "ofKind", "(III)I"⟩, prog_4_method_5_code, 5, some .int, 2, 45, 3, none)
def g_Perm_lineOfKind : xSig := (⟨"TurningVerse$Permutation", "lineOfKind", "(IIII)I"⟩, prog_4_method_6_code, 4, some .int, 1, 22, 4, none)
def g_Perm_lineOfWeave : xSig := (⟨"TurningVerse$Permutation", "lineOfWeave", "(II)I"⟩, prog_4_method_7_code, 3, some .int, 0, 0, 2, none)
def g_Perm_inverse : xSig := (⟨"TurningVerse$Permutation", "inverse", "(II)I"⟩, prog_4_method_8_code, 4, some .int, 1, 22, 2, none)
def g_Perm_repeated : xSig := (⟨"TurningVerse$Permutation", "repeated", "(III)I"⟩, prog_4_method_9_code, 6, some .int, 2, 46, 3, none)
def g_Perm_firstRoot : xSig := (⟨"TurningVerse$Permutation", "firstRoot", "(III)I"⟩, prog_4_method_10_code, 6, some .int, 3, 71, 3, none)
def g_Perm_order : xSig := (⟨"TurningVerse$Permutation", "order", "(II)I"⟩, prog_4_method_11_code, 5, some .int, 2, 46, 2, none)
def g_Perm_property : xSig := (⟨"TurningVerse$Permutation", "property", "(III)I"⟩, prog_4_method_12_code, 3, some .int, 3, 70, 3, none)
def g_Perm_cycleOf : xSig := (⟨"TurningVerse$Permutation", "cycleOf", "(III)I"⟩, prog_4_method_13_code, 5, some .int, 1, 21, 3, none)
def g_Perm_cycles : xSig := (⟨"TurningVerse$Permutation", "cycles", "(II)I"⟩, prog_4_method_14_code, 4, some .int, 2, 45, 2, none)
def g_Perm_fixedLines : xSig := (⟨"TurningVerse$Permutation", "fixedLines", "(II)I"⟩, prog_4_method_15_code, 4, some .int, 1, 21, 2, none)
def g_Perm_longestCycle : xSig := (⟨"TurningVerse$Permutation", "longestCycle", "(II)I"⟩, prog_4_method_16_code, 4, some .int, 2, 45, 2, none)
def g_Perm_cycleType : xSig := (⟨"TurningVerse$Permutation", "cycleType", "(II)I"⟩, prog_4_method_17_code, 5, some .int, 2, 45, 2, none)
def g_Poem_init : xSig := (⟨"TurningVerse$Poem", "<init>", "()V"⟩, prog_5_method_1_code, 1, none, 1, 20, 0, none)
def g_Poem_empty : xSig := (⟨"TurningVerse$Poem", "empty", "()V"⟩, prog_5_method_2_code, 1, none, 0, 0, 0, some 2)
def g_Poem_copyFrom : xSig := (⟨"TurningVerse$Poem", "copyFrom", "(LTurningVerse$Poem;)V"⟩, prog_5_method_3_code, 2, none, 1, 26, 1, some 2)
def g_Poem_append : xSig := (⟨"TurningVerse$Poem", "append", "(I)V"⟩, prog_5_method_4_code, 2, none, 0, 0, 1, some 2)
def g_Poem_appendTailLine : xSig := (⟨"TurningVerse$Poem", "appendTailLine", "(II)V"⟩, prog_5_method_5_code, 3, none, 0, 0, 2, some 2)
def g_Poem_properStanzas : xSig := (⟨"TurningVerse$Poem", "properStanzas", "(I)I"⟩, prog_5_method_6_code, 4, some .int, 3, 65, 1, some 2)
def g_Poem_lockedPlaces : xSig := (⟨"TurningVerse$Poem", "lockedPlaces", "()I"⟩, prog_5_method_7_code, 3, some .int, 1, 20, 0, some 2)
def g_Poem_turnBehind : xSig := (⟨"TurningVerse$Poem", "turnBehind", "(II)I"⟩, prog_5_method_8_code, 3, some .int, 3, 65, 2, some 2)
def g_Poem_turnsBy : xSig := (⟨"TurningVerse$Poem", "turnsBy", "(II)Z"⟩, prog_5_method_9_code, 4, some .boolean, 4, 88, 2, some 2)
def g_Poem_rewrite : xSig := (⟨"TurningVerse$Poem", "rewrite", "(III)V"⟩, prog_5_method_10_code, 6, none, 2, 46, 3, some 2)
def g_Poem_lengthOfTail : xSig := (⟨"TurningVerse$Poem", "lengthOfTail", "()I"⟩, prog_5_method_11_code, 3, some .int, 0, 0, 0, some 2)
def g_Poem_wordsOfTail : xSig := (⟨"TurningVerse$Poem", "wordsOfTail", "()I"⟩, prog_5_method_12_code, 3, some .int, 2, 44, 0, some 2)
def g_PR_init : xSig := (⟨"TurningVerse$PoemReader", "<init>", "()V"⟩, prog_6_method_1_code, 1, none, 2, 40, 0, none)
def g_PR_readText : xSig := (⟨"TurningVerse$PoemReader", "readText", "(LTurningVerse$Text;)I"⟩, prog_6_method_2_code, 4, some .int, 4, 90, 1, some 3)
def g_PR_readFirstStanza : xSig := (⟨"TurningVerse$PoemReader", "readFirstStanza", "(LTurningVerse$Text;)I"⟩, prog_6_method_3_code, 5, some .int, 2, 44, 1, some 3)
def g_PR_readStanza : xSig := (⟨"TurningVerse$PoemReader", "readStanza", "(LTurningVerse$Text;)I"⟩, prog_6_method_4_code, 5, some .int, 2, 44, 1, some 3)
def g_PR_readTail : xSig := (⟨"TurningVerse$PoemReader", "readTail", "(LTurningVerse$Text;)I"⟩, prog_6_method_5_code, 4, some .int, 3, 67, 1, some 3)
def g_PR_readTailLine : xSig := (⟨"TurningVerse$PoemReader", "readTailLine", "(LTurningVerse$Text;)I"⟩, prog_6_method_6_code, 4, some .int, 2, 44, 1, some 3)
def g_PR_wordBelow : xSig := (⟨"TurningVerse$PoemReader", "wordBelow", "(LTurningVerse$Text;I)I"⟩, prog_6_method_7_code, 4, some .int, 1, 21, 2, some 3)
def g_PR_isStanzaOver : xSig := (⟨"TurningVerse$PoemReader", "isStanzaOver", "(LTurningVerse$Text;)Z"⟩, prog_6_method_8_code, 3, some .boolean, 1, 21, 1, some 3)
def g_Rhy_pattern : xSig := (⟨"TurningVerse$Rhymes", "pattern", "(II)I"⟩, prog_7_method_2_code, 4, some .int, 2, 43, 2, none)
def g_Rhy_firstRhyme : xSig := (⟨"TurningVerse$Rhymes", "firstRhyme", "(II)I"⟩, prog_7_method_3_code, 3, some .int, 1, 21, 2, none)
def g_Rhy_differentPatterns : xSig := (⟨"TurningVerse$Rhymes", "differentPatterns", "(III[I)I"⟩, prog_7_method_4_code, 9, some .int, 3, 70, 4, none)
def g_Rhy_isAmong : xSig := (⟨"TurningVerse$Rhymes", "isAmong", "(I[II)Z"⟩, prog_7_method_5_code, 4, some .boolean, 0, 0, 3, none)
def g_Rhy_mostNeighborly : xSig := (⟨"TurningVerse$Rhymes", "mostNeighborly", "(II)I"⟩, prog_7_method_6_code, 7, some .int, 2, 50, 2, none)
def g_Rhy_neighbors : xSig := (⟨"TurningVerse$Rhymes", "neighbors", "(II)I"⟩, prog_7_method_7_code, 4, some .int, 1, 21, 2, none)
def g_Row_entry : xSig := (⟨"TurningVerse$Row", "entry", "(II)I"⟩, prog_8_method_2_code, 2, some .int, 0, 0, 2, none)
def g_Row_with : xSig := (⟨"TurningVerse$Row", "with", "(III)I"⟩, prog_8_method_3_code, 3, some .int, 0, 0, 3, none)
def g_Row_ascending : xSig := (⟨"TurningVerse$Row", "ascending", "(I)I"⟩, prog_8_method_4_code, 3, some .int, 1, 22, 1, none)
def g_Row_turned : xSig := (⟨"TurningVerse$Row", "turned", "(III)I"⟩, prog_8_method_5_code, 5, some .int, 1, 22, 3, none)
def g_Row_entries : xSig := (⟨"TurningVerse$Row", "entries", "(II)I"⟩, prog_8_method_6_code, 4, some .int, 1, 21, 2, none)
def g_Row_hasEach : xSig := (⟨"TurningVerse$Row", "hasEach", "(II)Z"⟩, prog_8_method_7_code, 2, some .boolean, 2, 44, 2, none)
def g_Sea_init : xSig := (⟨"TurningVerse$Search", "<init>", "()V"⟩, prog_9_method_1_code, 1, none, 1, 20, 0, none)
def g_Sea_spread : xSig := (⟨"TurningVerse$Search", "spread", "(LTurningVerse$State;I)V"⟩, prog_9_method_2_code, 6, none, 3, 69, 2, some 4)
def g_Sea_depthOf : xSig := (⟨"TurningVerse$Search", "depthOf", "(I)I"⟩, prog_9_method_3_code, 3, some .int, 2, 46, 1, some 4)
def g_Sea_factorAt : xSig := (⟨"TurningVerse$Search", "factorAt", "(II)I"⟩, prog_9_method_4_code, 5, some .int, 4, 91, 2, some 4)
def g_Sea_note : xSig := (⟨"TurningVerse$Search", "note", "(II)V"⟩, prog_9_method_5_code, 4, none, 2, 46, 2, some 4)
def g_Sea_isFactor : xSig := (⟨"TurningVerse$Search", "isFactor", "(I)Z"⟩, prog_9_method_6_code, 2, some .boolean, 0, 0, 1, some 4)
def g_Sea_firstFactor : xSig := (⟨"TurningVerse$Search", "firstFactor", "(I)I"⟩, prog_9_method_7_code, 4, some .int, 3, 68, 1, some 4)
def g_Sea_without : xSig := (⟨"TurningVerse$Search", "without", "(II)I"⟩, prog_9_method_8_code, 3, some .int, 2, 46, 2, some 4)
def g_Sta_init : xSig := (⟨"TurningVerse$State", "<init>", "()V"⟩, prog_10_method_1_code, 1, none, 3, 66, 0, none)
def g_Sta_startWith : xSig := (⟨"TurningVerse$State", "startWith", "(I)V"⟩, prog_10_method_2_code, 3, none, 2, 44, 1, some 5)
def g_Sta_copyFrom : xSig := (⟨"TurningVerse$State", "copyFrom", "(LTurningVerse$State;)V"⟩, prog_10_method_3_code, 2, none, 2, 47, 1, some 5)
def g_Txt_init : xSig := (⟨"TurningVerse$Text", "<init>", "()V"⟩, prog_11_method_1_code, 1, none, 1, 20, 0, none)
def g_Txt_append : xSig := (⟨"TurningVerse$Text", "append", "(I)V"⟩, prog_11_method_2_code, 2, none, 0, 0, 1, some 6)
def g_Txt_byteAt : xSig := (⟨"TurningVerse$Text", "byteAt", "(I)I"⟩, prog_11_method_3_code, 2, some .int, 0, 0, 1, some 6)
def g_TR_init : xSig := (⟨"TurningVerse$TurnReader", "<init>", "()V"⟩, prog_12_method_1_code, 1, none, 1, 20, 0, none)
def g_TR_readText : xSig := (⟨"TurningVerse$TurnReader", "readText", "(LTurningVerse$Text;I)I"⟩, prog_12_method_2_code, 10, some .int, 2, 44, 2, some 7)
def g_TV_init : xSig := (⟨"TurningVerse", "<init>", "()V"⟩, prog_1_method_1_code, 1, none, 5, 107, 0, none)
def g_TV_setWords : xSig := (⟨"TurningVerse", "setWords", "(I)I"⟩, prog_1_method_2_code, 3, some .int, 4, 89, 1, some 8)
def g_TV_setSound : xSig := (⟨"TurningVerse", "setSound", "(II)I"⟩, prog_1_method_3_code, 4, some .int, 4, 89, 2, some 8)
def g_TV_type : xSig := (⟨"TurningVerse", "type", "(I)I"⟩, prog_1_method_4_code, 2, some .int, 1, 21, 1, some 8)
def g_TV_clear : xSig := (⟨"TurningVerse", "clear", "()I"⟩, prog_1_method_5_code, 2, some .int, 0, 0, 0, some 8)
def g_TV_loadPoem : xSig := (⟨"TurningVerse", "loadPoem", "()I"⟩, prog_1_method_6_code, 2, some .int, 5, 113, 0, some 8)
def g_TV_loadTurn : xSig := (⟨"TurningVerse", "loadTurn", "(I)I"⟩, prog_1_method_7_code, 3, some .int, 5, 111, 1, some 8)
def g_TV_make : xSig := (⟨"TurningVerse", "make", "(III)I"⟩, prog_1_method_8_code, 4, some .int, 5, 111, 3, some 8)
def g_TV_product : xSig := (⟨"TurningVerse", "product", "(III)I"⟩, prog_1_method_9_code, 4, some .int, 5, 111, 3, some 8)
def g_TV_power : xSig := (⟨"TurningVerse", "power", "(III)I"⟩, prog_1_method_10_code, 6, some .int, 5, 111, 3, some 8)
def g_TV_unrank : xSig := (⟨"TurningVerse", "unrank", "(II)I"⟩, prog_1_method_11_code, 4, some .int, 5, 111, 2, some 8)
def g_TV_root : xSig := (⟨"TurningVerse", "root", "(III)I"⟩, prog_1_method_12_code, 5, some .int, 5, 111, 3, some 8)
def g_TV_at : xSig := (⟨"TurningVerse", "at", "(II)I"⟩, prog_1_method_13_code, 3, some .int, 1, 21, 2, some 8)
def g_TV_turn : xSig := (⟨"TurningVerse", "turn", "(II)I"⟩, prog_1_method_14_code, 3, some .int, 4, 92, 2, some 8)
def g_TV_places : xSig := (⟨"TurningVerse", "places", "(III)I"⟩, prog_1_method_15_code, 8, some .int, 2, 45, 3, some 8)
def g_TV_generated : xSig := (⟨"TurningVerse", "generated", "(I)I"⟩, prog_1_method_16_code, 2, some .int, 4, 94, 1, some 8)
def g_TV_reach : xSig := (⟨"TurningVerse", "reach", "(II)I"⟩, prog_1_method_17_code, 4, some .int, 4, 94, 2, some 8)
def g_TV_factor : xSig := (⟨"TurningVerse", "factor", "(III)I"⟩, prog_1_method_18_code, 5, some .int, 5, 115, 3, some 8)
def g_TV_add : xSig := (⟨"TurningVerse", "add", "(I)I"⟩, prog_1_method_19_code, 3, some .int, 4, 89, 1, some 8)
def g_TV_drop : xSig := (⟨"TurningVerse", "drop", "()I"⟩, prog_1_method_20_code, 1, some .int, 4, 89, 0, some 8)
def g_TV_put : xSig := (⟨"TurningVerse", "put", "(III)I"⟩, prog_1_method_21_code, 5, some .int, 4, 89, 3, some 8)
def g_TV_lock : xSig := (⟨"TurningVerse", "lock", "(IIZ)I"⟩, prog_1_method_22_code, 6, some .int, 4, 89, 3, some 8)
def g_TV_word : xSig := (⟨"TurningVerse", "word", "(II)I"⟩, prog_1_method_23_code, 3, some .int, 1, 21, 2, some 8)
def g_TV_proper : xSig := (⟨"TurningVerse", "proper", "(I)I"⟩, prog_1_method_24_code, 2, some .int, 3, 65, 1, some 8)
def g_TV_turning : xSig := (⟨"TurningVerse", "turning", "(I)I"⟩, prog_1_method_25_code, 3, some .int, 4, 87, 1, some 8)
def g_TV_common : xSig := (⟨"TurningVerse", "common", "(I)I"⟩, prog_1_method_26_code, 3, some .int, 5, 111, 1, some 8)
def g_TV_follows : xSig := (⟨"TurningVerse", "follows", "(I)I"⟩, prog_1_method_27_code, 2, some .int, 5, 111, 1, some 8)
def g_TV_cost : xSig := (⟨"TurningVerse", "cost", "(I)I"⟩, prog_1_method_28_code, 2, some .int, 4, 98, 1, some 8)
def g_TV_mend : xSig := (⟨"TurningVerse", "mend", "(I)I"⟩, prog_1_method_29_code, 4, some .int, 4, 98, 1, some 8)
def g_TV_best : xSig := (⟨"TurningVerse", "best", "(I)I"⟩, prog_1_method_30_code, 3, some .int, 4, 102, 1, some 8)
def g_TV_tail : xSig := (⟨"TurningVerse", "tail", "(I)I"⟩, prog_1_method_31_code, 4, some .int, 3, 66, 1, some 8)
def g_TV_tailWord : xSig := (⟨"TurningVerse", "tailWord", "(II)I"⟩, prog_1_method_32_code, 3, some .int, 1, 21, 2, some 8)
def g_TV_scheme : xSig := (⟨"TurningVerse", "scheme", "(I)I"⟩, prog_1_method_33_code, 2, some .int, 3, 67, 1, some 8)
def g_TV_schemes : xSig := (⟨"TurningVerse", "schemes", "(II)I"⟩, prog_1_method_34_code, 4, some .int, 4, 98, 2, some 8)
def g_TV_coupled : xSig := (⟨"TurningVerse", "coupled", "(I)I"⟩, prog_1_method_35_code, 2, some .int, 3, 76, 1, some 8)
def g_TV_told : xSig := (⟨"TurningVerse", "told", "(I)I"⟩, prog_1_method_36_code, 2, some .int, 4, 88, 1, some 8)
def g_TV_undo : xSig := (⟨"TurningVerse", "undo", "()I"⟩, prog_1_method_37_code, 1, some .int, 4, 89, 0, some 8)
def g_TV_digest : xSig := (⟨"TurningVerse", "digest", "()J"⟩, prog_1_method_38_code, 5, some .long, 6, 135, 0, some 8)
def g_TV_withStanza : xSig := (⟨"TurningVerse", "withStanza", "(JI)J"⟩, prog_1_method_39_code, 7, some .long, 5, 109, 2, some 8)
def g_TV_withTail : xSig := (⟨"TurningVerse", "withTail", "(J)J"⟩, prog_1_method_40_code, 7, some .long, 4, 89, 1, some 8)
def g_TV_mixed : xSig := (⟨"TurningVerse", "mixed", "(JJ)J"⟩, prog_1_method_41_code, 4, some .long, 0, 0, 2, none)
def g_TV_isRegister : xSig := (⟨"TurningVerse", "isRegister", "(I)Z"⟩, prog_1_method_42_code, 1, some .boolean, 0, 0, 1, none)
def g_TV_isSetOfRegisters : xSig := (⟨"TurningVerse", "isSetOfRegisters", "(I)Z"⟩, prog_1_method_43_code, 1, some .boolean, 0, 0, 1, none)
def g_TV_isLine : xSig := (⟨"TurningVerse", "isLine", "(I)Z"⟩, prog_1_method_44_code, 2, some .boolean, 0, 0, 1, some 8)
def g_TV_isStanza : xSig := (⟨"TurningVerse", "isStanza", "(I)Z"⟩, prog_1_method_45_code, 2, some .boolean, 0, 0, 1, some 8)
def g_TV_soundsOf : xSig := (⟨"TurningVerse", "soundsOf", "(I)I"⟩, prog_1_method_46_code, 2, some .int, 2, 46, 1, some 8)
def g_TV_store : xSig := (⟨"TurningVerse", "store", "(II)I"⟩, prog_1_method_47_code, 3, some .int, 4, 89, 2, some 8)
def g_Mo_init : xSig := (⟨"TurningVerseModel", "<init>", "()V"⟩, prog_14_method_1_code, 1, none, 1, 22, 0, none)
def g_Mo_in : xSig := (⟨"TurningVerseModel", "in", "(III)Z"⟩, prog_14_method_3_code, 3, some .boolean, 0, 0, 3, none)
def g_Mo_size : xSig := (⟨"TurningVerseModel", "size", "()I"⟩, prog_14_method_4_code, 1, some .int, 0, 0, 0, some 9)
def g_Mo_resets : xSig := (⟨"TurningVerseModel", "resets", "(I)V"⟩, prog_14_method_5_code, 3, none, 0, 0, 1, some 9)
def g_Mo_records : xSig := (⟨"TurningVerseModel", "records", "()V"⟩, prog_14_method_6_code, 2, none, 0, 0, 0, some 9)
def g_Mo_empties : xSig := (⟨"TurningVerseModel", "empties", "()V"⟩, prog_14_method_7_code, 2, none, 0, 0, 0, some 9)
def g_Mo_setWords : xSig := (⟨"TurningVerseModel", "setWords", "(I)I"⟩, prog_14_method_8_code, 3, some .int, 1, 22, 1, some 9)
def g_Mo_isLine : xSig := (⟨"TurningVerseModel", "isLine", "(I)Z"⟩, prog_14_method_9_code, 2, some .boolean, 1, 22, 1, some 9)
def g_Mo_setSound : xSig := (⟨"TurningVerseModel", "setSound", "(II)I"⟩, prog_14_method_10_code, 4, some .int, 2, 43, 2, some 9)
def g_Mo_isRegister : xSig := (⟨"TurningVerseModel", "isRegister", "(I)Z"⟩, prog_14_method_11_code, 1, some .boolean, 1, 22, 1, none)
def g_Mo_takes : xSig := (⟨"TurningVerseModel", "takes", "(I[I)V"⟩, prog_14_method_12_code, 4, none, 1, 20, 2, some 9)
def g_Mo_puts : xSig := (⟨"TurningVerseModel", "puts", "([II)V"⟩, prog_14_method_13_code, 4, none, 1, 20, 2, some 9)
def g_Mo_factorial : xSig := (⟨"TurningVerseModel", "factorial", "()I"⟩, prog_14_method_14_code, 3, some .int, 1, 20, 0, some 9)
def g_Mo_rank : xSig := (⟨"TurningVerseModel", "rank", "([I)I"⟩, prog_14_method_15_code, 6, some .int, 1, 20, 1, some 9)
def g_Mo_unranks : xSig := (⟨"TurningVerseModel", "unranks", "(I[I)V"⟩, prog_14_method_16_code, 6, none, 1, 20, 2, some 9)
def g_Mo_multiplies : xSig := (⟨"TurningVerseModel", "multiplies", "([I[I[I)V"⟩, prog_14_method_17_code, 5, none, 1, 20, 3, some 9)
def g_Mo_identity : xSig := (⟨"TurningVerseModel", "identity", "([I)V"⟩, prog_14_method_18_code, 3, none, 0, 0, 1, some 9)
def g_Mo_cycleOf : xSig := (⟨"TurningVerseModel", "cycleOf", "([II)I"⟩, prog_14_method_19_code, 5, some .int, 0, 0, 2, some 9)
def g_Mo_isFirst : xSig := (⟨"TurningVerseModel", "isFirst", "([II)Z"⟩, prog_14_method_20_code, 5, some .boolean, 0, 0, 2, some 9)
def g_Mo_orderOf : xSig := (⟨"TurningVerseModel", "orderOf", "([I)I"⟩, prog_14_method_21_code, 5, some .int, 1, 24, 1, some 9)
def g_Mo_raises : xSig := (⟨"TurningVerseModel", "raises", "([II[I)V"⟩, prog_14_method_22_code, 7, none, 1, 20, 3, some 9)
def g_Mo_isSame : xSig := (⟨"TurningVerseModel", "isSame", "([I[I)Z"⟩, prog_14_method_23_code, 5, some .boolean, 1, 20, 2, some 9)
def g_Mo_make : xSig := (⟨"TurningVerseModel", "make", "(III)I"⟩, prog_14_method_24_code, 6, some .int, 2, 45, 3, some 9)
def g_Mo_product : xSig := (⟨"TurningVerseModel", "product", "(III)I"⟩, prog_14_method_25_code, 4, some .int, 2, 45, 3, some 9)
def g_Mo_power : xSig := (⟨"TurningVerseModel", "power", "(III)I"⟩, prog_14_method_26_code, 5, some .int, 2, 48, 3, some 9)
def g_Mo_unrank : xSig := (⟨"TurningVerseModel", "unrank", "(II)I"⟩, prog_14_method_27_code, 3, some .int, 2, 48, 2, some 9)
def g_Mo_root : xSig := (⟨"TurningVerseModel", "root", "(III)I"⟩, prog_14_method_28_code, 5, some .int, 2, 46, 3, some 9)
def g_Mo_at : xSig := (⟨"TurningVerseModel", "at", "(II)I"⟩, prog_14_method_29_code, 3, some .int, 2, 43, 2, some 9)
def g_Mo_turnOf : xSig := (⟨"TurningVerseModel", "turnOf", "(II)I"⟩, prog_14_method_30_code, 11, some .int, 2, 48, 2, some 9)
def g_Mo_turn : xSig := (⟨"TurningVerseModel", "turn", "(II)I"⟩, prog_14_method_31_code, 3, some .int, 3, 78, 2, some 9)
def g_Mo_places : xSig := (⟨"TurningVerseModel", "places", "(III)I"⟩, prog_14_method_32_code, 8, some .int, 2, 43, 3, some 9)
def g_Mo_walks : xSig := (⟨"TurningVerseModel", "walks", "(I)V"⟩, prog_14_method_33_code, 5, none, 2, 45, 1, some 9)
def g_Mo_isSet : xSig := (⟨"TurningVerseModel", "isSet", "(I)Z"⟩, prog_14_method_34_code, 1, some .boolean, 1, 22, 1, none)
def g_Mo_generated : xSig := (⟨"TurningVerseModel", "generated", "(I)I"⟩, prog_14_method_35_code, 2, some .int, 3, 69, 1, some 9)
def g_Mo_reach : xSig := (⟨"TurningVerseModel", "reach", "(II)I"⟩, prog_14_method_36_code, 3, some .int, 3, 69, 2, some 9)
def g_Mo_rests : xSig := (⟨"TurningVerseModel", "rests", "(I)V"⟩, prog_14_method_37_code, 4, none, 2, 43, 1, some 9)
def g_Mo_factor : xSig := (⟨"TurningVerseModel", "factor", "(III)I"⟩, prog_14_method_38_code, 8, some .int, 3, 69, 3, some 9)
def g_Mo_type : xSig := (⟨"TurningVerseModel", "type", "(I)I"⟩, prog_14_method_39_code, 2, some .int, 1, 22, 1, some 9)
def g_Mo_clear : xSig := (⟨"TurningVerseModel", "clear", "()I"⟩, prog_14_method_40_code, 2, some .int, 0, 0, 0, some 9)
def g_Mo_byteAt : xSig := (⟨"TurningVerseModel", "byteAt", "(I)I"⟩, prog_14_method_41_code, 2, some .int, 0, 0, 1, some 9)
def g_Mo_isLetter : xSig := (⟨"TurningVerseModel", "isLetter", "(II)Z"⟩, prog_14_method_42_code, 3, some .boolean, 1, 22, 2, some 9)
def g_Mo_readsFirst : xSig := (⟨"TurningVerseModel", "readsFirst", "()Z"⟩, prog_14_method_43_code, 3, some .boolean, 2, 44, 0, some 9)
def g_Mo_readsStanza : xSig := (⟨"TurningVerseModel", "readsStanza", "()Z"⟩, prog_14_method_44_code, 2, some .boolean, 2, 44, 0, some 9)
def g_Mo_readsTail : xSig := (⟨"TurningVerseModel", "readsTail", "()Z"⟩, prog_14_method_45_code, 3, some .boolean, 2, 44, 0, some 9)
def g_Mo_reads : xSig := (⟨"TurningVerseModel", "reads", "()Z"⟩, prog_14_method_46_code, 2, some .boolean, 3, 66, 0, some 9)
def g_Mo_loadPoem : xSig := (⟨"TurningVerseModel", "loadPoem", "()I"⟩, prog_14_method_47_code, 2, some .int, 4, 87, 0, some 9)
def g_Mo_readsTurn : xSig := (⟨"TurningVerseModel", "readsTurn", "()Z"⟩, prog_14_method_48_code, 5, some .boolean, 1, 22, 0, some 9)
def g_Mo_loadTurn : xSig := (⟨"TurningVerseModel", "loadTurn", "(I)I"⟩, prog_14_method_49_code, 2, some .int, 2, 46, 1, some 9)
def g_Mo_isStanza : xSig := (⟨"TurningVerseModel", "isStanza", "(I)Z"⟩, prog_14_method_50_code, 2, some .boolean, 1, 22, 1, some 9)
def g_Mo_placeOf : xSig := (⟨"TurningVerseModel", "placeOf", "(II)I"⟩, prog_14_method_51_code, 3, some .int, 0, 0, 2, some 9)
def g_Mo_add : xSig := (⟨"TurningVerseModel", "add", "(I)I"⟩, prog_14_method_52_code, 4, some .int, 2, 43, 1, some 9)
def g_Mo_drop : xSig := (⟨"TurningVerseModel", "drop", "()I"⟩, prog_14_method_53_code, 1, some .int, 1, 21, 0, some 9)
def g_Mo_put : xSig := (⟨"TurningVerseModel", "put", "(III)I"⟩, prog_14_method_54_code, 5, some .int, 2, 43, 3, some 9)
def g_Mo_lock : xSig := (⟨"TurningVerseModel", "lock", "(IIZ)I"⟩, prog_14_method_55_code, 5, some .int, 2, 43, 3, some 9)
def g_Mo_word : xSig := (⟨"TurningVerseModel", "word", "(II)I"⟩, prog_14_method_56_code, 3, some .int, 2, 43, 2, some 9)
def g_Mo_isProper : xSig := (⟨"TurningVerseModel", "isProper", "(I)Z"⟩, prog_14_method_57_code, 4, some .boolean, 1, 22, 1, some 9)
def g_Mo_proper : xSig := (⟨"TurningVerseModel", "proper", "(I)I"⟩, prog_14_method_58_code, 2, some .int, 2, 45, 1, some 9)
def g_Mo_turns : xSig := (⟨"TurningVerseModel", "turns", "(I)V"⟩, prog_14_method_59_code, 4, none, 1, 22, 1, some 9)
def g_Mo_turningOf : xSig := (⟨"TurningVerseModel", "turningOf", "(I)I"⟩, prog_14_method_60_code, 2, some .int, 2, 45, 1, some 9)
def g_Mo_turning : xSig := (⟨"TurningVerseModel", "turning", "(I)I"⟩, prog_14_method_61_code, 2, some .int, 3, 66, 1, some 9)
def g_Mo_followed : xSig := (⟨"TurningVerseModel", "followed", "()I"⟩, prog_14_method_62_code, 3, some .int, 3, 66, 0, some 9)
def g_Mo_common : xSig := (⟨"TurningVerseModel", "common", "(I)I"⟩, prog_14_method_63_code, 3, some .int, 4, 88, 1, some 9)
def g_Mo_isFollowed : xSig := (⟨"TurningVerseModel", "isFollowed", "(I)Z"⟩, prog_14_method_64_code, 2, some .boolean, 4, 88, 1, some 9)
def g_Mo_follows : xSig := (⟨"TurningVerseModel", "follows", "(I)I"⟩, prog_14_method_65_code, 2, some .int, 5, 109, 1, some 9)
def g_Mo_costOf : xSig := (⟨"TurningVerseModel", "costOf", "([I)I"⟩, prog_14_method_66_code, 8, some .int, 1, 22, 1, some 9)
def g_Mo_wrong : xSig := (⟨"TurningVerseModel", "wrong", "(I)I"⟩, prog_14_method_67_code, 2, some .int, 2, 42, 1, some 9)
def g_Mo_cost : xSig := (⟨"TurningVerseModel", "cost", "(I)I"⟩, prog_14_method_68_code, 3, some .int, 3, 63, 1, some 9)
def g_Mo_mend : xSig := (⟨"TurningVerseModel", "mend", "(I)I"⟩, prog_14_method_69_code, 7, some .int, 3, 63, 1, some 9)
def g_Mo_best : xSig := (⟨"TurningVerseModel", "best", "(I)I"⟩, prog_14_method_70_code, 7, some .int, 3, 63, 1, some 9)
def g_Mo_tailWords : xSig := (⟨"TurningVerseModel", "tailWords", "()I"⟩, prog_14_method_71_code, 3, some .int, 0, 0, 0, some 9)
def g_Mo_missing : xSig := (⟨"TurningVerseModel", "missing", "()I"⟩, prog_14_method_72_code, 4, some .int, 1, 20, 0, some 9)
def g_Mo_tail : xSig := (⟨"TurningVerseModel", "tail", "(I)I"⟩, prog_14_method_73_code, 4, some .int, 2, 43, 1, some 9)
def g_Mo_tailWord : xSig := (⟨"TurningVerseModel", "tailWord", "(II)I"⟩, prog_14_method_74_code, 3, some .int, 1, 22, 2, some 9)
def g_Mo_takesVerse : xSig := (⟨"TurningVerseModel", "takesVerse", "(I)V"⟩, prog_14_method_75_code, 3, none, 1, 22, 1, some 9)
def g_Mo_soundAt : xSig := (⟨"TurningVerseModel", "soundAt", "(I)I"⟩, prog_14_method_76_code, 2, some .int, 0, 0, 1, some 9)
def g_Mo_schemeOfVerse : xSig := (⟨"TurningVerseModel", "schemeOfVerse", "()I"⟩, prog_14_method_77_code, 4, some .int, 1, 21, 0, some 9)
def g_Mo_scheme : xSig := (⟨"TurningVerseModel", "scheme", "(I)I"⟩, prog_14_method_78_code, 2, some .int, 2, 44, 1, some 9)
def g_Mo_schemes : xSig := (⟨"TurningVerseModel", "schemes", "(II)I"⟩, prog_14_method_79_code, 9, some .int, 2, 48, 2, some 9)
def g_Mo_coupled : xSig := (⟨"TurningVerseModel", "coupled", "(I)I"⟩, prog_14_method_80_code, 7, some .int, 2, 45, 1, some 9)
def g_Mo_locked : xSig := (⟨"TurningVerseModel", "locked", "()I"⟩, prog_14_method_81_code, 4, some .int, 1, 22, 0, some 9)
def g_Mo_properMany : xSig := (⟨"TurningVerseModel", "properMany", "()I"⟩, prog_14_method_82_code, 3, some .int, 2, 45, 0, some 9)
def g_Mo_told : xSig := (⟨"TurningVerseModel", "told", "(I)I"⟩, prog_14_method_83_code, 2, some .int, 3, 67, 1, some 9)
def g_Mo_undo : xSig := (⟨"TurningVerseModel", "undo", "()I"⟩, prog_14_method_84_code, 2, some .int, 0, 0, 0, some 9)
def g_Mo_mixedStanza : xSig := (⟨"TurningVerseModel", "mixedStanza", "(JI)J"⟩, prog_14_method_85_code, 7, some .long, 3, 66, 2, some 9)
def g_Mo_mixedTail : xSig := (⟨"TurningVerseModel", "mixedTail", "(J)J"⟩, prog_14_method_86_code, 7, some .long, 3, 66, 1, some 9)
def g_Mo_digest : xSig := (⟨"TurningVerseModel", "digest", "()J"⟩, prog_14_method_87_code, 5, some .long, 5, 109, 0, some 9)
def g_JI_bitCount : xSig := (⟨"java/lang/Integer", "bitCount", "(I)I"⟩, prog_15_method_49_code, 1, some .int, 0, 0, 1, none)
def g_JA_fill : xSig := (⟨"java/util/Arrays", "fill", "([II)V"⟩, prog_18_method_103_code, 4, none, 0, 0, 2, none)
set_option maxRecDepth 100000 in
theorem xmc_Fit_init : xmc g_Fit_init := ⟨lw_gm 79 rfl rfl, lw_gm 269 rfl rfl, by decide +kernel, by decide +kernel, by decide +kernel⟩
set_option maxRecDepth 100000 in
theorem xmi_Fit_init : xmi g_Fit_init := ⟨xmc_Fit_init, lw_gm 268 rfl rfl, rfl, rfl⟩
set_option maxRecDepth 100000 in
theorem xmc_Fit_changes : xmc g_Fit_changes := ⟨lw_gm 79 rfl rfl, lw_gm 650 rfl rfl, by decide +kernel, by decide +kernel, by decide +kernel⟩
set_option maxRecDepth 100000 in
theorem xmv_Fit_changes : xmv g_Fit_changes := ⟨xmc_Fit_changes, lw_gm 648 rfl rfl, lw_gm 649 rfl rfl, _, _, rfl, rfl, rfl⟩
set_option maxRecDepth 100000 in
theorem xmc_Fit_firstRow : xmc g_Fit_firstRow := ⟨lw_gm 79 rfl rfl, lw_gm 676 rfl rfl, by decide +kernel, by decide +kernel, by decide +kernel⟩
set_option maxRecDepth 100000 in
theorem xmv_Fit_firstRow : xmv g_Fit_firstRow := ⟨xmc_Fit_firstRow, lw_gm 674 rfl rfl, lw_gm 675 rfl rfl, _, _, rfl, rfl, rfl⟩
set_option maxRecDepth 100000 in
theorem xmc_Fit_bestPermutation : xmc g_Fit_bestPermutation := ⟨lw_gm 79 rfl rfl, lw_gm 693 rfl rfl, by decide +kernel, by decide +kernel, by decide +kernel⟩
set_option maxRecDepth 100000 in
theorem xmv_Fit_bestPermutation : xmv g_Fit_bestPermutation := ⟨xmc_Fit_bestPermutation, lw_gm 691 rfl rfl, lw_gm 692 rfl rfl, _, _, rfl, rfl, rfl⟩
set_option maxRecDepth 100000 in
theorem xmc_Fit_compare : xmc g_Fit_compare := ⟨lw_gm 79 rfl rfl, lw_gm 654 rfl rfl, by decide +kernel, by decide +kernel, by decide +kernel⟩
set_option maxRecDepth 100000 in
theorem xmv_Fit_compare : xmv g_Fit_compare := ⟨xmc_Fit_compare, lw_gm 653 rfl rfl, lw_gm 13 rfl rfl, _, _, rfl, rfl, rfl⟩
set_option maxRecDepth 100000 in
theorem xmc_Fit_mostKept : xmc g_Fit_mostKept := ⟨lw_gm 79 rfl rfl, lw_gm 662 rfl rfl, by decide +kernel, by decide +kernel, by decide +kernel⟩
set_option maxRecDepth 100000 in
theorem xmv_Fit_mostKept : xmv g_Fit_mostKept := ⟨xmc_Fit_mostKept, lw_gm 661 rfl rfl, lw_gm 14 rfl rfl, _, _, rfl, rfl, rfl⟩
set_option maxRecDepth 100000 in
theorem xmc_Fit_keptWith : xmc g_Fit_keptWith := ⟨lw_gm 79 rfl rfl, lw_gm 667 rfl rfl, by decide +kernel, by decide +kernel, by decide +kernel⟩
set_option maxRecDepth 100000 in
theorem xmv_Fit_keptWith : xmv g_Fit_keptWith := ⟨xmc_Fit_keptWith, lw_gm 666 rfl rfl, lw_gm 15 rfl rfl, _, _, rfl, rfl, rfl⟩
set_option maxRecDepth 100000 in
theorem xmc_Fit_firstWord : xmc g_Fit_firstWord := ⟨lw_gm 79 rfl rfl, lw_gm 680 rfl rfl, by decide +kernel, by decide +kernel, by decide +kernel⟩
set_option maxRecDepth 100000 in
theorem xmv_Fit_firstWord : xmv g_Fit_firstWord := ⟨xmc_Fit_firstWord, lw_gm 679 rfl rfl, lw_gm 16 rfl rfl, _, _, rfl, rfl, rfl⟩
set_option maxRecDepth 100000 in
theorem xmc_Fit_atMostKept : xmc g_Fit_atMostKept := ⟨lw_gm 79 rfl rfl, lw_gm 699 rfl rfl, by decide +kernel, by decide +kernel, by decide +kernel⟩
set_option maxRecDepth 100000 in
theorem xmv_Fit_atMostKept : xmv g_Fit_atMostKept := ⟨xmc_Fit_atMostKept, lw_gm 698 rfl rfl, lw_gm 17 rfl rfl, _, _, rfl, rfl, rfl⟩
set_option maxRecDepth 100000 in
theorem xmc_Fit_mostOfLine : xmc g_Fit_mostOfLine := ⟨lw_gm 79 rfl rfl, lw_gm 703 rfl rfl, by decide +kernel, by decide +kernel, by decide +kernel⟩
set_option maxRecDepth 100000 in
theorem xmv_Fit_mostOfLine : xmv g_Fit_mostOfLine := ⟨xmc_Fit_mostOfLine, lw_gm 702 rfl rfl, lw_gm 18 rfl rfl, _, _, rfl, rfl, rfl⟩
set_option maxRecDepth 100000 in
theorem xmc_Fit_mostOfWord : xmc g_Fit_mostOfWord := ⟨lw_gm 79 rfl rfl, lw_gm 707 rfl rfl, by decide +kernel, by decide +kernel, by decide +kernel⟩
set_option maxRecDepth 100000 in
theorem xmv_Fit_mostOfWord : xmv g_Fit_mostOfWord := ⟨xmc_Fit_mostOfWord, lw_gm 706 rfl rfl, lw_gm 19 rfl rfl, _, _, rfl, rfl, rfl⟩
set_option maxRecDepth 100000 in
theorem xmc_Hist_init : xmc g_Hist_init := ⟨lw_gm 74 rfl rfl, lw_gm 176 rfl rfl, by decide +kernel, by decide +kernel, by decide +kernel⟩
set_option maxRecDepth 100000 in
theorem xmi_Hist_init : xmi g_Hist_init := ⟨xmc_Hist_init, lw_gm 175 rfl rfl, rfl, rfl⟩
set_option maxRecDepth 100000 in
theorem xmc_Hist_remember : xmc g_Hist_remember := ⟨lw_gm 74 rfl rfl, lw_gm 316 rfl rfl, by decide +kernel, by decide +kernel, by decide +kernel⟩
set_option maxRecDepth 100000 in
theorem xmv_Hist_remember : xmv g_Hist_remember := ⟨xmc_Hist_remember, lw_gm 314 rfl rfl, lw_gm 315 rfl rfl, _, _, rfl, rfl, rfl⟩
set_option maxRecDepth 100000 in
theorem xmc_Hist_restore : xmc g_Hist_restore := ⟨lw_gm 74 rfl rfl, lw_gm 784 rfl rfl, by decide +kernel, by decide +kernel, by decide +kernel⟩
set_option maxRecDepth 100000 in
theorem xmv_Hist_restore : xmv g_Hist_restore := ⟨xmc_Hist_restore, lw_gm 782 rfl rfl, lw_gm 783 rfl rfl, _, _, rfl, rfl, rfl⟩
set_option maxRecDepth 100000 in
theorem xmc_Perm_count : xmc g_Perm_count := ⟨lw_gm 83 rfl rfl, lw_gm 478 rfl rfl, by decide +kernel, by decide +kernel, by decide +kernel⟩
set_option maxRecDepth 100000 in
theorem xms_Perm_count : xms g_Perm_count := ⟨xmc_Perm_count, lw_gm 477 rfl rfl⟩
set_option maxRecDepth 100000 in
theorem xmc_Perm_number : xmc g_Perm_number := ⟨lw_gm 83 rfl rfl, lw_gm 425 rfl rfl, by decide +kernel, by decide +kernel, by decide +kernel⟩
set_option maxRecDepth 100000 in
theorem xms_Perm_number : xms g_Perm_number := ⟨xmc_Perm_number, lw_gm 424 rfl rfl⟩
set_option maxRecDepth 100000 in
theorem xmc_Perm_numbered : xmc g_Perm_numbered := ⟨lw_gm 83 rfl rfl, lw_gm 481 rfl rfl, by decide +kernel, by decide +kernel, by decide +kernel⟩
set_option maxRecDepth 100000 in
theorem xms_Perm_numbered : xms g_Perm_numbered := ⟨xmc_Perm_numbered, lw_gm 480 rfl rfl⟩
set_option maxRecDepth 100000 in
theorem xmc_Perm_ofKind : xmc g_Perm_ofKind := ⟨lw_gm 83 rfl rfl, lw_gm 439 rfl rfl, by decide +kernel, by decide +kernel, by decide +kernel⟩
set_option maxRecDepth 100000 in
theorem xms_Perm_ofKind : xms g_Perm_ofKind := ⟨xmc_Perm_ofKind, lw_gm 438 rfl rfl⟩
set_option maxRecDepth 100000 in
theorem xmc_Perm_lineOfKind : xmc g_Perm_lineOfKind := ⟨lw_gm 83 rfl rfl, lw_gm 442 rfl rfl, by decide +kernel, by decide +kernel, by decide +kernel⟩
set_option maxRecDepth 100000 in
theorem xms_Perm_lineOfKind : xms g_Perm_lineOfKind := ⟨xmc_Perm_lineOfKind, lw_gm 441 rfl rfl⟩
set_option maxRecDepth 100000 in
theorem xmc_Perm_lineOfWeave : xmc g_Perm_lineOfWeave := ⟨lw_gm 83 rfl rfl, lw_gm 445 rfl rfl, by decide +kernel, by decide +kernel, by decide +kernel⟩
set_option maxRecDepth 100000 in
theorem xms_Perm_lineOfWeave : xms g_Perm_lineOfWeave := ⟨xmc_Perm_lineOfWeave, lw_gm 444 rfl rfl⟩
set_option maxRecDepth 100000 in
theorem xmc_Perm_inverse : xmc g_Perm_inverse := ⟨lw_gm 83 rfl rfl, lw_gm 463 rfl rfl, by decide +kernel, by decide +kernel, by decide +kernel⟩
set_option maxRecDepth 100000 in
theorem xms_Perm_inverse : xms g_Perm_inverse := ⟨xmc_Perm_inverse, lw_gm 462 rfl rfl⟩
set_option maxRecDepth 100000 in
theorem xmc_Perm_repeated : xmc g_Perm_repeated := ⟨lw_gm 83 rfl rfl, lw_gm 469 rfl rfl, by decide +kernel, by decide +kernel, by decide +kernel⟩
set_option maxRecDepth 100000 in
theorem xms_Perm_repeated : xms g_Perm_repeated := ⟨xmc_Perm_repeated, lw_gm 468 rfl rfl⟩
set_option maxRecDepth 100000 in
theorem xmc_Perm_firstRoot : xmc g_Perm_firstRoot := ⟨lw_gm 83 rfl rfl, lw_gm 491 rfl rfl, by decide +kernel, by decide +kernel, by decide +kernel⟩
set_option maxRecDepth 100000 in
theorem xms_Perm_firstRoot : xms g_Perm_firstRoot := ⟨xmc_Perm_firstRoot, lw_gm 490 rfl rfl⟩
set_option maxRecDepth 100000 in
theorem xmc_Perm_order : xmc g_Perm_order := ⟨lw_gm 83 rfl rfl, lw_gm 484 rfl rfl, by decide +kernel, by decide +kernel, by decide +kernel⟩
set_option maxRecDepth 100000 in
theorem xms_Perm_order : xms g_Perm_order := ⟨xmc_Perm_order, lw_gm 483 rfl rfl⟩
set_option maxRecDepth 100000 in
theorem xmc_Perm_property : xmc g_Perm_property := ⟨lw_gm 83 rfl rfl, lw_gm 505 rfl rfl, by decide +kernel, by decide +kernel, by decide +kernel⟩
set_option maxRecDepth 100000 in
theorem xms_Perm_property : xms g_Perm_property := ⟨xmc_Perm_property, lw_gm 504 rfl rfl⟩
set_option maxRecDepth 100000 in
theorem xmc_Perm_cycleOf : xmc g_Perm_cycleOf := ⟨lw_gm 83 rfl rfl, lw_gm 513 rfl rfl, by decide +kernel, by decide +kernel, by decide +kernel⟩
set_option maxRecDepth 100000 in
theorem xms_Perm_cycleOf : xms g_Perm_cycleOf := ⟨xmc_Perm_cycleOf, lw_gm 512 rfl rfl⟩
set_option maxRecDepth 100000 in
theorem xmc_Perm_cycles : xmc g_Perm_cycles := ⟨lw_gm 83 rfl rfl, lw_gm 510 rfl rfl, by decide +kernel, by decide +kernel, by decide +kernel⟩
set_option maxRecDepth 100000 in
theorem xms_Perm_cycles : xms g_Perm_cycles := ⟨xmc_Perm_cycles, lw_gm 509 rfl rfl⟩
set_option maxRecDepth 100000 in
theorem xmc_Perm_fixedLines : xmc g_Perm_fixedLines := ⟨lw_gm 83 rfl rfl, lw_gm 516 rfl rfl, by decide +kernel, by decide +kernel, by decide +kernel⟩
set_option maxRecDepth 100000 in
theorem xms_Perm_fixedLines : xms g_Perm_fixedLines := ⟨xmc_Perm_fixedLines, lw_gm 515 rfl rfl⟩
set_option maxRecDepth 100000 in
theorem xmc_Perm_longestCycle : xmc g_Perm_longestCycle := ⟨lw_gm 83 rfl rfl, lw_gm 519 rfl rfl, by decide +kernel, by decide +kernel, by decide +kernel⟩
set_option maxRecDepth 100000 in
theorem xms_Perm_longestCycle : xms g_Perm_longestCycle := ⟨xmc_Perm_longestCycle, lw_gm 518 rfl rfl⟩
set_option maxRecDepth 100000 in
theorem xmc_Perm_cycleType : xmc g_Perm_cycleType := ⟨lw_gm 83 rfl rfl, lw_gm 525 rfl rfl, by decide +kernel, by decide +kernel, by decide +kernel⟩
set_option maxRecDepth 100000 in
theorem xms_Perm_cycleType : xms g_Perm_cycleType := ⟨xmc_Perm_cycleType, lw_gm 524 rfl rfl⟩
set_option maxRecDepth 100000 in
theorem xmc_Poem_init : xmc g_Poem_init := ⟨lw_gm 71 rfl rfl, lw_gm 104 rfl rfl, by decide +kernel, by decide +kernel, by decide +kernel⟩
set_option maxRecDepth 100000 in
theorem xmi_Poem_init : xmi g_Poem_init := ⟨xmc_Poem_init, lw_gm 103 rfl rfl, rfl, rfl⟩
set_option maxRecDepth 100000 in
theorem xmc_Poem_empty : xmc g_Poem_empty := ⟨lw_gm 71 rfl rfl, lw_gm 152 rfl rfl, by decide +kernel, by decide +kernel, by decide +kernel⟩
set_option maxRecDepth 100000 in
theorem xmv_Poem_empty : xmv g_Poem_empty := ⟨xmc_Poem_empty, lw_gm 150 rfl rfl, lw_gm 151 rfl rfl, _, _, rfl, rfl, rfl⟩
set_option maxRecDepth 100000 in
theorem xmc_Poem_copyFrom : xmc g_Poem_copyFrom := ⟨lw_gm 71 rfl rfl, lw_gm 327 rfl rfl, by decide +kernel, by decide +kernel, by decide +kernel⟩
set_option maxRecDepth 100000 in
theorem xmv_Poem_copyFrom : xmv g_Poem_copyFrom := ⟨xmc_Poem_copyFrom, lw_gm 325 rfl rfl, lw_gm 326 rfl rfl, _, _, rfl, rfl, rfl⟩
set_option maxRecDepth 100000 in
theorem xmc_Poem_append : xmc g_Poem_append := ⟨lw_gm 71 rfl rfl, lw_gm 387 rfl rfl, by decide +kernel, by decide +kernel, by decide +kernel⟩
set_option maxRecDepth 100000 in
theorem xmv_Poem_append : xmv g_Poem_append := ⟨xmc_Poem_append, lw_gm 385 rfl rfl, lw_gm 386 rfl rfl, _, _, rfl, rfl, rfl⟩
set_option maxRecDepth 100000 in
theorem xmc_Poem_appendTailLine : xmc g_Poem_appendTailLine := ⟨lw_gm 71 rfl rfl, lw_gm 403 rfl rfl, by decide +kernel, by decide +kernel, by decide +kernel⟩
set_option maxRecDepth 100000 in
theorem xmv_Poem_appendTailLine : xmv g_Poem_appendTailLine := ⟨xmc_Poem_appendTailLine, lw_gm 401 rfl rfl, lw_gm 402 rfl rfl, _, _, rfl, rfl, rfl⟩
set_option maxRecDepth 100000 in
theorem xmc_Poem_properStanzas : xmc g_Poem_properStanzas := ⟨lw_gm 71 rfl rfl, lw_gm 638 rfl rfl, by decide +kernel, by decide +kernel, by decide +kernel⟩
set_option maxRecDepth 100000 in
theorem xmv_Poem_properStanzas : xmv g_Poem_properStanzas := ⟨xmc_Poem_properStanzas, lw_gm 636 rfl rfl, lw_gm 637 rfl rfl, _, _, rfl, rfl, rfl⟩
set_option maxRecDepth 100000 in
theorem xmc_Poem_lockedPlaces : xmc g_Poem_lockedPlaces := ⟨lw_gm 71 rfl rfl, lw_gm 775 rfl rfl, by decide +kernel, by decide +kernel, by decide +kernel⟩
set_option maxRecDepth 100000 in
theorem xmv_Poem_lockedPlaces : xmv g_Poem_lockedPlaces := ⟨xmc_Poem_lockedPlaces, lw_gm 773 rfl rfl, lw_gm 774 rfl rfl, _, _, rfl, rfl, rfl⟩
set_option maxRecDepth 100000 in
theorem xmc_Poem_turnBehind : xmc g_Poem_turnBehind := ⟨lw_gm 71 rfl rfl, lw_gm 623 rfl rfl, by decide +kernel, by decide +kernel, by decide +kernel⟩
set_option maxRecDepth 100000 in
theorem xmv_Poem_turnBehind : xmv g_Poem_turnBehind := ⟨xmc_Poem_turnBehind, lw_gm 621 rfl rfl, lw_gm 622 rfl rfl, _, _, rfl, rfl, rfl⟩
set_option maxRecDepth 100000 in
theorem xmc_Poem_turnsBy : xmc g_Poem_turnsBy := ⟨lw_gm 71 rfl rfl, lw_gm 634 rfl rfl, by decide +kernel, by decide +kernel, by decide +kernel⟩
set_option maxRecDepth 100000 in
theorem xmv_Poem_turnsBy : xmv g_Poem_turnsBy := ⟨xmc_Poem_turnsBy, lw_gm 632 rfl rfl, lw_gm 633 rfl rfl, _, _, rfl, rfl, rfl⟩
set_option maxRecDepth 100000 in
theorem xmc_Poem_rewrite : xmc g_Poem_rewrite := ⟨lw_gm 71 rfl rfl, lw_gm 685 rfl rfl, by decide +kernel, by decide +kernel, by decide +kernel⟩
set_option maxRecDepth 100000 in
theorem xmv_Poem_rewrite : xmv g_Poem_rewrite := ⟨xmc_Poem_rewrite, lw_gm 683 rfl rfl, lw_gm 684 rfl rfl, _, _, rfl, rfl, rfl⟩
set_option maxRecDepth 100000 in
theorem xmc_Poem_lengthOfTail : xmc g_Poem_lengthOfTail := ⟨lw_gm 71 rfl rfl, lw_gm 721 rfl rfl, by decide +kernel, by decide +kernel, by decide +kernel⟩
set_option maxRecDepth 100000 in
theorem xmv_Poem_lengthOfTail : xmv g_Poem_lengthOfTail := ⟨xmc_Poem_lengthOfTail, lw_gm 719 rfl rfl, lw_gm 720 rfl rfl, _, _, rfl, rfl, rfl⟩
set_option maxRecDepth 100000 in
theorem xmc_Poem_wordsOfTail : xmc g_Poem_wordsOfTail := ⟨lw_gm 71 rfl rfl, lw_gm 716 rfl rfl, by decide +kernel, by decide +kernel, by decide +kernel⟩
set_option maxRecDepth 100000 in
theorem xmv_Poem_wordsOfTail : xmv g_Poem_wordsOfTail := ⟨xmc_Poem_wordsOfTail, lw_gm 714 rfl rfl, lw_gm 715 rfl rfl, _, _, rfl, rfl, rfl⟩
set_option maxRecDepth 100000 in
theorem xmc_PR_init : xmc g_PR_init := ⟨lw_gm 76 rfl rfl, lw_gm 212 rfl rfl, by decide +kernel, by decide +kernel, by decide +kernel⟩
set_option maxRecDepth 100000 in
theorem xmi_PR_init : xmi g_PR_init := ⟨xmc_PR_init, lw_gm 211 rfl rfl, rfl, rfl⟩
set_option maxRecDepth 100000 in
theorem xmc_PR_readText : xmc g_PR_readText := ⟨lw_gm 76 rfl rfl, lw_gm 364 rfl rfl, by decide +kernel, by decide +kernel, by decide +kernel⟩
set_option maxRecDepth 100000 in
theorem xmv_PR_readText : xmv g_PR_readText := ⟨xmc_PR_readText, lw_gm 362 rfl rfl, lw_gm 363 rfl rfl, _, _, rfl, rfl, rfl⟩
set_option maxRecDepth 100000 in
theorem xmc_PR_readFirstStanza : xmc g_PR_readFirstStanza := ⟨lw_gm 76 rfl rfl, lw_gm 369 rfl rfl, by decide +kernel, by decide +kernel, by decide +kernel⟩
set_option maxRecDepth 100000 in
theorem xmv_PR_readFirstStanza : xmv g_PR_readFirstStanza := ⟨xmc_PR_readFirstStanza, lw_gm 368 rfl rfl, lw_gm 1 rfl rfl, _, _, rfl, rfl, rfl⟩
set_option maxRecDepth 100000 in
theorem xmc_PR_readStanza : xmc g_PR_readStanza := ⟨lw_gm 76 rfl rfl, lw_gm 391 rfl rfl, by decide +kernel, by decide +kernel, by decide +kernel⟩
set_option maxRecDepth 100000 in
theorem xmv_PR_readStanza : xmv g_PR_readStanza := ⟨xmc_PR_readStanza, lw_gm 390 rfl rfl, lw_gm 4 rfl rfl, _, _, rfl, rfl, rfl⟩
set_option maxRecDepth 100000 in
theorem xmc_PR_readTail : xmc g_PR_readTail := ⟨lw_gm 76 rfl rfl, lw_gm 395 rfl rfl, by decide +kernel, by decide +kernel, by decide +kernel⟩
set_option maxRecDepth 100000 in
theorem xmv_PR_readTail : xmv g_PR_readTail := ⟨xmc_PR_readTail, lw_gm 394 rfl rfl, lw_gm 5 rfl rfl, _, _, rfl, rfl, rfl⟩
set_option maxRecDepth 100000 in
theorem xmc_PR_readTailLine : xmc g_PR_readTailLine := ⟨lw_gm 76 rfl rfl, lw_gm 399 rfl rfl, by decide +kernel, by decide +kernel, by decide +kernel⟩
set_option maxRecDepth 100000 in
theorem xmv_PR_readTailLine : xmv g_PR_readTailLine := ⟨xmc_PR_readTailLine, lw_gm 398 rfl rfl, lw_gm 6 rfl rfl, _, _, rfl, rfl, rfl⟩
set_option maxRecDepth 100000 in
theorem xmc_PR_wordBelow : xmc g_PR_wordBelow := ⟨lw_gm 76 rfl rfl, lw_gm 373 rfl rfl, by decide +kernel, by decide +kernel, by decide +kernel⟩
set_option maxRecDepth 100000 in
theorem xmv_PR_wordBelow : xmv g_PR_wordBelow := ⟨xmc_PR_wordBelow, lw_gm 372 rfl rfl, lw_gm 2 rfl rfl, _, _, rfl, rfl, rfl⟩
set_option maxRecDepth 100000 in
theorem xmc_PR_isStanzaOver : xmc g_PR_isStanzaOver := ⟨lw_gm 76 rfl rfl, lw_gm 382 rfl rfl, by decide +kernel, by decide +kernel, by decide +kernel⟩
set_option maxRecDepth 100000 in
theorem xmv_PR_isStanzaOver : xmv g_PR_isStanzaOver := ⟨xmc_PR_isStanzaOver, lw_gm 381 rfl rfl, lw_gm 3 rfl rfl, _, _, rfl, rfl, rfl⟩
set_option maxRecDepth 100000 in
theorem xmc_Rhy_pattern : xmc g_Rhy_pattern := ⟨lw_gm 85 rfl rfl, lw_gm 737 rfl rfl, by decide +kernel, by decide +kernel, by decide +kernel⟩
set_option maxRecDepth 100000 in
theorem xms_Rhy_pattern : xms g_Rhy_pattern := ⟨xmc_Rhy_pattern, lw_gm 736 rfl rfl⟩
set_option maxRecDepth 100000 in
theorem xmc_Rhy_firstRhyme : xmc g_Rhy_firstRhyme := ⟨lw_gm 85 rfl rfl, lw_gm 740 rfl rfl, by decide +kernel, by decide +kernel, by decide +kernel⟩
set_option maxRecDepth 100000 in
theorem xms_Rhy_firstRhyme : xms g_Rhy_firstRhyme := ⟨xmc_Rhy_firstRhyme, lw_gm 739 rfl rfl⟩
set_option maxRecDepth 100000 in
theorem xmc_Rhy_differentPatterns : xmc g_Rhy_differentPatterns := ⟨lw_gm 85 rfl rfl, lw_gm 748 rfl rfl, by decide +kernel, by decide +kernel, by decide +kernel⟩
set_option maxRecDepth 100000 in
theorem xms_Rhy_differentPatterns : xms g_Rhy_differentPatterns := ⟨xmc_Rhy_differentPatterns, lw_gm 747 rfl rfl⟩
set_option maxRecDepth 100000 in
theorem xmc_Rhy_isAmong : xmc g_Rhy_isAmong := ⟨lw_gm 85 rfl rfl, lw_gm 753 rfl rfl, by decide +kernel, by decide +kernel, by decide +kernel⟩
set_option maxRecDepth 100000 in
theorem xms_Rhy_isAmong : xms g_Rhy_isAmong := ⟨xmc_Rhy_isAmong, lw_gm 752 rfl rfl⟩
set_option maxRecDepth 100000 in
theorem xmc_Rhy_mostNeighborly : xmc g_Rhy_mostNeighborly := ⟨lw_gm 85 rfl rfl, lw_gm 761 rfl rfl, by decide +kernel, by decide +kernel, by decide +kernel⟩
set_option maxRecDepth 100000 in
theorem xms_Rhy_mostNeighborly : xms g_Rhy_mostNeighborly := ⟨xmc_Rhy_mostNeighborly, lw_gm 760 rfl rfl⟩
set_option maxRecDepth 100000 in
theorem xmc_Rhy_neighbors : xmc g_Rhy_neighbors := ⟨lw_gm 85 rfl rfl, lw_gm 766 rfl rfl, by decide +kernel, by decide +kernel, by decide +kernel⟩
set_option maxRecDepth 100000 in
theorem xms_Rhy_neighbors : xms g_Rhy_neighbors := ⟨xmc_Rhy_neighbors, lw_gm 765 rfl rfl⟩
set_option maxRecDepth 100000 in
theorem xmc_Row_entry : xmc g_Row_entry := ⟨lw_gm 72 rfl rfl, lw_gm 343 rfl rfl, by decide +kernel, by decide +kernel, by decide +kernel⟩
set_option maxRecDepth 100000 in
theorem xms_Row_entry : xms g_Row_entry := ⟨xmc_Row_entry, lw_gm 342 rfl rfl⟩
set_option maxRecDepth 100000 in
theorem xmc_Row_with : xmc g_Row_with := ⟨lw_gm 72 rfl rfl, lw_gm 141 rfl rfl, by decide +kernel, by decide +kernel, by decide +kernel⟩
set_option maxRecDepth 100000 in
theorem xms_Row_with : xms g_Row_with := ⟨xmc_Row_with, lw_gm 140 rfl rfl⟩
set_option maxRecDepth 100000 in
theorem xmc_Row_ascending : xmc g_Row_ascending := ⟨lw_gm 72 rfl rfl, lw_gm 144 rfl rfl, by decide +kernel, by decide +kernel, by decide +kernel⟩
set_option maxRecDepth 100000 in
theorem xms_Row_ascending : xms g_Row_ascending := ⟨xmc_Row_ascending, lw_gm 143 rfl rfl⟩
set_option maxRecDepth 100000 in
theorem xmc_Row_turned : xmc g_Row_turned := ⟨lw_gm 72 rfl rfl, lw_gm 453 rfl rfl, by decide +kernel, by decide +kernel, by decide +kernel⟩
set_option maxRecDepth 100000 in
theorem xms_Row_turned : xms g_Row_turned := ⟨xmc_Row_turned, lw_gm 452 rfl rfl⟩
set_option maxRecDepth 100000 in
theorem xmc_Row_entries : xmc g_Row_entries := ⟨lw_gm 72 rfl rfl, lw_gm 615 rfl rfl, by decide +kernel, by decide +kernel, by decide +kernel⟩
set_option maxRecDepth 100000 in
theorem xms_Row_entries : xms g_Row_entries := ⟨xmc_Row_entries, lw_gm 614 rfl rfl⟩
set_option maxRecDepth 100000 in
theorem xmc_Row_hasEach : xmc g_Row_hasEach := ⟨lw_gm 72 rfl rfl, lw_gm 612 rfl rfl, by decide +kernel, by decide +kernel, by decide +kernel⟩
set_option maxRecDepth 100000 in
theorem xms_Row_hasEach : xms g_Row_hasEach := ⟨xmc_Row_hasEach, lw_gm 611 rfl rfl⟩
set_option maxRecDepth 100000 in
theorem xmc_Sea_init : xmc g_Sea_init := ⟨lw_gm 78 rfl rfl, lw_gm 243 rfl rfl, by decide +kernel, by decide +kernel, by decide +kernel⟩
set_option maxRecDepth 100000 in
theorem xmi_Sea_init : xmi g_Sea_init := ⟨xmc_Sea_init, lw_gm 242 rfl rfl, rfl, rfl⟩
set_option maxRecDepth 100000 in
theorem xmc_Sea_spread : xmc g_Sea_spread := ⟨lw_gm 78 rfl rfl, lw_gm 540 rfl rfl, by decide +kernel, by decide +kernel, by decide +kernel⟩
set_option maxRecDepth 100000 in
theorem xmv_Sea_spread : xmv g_Sea_spread := ⟨xmc_Sea_spread, lw_gm 538 rfl rfl, lw_gm 539 rfl rfl, _, _, rfl, rfl, rfl⟩
set_option maxRecDepth 100000 in
theorem xmc_Sea_depthOf : xmc g_Sea_depthOf := ⟨lw_gm 78 rfl rfl, lw_gm 552 rfl rfl, by decide +kernel, by decide +kernel, by decide +kernel⟩
set_option maxRecDepth 100000 in
theorem xmv_Sea_depthOf : xmv g_Sea_depthOf := ⟨xmc_Sea_depthOf, lw_gm 550 rfl rfl, lw_gm 551 rfl rfl, _, _, rfl, rfl, rfl⟩
set_option maxRecDepth 100000 in
theorem xmc_Sea_factorAt : xmc g_Sea_factorAt := ⟨lw_gm 78 rfl rfl, lw_gm 570 rfl rfl, by decide +kernel, by decide +kernel, by decide +kernel⟩
set_option maxRecDepth 100000 in
theorem xmv_Sea_factorAt : xmv g_Sea_factorAt := ⟨xmc_Sea_factorAt, lw_gm 568 rfl rfl, lw_gm 569 rfl rfl, _, _, rfl, rfl, rfl⟩
set_option maxRecDepth 100000 in
theorem xmc_Sea_note : xmc g_Sea_note := ⟨lw_gm 78 rfl rfl, lw_gm 547 rfl rfl, by decide +kernel, by decide +kernel, by decide +kernel⟩
set_option maxRecDepth 100000 in
theorem xmv_Sea_note : xmv g_Sea_note := ⟨xmc_Sea_note, lw_gm 546 rfl rfl, lw_gm 8 rfl rfl, _, _, rfl, rfl, rfl⟩
set_option maxRecDepth 100000 in
theorem xmc_Sea_isFactor : xmc g_Sea_isFactor := ⟨lw_gm 78 rfl rfl, lw_gm 556 rfl rfl, by decide +kernel, by decide +kernel, by decide +kernel⟩
set_option maxRecDepth 100000 in
theorem xmv_Sea_isFactor : xmv g_Sea_isFactor := ⟨xmc_Sea_isFactor, lw_gm 555 rfl rfl, lw_gm 9 rfl rfl, _, _, rfl, rfl, rfl⟩
set_option maxRecDepth 100000 in
theorem xmc_Sea_firstFactor : xmc g_Sea_firstFactor := ⟨lw_gm 78 rfl rfl, lw_gm 574 rfl rfl, by decide +kernel, by decide +kernel, by decide +kernel⟩
set_option maxRecDepth 100000 in
theorem xmv_Sea_firstFactor : xmv g_Sea_firstFactor := ⟨xmc_Sea_firstFactor, lw_gm 573 rfl rfl, lw_gm 10 rfl rfl, _, _, rfl, rfl, rfl⟩
set_option maxRecDepth 100000 in
theorem xmc_Sea_without : xmc g_Sea_without := ⟨lw_gm 78 rfl rfl, lw_gm 578 rfl rfl, by decide +kernel, by decide +kernel, by decide +kernel⟩
set_option maxRecDepth 100000 in
theorem xmv_Sea_without : xmv g_Sea_without := ⟨xmc_Sea_without, lw_gm 577 rfl rfl, lw_gm 11 rfl rfl, _, _, rfl, rfl, rfl⟩
set_option maxRecDepth 100000 in
theorem xmc_Sta_init : xmc g_Sta_init := ⟨lw_gm 70 rfl rfl, lw_gm 98 rfl rfl, by decide +kernel, by decide +kernel, by decide +kernel⟩
set_option maxRecDepth 100000 in
theorem xmi_Sta_init : xmi g_Sta_init := ⟨xmc_Sta_init, lw_gm 97 rfl rfl, rfl, rfl⟩
set_option maxRecDepth 100000 in
theorem xmc_Sta_startWith : xmc g_Sta_startWith := ⟨lw_gm 70 rfl rfl, lw_gm 138 rfl rfl, by decide +kernel, by decide +kernel, by decide +kernel⟩
set_option maxRecDepth 100000 in
theorem xmv_Sta_startWith : xmv g_Sta_startWith := ⟨xmc_Sta_startWith, lw_gm 136 rfl rfl, lw_gm 137 rfl rfl, _, _, rfl, rfl, rfl⟩
set_option maxRecDepth 100000 in
theorem xmc_Sta_copyFrom : xmc g_Sta_copyFrom := ⟨lw_gm 70 rfl rfl, lw_gm 320 rfl rfl, by decide +kernel, by decide +kernel, by decide +kernel⟩
set_option maxRecDepth 100000 in
theorem xmv_Sta_copyFrom : xmv g_Sta_copyFrom := ⟨xmc_Sta_copyFrom, lw_gm 318 rfl rfl, lw_gm 319 rfl rfl, _, _, rfl, rfl, rfl⟩
set_option maxRecDepth 100000 in
theorem xmc_Txt_init : xmc g_Txt_init := ⟨lw_gm 75 rfl rfl, lw_gm 196 rfl rfl, by decide +kernel, by decide +kernel, by decide +kernel⟩
set_option maxRecDepth 100000 in
theorem xmi_Txt_init : xmi g_Txt_init := ⟨xmc_Txt_init, lw_gm 195 rfl rfl, rfl, rfl⟩
set_option maxRecDepth 100000 in
theorem xmc_Txt_append : xmc g_Txt_append := ⟨lw_gm 75 rfl rfl, lw_gm 352 rfl rfl, by decide +kernel, by decide +kernel, by decide +kernel⟩
set_option maxRecDepth 100000 in
theorem xmv_Txt_append : xmv g_Txt_append := ⟨xmc_Txt_append, lw_gm 350 rfl rfl, lw_gm 351 rfl rfl, _, _, rfl, rfl, rfl⟩
set_option maxRecDepth 100000 in
theorem xmc_Txt_byteAt : xmc g_Txt_byteAt := ⟨lw_gm 75 rfl rfl, lw_gm 377 rfl rfl, by decide +kernel, by decide +kernel, by decide +kernel⟩
set_option maxRecDepth 100000 in
theorem xmv_Txt_byteAt : xmv g_Txt_byteAt := ⟨xmc_Txt_byteAt, lw_gm 375 rfl rfl, lw_gm 376 rfl rfl, _, _, rfl, rfl, rfl⟩
set_option maxRecDepth 100000 in
theorem xmc_TR_init : xmc g_TR_init := ⟨lw_gm 77 rfl rfl, lw_gm 232 rfl rfl, by decide +kernel, by decide +kernel, by decide +kernel⟩
set_option maxRecDepth 100000 in
theorem xmi_TR_init : xmi g_TR_init := ⟨xmc_TR_init, lw_gm 231 rfl rfl, rfl, rfl⟩
set_option maxRecDepth 100000 in
theorem xmc_TR_readText : xmc g_TR_readText := ⟨lw_gm 77 rfl rfl, lw_gm 415 rfl rfl, by decide +kernel, by decide +kernel, by decide +kernel⟩
set_option maxRecDepth 100000 in
theorem xmv_TR_readText : xmv g_TR_readText := ⟨xmc_TR_readText, lw_gm 413 rfl rfl, lw_gm 414 rfl rfl, _, _, rfl, rfl, rfl⟩
set_option maxRecDepth 100000 in
theorem xmc_TV_init : xmc g_TV_init := ⟨lw_gm 69 rfl rfl, lw_gm 90 rfl rfl, by decide +kernel, by decide +kernel, by decide +kernel⟩
set_option maxRecDepth 100000 in
theorem xmi_TV_init : xmi g_TV_init := ⟨xmc_TV_init, lw_gm 89 rfl rfl, rfl, rfl⟩
set_option maxRecDepth 100000 in
theorem xmc_TV_setWords : xmc g_TV_setWords := ⟨lw_gm 69 rfl rfl, lw_gm 312 rfl rfl, by decide +kernel, by decide +kernel, by decide +kernel⟩
set_option maxRecDepth 100000 in
theorem xmv_TV_setWords : xmv g_TV_setWords := ⟨xmc_TV_setWords, lw_gm 310 rfl rfl, lw_gm 311 rfl rfl, _, _, rfl, rfl, rfl⟩
set_option maxRecDepth 100000 in
theorem xmc_TV_setSound : xmc g_TV_setSound := ⟨lw_gm 69 rfl rfl, lw_gm 336 rfl rfl, by decide +kernel, by decide +kernel, by decide +kernel⟩
set_option maxRecDepth 100000 in
theorem xmv_TV_setSound : xmv g_TV_setSound := ⟨xmc_TV_setSound, lw_gm 334 rfl rfl, lw_gm 335 rfl rfl, _, _, rfl, rfl, rfl⟩
set_option maxRecDepth 100000 in
theorem xmc_TV_type : xmc g_TV_type := ⟨lw_gm 69 rfl rfl, lw_gm 348 rfl rfl, by decide +kernel, by decide +kernel, by decide +kernel⟩
set_option maxRecDepth 100000 in
theorem xmv_TV_type : xmv g_TV_type := ⟨xmc_TV_type, lw_gm 346 rfl rfl, lw_gm 347 rfl rfl, _, _, rfl, rfl, rfl⟩
set_option maxRecDepth 100000 in
theorem xmc_TV_clear : xmc g_TV_clear := ⟨lw_gm 69 rfl rfl, lw_gm 356 rfl rfl, by decide +kernel, by decide +kernel, by decide +kernel⟩
set_option maxRecDepth 100000 in
theorem xmv_TV_clear : xmv g_TV_clear := ⟨xmc_TV_clear, lw_gm 354 rfl rfl, lw_gm 355 rfl rfl, _, _, rfl, rfl, rfl⟩
set_option maxRecDepth 100000 in
theorem xmc_TV_loadPoem : xmc g_TV_loadPoem := ⟨lw_gm 69 rfl rfl, lw_gm 360 rfl rfl, by decide +kernel, by decide +kernel, by decide +kernel⟩
set_option maxRecDepth 100000 in
theorem xmv_TV_loadPoem : xmv g_TV_loadPoem := ⟨xmc_TV_loadPoem, lw_gm 358 rfl rfl, lw_gm 359 rfl rfl, _, _, rfl, rfl, rfl⟩
set_option maxRecDepth 100000 in
theorem xmc_TV_loadTurn : xmc g_TV_loadTurn := ⟨lw_gm 69 rfl rfl, lw_gm 408 rfl rfl, by decide +kernel, by decide +kernel, by decide +kernel⟩
set_option maxRecDepth 100000 in
theorem xmv_TV_loadTurn : xmv g_TV_loadTurn := ⟨xmc_TV_loadTurn, lw_gm 406 rfl rfl, lw_gm 407 rfl rfl, _, _, rfl, rfl, rfl⟩
set_option maxRecDepth 100000 in
theorem xmc_TV_make : xmc g_TV_make := ⟨lw_gm 69 rfl rfl, lw_gm 436 rfl rfl, by decide +kernel, by decide +kernel, by decide +kernel⟩
set_option maxRecDepth 100000 in
theorem xmv_TV_make : xmv g_TV_make := ⟨xmc_TV_make, lw_gm 434 rfl rfl, lw_gm 435 rfl rfl, _, _, rfl, rfl, rfl⟩
set_option maxRecDepth 100000 in
theorem xmc_TV_product : xmc g_TV_product := ⟨lw_gm 69 rfl rfl, lw_gm 450 rfl rfl, by decide +kernel, by decide +kernel, by decide +kernel⟩
set_option maxRecDepth 100000 in
theorem xmv_TV_product : xmv g_TV_product := ⟨xmc_TV_product, lw_gm 448 rfl rfl, lw_gm 449 rfl rfl, _, _, rfl, rfl, rfl⟩
set_option maxRecDepth 100000 in
theorem xmc_TV_power : xmc g_TV_power := ⟨lw_gm 69 rfl rfl, lw_gm 458 rfl rfl, by decide +kernel, by decide +kernel, by decide +kernel⟩
set_option maxRecDepth 100000 in
theorem xmv_TV_power : xmv g_TV_power := ⟨xmc_TV_power, lw_gm 456 rfl rfl, lw_gm 457 rfl rfl, _, _, rfl, rfl, rfl⟩
set_option maxRecDepth 100000 in
theorem xmc_TV_unrank : xmc g_TV_unrank := ⟨lw_gm 69 rfl rfl, lw_gm 475 rfl rfl, by decide +kernel, by decide +kernel, by decide +kernel⟩
set_option maxRecDepth 100000 in
theorem xmv_TV_unrank : xmv g_TV_unrank := ⟨xmc_TV_unrank, lw_gm 473 rfl rfl, lw_gm 474 rfl rfl, _, _, rfl, rfl, rfl⟩
set_option maxRecDepth 100000 in
theorem xmc_TV_root : xmc g_TV_root := ⟨lw_gm 69 rfl rfl, lw_gm 488 rfl rfl, by decide +kernel, by decide +kernel, by decide +kernel⟩
set_option maxRecDepth 100000 in
theorem xmv_TV_root : xmv g_TV_root := ⟨xmc_TV_root, lw_gm 486 rfl rfl, lw_gm 487 rfl rfl, _, _, rfl, rfl, rfl⟩
set_option maxRecDepth 100000 in
theorem xmc_TV_at : xmc g_TV_at := ⟨lw_gm 69 rfl rfl, lw_gm 498 rfl rfl, by decide +kernel, by decide +kernel, by decide +kernel⟩
set_option maxRecDepth 100000 in
theorem xmv_TV_at : xmv g_TV_at := ⟨xmc_TV_at, lw_gm 496 rfl rfl, lw_gm 497 rfl rfl, _, _, rfl, rfl, rfl⟩
set_option maxRecDepth 100000 in
theorem xmc_TV_turn : xmc g_TV_turn := ⟨lw_gm 69 rfl rfl, lw_gm 502 rfl rfl, by decide +kernel, by decide +kernel, by decide +kernel⟩
set_option maxRecDepth 100000 in
theorem xmv_TV_turn : xmv g_TV_turn := ⟨xmc_TV_turn, lw_gm 500 rfl rfl, lw_gm 501 rfl rfl, _, _, rfl, rfl, rfl⟩
set_option maxRecDepth 100000 in
theorem xmc_TV_places : xmc g_TV_places := ⟨lw_gm 69 rfl rfl, lw_gm 529 rfl rfl, by decide +kernel, by decide +kernel, by decide +kernel⟩
set_option maxRecDepth 100000 in
theorem xmv_TV_places : xmv g_TV_places := ⟨xmc_TV_places, lw_gm 527 rfl rfl, lw_gm 528 rfl rfl, _, _, rfl, rfl, rfl⟩
set_option maxRecDepth 100000 in
theorem xmc_TV_generated : xmc g_TV_generated := ⟨lw_gm 69 rfl rfl, lw_gm 533 rfl rfl, by decide +kernel, by decide +kernel, by decide +kernel⟩
set_option maxRecDepth 100000 in
theorem xmv_TV_generated : xmv g_TV_generated := ⟨xmc_TV_generated, lw_gm 531 rfl rfl, lw_gm 532 rfl rfl, _, _, rfl, rfl, rfl⟩
set_option maxRecDepth 100000 in
theorem xmc_TV_reach : xmc g_TV_reach := ⟨lw_gm 69 rfl rfl, lw_gm 561 rfl rfl, by decide +kernel, by decide +kernel, by decide +kernel⟩
set_option maxRecDepth 100000 in
theorem xmv_TV_reach : xmv g_TV_reach := ⟨xmc_TV_reach, lw_gm 559 rfl rfl, lw_gm 560 rfl rfl, _, _, rfl, rfl, rfl⟩
set_option maxRecDepth 100000 in
theorem xmc_TV_factor : xmc g_TV_factor := ⟨lw_gm 69 rfl rfl, lw_gm 566 rfl rfl, by decide +kernel, by decide +kernel, by decide +kernel⟩
set_option maxRecDepth 100000 in
theorem xmv_TV_factor : xmv g_TV_factor := ⟨xmc_TV_factor, lw_gm 564 rfl rfl, lw_gm 565 rfl rfl, _, _, rfl, rfl, rfl⟩
set_option maxRecDepth 100000 in
theorem xmc_TV_add : xmc g_TV_add := ⟨lw_gm 69 rfl rfl, lw_gm 583 rfl rfl, by decide +kernel, by decide +kernel, by decide +kernel⟩
set_option maxRecDepth 100000 in
theorem xmv_TV_add : xmv g_TV_add := ⟨xmc_TV_add, lw_gm 581 rfl rfl, lw_gm 582 rfl rfl, _, _, rfl, rfl, rfl⟩
set_option maxRecDepth 100000 in
theorem xmc_TV_drop : xmc g_TV_drop := ⟨lw_gm 69 rfl rfl, lw_gm 589 rfl rfl, by decide +kernel, by decide +kernel, by decide +kernel⟩
set_option maxRecDepth 100000 in
theorem xmv_TV_drop : xmv g_TV_drop := ⟨xmc_TV_drop, lw_gm 587 rfl rfl, lw_gm 588 rfl rfl, _, _, rfl, rfl, rfl⟩
set_option maxRecDepth 100000 in
theorem xmc_TV_put : xmc g_TV_put := ⟨lw_gm 69 rfl rfl, lw_gm 593 rfl rfl, by decide +kernel, by decide +kernel, by decide +kernel⟩
set_option maxRecDepth 100000 in
theorem xmv_TV_put : xmv g_TV_put := ⟨xmc_TV_put, lw_gm 591 rfl rfl, lw_gm 592 rfl rfl, _, _, rfl, rfl, rfl⟩
set_option maxRecDepth 100000 in
theorem xmc_TV_lock : xmc g_TV_lock := ⟨lw_gm 69 rfl rfl, lw_gm 601 rfl rfl, by decide +kernel, by decide +kernel, by decide +kernel⟩
set_option maxRecDepth 100000 in
theorem xmv_TV_lock : xmv g_TV_lock := ⟨xmc_TV_lock, lw_gm 599 rfl rfl, lw_gm 600 rfl rfl, _, _, rfl, rfl, rfl⟩
set_option maxRecDepth 100000 in
theorem xmc_TV_word : xmc g_TV_word := ⟨lw_gm 69 rfl rfl, lw_gm 605 rfl rfl, by decide +kernel, by decide +kernel, by decide +kernel⟩
set_option maxRecDepth 100000 in
theorem xmv_TV_word : xmv g_TV_word := ⟨xmc_TV_word, lw_gm 603 rfl rfl, lw_gm 604 rfl rfl, _, _, rfl, rfl, rfl⟩
set_option maxRecDepth 100000 in
theorem xmc_TV_proper : xmc g_TV_proper := ⟨lw_gm 69 rfl rfl, lw_gm 609 rfl rfl, by decide +kernel, by decide +kernel, by decide +kernel⟩
set_option maxRecDepth 100000 in
theorem xmv_TV_proper : xmv g_TV_proper := ⟨xmc_TV_proper, lw_gm 607 rfl rfl, lw_gm 608 rfl rfl, _, _, rfl, rfl, rfl⟩
set_option maxRecDepth 100000 in
theorem xmc_TV_turning : xmc g_TV_turning := ⟨lw_gm 69 rfl rfl, lw_gm 619 rfl rfl, by decide +kernel, by decide +kernel, by decide +kernel⟩
set_option maxRecDepth 100000 in
theorem xmv_TV_turning : xmv g_TV_turning := ⟨xmc_TV_turning, lw_gm 617 rfl rfl, lw_gm 618 rfl rfl, _, _, rfl, rfl, rfl⟩
set_option maxRecDepth 100000 in
theorem xmc_TV_common : xmc g_TV_common := ⟨lw_gm 69 rfl rfl, lw_gm 630 rfl rfl, by decide +kernel, by decide +kernel, by decide +kernel⟩
set_option maxRecDepth 100000 in
theorem xmv_TV_common : xmv g_TV_common := ⟨xmc_TV_common, lw_gm 628 rfl rfl, lw_gm 629 rfl rfl, _, _, rfl, rfl, rfl⟩
set_option maxRecDepth 100000 in
theorem xmc_TV_follows : xmc g_TV_follows := ⟨lw_gm 69 rfl rfl, lw_gm 642 rfl rfl, by decide +kernel, by decide +kernel, by decide +kernel⟩
set_option maxRecDepth 100000 in
theorem xmv_TV_follows : xmv g_TV_follows := ⟨xmc_TV_follows, lw_gm 640 rfl rfl, lw_gm 641 rfl rfl, _, _, rfl, rfl, rfl⟩
set_option maxRecDepth 100000 in
theorem xmc_TV_cost : xmc g_TV_cost := ⟨lw_gm 69 rfl rfl, lw_gm 646 rfl rfl, by decide +kernel, by decide +kernel, by decide +kernel⟩
set_option maxRecDepth 100000 in
theorem xmv_TV_cost : xmv g_TV_cost := ⟨xmc_TV_cost, lw_gm 644 rfl rfl, lw_gm 645 rfl rfl, _, _, rfl, rfl, rfl⟩
set_option maxRecDepth 100000 in
theorem xmc_TV_mend : xmc g_TV_mend := ⟨lw_gm 69 rfl rfl, lw_gm 672 rfl rfl, by decide +kernel, by decide +kernel, by decide +kernel⟩
set_option maxRecDepth 100000 in
theorem xmv_TV_mend : xmv g_TV_mend := ⟨xmc_TV_mend, lw_gm 670 rfl rfl, lw_gm 671 rfl rfl, _, _, rfl, rfl, rfl⟩
set_option maxRecDepth 100000 in
theorem xmc_TV_best : xmc g_TV_best := ⟨lw_gm 69 rfl rfl, lw_gm 689 rfl rfl, by decide +kernel, by decide +kernel, by decide +kernel⟩
set_option maxRecDepth 100000 in
theorem xmv_TV_best : xmv g_TV_best := ⟨xmc_TV_best, lw_gm 687 rfl rfl, lw_gm 688 rfl rfl, _, _, rfl, rfl, rfl⟩
set_option maxRecDepth 100000 in
theorem xmc_TV_tail : xmc g_TV_tail := ⟨lw_gm 69 rfl rfl, lw_gm 712 rfl rfl, by decide +kernel, by decide +kernel, by decide +kernel⟩
set_option maxRecDepth 100000 in
theorem xmv_TV_tail : xmv g_TV_tail := ⟨xmc_TV_tail, lw_gm 710 rfl rfl, lw_gm 711 rfl rfl, _, _, rfl, rfl, rfl⟩
set_option maxRecDepth 100000 in
theorem xmc_TV_tailWord : xmc g_TV_tailWord := ⟨lw_gm 69 rfl rfl, lw_gm 726 rfl rfl, by decide +kernel, by decide +kernel, by decide +kernel⟩
set_option maxRecDepth 100000 in
theorem xmv_TV_tailWord : xmv g_TV_tailWord := ⟨xmc_TV_tailWord, lw_gm 724 rfl rfl, lw_gm 725 rfl rfl, _, _, rfl, rfl, rfl⟩
set_option maxRecDepth 100000 in
theorem xmc_TV_scheme : xmc g_TV_scheme := ⟨lw_gm 69 rfl rfl, lw_gm 730 rfl rfl, by decide +kernel, by decide +kernel, by decide +kernel⟩
set_option maxRecDepth 100000 in
theorem xmv_TV_scheme : xmv g_TV_scheme := ⟨xmc_TV_scheme, lw_gm 728 rfl rfl, lw_gm 729 rfl rfl, _, _, rfl, rfl, rfl⟩
set_option maxRecDepth 100000 in
theorem xmc_TV_schemes : xmc g_TV_schemes := ⟨lw_gm 69 rfl rfl, lw_gm 745 rfl rfl, by decide +kernel, by decide +kernel, by decide +kernel⟩
set_option maxRecDepth 100000 in
theorem xmv_TV_schemes : xmv g_TV_schemes := ⟨xmc_TV_schemes, lw_gm 743 rfl rfl, lw_gm 744 rfl rfl, _, _, rfl, rfl, rfl⟩
set_option maxRecDepth 100000 in
theorem xmc_TV_coupled : xmc g_TV_coupled := ⟨lw_gm 69 rfl rfl, lw_gm 758 rfl rfl, by decide +kernel, by decide +kernel, by decide +kernel⟩
set_option maxRecDepth 100000 in
theorem xmv_TV_coupled : xmv g_TV_coupled := ⟨xmc_TV_coupled, lw_gm 756 rfl rfl, lw_gm 757 rfl rfl, _, _, rfl, rfl, rfl⟩
set_option maxRecDepth 100000 in
theorem xmc_TV_told : xmc g_TV_told := ⟨lw_gm 69 rfl rfl, lw_gm 770 rfl rfl, by decide +kernel, by decide +kernel, by decide +kernel⟩
set_option maxRecDepth 100000 in
theorem xmv_TV_told : xmv g_TV_told := ⟨xmc_TV_told, lw_gm 768 rfl rfl, lw_gm 769 rfl rfl, _, _, rfl, rfl, rfl⟩
set_option maxRecDepth 100000 in
theorem xmc_TV_undo : xmc g_TV_undo := ⟨lw_gm 69 rfl rfl, lw_gm 780 rfl rfl, by decide +kernel, by decide +kernel, by decide +kernel⟩
set_option maxRecDepth 100000 in
theorem xmv_TV_undo : xmv g_TV_undo := ⟨xmc_TV_undo, lw_gm 778 rfl rfl, lw_gm 779 rfl rfl, _, _, rfl, rfl, rfl⟩
set_option maxRecDepth 100000 in
theorem xmc_TV_digest : xmc g_TV_digest := ⟨lw_gm 69 rfl rfl, lw_gm 788 rfl rfl, by decide +kernel, by decide +kernel, by decide +kernel⟩
set_option maxRecDepth 100000 in
theorem xmv_TV_digest : xmv g_TV_digest := ⟨xmc_TV_digest, lw_gm 786 rfl rfl, lw_gm 787 rfl rfl, _, _, rfl, rfl, rfl⟩
set_option maxRecDepth 100000 in
theorem xmc_TV_withStanza : xmc g_TV_withStanza := ⟨lw_gm 69 rfl rfl, lw_gm 799 rfl rfl, by decide +kernel, by decide +kernel, by decide +kernel⟩
set_option maxRecDepth 100000 in
theorem xmv_TV_withStanza : xmv g_TV_withStanza := ⟨xmc_TV_withStanza, lw_gm 798 rfl rfl, lw_gm 21 rfl rfl, _, _, rfl, rfl, rfl⟩
set_option maxRecDepth 100000 in
theorem xmc_TV_withTail : xmc g_TV_withTail := ⟨lw_gm 69 rfl rfl, lw_gm 807 rfl rfl, by decide +kernel, by decide +kernel, by decide +kernel⟩
set_option maxRecDepth 100000 in
theorem xmv_TV_withTail : xmv g_TV_withTail := ⟨xmc_TV_withTail, lw_gm 806 rfl rfl, lw_gm 22 rfl rfl, _, _, rfl, rfl, rfl⟩
set_option maxRecDepth 100000 in
theorem xmc_TV_mixed : xmc g_TV_mixed := ⟨lw_gm 69 rfl rfl, lw_gm 793 rfl rfl, by decide +kernel, by decide +kernel, by decide +kernel⟩
set_option maxRecDepth 100000 in
theorem xms_TV_mixed : xms g_TV_mixed := ⟨xmc_TV_mixed, lw_gm 792 rfl rfl⟩
set_option maxRecDepth 100000 in
theorem xmc_TV_isRegister : xmc g_TV_isRegister := ⟨lw_gm 69 rfl rfl, lw_gm 411 rfl rfl, by decide +kernel, by decide +kernel, by decide +kernel⟩
set_option maxRecDepth 100000 in
theorem xms_TV_isRegister : xms g_TV_isRegister := ⟨xmc_TV_isRegister, lw_gm 410 rfl rfl⟩
set_option maxRecDepth 100000 in
theorem xmc_TV_isSetOfRegisters : xmc g_TV_isSetOfRegisters := ⟨lw_gm 69 rfl rfl, lw_gm 536 rfl rfl, by decide +kernel, by decide +kernel, by decide +kernel⟩
set_option maxRecDepth 100000 in
theorem xms_TV_isSetOfRegisters : xms g_TV_isSetOfRegisters := ⟨xmc_TV_isSetOfRegisters, lw_gm 535 rfl rfl⟩
set_option maxRecDepth 100000 in
theorem xmc_TV_isLine : xmc g_TV_isLine := ⟨lw_gm 69 rfl rfl, lw_gm 340 rfl rfl, by decide +kernel, by decide +kernel, by decide +kernel⟩
set_option maxRecDepth 100000 in
theorem xmv_TV_isLine : xmv g_TV_isLine := ⟨xmc_TV_isLine, lw_gm 339 rfl rfl, lw_gm 0 rfl rfl, _, _, rfl, rfl, rfl⟩
set_option maxRecDepth 100000 in
theorem xmc_TV_isStanza : xmc g_TV_isStanza := ⟨lw_gm 69 rfl rfl, lw_gm 597 rfl rfl, by decide +kernel, by decide +kernel, by decide +kernel⟩
set_option maxRecDepth 100000 in
theorem xmv_TV_isStanza : xmv g_TV_isStanza := ⟨xmc_TV_isStanza, lw_gm 596 rfl rfl, lw_gm 12 rfl rfl, _, _, rfl, rfl, rfl⟩
set_option maxRecDepth 100000 in
theorem xmc_TV_soundsOf : xmc g_TV_soundsOf := ⟨lw_gm 69 rfl rfl, lw_gm 734 rfl rfl, by decide +kernel, by decide +kernel, by decide +kernel⟩
set_option maxRecDepth 100000 in
theorem xmv_TV_soundsOf : xmv g_TV_soundsOf := ⟨xmc_TV_soundsOf, lw_gm 733 rfl rfl, lw_gm 20 rfl rfl, _, _, rfl, rfl, rfl⟩
set_option maxRecDepth 100000 in
theorem xmc_TV_store : xmc g_TV_store := ⟨lw_gm 69 rfl rfl, lw_gm 422 rfl rfl, by decide +kernel, by decide +kernel, by decide +kernel⟩
set_option maxRecDepth 100000 in
theorem xmv_TV_store : xmv g_TV_store := ⟨xmc_TV_store, lw_gm 421 rfl rfl, lw_gm 7 rfl rfl, _, _, rfl, rfl, rfl⟩
set_option maxRecDepth 100000 in
theorem xmc_Mo_init : xmc g_Mo_init := ⟨lw_gm 80 rfl rfl, lw_gm 814 rfl rfl, by decide +kernel, by decide +kernel, by decide +kernel⟩
set_option maxRecDepth 100000 in
theorem xmi_Mo_init : xmi g_Mo_init := ⟨xmc_Mo_init, lw_gm 813 rfl rfl, rfl, rfl⟩
set_option maxRecDepth 100000 in
theorem xmc_Mo_in : xmc g_Mo_in := ⟨lw_gm 80 rfl rfl, lw_gm 881 rfl rfl, by decide +kernel, by decide +kernel, by decide +kernel⟩
set_option maxRecDepth 100000 in
theorem xms_Mo_in : xms g_Mo_in := ⟨xmc_Mo_in, lw_gm 880 rfl rfl⟩
set_option maxRecDepth 100000 in
theorem xmc_Mo_size : xmc g_Mo_size := ⟨lw_gm 80 rfl rfl, lw_gm 889 rfl rfl, by decide +kernel, by decide +kernel, by decide +kernel⟩
set_option maxRecDepth 100000 in
theorem xmv_Mo_size : xmv g_Mo_size := ⟨xmc_Mo_size, lw_gm 888 rfl rfl, lw_gm 25 rfl rfl, _, _, rfl, rfl, rfl⟩
set_option maxRecDepth 100000 in
theorem xmc_Mo_resets : xmc g_Mo_resets := ⟨lw_gm 80 rfl rfl, lw_gm 819 rfl rfl, by decide +kernel, by decide +kernel, by decide +kernel⟩
set_option maxRecDepth 100000 in
theorem xmv_Mo_resets : xmv g_Mo_resets := ⟨xmc_Mo_resets, lw_gm 818 rfl rfl, lw_gm 23 rfl rfl, _, _, rfl, rfl, rfl⟩
set_option maxRecDepth 100000 in
theorem xmc_Mo_records : xmc g_Mo_records := ⟨lw_gm 80 rfl rfl, lw_gm 885 rfl rfl, by decide +kernel, by decide +kernel, by decide +kernel⟩
set_option maxRecDepth 100000 in
theorem xmv_Mo_records : xmv g_Mo_records := ⟨xmc_Mo_records, lw_gm 884 rfl rfl, lw_gm 24 rfl rfl, _, _, rfl, rfl, rfl⟩
set_option maxRecDepth 100000 in
theorem xmc_Mo_empties : xmc g_Mo_empties := ⟨lw_gm 80 rfl rfl, lw_gm 893 rfl rfl, by decide +kernel, by decide +kernel, by decide +kernel⟩
set_option maxRecDepth 100000 in
theorem xmv_Mo_empties : xmv g_Mo_empties := ⟨xmc_Mo_empties, lw_gm 892 rfl rfl, lw_gm 26 rfl rfl, _, _, rfl, rfl, rfl⟩
set_option maxRecDepth 100000 in
theorem xmc_Mo_setWords : xmc g_Mo_setWords := ⟨lw_gm 80 rfl rfl, lw_gm 878 rfl rfl, by decide +kernel, by decide +kernel, by decide +kernel⟩
set_option maxRecDepth 100000 in
theorem xmv_Mo_setWords : xmv g_Mo_setWords := ⟨xmc_Mo_setWords, lw_gm 876 rfl rfl, lw_gm 877 rfl rfl, _, _, rfl, rfl, rfl⟩
set_option maxRecDepth 100000 in
theorem xmc_Mo_isLine : xmc g_Mo_isLine := ⟨lw_gm 80 rfl rfl, lw_gm 901 rfl rfl, by decide +kernel, by decide +kernel, by decide +kernel⟩
set_option maxRecDepth 100000 in
theorem xmv_Mo_isLine : xmv g_Mo_isLine := ⟨xmc_Mo_isLine, lw_gm 900 rfl rfl, lw_gm 27 rfl rfl, _, _, rfl, rfl, rfl⟩
set_option maxRecDepth 100000 in
theorem xmc_Mo_setSound : xmc g_Mo_setSound := ⟨lw_gm 80 rfl rfl, lw_gm 897 rfl rfl, by decide +kernel, by decide +kernel, by decide +kernel⟩
set_option maxRecDepth 100000 in
theorem xmv_Mo_setSound : xmv g_Mo_setSound := ⟨xmc_Mo_setSound, lw_gm 895 rfl rfl, lw_gm 896 rfl rfl, _, _, rfl, rfl, rfl⟩
set_option maxRecDepth 100000 in
theorem xmc_Mo_isRegister : xmc g_Mo_isRegister := ⟨lw_gm 80 rfl rfl, lw_gm 908 rfl rfl, by decide +kernel, by decide +kernel, by decide +kernel⟩
set_option maxRecDepth 100000 in
theorem xms_Mo_isRegister : xms g_Mo_isRegister := ⟨xmc_Mo_isRegister, lw_gm 907 rfl rfl⟩
set_option maxRecDepth 100000 in
theorem xmc_Mo_takes : xmc g_Mo_takes := ⟨lw_gm 80 rfl rfl, lw_gm 928 rfl rfl, by decide +kernel, by decide +kernel, by decide +kernel⟩
set_option maxRecDepth 100000 in
theorem xmv_Mo_takes : xmv g_Mo_takes := ⟨xmc_Mo_takes, lw_gm 927 rfl rfl, lw_gm 31 rfl rfl, _, _, rfl, rfl, rfl⟩
set_option maxRecDepth 100000 in
theorem xmc_Mo_puts : xmc g_Mo_puts := ⟨lw_gm 80 rfl rfl, lw_gm 916 rfl rfl, by decide +kernel, by decide +kernel, by decide +kernel⟩
set_option maxRecDepth 100000 in
theorem xmv_Mo_puts : xmv g_Mo_puts := ⟨xmc_Mo_puts, lw_gm 915 rfl rfl, lw_gm 29 rfl rfl, _, _, rfl, rfl, rfl⟩
set_option maxRecDepth 100000 in
theorem xmc_Mo_factorial : xmc g_Mo_factorial := ⟨lw_gm 80 rfl rfl, lw_gm 958 rfl rfl, by decide +kernel, by decide +kernel, by decide +kernel⟩
set_option maxRecDepth 100000 in
theorem xmv_Mo_factorial : xmv g_Mo_factorial := ⟨xmc_Mo_factorial, lw_gm 957 rfl rfl, lw_gm 36 rfl rfl, _, _, rfl, rfl, rfl⟩
set_option maxRecDepth 100000 in
theorem xmc_Mo_rank : xmc g_Mo_rank := ⟨lw_gm 80 rfl rfl, lw_gm 920 rfl rfl, by decide +kernel, by decide +kernel, by decide +kernel⟩
set_option maxRecDepth 100000 in
theorem xmv_Mo_rank : xmv g_Mo_rank := ⟨xmc_Mo_rank, lw_gm 919 rfl rfl, lw_gm 30 rfl rfl, _, _, rfl, rfl, rfl⟩
set_option maxRecDepth 100000 in
theorem xmc_Mo_unranks : xmc g_Mo_unranks := ⟨lw_gm 80 rfl rfl, lw_gm 962 rfl rfl, by decide +kernel, by decide +kernel, by decide +kernel⟩
set_option maxRecDepth 100000 in
theorem xmv_Mo_unranks : xmv g_Mo_unranks := ⟨xmc_Mo_unranks, lw_gm 961 rfl rfl, lw_gm 37 rfl rfl, _, _, rfl, rfl, rfl⟩
set_option maxRecDepth 100000 in
theorem xmc_Mo_multiplies : xmc g_Mo_multiplies := ⟨lw_gm 80 rfl rfl, lw_gm 932 rfl rfl, by decide +kernel, by decide +kernel, by decide +kernel⟩
set_option maxRecDepth 100000 in
theorem xmv_Mo_multiplies : xmv g_Mo_multiplies := ⟨xmc_Mo_multiplies, lw_gm 931 rfl rfl, lw_gm 32 rfl rfl, _, _, rfl, rfl, rfl⟩
set_option maxRecDepth 100000 in
theorem xmc_Mo_identity : xmc g_Mo_identity := ⟨lw_gm 80 rfl rfl, lw_gm 912 rfl rfl, by decide +kernel, by decide +kernel, by decide +kernel⟩
set_option maxRecDepth 100000 in
theorem xmv_Mo_identity : xmv g_Mo_identity := ⟨xmc_Mo_identity, lw_gm 911 rfl rfl, lw_gm 28 rfl rfl, _, _, rfl, rfl, rfl⟩
set_option maxRecDepth 100000 in
theorem xmc_Mo_cycleOf : xmc g_Mo_cycleOf := ⟨lw_gm 80 rfl rfl, lw_gm 946 rfl rfl, by decide +kernel, by decide +kernel, by decide +kernel⟩
set_option maxRecDepth 100000 in
theorem xmv_Mo_cycleOf : xmv g_Mo_cycleOf := ⟨xmc_Mo_cycleOf, lw_gm 945 rfl rfl, lw_gm 34 rfl rfl, _, _, rfl, rfl, rfl⟩
set_option maxRecDepth 100000 in
theorem xmc_Mo_isFirst : xmc g_Mo_isFirst := ⟨lw_gm 80 rfl rfl, lw_gm 986 rfl rfl, by decide +kernel, by decide +kernel, by decide +kernel⟩
set_option maxRecDepth 100000 in
theorem xmv_Mo_isFirst : xmv g_Mo_isFirst := ⟨xmc_Mo_isFirst, lw_gm 985 rfl rfl, lw_gm 40 rfl rfl, _, _, rfl, rfl, rfl⟩
set_option maxRecDepth 100000 in
theorem xmc_Mo_orderOf : xmc g_Mo_orderOf := ⟨lw_gm 80 rfl rfl, lw_gm 942 rfl rfl, by decide +kernel, by decide +kernel, by decide +kernel⟩
set_option maxRecDepth 100000 in
theorem xmv_Mo_orderOf : xmv g_Mo_orderOf := ⟨xmc_Mo_orderOf, lw_gm 941 rfl rfl, lw_gm 33 rfl rfl, _, _, rfl, rfl, rfl⟩
set_option maxRecDepth 100000 in
theorem xmc_Mo_raises : xmc g_Mo_raises := ⟨lw_gm 80 rfl rfl, lw_gm 950 rfl rfl, by decide +kernel, by decide +kernel, by decide +kernel⟩
set_option maxRecDepth 100000 in
theorem xmv_Mo_raises : xmv g_Mo_raises := ⟨xmc_Mo_raises, lw_gm 949 rfl rfl, lw_gm 35 rfl rfl, _, _, rfl, rfl, rfl⟩
set_option maxRecDepth 100000 in
theorem xmc_Mo_isSame : xmc g_Mo_isSame := ⟨lw_gm 80 rfl rfl, lw_gm 970 rfl rfl, by decide +kernel, by decide +kernel, by decide +kernel⟩
set_option maxRecDepth 100000 in
theorem xmv_Mo_isSame : xmv g_Mo_isSame := ⟨xmc_Mo_isSame, lw_gm 969 rfl rfl, lw_gm 38 rfl rfl, _, _, rfl, rfl, rfl⟩
set_option maxRecDepth 100000 in
theorem xmc_Mo_make : xmc g_Mo_make := ⟨lw_gm 80 rfl rfl, lw_gm 905 rfl rfl, by decide +kernel, by decide +kernel, by decide +kernel⟩
set_option maxRecDepth 100000 in
theorem xmv_Mo_make : xmv g_Mo_make := ⟨xmc_Mo_make, lw_gm 903 rfl rfl, lw_gm 904 rfl rfl, _, _, rfl, rfl, rfl⟩
set_option maxRecDepth 100000 in
theorem xmc_Mo_product : xmc g_Mo_product := ⟨lw_gm 80 rfl rfl, lw_gm 924 rfl rfl, by decide +kernel, by decide +kernel, by decide +kernel⟩
set_option maxRecDepth 100000 in
theorem xmv_Mo_product : xmv g_Mo_product := ⟨xmc_Mo_product, lw_gm 922 rfl rfl, lw_gm 923 rfl rfl, _, _, rfl, rfl, rfl⟩
set_option maxRecDepth 100000 in
theorem xmc_Mo_power : xmc g_Mo_power := ⟨lw_gm 80 rfl rfl, lw_gm 936 rfl rfl, by decide +kernel, by decide +kernel, by decide +kernel⟩
set_option maxRecDepth 100000 in
theorem xmv_Mo_power : xmv g_Mo_power := ⟨xmc_Mo_power, lw_gm 934 rfl rfl, lw_gm 935 rfl rfl, _, _, rfl, rfl, rfl⟩
set_option maxRecDepth 100000 in
theorem xmc_Mo_unrank : xmc g_Mo_unrank := ⟨lw_gm 80 rfl rfl, lw_gm 954 rfl rfl, by decide +kernel, by decide +kernel, by decide +kernel⟩
set_option maxRecDepth 100000 in
theorem xmv_Mo_unrank : xmv g_Mo_unrank := ⟨xmc_Mo_unrank, lw_gm 952 rfl rfl, lw_gm 953 rfl rfl, _, _, rfl, rfl, rfl⟩
set_option maxRecDepth 100000 in
theorem xmc_Mo_root : xmc g_Mo_root := ⟨lw_gm 80 rfl rfl, lw_gm 966 rfl rfl, by decide +kernel, by decide +kernel, by decide +kernel⟩
set_option maxRecDepth 100000 in
theorem xmv_Mo_root : xmv g_Mo_root := ⟨xmc_Mo_root, lw_gm 964 rfl rfl, lw_gm 965 rfl rfl, _, _, rfl, rfl, rfl⟩
set_option maxRecDepth 100000 in
theorem xmc_Mo_at : xmc g_Mo_at := ⟨lw_gm 80 rfl rfl, lw_gm 974 rfl rfl, by decide +kernel, by decide +kernel, by decide +kernel⟩
set_option maxRecDepth 100000 in
theorem xmv_Mo_at : xmv g_Mo_at := ⟨xmc_Mo_at, lw_gm 972 rfl rfl, lw_gm 973 rfl rfl, _, _, rfl, rfl, rfl⟩
set_option maxRecDepth 100000 in
theorem xmc_Mo_turnOf : xmc g_Mo_turnOf := ⟨lw_gm 80 rfl rfl, lw_gm 982 rfl rfl, by decide +kernel, by decide +kernel, by decide +kernel⟩
set_option maxRecDepth 100000 in
theorem xmv_Mo_turnOf : xmv g_Mo_turnOf := ⟨xmc_Mo_turnOf, lw_gm 981 rfl rfl, lw_gm 39 rfl rfl, _, _, rfl, rfl, rfl⟩
set_option maxRecDepth 100000 in
theorem xmc_Mo_turn : xmc g_Mo_turn := ⟨lw_gm 80 rfl rfl, lw_gm 978 rfl rfl, by decide +kernel, by decide +kernel, by decide +kernel⟩
set_option maxRecDepth 100000 in
theorem xmv_Mo_turn : xmv g_Mo_turn := ⟨xmc_Mo_turn, lw_gm 976 rfl rfl, lw_gm 977 rfl rfl, _, _, rfl, rfl, rfl⟩
set_option maxRecDepth 100000 in
theorem xmc_Mo_places : xmc g_Mo_places := ⟨lw_gm 80 rfl rfl, lw_gm 990 rfl rfl, by decide +kernel, by decide +kernel, by decide +kernel⟩
set_option maxRecDepth 100000 in
theorem xmv_Mo_places : xmv g_Mo_places := ⟨xmc_Mo_places, lw_gm 988 rfl rfl, lw_gm 989 rfl rfl, _, _, rfl, rfl, rfl⟩
set_option maxRecDepth 100000 in
theorem xmc_Mo_walks : xmc g_Mo_walks := ⟨lw_gm 80 rfl rfl, lw_gm 1001 rfl rfl, by decide +kernel, by decide +kernel, by decide +kernel⟩
set_option maxRecDepth 100000 in
theorem xmv_Mo_walks : xmv g_Mo_walks := ⟨xmc_Mo_walks, lw_gm 1000 rfl rfl, lw_gm 41 rfl rfl, _, _, rfl, rfl, rfl⟩
set_option maxRecDepth 100000 in
theorem xmc_Mo_isSet : xmc g_Mo_isSet := ⟨lw_gm 80 rfl rfl, lw_gm 997 rfl rfl, by decide +kernel, by decide +kernel, by decide +kernel⟩
set_option maxRecDepth 100000 in
theorem xms_Mo_isSet : xms g_Mo_isSet := ⟨xmc_Mo_isSet, lw_gm 996 rfl rfl⟩
set_option maxRecDepth 100000 in
theorem xmc_Mo_generated : xmc g_Mo_generated := ⟨lw_gm 80 rfl rfl, lw_gm 994 rfl rfl, by decide +kernel, by decide +kernel, by decide +kernel⟩
set_option maxRecDepth 100000 in
theorem xmv_Mo_generated : xmv g_Mo_generated := ⟨xmc_Mo_generated, lw_gm 992 rfl rfl, lw_gm 993 rfl rfl, _, _, rfl, rfl, rfl⟩
set_option maxRecDepth 100000 in
theorem xmc_Mo_reach : xmc g_Mo_reach := ⟨lw_gm 80 rfl rfl, lw_gm 1005 rfl rfl, by decide +kernel, by decide +kernel, by decide +kernel⟩
set_option maxRecDepth 100000 in
theorem xmv_Mo_reach : xmv g_Mo_reach := ⟨xmc_Mo_reach, lw_gm 1003 rfl rfl, lw_gm 1004 rfl rfl, _, _, rfl, rfl, rfl⟩
set_option maxRecDepth 100000 in
theorem xmc_Mo_rests : xmc g_Mo_rests := ⟨lw_gm 80 rfl rfl, lw_gm 1013 rfl rfl, by decide +kernel, by decide +kernel, by decide +kernel⟩
set_option maxRecDepth 100000 in
theorem xmv_Mo_rests : xmv g_Mo_rests := ⟨xmc_Mo_rests, lw_gm 1012 rfl rfl, lw_gm 42 rfl rfl, _, _, rfl, rfl, rfl⟩
set_option maxRecDepth 100000 in
theorem xmc_Mo_factor : xmc g_Mo_factor := ⟨lw_gm 80 rfl rfl, lw_gm 1009 rfl rfl, by decide +kernel, by decide +kernel, by decide +kernel⟩
set_option maxRecDepth 100000 in
theorem xmv_Mo_factor : xmv g_Mo_factor := ⟨xmc_Mo_factor, lw_gm 1007 rfl rfl, lw_gm 1008 rfl rfl, _, _, rfl, rfl, rfl⟩
set_option maxRecDepth 100000 in
theorem xmc_Mo_type : xmc g_Mo_type := ⟨lw_gm 80 rfl rfl, lw_gm 1017 rfl rfl, by decide +kernel, by decide +kernel, by decide +kernel⟩
set_option maxRecDepth 100000 in
theorem xmv_Mo_type : xmv g_Mo_type := ⟨xmc_Mo_type, lw_gm 1015 rfl rfl, lw_gm 1016 rfl rfl, _, _, rfl, rfl, rfl⟩
set_option maxRecDepth 100000 in
theorem xmc_Mo_clear : xmc g_Mo_clear := ⟨lw_gm 80 rfl rfl, lw_gm 1021 rfl rfl, by decide +kernel, by decide +kernel, by decide +kernel⟩
set_option maxRecDepth 100000 in
theorem xmv_Mo_clear : xmv g_Mo_clear := ⟨xmc_Mo_clear, lw_gm 1019 rfl rfl, lw_gm 1020 rfl rfl, _, _, rfl, rfl, rfl⟩
set_option maxRecDepth 100000 in
theorem xmc_Mo_byteAt : xmc g_Mo_byteAt := ⟨lw_gm 80 rfl rfl, lw_gm 1041 rfl rfl, by decide +kernel, by decide +kernel, by decide +kernel⟩
set_option maxRecDepth 100000 in
theorem xmv_Mo_byteAt : xmv g_Mo_byteAt := ⟨xmc_Mo_byteAt, lw_gm 1040 rfl rfl, lw_gm 46 rfl rfl, _, _, rfl, rfl, rfl⟩
set_option maxRecDepth 100000 in
theorem xmc_Mo_isLetter : xmc g_Mo_isLetter := ⟨lw_gm 80 rfl rfl, lw_gm 1037 rfl rfl, by decide +kernel, by decide +kernel, by decide +kernel⟩
set_option maxRecDepth 100000 in
theorem xmv_Mo_isLetter : xmv g_Mo_isLetter := ⟨xmc_Mo_isLetter, lw_gm 1036 rfl rfl, lw_gm 45 rfl rfl, _, _, rfl, rfl, rfl⟩
set_option maxRecDepth 100000 in
theorem xmc_Mo_readsFirst : xmc g_Mo_readsFirst := ⟨lw_gm 80 rfl rfl, lw_gm 1033 rfl rfl, by decide +kernel, by decide +kernel, by decide +kernel⟩
set_option maxRecDepth 100000 in
theorem xmv_Mo_readsFirst : xmv g_Mo_readsFirst := ⟨xmc_Mo_readsFirst, lw_gm 1032 rfl rfl, lw_gm 44 rfl rfl, _, _, rfl, rfl, rfl⟩
set_option maxRecDepth 100000 in
theorem xmc_Mo_readsStanza : xmc g_Mo_readsStanza := ⟨lw_gm 80 rfl rfl, lw_gm 1045 rfl rfl, by decide +kernel, by decide +kernel, by decide +kernel⟩
set_option maxRecDepth 100000 in
theorem xmv_Mo_readsStanza : xmv g_Mo_readsStanza := ⟨xmc_Mo_readsStanza, lw_gm 1044 rfl rfl, lw_gm 47 rfl rfl, _, _, rfl, rfl, rfl⟩
set_option maxRecDepth 100000 in
theorem xmc_Mo_readsTail : xmc g_Mo_readsTail := ⟨lw_gm 80 rfl rfl, lw_gm 1049 rfl rfl, by decide +kernel, by decide +kernel, by decide +kernel⟩
set_option maxRecDepth 100000 in
theorem xmv_Mo_readsTail : xmv g_Mo_readsTail := ⟨xmc_Mo_readsTail, lw_gm 1048 rfl rfl, lw_gm 48 rfl rfl, _, _, rfl, rfl, rfl⟩
set_option maxRecDepth 100000 in
theorem xmc_Mo_reads : xmc g_Mo_reads := ⟨lw_gm 80 rfl rfl, lw_gm 1029 rfl rfl, by decide +kernel, by decide +kernel, by decide +kernel⟩
set_option maxRecDepth 100000 in
theorem xmv_Mo_reads : xmv g_Mo_reads := ⟨xmc_Mo_reads, lw_gm 1028 rfl rfl, lw_gm 43 rfl rfl, _, _, rfl, rfl, rfl⟩
set_option maxRecDepth 100000 in
theorem xmc_Mo_loadPoem : xmc g_Mo_loadPoem := ⟨lw_gm 80 rfl rfl, lw_gm 1025 rfl rfl, by decide +kernel, by decide +kernel, by decide +kernel⟩
set_option maxRecDepth 100000 in
theorem xmv_Mo_loadPoem : xmv g_Mo_loadPoem := ⟨xmc_Mo_loadPoem, lw_gm 1023 rfl rfl, lw_gm 1024 rfl rfl, _, _, rfl, rfl, rfl⟩
set_option maxRecDepth 100000 in
theorem xmc_Mo_readsTurn : xmc g_Mo_readsTurn := ⟨lw_gm 80 rfl rfl, lw_gm 1057 rfl rfl, by decide +kernel, by decide +kernel, by decide +kernel⟩
set_option maxRecDepth 100000 in
theorem xmv_Mo_readsTurn : xmv g_Mo_readsTurn := ⟨xmc_Mo_readsTurn, lw_gm 1056 rfl rfl, lw_gm 49 rfl rfl, _, _, rfl, rfl, rfl⟩
set_option maxRecDepth 100000 in
theorem xmc_Mo_loadTurn : xmc g_Mo_loadTurn := ⟨lw_gm 80 rfl rfl, lw_gm 1053 rfl rfl, by decide +kernel, by decide +kernel, by decide +kernel⟩
set_option maxRecDepth 100000 in
theorem xmv_Mo_loadTurn : xmv g_Mo_loadTurn := ⟨xmc_Mo_loadTurn, lw_gm 1051 rfl rfl, lw_gm 1052 rfl rfl, _, _, rfl, rfl, rfl⟩
set_option maxRecDepth 100000 in
theorem xmc_Mo_isStanza : xmc g_Mo_isStanza := ⟨lw_gm 80 rfl rfl, lw_gm 1077 rfl rfl, by decide +kernel, by decide +kernel, by decide +kernel⟩
set_option maxRecDepth 100000 in
theorem xmv_Mo_isStanza : xmv g_Mo_isStanza := ⟨xmc_Mo_isStanza, lw_gm 1076 rfl rfl, lw_gm 51 rfl rfl, _, _, rfl, rfl, rfl⟩
set_option maxRecDepth 100000 in
theorem xmc_Mo_placeOf : xmc g_Mo_placeOf := ⟨lw_gm 80 rfl rfl, lw_gm 1065 rfl rfl, by decide +kernel, by decide +kernel, by decide +kernel⟩
set_option maxRecDepth 100000 in
theorem xmv_Mo_placeOf : xmv g_Mo_placeOf := ⟨xmc_Mo_placeOf, lw_gm 1064 rfl rfl, lw_gm 50 rfl rfl, _, _, rfl, rfl, rfl⟩
set_option maxRecDepth 100000 in
theorem xmc_Mo_add : xmc g_Mo_add := ⟨lw_gm 80 rfl rfl, lw_gm 1061 rfl rfl, by decide +kernel, by decide +kernel, by decide +kernel⟩
set_option maxRecDepth 100000 in
theorem xmv_Mo_add : xmv g_Mo_add := ⟨xmc_Mo_add, lw_gm 1059 rfl rfl, lw_gm 1060 rfl rfl, _, _, rfl, rfl, rfl⟩
set_option maxRecDepth 100000 in
theorem xmc_Mo_drop : xmc g_Mo_drop := ⟨lw_gm 80 rfl rfl, lw_gm 1069 rfl rfl, by decide +kernel, by decide +kernel, by decide +kernel⟩
set_option maxRecDepth 100000 in
theorem xmv_Mo_drop : xmv g_Mo_drop := ⟨xmc_Mo_drop, lw_gm 1067 rfl rfl, lw_gm 1068 rfl rfl, _, _, rfl, rfl, rfl⟩
set_option maxRecDepth 100000 in
theorem xmc_Mo_put : xmc g_Mo_put := ⟨lw_gm 80 rfl rfl, lw_gm 1073 rfl rfl, by decide +kernel, by decide +kernel, by decide +kernel⟩
set_option maxRecDepth 100000 in
theorem xmv_Mo_put : xmv g_Mo_put := ⟨xmc_Mo_put, lw_gm 1071 rfl rfl, lw_gm 1072 rfl rfl, _, _, rfl, rfl, rfl⟩
set_option maxRecDepth 100000 in
theorem xmc_Mo_lock : xmc g_Mo_lock := ⟨lw_gm 80 rfl rfl, lw_gm 1081 rfl rfl, by decide +kernel, by decide +kernel, by decide +kernel⟩
set_option maxRecDepth 100000 in
theorem xmv_Mo_lock : xmv g_Mo_lock := ⟨xmc_Mo_lock, lw_gm 1079 rfl rfl, lw_gm 1080 rfl rfl, _, _, rfl, rfl, rfl⟩
set_option maxRecDepth 100000 in
theorem xmc_Mo_word : xmc g_Mo_word := ⟨lw_gm 80 rfl rfl, lw_gm 1085 rfl rfl, by decide +kernel, by decide +kernel, by decide +kernel⟩
set_option maxRecDepth 100000 in
theorem xmv_Mo_word : xmv g_Mo_word := ⟨xmc_Mo_word, lw_gm 1083 rfl rfl, lw_gm 1084 rfl rfl, _, _, rfl, rfl, rfl⟩
set_option maxRecDepth 100000 in
theorem xmc_Mo_isProper : xmc g_Mo_isProper := ⟨lw_gm 80 rfl rfl, lw_gm 1093 rfl rfl, by decide +kernel, by decide +kernel, by decide +kernel⟩
set_option maxRecDepth 100000 in
theorem xmv_Mo_isProper : xmv g_Mo_isProper := ⟨xmc_Mo_isProper, lw_gm 1092 rfl rfl, lw_gm 52 rfl rfl, _, _, rfl, rfl, rfl⟩
set_option maxRecDepth 100000 in
theorem xmc_Mo_proper : xmc g_Mo_proper := ⟨lw_gm 80 rfl rfl, lw_gm 1089 rfl rfl, by decide +kernel, by decide +kernel, by decide +kernel⟩
set_option maxRecDepth 100000 in
theorem xmv_Mo_proper : xmv g_Mo_proper := ⟨xmc_Mo_proper, lw_gm 1087 rfl rfl, lw_gm 1088 rfl rfl, _, _, rfl, rfl, rfl⟩
set_option maxRecDepth 100000 in
theorem xmc_Mo_turns : xmc g_Mo_turns := ⟨lw_gm 80 rfl rfl, lw_gm 1105 rfl rfl, by decide +kernel, by decide +kernel, by decide +kernel⟩
set_option maxRecDepth 100000 in
theorem xmv_Mo_turns : xmv g_Mo_turns := ⟨xmc_Mo_turns, lw_gm 1104 rfl rfl, lw_gm 54 rfl rfl, _, _, rfl, rfl, rfl⟩
set_option maxRecDepth 100000 in
theorem xmc_Mo_turningOf : xmc g_Mo_turningOf := ⟨lw_gm 80 rfl rfl, lw_gm 1101 rfl rfl, by decide +kernel, by decide +kernel, by decide +kernel⟩
set_option maxRecDepth 100000 in
theorem xmv_Mo_turningOf : xmv g_Mo_turningOf := ⟨xmc_Mo_turningOf, lw_gm 1100 rfl rfl, lw_gm 53 rfl rfl, _, _, rfl, rfl, rfl⟩
set_option maxRecDepth 100000 in
theorem xmc_Mo_turning : xmc g_Mo_turning := ⟨lw_gm 80 rfl rfl, lw_gm 1097 rfl rfl, by decide +kernel, by decide +kernel, by decide +kernel⟩
set_option maxRecDepth 100000 in
theorem xmv_Mo_turning : xmv g_Mo_turning := ⟨xmc_Mo_turning, lw_gm 1095 rfl rfl, lw_gm 1096 rfl rfl, _, _, rfl, rfl, rfl⟩
set_option maxRecDepth 100000 in
theorem xmc_Mo_followed : xmc g_Mo_followed := ⟨lw_gm 80 rfl rfl, lw_gm 1113 rfl rfl, by decide +kernel, by decide +kernel, by decide +kernel⟩
set_option maxRecDepth 100000 in
theorem xmv_Mo_followed : xmv g_Mo_followed := ⟨xmc_Mo_followed, lw_gm 1112 rfl rfl, lw_gm 55 rfl rfl, _, _, rfl, rfl, rfl⟩
set_option maxRecDepth 100000 in
theorem xmc_Mo_common : xmc g_Mo_common := ⟨lw_gm 80 rfl rfl, lw_gm 1109 rfl rfl, by decide +kernel, by decide +kernel, by decide +kernel⟩
set_option maxRecDepth 100000 in
theorem xmv_Mo_common : xmv g_Mo_common := ⟨xmc_Mo_common, lw_gm 1107 rfl rfl, lw_gm 1108 rfl rfl, _, _, rfl, rfl, rfl⟩
set_option maxRecDepth 100000 in
theorem xmc_Mo_isFollowed : xmc g_Mo_isFollowed := ⟨lw_gm 80 rfl rfl, lw_gm 1121 rfl rfl, by decide +kernel, by decide +kernel, by decide +kernel⟩
set_option maxRecDepth 100000 in
theorem xmv_Mo_isFollowed : xmv g_Mo_isFollowed := ⟨xmc_Mo_isFollowed, lw_gm 1120 rfl rfl, lw_gm 56 rfl rfl, _, _, rfl, rfl, rfl⟩
set_option maxRecDepth 100000 in
theorem xmc_Mo_follows : xmc g_Mo_follows := ⟨lw_gm 80 rfl rfl, lw_gm 1117 rfl rfl, by decide +kernel, by decide +kernel, by decide +kernel⟩
set_option maxRecDepth 100000 in
theorem xmv_Mo_follows : xmv g_Mo_follows := ⟨xmc_Mo_follows, lw_gm 1115 rfl rfl, lw_gm 1116 rfl rfl, _, _, rfl, rfl, rfl⟩
set_option maxRecDepth 100000 in
theorem xmc_Mo_costOf : xmc g_Mo_costOf := ⟨lw_gm 80 rfl rfl, lw_gm 1133 rfl rfl, by decide +kernel, by decide +kernel, by decide +kernel⟩
set_option maxRecDepth 100000 in
theorem xmv_Mo_costOf : xmv g_Mo_costOf := ⟨xmc_Mo_costOf, lw_gm 1132 rfl rfl, lw_gm 58 rfl rfl, _, _, rfl, rfl, rfl⟩
set_option maxRecDepth 100000 in
theorem xmc_Mo_wrong : xmc g_Mo_wrong := ⟨lw_gm 80 rfl rfl, lw_gm 1129 rfl rfl, by decide +kernel, by decide +kernel, by decide +kernel⟩
set_option maxRecDepth 100000 in
theorem xmv_Mo_wrong : xmv g_Mo_wrong := ⟨xmc_Mo_wrong, lw_gm 1128 rfl rfl, lw_gm 57 rfl rfl, _, _, rfl, rfl, rfl⟩
set_option maxRecDepth 100000 in
theorem xmc_Mo_cost : xmc g_Mo_cost := ⟨lw_gm 80 rfl rfl, lw_gm 1125 rfl rfl, by decide +kernel, by decide +kernel, by decide +kernel⟩
set_option maxRecDepth 100000 in
theorem xmv_Mo_cost : xmv g_Mo_cost := ⟨xmc_Mo_cost, lw_gm 1123 rfl rfl, lw_gm 1124 rfl rfl, _, _, rfl, rfl, rfl⟩
set_option maxRecDepth 100000 in
theorem xmc_Mo_mend : xmc g_Mo_mend := ⟨lw_gm 80 rfl rfl, lw_gm 1137 rfl rfl, by decide +kernel, by decide +kernel, by decide +kernel⟩
set_option maxRecDepth 100000 in
theorem xmv_Mo_mend : xmv g_Mo_mend := ⟨xmc_Mo_mend, lw_gm 1135 rfl rfl, lw_gm 1136 rfl rfl, _, _, rfl, rfl, rfl⟩
set_option maxRecDepth 100000 in
theorem xmc_Mo_best : xmc g_Mo_best := ⟨lw_gm 80 rfl rfl, lw_gm 1141 rfl rfl, by decide +kernel, by decide +kernel, by decide +kernel⟩
set_option maxRecDepth 100000 in
theorem xmv_Mo_best : xmv g_Mo_best := ⟨xmc_Mo_best, lw_gm 1139 rfl rfl, lw_gm 1140 rfl rfl, _, _, rfl, rfl, rfl⟩
set_option maxRecDepth 100000 in
theorem xmc_Mo_tailWords : xmc g_Mo_tailWords := ⟨lw_gm 80 rfl rfl, lw_gm 1153 rfl rfl, by decide +kernel, by decide +kernel, by decide +kernel⟩
set_option maxRecDepth 100000 in
theorem xmv_Mo_tailWords : xmv g_Mo_tailWords := ⟨xmc_Mo_tailWords, lw_gm 1152 rfl rfl, lw_gm 60 rfl rfl, _, _, rfl, rfl, rfl⟩
set_option maxRecDepth 100000 in
theorem xmc_Mo_missing : xmc g_Mo_missing := ⟨lw_gm 80 rfl rfl, lw_gm 1149 rfl rfl, by decide +kernel, by decide +kernel, by decide +kernel⟩
set_option maxRecDepth 100000 in
theorem xmv_Mo_missing : xmv g_Mo_missing := ⟨xmc_Mo_missing, lw_gm 1148 rfl rfl, lw_gm 59 rfl rfl, _, _, rfl, rfl, rfl⟩
set_option maxRecDepth 100000 in
theorem xmc_Mo_tail : xmc g_Mo_tail := ⟨lw_gm 80 rfl rfl, lw_gm 1145 rfl rfl, by decide +kernel, by decide +kernel, by decide +kernel⟩
set_option maxRecDepth 100000 in
theorem xmv_Mo_tail : xmv g_Mo_tail := ⟨xmc_Mo_tail, lw_gm 1143 rfl rfl, lw_gm 1144 rfl rfl, _, _, rfl, rfl, rfl⟩
set_option maxRecDepth 100000 in
theorem xmc_Mo_tailWord : xmc g_Mo_tailWord := ⟨lw_gm 80 rfl rfl, lw_gm 1157 rfl rfl, by decide +kernel, by decide +kernel, by decide +kernel⟩
set_option maxRecDepth 100000 in
theorem xmv_Mo_tailWord : xmv g_Mo_tailWord := ⟨xmc_Mo_tailWord, lw_gm 1155 rfl rfl, lw_gm 1156 rfl rfl, _, _, rfl, rfl, rfl⟩
set_option maxRecDepth 100000 in
theorem xmc_Mo_takesVerse : xmc g_Mo_takesVerse := ⟨lw_gm 80 rfl rfl, lw_gm 1165 rfl rfl, by decide +kernel, by decide +kernel, by decide +kernel⟩
set_option maxRecDepth 100000 in
theorem xmv_Mo_takesVerse : xmv g_Mo_takesVerse := ⟨xmc_Mo_takesVerse, lw_gm 1164 rfl rfl, lw_gm 61 rfl rfl, _, _, rfl, rfl, rfl⟩
set_option maxRecDepth 100000 in
theorem xmc_Mo_soundAt : xmc g_Mo_soundAt := ⟨lw_gm 80 rfl rfl, lw_gm 1173 rfl rfl, by decide +kernel, by decide +kernel, by decide +kernel⟩
set_option maxRecDepth 100000 in
theorem xmv_Mo_soundAt : xmv g_Mo_soundAt := ⟨xmc_Mo_soundAt, lw_gm 1172 rfl rfl, lw_gm 63 rfl rfl, _, _, rfl, rfl, rfl⟩
set_option maxRecDepth 100000 in
theorem xmc_Mo_schemeOfVerse : xmc g_Mo_schemeOfVerse := ⟨lw_gm 80 rfl rfl, lw_gm 1169 rfl rfl, by decide +kernel, by decide +kernel, by decide +kernel⟩
set_option maxRecDepth 100000 in
theorem xmv_Mo_schemeOfVerse : xmv g_Mo_schemeOfVerse := ⟨xmc_Mo_schemeOfVerse, lw_gm 1168 rfl rfl, lw_gm 62 rfl rfl, _, _, rfl, rfl, rfl⟩
set_option maxRecDepth 100000 in
theorem xmc_Mo_scheme : xmc g_Mo_scheme := ⟨lw_gm 80 rfl rfl, lw_gm 1161 rfl rfl, by decide +kernel, by decide +kernel, by decide +kernel⟩
set_option maxRecDepth 100000 in
theorem xmv_Mo_scheme : xmv g_Mo_scheme := ⟨xmc_Mo_scheme, lw_gm 1159 rfl rfl, lw_gm 1160 rfl rfl, _, _, rfl, rfl, rfl⟩
set_option maxRecDepth 100000 in
theorem xmc_Mo_schemes : xmc g_Mo_schemes := ⟨lw_gm 80 rfl rfl, lw_gm 1177 rfl rfl, by decide +kernel, by decide +kernel, by decide +kernel⟩
set_option maxRecDepth 100000 in
theorem xmv_Mo_schemes : xmv g_Mo_schemes := ⟨xmc_Mo_schemes, lw_gm 1175 rfl rfl, lw_gm 1176 rfl rfl, _, _, rfl, rfl, rfl⟩
set_option maxRecDepth 100000 in
theorem xmc_Mo_coupled : xmc g_Mo_coupled := ⟨lw_gm 80 rfl rfl, lw_gm 1181 rfl rfl, by decide +kernel, by decide +kernel, by decide +kernel⟩
set_option maxRecDepth 100000 in
theorem xmv_Mo_coupled : xmv g_Mo_coupled := ⟨xmc_Mo_coupled, lw_gm 1179 rfl rfl, lw_gm 1180 rfl rfl, _, _, rfl, rfl, rfl⟩
set_option maxRecDepth 100000 in
theorem xmc_Mo_locked : xmc g_Mo_locked := ⟨lw_gm 80 rfl rfl, lw_gm 1193 rfl rfl, by decide +kernel, by decide +kernel, by decide +kernel⟩
set_option maxRecDepth 100000 in
theorem xmv_Mo_locked : xmv g_Mo_locked := ⟨xmc_Mo_locked, lw_gm 1192 rfl rfl, lw_gm 65 rfl rfl, _, _, rfl, rfl, rfl⟩
set_option maxRecDepth 100000 in
theorem xmc_Mo_properMany : xmc g_Mo_properMany := ⟨lw_gm 80 rfl rfl, lw_gm 1189 rfl rfl, by decide +kernel, by decide +kernel, by decide +kernel⟩
set_option maxRecDepth 100000 in
theorem xmv_Mo_properMany : xmv g_Mo_properMany := ⟨xmc_Mo_properMany, lw_gm 1188 rfl rfl, lw_gm 64 rfl rfl, _, _, rfl, rfl, rfl⟩
set_option maxRecDepth 100000 in
theorem xmc_Mo_told : xmc g_Mo_told := ⟨lw_gm 80 rfl rfl, lw_gm 1185 rfl rfl, by decide +kernel, by decide +kernel, by decide +kernel⟩
set_option maxRecDepth 100000 in
theorem xmv_Mo_told : xmv g_Mo_told := ⟨xmc_Mo_told, lw_gm 1183 rfl rfl, lw_gm 1184 rfl rfl, _, _, rfl, rfl, rfl⟩
set_option maxRecDepth 100000 in
theorem xmc_Mo_undo : xmc g_Mo_undo := ⟨lw_gm 80 rfl rfl, lw_gm 1197 rfl rfl, by decide +kernel, by decide +kernel, by decide +kernel⟩
set_option maxRecDepth 100000 in
theorem xmv_Mo_undo : xmv g_Mo_undo := ⟨xmc_Mo_undo, lw_gm 1195 rfl rfl, lw_gm 1196 rfl rfl, _, _, rfl, rfl, rfl⟩
set_option maxRecDepth 100000 in
theorem xmc_Mo_mixedStanza : xmc g_Mo_mixedStanza := ⟨lw_gm 80 rfl rfl, lw_gm 1208 rfl rfl, by decide +kernel, by decide +kernel, by decide +kernel⟩
set_option maxRecDepth 100000 in
theorem xmv_Mo_mixedStanza : xmv g_Mo_mixedStanza := ⟨xmc_Mo_mixedStanza, lw_gm 1207 rfl rfl, lw_gm 66 rfl rfl, _, _, rfl, rfl, rfl⟩
set_option maxRecDepth 100000 in
theorem xmc_Mo_mixedTail : xmc g_Mo_mixedTail := ⟨lw_gm 80 rfl rfl, lw_gm 1213 rfl rfl, by decide +kernel, by decide +kernel, by decide +kernel⟩
set_option maxRecDepth 100000 in
theorem xmv_Mo_mixedTail : xmv g_Mo_mixedTail := ⟨xmc_Mo_mixedTail, lw_gm 1212 rfl rfl, lw_gm 67 rfl rfl, _, _, rfl, rfl, rfl⟩
set_option maxRecDepth 100000 in
theorem xmc_Mo_digest : xmc g_Mo_digest := ⟨lw_gm 80 rfl rfl, lw_gm 1201 rfl rfl, by decide +kernel, by decide +kernel, by decide +kernel⟩
set_option maxRecDepth 100000 in
theorem xmv_Mo_digest : xmv g_Mo_digest := ⟨xmc_Mo_digest, lw_gm 1199 rfl rfl, lw_gm 1200 rfl rfl, _, _, rfl, rfl, rfl⟩
set_option maxRecDepth 100000 in
theorem xmc_JI_bitCount : xmc g_JI_bitCount := ⟨lw_gm 84 rfl rfl, lw_gm 429 rfl rfl, by decide +kernel, by decide +kernel, by decide +kernel⟩
set_option maxRecDepth 100000 in
theorem xms_JI_bitCount : xms g_JI_bitCount := ⟨xmc_JI_bitCount, lw_gm 428 rfl rfl⟩
set_option maxRecDepth 100000 in
theorem xmc_JA_fill : xmc g_JA_fill := ⟨lw_gm 73 rfl rfl, lw_gm 148 rfl rfl, by decide +kernel, by decide +kernel, by decide +kernel⟩
set_option maxRecDepth 100000 in
theorem xms_JA_fill : xms g_JA_fill := ⟨xmc_JA_fill, lw_gm 147 rfl rfl⟩
set_option maxRecDepth 100000 in
theorem fl_Fit_9 : xfl "TurningVerse$Fit" 9 0 0 := ⟨_, rfl, by decide, lw_gm 271 rfl rfl⟩
set_option maxRecDepth 100000 in
theorem nf_0_0 (g : xSig) : xfp g 0 0 := fun r hr hf => by cases hr; cases hf
set_option maxRecDepth 100000 in
theorem fl_Fit_15 : xfl "TurningVerse$Fit" 15 0 1 := ⟨_, rfl, by decide, lw_gm 272 rfl rfl⟩
set_option maxRecDepth 100000 in
theorem fl_Fit_19 : xfl "TurningVerse$Fit" 19 0 2 := ⟨_, rfl, by decide, lw_gm 273 rfl rfl⟩
set_option maxRecDepth 100000 in
theorem fl_Fit_22 : xfl "TurningVerse$Fit" 22 0 3 := ⟨_, rfl, by decide, lw_gm 274 rfl rfl⟩
set_option maxRecDepth 100000 in
theorem ml_Row_7 : Cond.methodLink "TurningVerse$Row" 7 (sgN g_Row_with) ∈ lw_g := lw_gm 145 rfl rfl
set_option maxRecDepth 100000 in
theorem ml_Row_13 : Cond.methodLink "TurningVerse$Row" 13 (sgN g_Row_entry) ∈ lw_g := lw_gm 454 rfl rfl
set_option maxRecDepth 100000 in
theorem ml_Fit_59 : Cond.methodLink "TurningVerse$Fit" 59 (sgN g_JA_fill) ∈ lw_g := lw_gm 655 rfl rfl
set_option maxRecDepth 100000 in
theorem ml_Fit_65 : Cond.methodLink "TurningVerse$Fit" 65 (sgN g_Row_ascending) ∈ lw_g := lw_gm 656 rfl rfl
set_option maxRecDepth 100000 in
theorem fl_Fit_33 : xfl "TurningVerse$Fit" 33 2 0 := ⟨_, rfl, by decide, lw_gm 107 rfl rfl⟩
set_option maxRecDepth 100000 in
theorem ml_Fit_68 : Cond.methodLink "TurningVerse$Fit" 68 (sgN g_Row_entry) ∈ lw_g := lw_gm 657 rfl rfl
set_option maxRecDepth 100000 in
theorem fl_Fit_71 : xfl "TurningVerse$Fit" 71 2 2 := ⟨_, rfl, by decide, lw_gm 112 rfl rfl⟩
set_option maxRecDepth 100000 in
theorem fl_Fit_74 : xfl "TurningVerse$Fit" 74 2 3 := ⟨_, rfl, by decide, lw_gm 115 rfl rfl⟩
set_option maxRecDepth 100000 in
theorem ml_Fit_77 : Cond.methodLink "TurningVerse$Fit" 77 (sgN g_Row_turned) ∈ lw_g := lw_gm 658 rfl rfl
set_option maxRecDepth 100000 in
theorem ml_Fit_80 : Cond.methodLink "TurningVerse$Fit" 80 (sgN g_JI_bitCount) ∈ lw_g := lw_gm 663 rfl rfl
set_option maxRecDepth 100000 in
theorem ml_Fit_85 : Cond.methodLink "TurningVerse$Fit" 85 (sgN g_Fit_keptWith) ∈ lw_g := lw_gm 664 rfl rfl
set_option maxRecDepth 100000 in
theorem ml_Fit_25 : Cond.methodLink "TurningVerse$Fit" 25 (sgN g_Fit_compare) ∈ lw_g := lw_gm 651 rfl rfl
set_option maxRecDepth 100000 in
theorem ml_Fit_29 : Cond.methodLink "TurningVerse$Fit" 29 (sgN g_Fit_mostKept) ∈ lw_g := lw_gm 659 rfl rfl
set_option maxRecDepth 100000 in
theorem ml_Fit_38 : Cond.methodLink "TurningVerse$Fit" 38 (sgN g_Fit_firstWord) ∈ lw_g := lw_gm 677 rfl rfl
set_option maxRecDepth 100000 in
theorem ml_Fit_42 : Cond.methodLink "TurningVerse$Fit" 42 (sgN g_Row_with) ∈ lw_g := lw_gm 681 rfl rfl
set_option maxRecDepth 100000 in
theorem ml_Perm_9 : Cond.methodLink "TurningVerse$Permutation" 9 (sgN g_Row_entry) ∈ lw_g := lw_gm 426 rfl rfl
set_option maxRecDepth 100000 in
theorem ml_Perm_21 : Cond.methodLink "TurningVerse$Permutation" 21 (sgN g_Row_with) ∈ lw_g := lw_gm 446 rfl rfl
set_option maxRecDepth 100000 in
theorem ml_Fit_93 : Cond.methodLink "TurningVerse$Fit" 93 (sgN g_Fit_mostOfLine) ∈ lw_g := lw_gm 700 rfl rfl
set_option maxRecDepth 100000 in
theorem ml_Fit_96 : Cond.methodLink "TurningVerse$Fit" 96 (sgN g_Fit_mostOfWord) ∈ lw_g := lw_gm 704 rfl rfl
set_option maxRecDepth 100000 in
theorem ml_Fit_48 : Cond.methodLink "TurningVerse$Fit" 48 (sgN g_Perm_count) ∈ lw_g := lw_gm 694 rfl rfl
set_option maxRecDepth 100000 in
theorem ml_Fit_53 : Cond.methodLink "TurningVerse$Fit" 53 (sgN g_Perm_numbered) ∈ lw_g := lw_gm 695 rfl rfl
set_option maxRecDepth 100000 in
theorem ml_Fit_56 : Cond.methodLink "TurningVerse$Fit" 56 (sgN g_Fit_atMostKept) ∈ lw_g := lw_gm 696 rfl rfl
set_option maxRecDepth 100000 in
theorem fl_Poem_9 : xfl "TurningVerse$Poem" 9 2 0 := ⟨_, rfl, by decide, lw_gm 106 rfl rfl⟩
set_option maxRecDepth 100000 in
theorem nf_2_0 (g : xSig) : xfp g 2 0 := fun r hr hf => by cases hr; cases hf
set_option maxRecDepth 100000 in
theorem fl_Poem_15 : xfl "TurningVerse$Poem" 15 2 1 := ⟨_, rfl, by decide, lw_gm 109 rfl rfl⟩
set_option maxRecDepth 100000 in
theorem nf_2_1 (g : xSig) : xfp g 2 1 := fun r hr hf => by cases hr; cases hf
set_option maxRecDepth 100000 in
theorem fl_Poem_18 : xfl "TurningVerse$Poem" 18 2 2 := ⟨_, rfl, by decide, lw_gm 111 rfl rfl⟩
set_option maxRecDepth 100000 in
theorem fl_Poem_22 : xfl "TurningVerse$Poem" 22 2 3 := ⟨_, rfl, by decide, lw_gm 114 rfl rfl⟩
set_option maxRecDepth 100000 in
theorem fl_Poem_25 : xfl "TurningVerse$Poem" 25 2 4 := ⟨_, rfl, by decide, lw_gm 117 rfl rfl⟩
set_option maxRecDepth 100000 in
theorem fl_Poem_28 : xfl "TurningVerse$Poem" 28 2 5 := ⟨_, rfl, by decide, lw_gm 119 rfl rfl⟩
set_option maxRecDepth 100000 in
theorem fl_Sta_26 : xfl "TurningVerse$State" 26 5 0 := ⟨_, rfl, by decide, lw_gm 153 rfl rfl⟩
set_option maxRecDepth 100000 in
theorem nf_5_0 (g : xSig) : xfp g 5 0 := fun r hr hf => by cases hr; cases hf
set_option maxRecDepth 100000 in
theorem fl_Sta_30 : xfl "TurningVerse$State" 30 5 1 := ⟨_, rfl, by decide, lw_gm 156 rfl rfl⟩
set_option maxRecDepth 100000 in
theorem nf_5_1 (g : xSig) : xfp g 5 1 := fun r hr hf => by cases hr; cases hf
set_option maxRecDepth 100000 in
theorem ml_Sta_33 : Cond.methodLink "TurningVerse$State" 33 (sgN g_Row_with) ∈ lw_g := lw_gm 139 rfl rfl
set_option maxRecDepth 100000 in
theorem fl_Sta_9 : xfl "TurningVerse$State" 9 5 2 := ⟨_, rfl, by decide, lw_gm 158 rfl rfl⟩
set_option maxRecDepth 100000 in
theorem ml_Sta_39 : Cond.methodLink "TurningVerse$State" 39 (sgN g_Row_ascending) ∈ lw_g := lw_gm 142 rfl rfl
set_option maxRecDepth 100000 in
theorem ml_Sta_43 : Cond.methodLink "TurningVerse$State" 43 (sgN g_JA_fill) ∈ lw_g := lw_gm 146 rfl rfl
set_option maxRecDepth 100000 in
theorem fl_Sta_18 : xfl "TurningVerse$State" 18 5 3 := ⟨_, rfl, by decide, lw_gm 161 rfl rfl⟩
set_option maxRecDepth 100000 in
theorem ml_Sta_49 : Cond.methodLink "TurningVerse$State" 49 (sgN g_Poem_empty) ∈ lw_g := lw_gm 149 rfl rfl
set_option maxRecDepth 100000 in
theorem ml_Sta_17 : Cond.methodLink "TurningVerse$State" 17 (sgN g_Poem_init) ∈ lw_g := lw_gm 102 rfl rfl
set_option maxRecDepth 100000 in
theorem ml_Sta_22 : Cond.methodLink "TurningVerse$State" 22 (sgN g_Sta_startWith) ∈ lw_g := lw_gm 135 rfl rfl
set_option maxRecDepth 100000 in
theorem fl_Hist_9 : xfl "TurningVerse$History" 9 1 0 := ⟨_, rfl, by decide, lw_gm 181 rfl rfl⟩
set_option maxRecDepth 100000 in
theorem nf_1_0 (g : xSig) : xfp g 1 0 := fun r hr hf => by cases hr; cases hf
set_option maxRecDepth 100000 in
theorem fl_Hist_15 : xfl "TurningVerse$History" 15 1 1 := ⟨_, rfl, by decide, lw_gm 183 rfl rfl⟩
set_option maxRecDepth 100000 in
theorem nf_1_1 (g : xSig) : xfp g 1 1 := fun r hr hf => by cases hr; cases hf
set_option maxRecDepth 100000 in
theorem fl_Hist_20 : xfl "TurningVerse$History" 20 1 2 := ⟨_, rfl, by decide, lw_gm 184 rfl rfl⟩
set_option maxRecDepth 100000 in
theorem ml_Hist_24 : Cond.methodLink "TurningVerse$History" 24 (sgN g_Sta_init) ∈ lw_g := lw_gm 180 rfl rfl
set_option maxRecDepth 100000 in
theorem ml_Sta_58 : Cond.methodLink "TurningVerse$State" 58 (sgN g_Poem_copyFrom) ∈ lw_g := lw_gm 324 rfl rfl
set_option maxRecDepth 100000 in
theorem ml_Hist_25 : Cond.methodLink "TurningVerse$History" 25 (sgN g_Sta_copyFrom) ∈ lw_g := lw_gm 317 rfl rfl
set_option maxRecDepth 100000 in
theorem ml_Perm_15 : Cond.methodLink "TurningVerse$Permutation" 15 (sgN g_JI_bitCount) ∈ lw_g := lw_gm 427 rfl rfl
set_option maxRecDepth 100000 in
theorem ml_Perm_31 : Cond.methodLink "TurningVerse$Permutation" 31 (sgN g_Perm_lineOfWeave) ∈ lw_g := lw_gm 443 rfl rfl
set_option maxRecDepth 100000 in
theorem ml_Perm_25 : Cond.methodLink "TurningVerse$Permutation" 25 (sgN g_Perm_lineOfKind) ∈ lw_g := lw_gm 440 rfl rfl
set_option maxRecDepth 100000 in
theorem ml_Perm_34 : Cond.methodLink "TurningVerse$Permutation" 34 (sgN g_Row_ascending) ∈ lw_g := lw_gm 470 rfl rfl
set_option maxRecDepth 100000 in
theorem ml_Perm_37 : Cond.methodLink "TurningVerse$Permutation" 37 (sgN g_Row_turned) ∈ lw_g := lw_gm 471 rfl rfl
set_option maxRecDepth 100000 in
theorem ml_Perm_40 : Cond.methodLink "TurningVerse$Permutation" 40 (sgN g_Perm_count) ∈ lw_g := lw_gm 492 rfl rfl
set_option maxRecDepth 100000 in
theorem ml_Perm_43 : Cond.methodLink "TurningVerse$Permutation" 43 (sgN g_Perm_numbered) ∈ lw_g := lw_gm 493 rfl rfl
set_option maxRecDepth 100000 in
theorem ml_Perm_46 : Cond.methodLink "TurningVerse$Permutation" 46 (sgN g_Perm_repeated) ∈ lw_g := lw_gm 494 rfl rfl
set_option maxRecDepth 100000 in
theorem ml_Perm_67 : Cond.methodLink "TurningVerse$Permutation" 67 (sgN g_Perm_cycleOf) ∈ lw_g := lw_gm 511 rfl rfl
set_option maxRecDepth 100000 in
theorem ml_Perm_49 : Cond.methodLink "TurningVerse$Permutation" 49 (sgN g_Perm_number) ∈ lw_g := lw_gm 506 rfl rfl
set_option maxRecDepth 100000 in
theorem ml_Perm_52 : Cond.methodLink "TurningVerse$Permutation" 52 (sgN g_Perm_order) ∈ lw_g := lw_gm 507 rfl rfl
set_option maxRecDepth 100000 in
theorem ml_Perm_55 : Cond.methodLink "TurningVerse$Permutation" 55 (sgN g_Perm_cycles) ∈ lw_g := lw_gm 508 rfl rfl
set_option maxRecDepth 100000 in
theorem ml_Perm_58 : Cond.methodLink "TurningVerse$Permutation" 58 (sgN g_Perm_fixedLines) ∈ lw_g := lw_gm 514 rfl rfl
set_option maxRecDepth 100000 in
theorem ml_Perm_61 : Cond.methodLink "TurningVerse$Permutation" 61 (sgN g_Perm_longestCycle) ∈ lw_g := lw_gm 517 rfl rfl
set_option maxRecDepth 100000 in
theorem ml_Perm_64 : Cond.methodLink "TurningVerse$Permutation" 64 (sgN g_Perm_cycleType) ∈ lw_g := lw_gm 523 rfl rfl
set_option maxRecDepth 100000 in
theorem ml_Row_17 : Cond.methodLink "TurningVerse$Row" 17 (sgN g_Row_entries) ∈ lw_g := lw_gm 613 rfl rfl
set_option maxRecDepth 100000 in
theorem ml_Poem_37 : Cond.methodLink "TurningVerse$Poem" 37 (sgN g_Row_hasEach) ∈ lw_g := lw_gm 624 rfl rfl
set_option maxRecDepth 100000 in
theorem ml_Poem_43 : Cond.methodLink "TurningVerse$Poem" 43 (sgN g_JI_bitCount) ∈ lw_g := lw_gm 776 rfl rfl
set_option maxRecDepth 100000 in
theorem ml_Poem_49 : Cond.methodLink "TurningVerse$Poem" 49 (sgN g_Perm_inverse) ∈ lw_g := lw_gm 625 rfl rfl
set_option maxRecDepth 100000 in
theorem ml_Poem_55 : Cond.methodLink "TurningVerse$Poem" 55 (sgN g_Row_turned) ∈ lw_g := lw_gm 626 rfl rfl
set_option maxRecDepth 100000 in
theorem ml_Poem_59 : Cond.methodLink "TurningVerse$Poem" 59 (sgN g_Poem_properStanzas) ∈ lw_g := lw_gm 635 rfl rfl
set_option maxRecDepth 100000 in
theorem ml_Poem_62 : Cond.methodLink "TurningVerse$Poem" 62 (sgN g_Row_entries) ∈ lw_g := lw_gm 717 rfl rfl
set_option maxRecDepth 100000 in
theorem ml_PR_11 : Cond.methodLink "TurningVerse$PoemReader" 11 (sgN g_Poem_init) ∈ lw_g := lw_gm 215 rfl rfl
set_option maxRecDepth 100000 in
theorem fl_PR_12 : xfl "TurningVerse$PoemReader" 12 3 1 := ⟨_, rfl, by decide, lw_gm 218 rfl rfl⟩
set_option maxRecDepth 100000 in
theorem fl_PR_18 : xfl "TurningVerse$PoemReader" 18 3 0 := ⟨_, rfl, by decide, lw_gm 216 rfl rfl⟩
set_option maxRecDepth 100000 in
theorem nf_3_0 (g : xSig) : xfp g 3 0 := fun r hr hf => by cases hr; cases hf
set_option maxRecDepth 100000 in
theorem fl_PR_22 : xfl "TurningVerse$PoemReader" 22 3 2 := ⟨_, rfl, by decide, lw_gm 220 rfl rfl⟩
set_option maxRecDepth 100000 in
theorem nf_3_2 (g : xSig) : xfp g 3 2 := fun r hr hf => by cases hr; cases hf
set_option maxRecDepth 100000 in
theorem fl_Txt_9 : xfl "TurningVerse$Text" 9 6 0 := ⟨_, rfl, by decide, lw_gm 198 rfl rfl⟩
set_option maxRecDepth 100000 in
theorem fl_Txt_15 : xfl "TurningVerse$Text" 15 6 1 := ⟨_, rfl, by decide, lw_gm 202 rfl rfl⟩
set_option maxRecDepth 100000 in
theorem ml_PR_32 : Cond.methodLink "TurningVerse$PoemReader" 32 (sgN g_Txt_byteAt) ∈ lw_g := lw_gm 374 rfl rfl
set_option maxRecDepth 100000 in
theorem ml_PR_47 : Cond.methodLink "TurningVerse$PoemReader" 47 (sgN g_PR_wordBelow) ∈ lw_g := lw_gm 370 rfl rfl
set_option maxRecDepth 100000 in
theorem ml_PR_51 : Cond.methodLink "TurningVerse$PoemReader" 51 (sgN g_Row_with) ∈ lw_g := lw_gm 378 rfl rfl
set_option maxRecDepth 100000 in
theorem ml_PR_57 : Cond.methodLink "TurningVerse$PoemReader" 57 (sgN g_PR_isStanzaOver) ∈ lw_g := lw_gm 379 rfl rfl
set_option maxRecDepth 100000 in
theorem ml_PR_61 : Cond.methodLink "TurningVerse$PoemReader" 61 (sgN g_Row_entry) ∈ lw_g := lw_gm 383 rfl rfl
set_option maxRecDepth 100000 in
theorem ml_PR_65 : Cond.methodLink "TurningVerse$PoemReader" 65 (sgN g_Poem_append) ∈ lw_g := lw_gm 384 rfl rfl
set_option maxRecDepth 100000 in
theorem ml_PR_72 : Cond.methodLink "TurningVerse$PoemReader" 72 (sgN g_Poem_appendTailLine) ∈ lw_g := lw_gm 400 rfl rfl
set_option maxRecDepth 100000 in
theorem ml_PR_69 : Cond.methodLink "TurningVerse$PoemReader" 69 (sgN g_PR_readTailLine) ∈ lw_g := lw_gm 396 rfl rfl
set_option maxRecDepth 100000 in
theorem ml_PR_25 : Cond.methodLink "TurningVerse$PoemReader" 25 (sgN g_Poem_empty) ∈ lw_g := lw_gm 365 rfl rfl
set_option maxRecDepth 100000 in
theorem ml_PR_28 : Cond.methodLink "TurningVerse$PoemReader" 28 (sgN g_PR_readFirstStanza) ∈ lw_g := lw_gm 366 rfl rfl
set_option maxRecDepth 100000 in
theorem ml_PR_38 : Cond.methodLink "TurningVerse$PoemReader" 38 (sgN g_PR_readStanza) ∈ lw_g := lw_gm 388 rfl rfl
set_option maxRecDepth 100000 in
theorem ml_PR_41 : Cond.methodLink "TurningVerse$PoemReader" 41 (sgN g_PR_readTail) ∈ lw_g := lw_gm 392 rfl rfl
set_option maxRecDepth 100000 in
theorem fl_PR_44 : xfl "TurningVerse$PoemReader" 44 6 0 := ⟨_, rfl, by decide, lw_gm 200 rfl rfl⟩
set_option maxRecDepth 100000 in
theorem ml_Rhy_13 : Cond.methodLink "TurningVerse$Rhymes" 13 (sgN g_Row_entry) ∈ lw_g := lw_gm 741 rfl rfl
set_option maxRecDepth 100000 in
theorem ml_Rhy_7 : Cond.methodLink "TurningVerse$Rhymes" 7 (sgN g_Rhy_firstRhyme) ∈ lw_g := lw_gm 738 rfl rfl
set_option maxRecDepth 100000 in
theorem ml_Rhy_18 : Cond.methodLink "TurningVerse$Rhymes" 18 (sgN g_Perm_order) ∈ lw_g := lw_gm 749 rfl rfl
set_option maxRecDepth 100000 in
theorem ml_Rhy_23 : Cond.methodLink "TurningVerse$Rhymes" 23 (sgN g_Rhy_pattern) ∈ lw_g := lw_gm 750 rfl rfl
set_option maxRecDepth 100000 in
theorem ml_Rhy_26 : Cond.methodLink "TurningVerse$Rhymes" 26 (sgN g_Rhy_isAmong) ∈ lw_g := lw_gm 751 rfl rfl
set_option maxRecDepth 100000 in
theorem ml_Rhy_30 : Cond.methodLink "TurningVerse$Rhymes" 30 (sgN g_Row_turned) ∈ lw_g := lw_gm 754 rfl rfl
set_option maxRecDepth 100000 in
theorem ml_Rhy_34 : Cond.methodLink "TurningVerse$Rhymes" 34 (sgN g_Perm_count) ∈ lw_g := lw_gm 762 rfl rfl
set_option maxRecDepth 100000 in
theorem ml_Rhy_38 : Cond.methodLink "TurningVerse$Rhymes" 38 (sgN g_Perm_numbered) ∈ lw_g := lw_gm 763 rfl rfl
set_option maxRecDepth 100000 in
theorem ml_Rhy_41 : Cond.methodLink "TurningVerse$Rhymes" 41 (sgN g_Rhy_neighbors) ∈ lw_g := lw_gm 764 rfl rfl
set_option maxRecDepth 100000 in
theorem fl_Sea_9 : xfl "TurningVerse$Search" 9 4 0 := ⟨_, rfl, by decide, lw_gm 245 rfl rfl⟩
set_option maxRecDepth 100000 in
theorem nf_4_0 (g : xSig) : xfp g 4 0 := fun r hr hf => by cases hr; cases hf
set_option maxRecDepth 100000 in
theorem fl_Sea_15 : xfl "TurningVerse$Search" 15 4 1 := ⟨_, rfl, by decide, lw_gm 247 rfl rfl⟩
set_option maxRecDepth 100000 in
theorem nf_4_1 (g : xSig) : xfp g 4 1 := fun r hr hf => by cases hr; cases hf
set_option maxRecDepth 100000 in
theorem fl_Sea_18 : xfl "TurningVerse$Search" 18 4 2 := ⟨_, rfl, by decide, lw_gm 248 rfl rfl⟩
set_option maxRecDepth 100000 in
theorem nf_4_2 (g : xSig) : xfp g 4 2 := fun r hr hf => by cases hr; cases hf
set_option maxRecDepth 100000 in
theorem fl_Sea_21 : xfl "TurningVerse$Search" 21 4 3 := ⟨_, rfl, by decide, lw_gm 249 rfl rfl⟩
set_option maxRecDepth 100000 in
theorem fl_Sea_25 : xfl "TurningVerse$Search" 25 4 4 := ⟨_, rfl, by decide, lw_gm 250 rfl rfl⟩
set_option maxRecDepth 100000 in
theorem fl_Sea_28 : xfl "TurningVerse$Search" 28 4 5 := ⟨_, rfl, by decide, lw_gm 251 rfl rfl⟩
set_option maxRecDepth 100000 in
theorem ml_Sea_70 : Cond.methodLink "TurningVerse$Search" 70 (sgN g_Perm_number) ∈ lw_g := lw_gm 548 rfl rfl
set_option maxRecDepth 100000 in
theorem fl_Sea_31 : xfl "TurningVerse$Search" 31 5 0 := ⟨_, rfl, by decide, lw_gm 154 rfl rfl⟩
set_option maxRecDepth 100000 in
theorem fl_Sea_34 : xfl "TurningVerse$Search" 34 5 2 := ⟨_, rfl, by decide, lw_gm 159 rfl rfl⟩
set_option maxRecDepth 100000 in
theorem ml_Sea_43 : Cond.methodLink "TurningVerse$Search" 43 (sgN g_JA_fill) ∈ lw_g := lw_gm 542 rfl rfl
set_option maxRecDepth 100000 in
theorem ml_Sea_49 : Cond.methodLink "TurningVerse$Search" 49 (sgN g_Row_ascending) ∈ lw_g := lw_gm 543 rfl rfl
set_option maxRecDepth 100000 in
theorem ml_Sea_55 : Cond.methodLink "TurningVerse$Search" 55 (sgN g_Sea_note) ∈ lw_g := lw_gm 544 rfl rfl
set_option maxRecDepth 100000 in
theorem ml_Sea_59 : Cond.methodLink "TurningVerse$Search" 59 (sgN g_Sea_depthOf) ∈ lw_g := lw_gm 549 rfl rfl
set_option maxRecDepth 100000 in
theorem ml_Sea_62 : Cond.methodLink "TurningVerse$Search" 62 (sgN g_Sea_isFactor) ∈ lw_g := lw_gm 553 rfl rfl
set_option maxRecDepth 100000 in
theorem ml_Sea_66 : Cond.methodLink "TurningVerse$Search" 66 (sgN g_Row_turned) ∈ lw_g := lw_gm 557 rfl rfl
set_option maxRecDepth 100000 in
theorem ml_Sea_82 : Cond.methodLink "TurningVerse$Search" 82 (sgN g_Perm_inverse) ∈ lw_g := lw_gm 579 rfl rfl
set_option maxRecDepth 100000 in
theorem ml_Sea_79 : Cond.methodLink "TurningVerse$Search" 79 (sgN g_Sea_without) ∈ lw_g := lw_gm 575 rfl rfl
set_option maxRecDepth 100000 in
theorem ml_Sea_76 : Cond.methodLink "TurningVerse$Search" 76 (sgN g_Sea_firstFactor) ∈ lw_g := lw_gm 571 rfl rfl
set_option maxRecDepth 100000 in
theorem nf_6_0 (g : xSig) : xfp g 6 0 := fun r hr hf => by cases hr; cases hf
set_option maxRecDepth 100000 in
theorem fl_TR_9 : xfl "TurningVerse$TurnReader" 9 7 0 := ⟨_, rfl, by decide, lw_gm 234 rfl rfl⟩
set_option maxRecDepth 100000 in
theorem nf_7_0 (g : xSig) : xfp g 7 0 := fun r hr hf => by cases hr; cases hf
set_option maxRecDepth 100000 in
theorem ml_TR_15 : Cond.methodLink "TurningVerse$TurnReader" 15 (sgN g_Row_ascending) ∈ lw_g := lw_gm 416 rfl rfl
set_option maxRecDepth 100000 in
theorem fl_TR_21 : xfl "TurningVerse$TurnReader" 21 6 0 := ⟨_, rfl, by decide, lw_gm 199 rfl rfl⟩
set_option maxRecDepth 100000 in
theorem ml_TR_26 : Cond.methodLink "TurningVerse$TurnReader" 26 (sgN g_Txt_byteAt) ∈ lw_g := lw_gm 417 rfl rfl
set_option maxRecDepth 100000 in
theorem ml_TR_29 : Cond.methodLink "TurningVerse$TurnReader" 29 (sgN g_Row_with) ∈ lw_g := lw_gm 418 rfl rfl
set_option maxRecDepth 100000 in
theorem ml_TV_11 : Cond.methodLink "TurningVerse" 11 (sgN g_Sta_init) ∈ lw_g := lw_gm 96 rfl rfl
set_option maxRecDepth 100000 in
theorem fl_TV_12 : xfl "TurningVerse" 12 8 0 := ⟨_, rfl, by decide, lw_gm 284 rfl rfl⟩
set_option maxRecDepth 100000 in
theorem ml_TV_18 : Cond.methodLink "TurningVerse" 18 (sgN g_Hist_init) ∈ lw_g := lw_gm 174 rfl rfl
set_option maxRecDepth 100000 in
theorem fl_TV_19 : xfl "TurningVerse" 19 8 1 := ⟨_, rfl, by decide, lw_gm 285 rfl rfl⟩
set_option maxRecDepth 100000 in
theorem ml_TV_25 : Cond.methodLink "TurningVerse" 25 (sgN g_Txt_init) ∈ lw_g := lw_gm 194 rfl rfl
set_option maxRecDepth 100000 in
theorem fl_TV_26 : xfl "TurningVerse" 26 8 2 := ⟨_, rfl, by decide, lw_gm 286 rfl rfl⟩
set_option maxRecDepth 100000 in
theorem ml_TV_32 : Cond.methodLink "TurningVerse" 32 (sgN g_PR_init) ∈ lw_g := lw_gm 210 rfl rfl
set_option maxRecDepth 100000 in
theorem fl_TV_33 : xfl "TurningVerse" 33 8 3 := ⟨_, rfl, by decide, lw_gm 287 rfl rfl⟩
set_option maxRecDepth 100000 in
theorem ml_TV_39 : Cond.methodLink "TurningVerse" 39 (sgN g_TR_init) ∈ lw_g := lw_gm 230 rfl rfl
set_option maxRecDepth 100000 in
theorem fl_TV_40 : xfl "TurningVerse" 40 8 4 := ⟨_, rfl, by decide, lw_gm 288 rfl rfl⟩
set_option maxRecDepth 100000 in
theorem ml_TV_46 : Cond.methodLink "TurningVerse" 46 (sgN g_Sea_init) ∈ lw_g := lw_gm 241 rfl rfl
set_option maxRecDepth 100000 in
theorem fl_TV_47 : xfl "TurningVerse" 47 8 5 := ⟨_, rfl, by decide, lw_gm 289 rfl rfl⟩
set_option maxRecDepth 100000 in
theorem ml_TV_53 : Cond.methodLink "TurningVerse" 53 (sgN g_Fit_init) ∈ lw_g := lw_gm 267 rfl rfl
set_option maxRecDepth 100000 in
theorem fl_TV_54 : xfl "TurningVerse" 54 8 6 := ⟨_, rfl, by decide, lw_gm 290 rfl rfl⟩
set_option maxRecDepth 100000 in
theorem fl_TV_58 : xfl "TurningVerse" 58 8 7 := ⟨_, rfl, by decide, lw_gm 291 rfl rfl⟩
set_option maxRecDepth 100000 in
theorem ml_TV_62 : Cond.methodLink "TurningVerse" 62 (sgN g_Hist_remember) ∈ lw_g := lw_gm 313 rfl rfl
set_option maxRecDepth 100000 in
theorem fl_TV_66 : xfl "TurningVerse" 66 5 0 := ⟨_, rfl, by decide, lw_gm 155 rfl rfl⟩
set_option maxRecDepth 100000 in
theorem ml_TV_70 : Cond.methodLink "TurningVerse" 70 (sgN g_Sta_startWith) ∈ lw_g := lw_gm 332 rfl rfl
set_option maxRecDepth 100000 in
theorem ml_TV_74 : Cond.methodLink "TurningVerse" 74 (sgN g_TV_isLine) ∈ lw_g := lw_gm 337 rfl rfl
set_option maxRecDepth 100000 in
theorem fl_TV_78 : xfl "TurningVerse" 78 5 1 := ⟨_, rfl, by decide, lw_gm 157 rfl rfl⟩
set_option maxRecDepth 100000 in
theorem ml_TV_81 : Cond.methodLink "TurningVerse" 81 (sgN g_Row_entry) ∈ lw_g := lw_gm 341 rfl rfl
set_option maxRecDepth 100000 in
theorem ml_TV_87 : Cond.methodLink "TurningVerse" 87 (sgN g_Row_with) ∈ lw_g := lw_gm 344 rfl rfl
set_option maxRecDepth 100000 in
theorem fl_TV_91 : xfl "TurningVerse" 91 6 0 := ⟨_, rfl, by decide, lw_gm 201 rfl rfl⟩
set_option maxRecDepth 100000 in
theorem ml_TV_94 : Cond.methodLink "TurningVerse" 94 (sgN g_Txt_append) ∈ lw_g := lw_gm 349 rfl rfl
set_option maxRecDepth 100000 in
theorem ml_TV_97 : Cond.methodLink "TurningVerse" 97 (sgN g_PR_readText) ∈ lw_g := lw_gm 361 rfl rfl
set_option maxRecDepth 100000 in
theorem fl_TV_101 : xfl "TurningVerse" 101 3 0 := ⟨_, rfl, by decide, lw_gm 217 rfl rfl⟩
set_option maxRecDepth 100000 in
theorem fl_TV_102 : xfl "TurningVerse" 102 5 3 := ⟨_, rfl, by decide, lw_gm 162 rfl rfl⟩
set_option maxRecDepth 100000 in
theorem fl_TV_106 : xfl "TurningVerse" 106 3 1 := ⟨_, rfl, by decide, lw_gm 219 rfl rfl⟩
set_option maxRecDepth 100000 in
theorem ml_TV_107 : Cond.methodLink "TurningVerse" 107 (sgN g_Poem_copyFrom) ∈ lw_g := lw_gm 404 rfl rfl
set_option maxRecDepth 100000 in
theorem fl_TV_113 : xfl "TurningVerse" 113 2 0 := ⟨_, rfl, by decide, lw_gm 108 rfl rfl⟩
set_option maxRecDepth 100000 in
theorem fl_TV_133 : xfl "TurningVerse" 133 5 2 := ⟨_, rfl, by decide, lw_gm 160 rfl rfl⟩
set_option maxRecDepth 100000 in
theorem ml_TV_201 : Cond.methodLink "TurningVerse" 201 (sgN g_Perm_number) ∈ lw_g := lw_gm 423 rfl rfl
set_option maxRecDepth 100000 in
theorem ml_TV_116 : Cond.methodLink "TurningVerse" 116 (sgN g_TV_isRegister) ∈ lw_g := lw_gm 409 rfl rfl
set_option maxRecDepth 100000 in
theorem ml_TV_119 : Cond.methodLink "TurningVerse" 119 (sgN g_TR_readText) ∈ lw_g := lw_gm 412 rfl rfl
set_option maxRecDepth 100000 in
theorem fl_TV_122 : xfl "TurningVerse" 122 7 0 := ⟨_, rfl, by decide, lw_gm 235 rfl rfl⟩
set_option maxRecDepth 100000 in
theorem ml_TV_125 : Cond.methodLink "TurningVerse" 125 (sgN g_TV_store) ∈ lw_g := lw_gm 419 rfl rfl
set_option maxRecDepth 100000 in
theorem ml_TV_128 : Cond.methodLink "TurningVerse" 128 (sgN g_Perm_ofKind) ∈ lw_g := lw_gm 437 rfl rfl
set_option maxRecDepth 100000 in
theorem ml_TV_136 : Cond.methodLink "TurningVerse" 136 (sgN g_Row_turned) ∈ lw_g := lw_gm 451 rfl rfl
set_option maxRecDepth 100000 in
theorem ml_TV_141 : Cond.methodLink "TurningVerse" 141 (sgN g_Perm_inverse) ∈ lw_g := lw_gm 461 rfl rfl
set_option maxRecDepth 100000 in
theorem ml_TV_150 : Cond.methodLink "TurningVerse" 150 (sgN g_Perm_repeated) ∈ lw_g := lw_gm 467 rfl rfl
set_option maxRecDepth 100000 in
theorem ml_TV_153 : Cond.methodLink "TurningVerse" 153 (sgN g_Perm_count) ∈ lw_g := lw_gm 476 rfl rfl
set_option maxRecDepth 100000 in
theorem ml_TV_155 : Cond.methodLink "TurningVerse" 155 (sgN g_Perm_numbered) ∈ lw_g := lw_gm 479 rfl rfl
set_option maxRecDepth 100000 in
theorem ml_TV_158 : Cond.methodLink "TurningVerse" 158 (sgN g_Perm_order) ∈ lw_g := lw_gm 482 rfl rfl
set_option maxRecDepth 100000 in
theorem ml_TV_161 : Cond.methodLink "TurningVerse" 161 (sgN g_Perm_firstRoot) ∈ lw_g := lw_gm 489 rfl rfl
set_option maxRecDepth 100000 in
theorem ml_TV_164 : Cond.methodLink "TurningVerse" 164 (sgN g_Perm_property) ∈ lw_g := lw_gm 503 rfl rfl
set_option maxRecDepth 100000 in
theorem ml_TV_167 : Cond.methodLink "TurningVerse" 167 (sgN g_TV_isSetOfRegisters) ∈ lw_g := lw_gm 534 rfl rfl
set_option maxRecDepth 100000 in
theorem ml_TV_170 : Cond.methodLink "TurningVerse" 170 (sgN g_Sea_spread) ∈ lw_g := lw_gm 537 rfl rfl
set_option maxRecDepth 100000 in
theorem fl_TV_174 : xfl "TurningVerse" 174 4 0 := ⟨_, rfl, by decide, lw_gm 246 rfl rfl⟩
set_option maxRecDepth 100000 in
theorem ml_TV_175 : Cond.methodLink "TurningVerse" 175 (sgN g_Sea_depthOf) ∈ lw_g := lw_gm 562 rfl rfl
set_option maxRecDepth 100000 in
theorem ml_TV_178 : Cond.methodLink "TurningVerse" 178 (sgN g_Sea_factorAt) ∈ lw_g := lw_gm 567 rfl rfl
set_option maxRecDepth 100000 in
theorem ml_TV_181 : Cond.methodLink "TurningVerse" 181 (sgN g_Row_ascending) ∈ lw_g := lw_gm 584 rfl rfl
set_option maxRecDepth 100000 in
theorem ml_TV_184 : Cond.methodLink "TurningVerse" 184 (sgN g_Poem_append) ∈ lw_g := lw_gm 585 rfl rfl
set_option maxRecDepth 100000 in
theorem fl_TV_185 : xfl "TurningVerse" 185 2 2 := ⟨_, rfl, by decide, lw_gm 113 rfl rfl⟩
set_option maxRecDepth 100000 in
theorem ml_TV_188 : Cond.methodLink "TurningVerse" 188 (sgN g_TV_isStanza) ∈ lw_g := lw_gm 594 rfl rfl
set_option maxRecDepth 100000 in
theorem fl_TV_191 : xfl "TurningVerse" 191 2 3 := ⟨_, rfl, by decide, lw_gm 116 rfl rfl⟩
set_option maxRecDepth 100000 in
theorem ml_TV_194 : Cond.methodLink "TurningVerse" 194 (sgN g_Row_hasEach) ∈ lw_g := lw_gm 610 rfl rfl
set_option maxRecDepth 100000 in
theorem ml_TV_198 : Cond.methodLink "TurningVerse" 198 (sgN g_Poem_turnBehind) ∈ lw_g := lw_gm 620 rfl rfl
set_option maxRecDepth 100000 in
theorem ml_TV_204 : Cond.methodLink "TurningVerse" 204 (sgN g_Poem_turnsBy) ∈ lw_g := lw_gm 631 rfl rfl
set_option maxRecDepth 100000 in
theorem ml_TV_207 : Cond.methodLink "TurningVerse" 207 (sgN g_Fit_changes) ∈ lw_g := lw_gm 647 rfl rfl
set_option maxRecDepth 100000 in
theorem ml_TV_211 : Cond.methodLink "TurningVerse" 211 (sgN g_Fit_firstRow) ∈ lw_g := lw_gm 673 rfl rfl
set_option maxRecDepth 100000 in
theorem ml_TV_215 : Cond.methodLink "TurningVerse" 215 (sgN g_Poem_rewrite) ∈ lw_g := lw_gm 682 rfl rfl
set_option maxRecDepth 100000 in
theorem ml_TV_219 : Cond.methodLink "TurningVerse" 219 (sgN g_Fit_bestPermutation) ∈ lw_g := lw_gm 690 rfl rfl
set_option maxRecDepth 100000 in
theorem ml_TV_223 : Cond.methodLink "TurningVerse" 223 (sgN g_Poem_wordsOfTail) ∈ lw_g := lw_gm 713 rfl rfl
set_option maxRecDepth 100000 in
theorem fl_TV_226 : xfl "TurningVerse" 226 2 1 := ⟨_, rfl, by decide, lw_gm 110 rfl rfl⟩
set_option maxRecDepth 100000 in
theorem ml_TV_229 : Cond.methodLink "TurningVerse" 229 (sgN g_Poem_lengthOfTail) ∈ lw_g := lw_gm 718 rfl rfl
set_option maxRecDepth 100000 in
theorem ml_TV_232 : Cond.methodLink "TurningVerse" 232 (sgN g_JI_bitCount) ∈ lw_g := lw_gm 722 rfl rfl
set_option maxRecDepth 100000 in
theorem fl_TV_237 : xfl "TurningVerse" 237 2 5 := ⟨_, rfl, by decide, lw_gm 120 rfl rfl⟩
set_option maxRecDepth 100000 in
theorem fl_TV_240 : xfl "TurningVerse" 240 2 4 := ⟨_, rfl, by decide, lw_gm 118 rfl rfl⟩
set_option maxRecDepth 100000 in
theorem ml_TV_243 : Cond.methodLink "TurningVerse" 243 (sgN g_TV_soundsOf) ∈ lw_g := lw_gm 731 rfl rfl
set_option maxRecDepth 100000 in
theorem ml_TV_246 : Cond.methodLink "TurningVerse" 246 (sgN g_Rhy_pattern) ∈ lw_g := lw_gm 735 rfl rfl
set_option maxRecDepth 100000 in
theorem ml_TV_251 : Cond.methodLink "TurningVerse" 251 (sgN g_Rhy_differentPatterns) ∈ lw_g := lw_gm 746 rfl rfl
set_option maxRecDepth 100000 in
theorem ml_TV_255 : Cond.methodLink "TurningVerse" 255 (sgN g_Rhy_mostNeighborly) ∈ lw_g := lw_gm 759 rfl rfl
set_option maxRecDepth 100000 in
theorem ml_TV_258 : Cond.methodLink "TurningVerse" 258 (sgN g_Poem_properStanzas) ∈ lw_g := lw_gm 771 rfl rfl
set_option maxRecDepth 100000 in
theorem ml_TV_261 : Cond.methodLink "TurningVerse" 261 (sgN g_Poem_lockedPlaces) ∈ lw_g := lw_gm 772 rfl rfl
set_option maxRecDepth 100000 in
theorem fl_TV_264 : xfl "TurningVerse" 264 1 0 := ⟨_, rfl, by decide, lw_gm 182 rfl rfl⟩
set_option maxRecDepth 100000 in
theorem ml_TV_265 : Cond.methodLink "TurningVerse" 265 (sgN g_Hist_restore) ∈ lw_g := lw_gm 781 rfl rfl
set_option maxRecDepth 100000 in
theorem ml_TV_291 : Cond.methodLink "TurningVerse" 291 (sgN g_TV_word) ∈ lw_g := lw_gm 800 rfl rfl
set_option maxRecDepth 100000 in
theorem ml_TV_273 : Cond.methodLink "TurningVerse" 273 (sgN g_TV_mixed) ∈ lw_g := lw_gm 791 rfl rfl
set_option maxRecDepth 100000 in
theorem ml_TV_294 : Cond.methodLink "TurningVerse" 294 (sgN g_TV_turning) ∈ lw_g := lw_gm 801 rfl rfl
set_option maxRecDepth 100000 in
theorem ml_TV_297 : Cond.methodLink "TurningVerse" 297 (sgN g_TV_scheme) ∈ lw_g := lw_gm 802 rfl rfl
set_option maxRecDepth 100000 in
theorem ml_TV_300 : Cond.methodLink "TurningVerse" 300 (sgN g_TV_tail) ∈ lw_g := lw_gm 808 rfl rfl
set_option maxRecDepth 100000 in
theorem ml_TV_303 : Cond.methodLink "TurningVerse" 303 (sgN g_TV_tailWord) ∈ lw_g := lw_gm 809 rfl rfl
set_option maxRecDepth 100000 in
theorem ml_TV_270 : Cond.methodLink "TurningVerse" 270 (sgN g_TV_told) ∈ lw_g := lw_gm 790 rfl rfl
set_option maxRecDepth 100000 in
theorem ml_TV_277 : Cond.methodLink "TurningVerse" 277 (sgN g_TV_turn) ∈ lw_g := lw_gm 795 rfl rfl
set_option maxRecDepth 100000 in
theorem ml_TV_280 : Cond.methodLink "TurningVerse" 280 (sgN g_TV_withStanza) ∈ lw_g := lw_gm 796 rfl rfl
set_option maxRecDepth 100000 in
theorem ml_TV_284 : Cond.methodLink "TurningVerse" 284 (sgN g_TV_follows) ∈ lw_g := lw_gm 803 rfl rfl
set_option maxRecDepth 100000 in
theorem ml_TV_287 : Cond.methodLink "TurningVerse" 287 (sgN g_TV_withTail) ∈ lw_g := lw_gm 804 rfl rfl
set_option maxRecDepth 100000 in
theorem fl_Mo_7 : xfl "TurningVerseModel" 7 9 0 := ⟨_, rfl, by decide, lw_gm 820 rfl rfl⟩
set_option maxRecDepth 100000 in
theorem fl_Mo_13 : xfl "TurningVerseModel" 13 9 2 := ⟨_, rfl, by decide, lw_gm 822 rfl rfl⟩
set_option maxRecDepth 100000 in
theorem fl_Mo_16 : xfl "TurningVerseModel" 16 9 4 := ⟨_, rfl, by decide, lw_gm 824 rfl rfl⟩
set_option maxRecDepth 100000 in
theorem fl_Mo_19 : xfl "TurningVerseModel" 19 9 5 := ⟨_, rfl, by decide, lw_gm 825 rfl rfl⟩
set_option maxRecDepth 100000 in
theorem fl_Mo_22 : xfl "TurningVerseModel" 22 9 6 := ⟨_, rfl, by decide, lw_gm 826 rfl rfl⟩
set_option maxRecDepth 100000 in
theorem fl_Mo_25 : xfl "TurningVerseModel" 25 9 7 := ⟨_, rfl, by decide, lw_gm 827 rfl rfl⟩
set_option maxRecDepth 100000 in
theorem fl_Mo_28 : xfl "TurningVerseModel" 28 9 8 := ⟨_, rfl, by decide, lw_gm 828 rfl rfl⟩
set_option maxRecDepth 100000 in
theorem fl_Mo_31 : xfl "TurningVerseModel" 31 9 10 := ⟨_, rfl, by decide, lw_gm 830 rfl rfl⟩
set_option maxRecDepth 100000 in
theorem fl_Mo_34 : xfl "TurningVerseModel" 34 9 13 := ⟨_, rfl, by decide, lw_gm 833 rfl rfl⟩
set_option maxRecDepth 100000 in
theorem fl_Mo_37 : xfl "TurningVerseModel" 37 9 14 := ⟨_, rfl, by decide, lw_gm 834 rfl rfl⟩
set_option maxRecDepth 100000 in
theorem fl_Mo_40 : xfl "TurningVerseModel" 40 9 15 := ⟨_, rfl, by decide, lw_gm 835 rfl rfl⟩
set_option maxRecDepth 100000 in
theorem fl_Mo_43 : xfl "TurningVerseModel" 43 9 16 := ⟨_, rfl, by decide, lw_gm 836 rfl rfl⟩
set_option maxRecDepth 100000 in
theorem fl_Mo_46 : xfl "TurningVerseModel" 46 9 17 := ⟨_, rfl, by decide, lw_gm 837 rfl rfl⟩
set_option maxRecDepth 100000 in
theorem ml_Mo_49 : Cond.methodLink "TurningVerseModel" 49 (sgN g_Mo_resets) ∈ lw_g := lw_gm 816 rfl rfl
set_option maxRecDepth 100000 in
theorem fl_Mo_53 : xfl "TurningVerseModel" 53 9 1 := ⟨_, rfl, by decide, lw_gm 821 rfl rfl⟩
set_option maxRecDepth 100000 in
theorem nf_9_1 (g : xSig) : xfp g 9 1 := fun r hr hf => by cases hr; cases hf
set_option maxRecDepth 100000 in
theorem ml_Mo_57 : Cond.methodLink "TurningVerseModel" 57 (sgN g_Mo_in) ∈ lw_g := lw_gm 879 rfl rfl
set_option maxRecDepth 100000 in
theorem ml_Mo_61 : Cond.methodLink "TurningVerseModel" 61 (sgN g_Mo_records) ∈ lw_g := lw_gm 882 rfl rfl
set_option maxRecDepth 100000 in
theorem ml_Mo_64 : Cond.methodLink "TurningVerseModel" 64 (sgN g_Mo_size) ∈ lw_g := lw_gm 886 rfl rfl
set_option maxRecDepth 100000 in
theorem ml_Mo_68 : Cond.methodLink "TurningVerseModel" 68 (sgN g_Mo_empties) ∈ lw_g := lw_gm 890 rfl rfl
set_option maxRecDepth 100000 in
theorem ml_Mo_71 : Cond.methodLink "TurningVerseModel" 71 (sgN g_Mo_isLine) ∈ lw_g := lw_gm 898 rfl rfl
set_option maxRecDepth 100000 in
theorem ml_Mo_75 : Cond.methodLink "TurningVerseModel" 75 (sgN g_Mo_cycleOf) ∈ lw_g := lw_gm 943 rfl rfl
set_option maxRecDepth 100000 in
theorem ml_Mo_79 : Cond.methodLink "TurningVerseModel" 79 (sgN g_Mo_isRegister) ∈ lw_g := lw_gm 906 rfl rfl
set_option maxRecDepth 100000 in
theorem ml_Mo_82 : Cond.methodLink "TurningVerseModel" 82 (sgN g_Mo_identity) ∈ lw_g := lw_gm 909 rfl rfl
set_option maxRecDepth 100000 in
theorem ml_Mo_86 : Cond.methodLink "TurningVerseModel" 86 (sgN g_Mo_puts) ∈ lw_g := lw_gm 913 rfl rfl
set_option maxRecDepth 100000 in
theorem ml_Mo_90 : Cond.methodLink "TurningVerseModel" 90 (sgN g_Mo_rank) ∈ lw_g := lw_gm 917 rfl rfl
set_option maxRecDepth 100000 in
theorem ml_Mo_94 : Cond.methodLink "TurningVerseModel" 94 (sgN g_Mo_takes) ∈ lw_g := lw_gm 925 rfl rfl
set_option maxRecDepth 100000 in
theorem ml_Mo_98 : Cond.methodLink "TurningVerseModel" 98 (sgN g_Mo_multiplies) ∈ lw_g := lw_gm 929 rfl rfl
set_option maxRecDepth 100000 in
theorem ml_Mo_104 : Cond.methodLink "TurningVerseModel" 104 (sgN g_Mo_orderOf) ∈ lw_g := lw_gm 939 rfl rfl
set_option maxRecDepth 100000 in
theorem ml_Mo_107 : Cond.methodLink "TurningVerseModel" 107 (sgN g_Mo_raises) ∈ lw_g := lw_gm 947 rfl rfl
set_option maxRecDepth 100000 in
theorem ml_Mo_111 : Cond.methodLink "TurningVerseModel" 111 (sgN g_Mo_factorial) ∈ lw_g := lw_gm 955 rfl rfl
set_option maxRecDepth 100000 in
theorem ml_Mo_114 : Cond.methodLink "TurningVerseModel" 114 (sgN g_Mo_unranks) ∈ lw_g := lw_gm 959 rfl rfl
set_option maxRecDepth 100000 in
theorem ml_Mo_117 : Cond.methodLink "TurningVerseModel" 117 (sgN g_Mo_isSame) ∈ lw_g := lw_gm 967 rfl rfl
set_option maxRecDepth 100000 in
theorem ml_Mo_121 : Cond.methodLink "TurningVerseModel" 121 (sgN g_Mo_isFirst) ∈ lw_g := lw_gm 983 rfl rfl
set_option maxRecDepth 100000 in
theorem ml_Mo_125 : Cond.methodLink "TurningVerseModel" 125 (sgN g_Mo_turnOf) ∈ lw_g := lw_gm 979 rfl rfl
set_option maxRecDepth 100000 in
theorem fl_Mo_129 : xfl "TurningVerseModel" 129 9 9 := ⟨_, rfl, by decide, lw_gm 829 rfl rfl⟩
set_option maxRecDepth 100000 in
theorem nf_9_9 (g : xSig) : xfp g 9 9 := fun r hr hf => by cases hr; cases hf
set_option maxRecDepth 100000 in
theorem ml_Mo_132 : Cond.methodLink "TurningVerseModel" 132 (sgN g_Mo_isSet) ∈ lw_g := lw_gm 995 rfl rfl
set_option maxRecDepth 100000 in
theorem ml_Mo_135 : Cond.methodLink "TurningVerseModel" 135 (sgN g_Mo_walks) ∈ lw_g := lw_gm 998 rfl rfl
set_option maxRecDepth 100000 in
theorem ml_Mo_138 : Cond.methodLink "TurningVerseModel" 138 (sgN g_Mo_rests) ∈ lw_g := lw_gm 1010 rfl rfl
set_option maxRecDepth 100000 in
theorem fl_Mo_141 : xfl "TurningVerseModel" 141 9 3 := ⟨_, rfl, by decide, lw_gm 823 rfl rfl⟩
set_option maxRecDepth 100000 in
theorem nf_9_3 (g : xSig) : xfp g 9 3 := fun r hr hf => by cases hr; cases hf
set_option maxRecDepth 100000 in
theorem ml_Mo_144 : Cond.methodLink "TurningVerseModel" 144 (sgN g_Mo_byteAt) ∈ lw_g := lw_gm 1038 rfl rfl
set_option maxRecDepth 100000 in
theorem fl_Mo_148 : xfl "TurningVerseModel" 148 9 12 := ⟨_, rfl, by decide, lw_gm 832 rfl rfl⟩
set_option maxRecDepth 100000 in
theorem ml_Mo_151 : Cond.methodLink "TurningVerseModel" 151 (sgN g_Mo_isLetter) ∈ lw_g := lw_gm 1034 rfl rfl
set_option maxRecDepth 100000 in
theorem nf_9_12 (g : xSig) : xfp g 9 12 := fun r hr hf => by cases hr; cases hf
set_option maxRecDepth 100000 in
theorem fl_Mo_155 : xfl "TurningVerseModel" 155 9 11 := ⟨_, rfl, by decide, lw_gm 831 rfl rfl⟩
set_option maxRecDepth 100000 in
theorem nf_9_11 (g : xSig) : xfp g 9 11 := fun r hr hf => by cases hr; cases hf
set_option maxRecDepth 100000 in
theorem ml_Mo_158 : Cond.methodLink "TurningVerseModel" 158 (sgN g_Mo_readsFirst) ∈ lw_g := lw_gm 1030 rfl rfl
set_option maxRecDepth 100000 in
theorem ml_Mo_162 : Cond.methodLink "TurningVerseModel" 162 (sgN g_Mo_readsStanza) ∈ lw_g := lw_gm 1042 rfl rfl
set_option maxRecDepth 100000 in
theorem ml_Mo_165 : Cond.methodLink "TurningVerseModel" 165 (sgN g_Mo_readsTail) ∈ lw_g := lw_gm 1046 rfl rfl
set_option maxRecDepth 100000 in
theorem ml_Mo_168 : Cond.methodLink "TurningVerseModel" 168 (sgN g_Mo_reads) ∈ lw_g := lw_gm 1026 rfl rfl
set_option maxRecDepth 100000 in
theorem ml_Mo_171 : Cond.methodLink "TurningVerseModel" 171 (sgN g_Mo_readsTurn) ∈ lw_g := lw_gm 1054 rfl rfl
set_option maxRecDepth 100000 in
theorem ml_Mo_174 : Cond.methodLink "TurningVerseModel" 174 (sgN g_Mo_placeOf) ∈ lw_g := lw_gm 1062 rfl rfl
set_option maxRecDepth 100000 in
theorem ml_Mo_177 : Cond.methodLink "TurningVerseModel" 177 (sgN g_Mo_isStanza) ∈ lw_g := lw_gm 1074 rfl rfl
set_option maxRecDepth 100000 in
theorem ml_Mo_180 : Cond.methodLink "TurningVerseModel" 180 (sgN g_Mo_isProper) ∈ lw_g := lw_gm 1090 rfl rfl
set_option maxRecDepth 100000 in
theorem ml_Mo_183 : Cond.methodLink "TurningVerseModel" 183 (sgN g_Mo_turns) ∈ lw_g := lw_gm 1102 rfl rfl
set_option maxRecDepth 100000 in
theorem ml_Mo_186 : Cond.methodLink "TurningVerseModel" 186 (sgN g_Mo_turningOf) ∈ lw_g := lw_gm 1098 rfl rfl
set_option maxRecDepth 100000 in
theorem ml_Mo_189 : Cond.methodLink "TurningVerseModel" 189 (sgN g_Mo_followed) ∈ lw_g := lw_gm 1110 rfl rfl
set_option maxRecDepth 100000 in
theorem ml_Mo_192 : Cond.methodLink "TurningVerseModel" 192 (sgN g_Mo_isFollowed) ∈ lw_g := lw_gm 1118 rfl rfl
set_option maxRecDepth 100000 in
theorem ml_Mo_195 : Cond.methodLink "TurningVerseModel" 195 (sgN g_Mo_wrong) ∈ lw_g := lw_gm 1126 rfl rfl
set_option maxRecDepth 100000 in
theorem ml_Mo_198 : Cond.methodLink "TurningVerseModel" 198 (sgN g_Mo_costOf) ∈ lw_g := lw_gm 1130 rfl rfl
set_option maxRecDepth 100000 in
theorem ml_Mo_201 : Cond.methodLink "TurningVerseModel" 201 (sgN g_Mo_missing) ∈ lw_g := lw_gm 1146 rfl rfl
set_option maxRecDepth 100000 in
theorem ml_Mo_204 : Cond.methodLink "TurningVerseModel" 204 (sgN g_Mo_tailWords) ∈ lw_g := lw_gm 1150 rfl rfl
set_option maxRecDepth 100000 in
theorem ml_Mo_207 : Cond.methodLink "TurningVerseModel" 207 (sgN g_Mo_soundAt) ∈ lw_g := lw_gm 1170 rfl rfl
set_option maxRecDepth 100000 in
theorem ml_Mo_210 : Cond.methodLink "TurningVerseModel" 210 (sgN g_Mo_takesVerse) ∈ lw_g := lw_gm 1162 rfl rfl
set_option maxRecDepth 100000 in
theorem ml_Mo_213 : Cond.methodLink "TurningVerseModel" 213 (sgN g_Mo_schemeOfVerse) ∈ lw_g := lw_gm 1166 rfl rfl
set_option maxRecDepth 100000 in
theorem ml_Mo_216 : Cond.methodLink "TurningVerseModel" 216 (sgN g_Mo_properMany) ∈ lw_g := lw_gm 1186 rfl rfl
set_option maxRecDepth 100000 in
theorem ml_Mo_219 : Cond.methodLink "TurningVerseModel" 219 (sgN g_Mo_locked) ∈ lw_g := lw_gm 1190 rfl rfl
set_option maxRecDepth 100000 in
theorem ml_Mo_224 : Cond.methodLink "TurningVerseModel" 224 (sgN g_Mo_scheme) ∈ lw_g := lw_gm 1209 rfl rfl
set_option maxRecDepth 100000 in
theorem ml_Mo_227 : Cond.methodLink "TurningVerseModel" 227 (sgN g_Mo_tail) ∈ lw_g := lw_gm 1214 rfl rfl
set_option maxRecDepth 100000 in
theorem ml_Mo_232 : Cond.methodLink "TurningVerseModel" 232 (sgN g_Mo_told) ∈ lw_g := lw_gm 1204 rfl rfl
set_option maxRecDepth 100000 in
theorem ml_Mo_235 : Cond.methodLink "TurningVerseModel" 235 (sgN g_Mo_mixedStanza) ∈ lw_g := lw_gm 1205 rfl rfl
set_option maxRecDepth 100000 in
theorem ml_Mo_239 : Cond.methodLink "TurningVerseModel" 239 (sgN g_Mo_mixedTail) ∈ lw_g := lw_gm 1210 rfl rfl
end
section
/-! CODE, decoded, with its links; checked once -/
def k_JA_fill : xCd := [
  (0, .iconst 0, 1, .inr (.inr (.inl (nI 0)))),
  (1, .istore_n 2, 1, .inl (0, 0)),
  (2, .aload_n 0, 1, .inl (0, 0)),
  (3, .arraylength, 1, .inl (0, 0)),
  (4, .istore_n 3, 1, .inl (0, 0)),
  (5, .iload_n 2, 1, .inl (0, 0)),
  (6, .iload_n 3, 1, .inl (0, 0)),
  (7, .if_icmp .ge 13, 3, .inl (20, 0)),
  (10, .aload_n 0, 1, .inl (0, 0)),
  (11, .iload_n 2, 1, .inl (0, 0)),
  (12, .iload_n 1, 1, .inl (0, 0)),
  (13, .iastore, 1, .inl (0, 0)),
  (14, .iinc 2 1, 3, .inr (.inr (.inl (nI 1)))),
  (17, .goto (-12), 3, .inl (5, 0)),
  (20, .return_, 1, .inl (0, 0))]
set_option maxRecDepth 100000 in
set_option maxHeartbeats 4000000 in
theorem ok_JA_fill : xOK g_JA_fill k_JA_fill := ⟨by decide +kernel, by decide +kernel, List.forall_mem_cons.mpr ⟨trivial, List.forall_mem_cons.mpr ⟨trivial, List.forall_mem_cons.mpr ⟨trivial, List.forall_mem_cons.mpr ⟨trivial, List.forall_mem_cons.mpr ⟨trivial, List.forall_mem_cons.mpr ⟨trivial, List.forall_mem_cons.mpr ⟨trivial, List.forall_mem_cons.mpr ⟨trivial, List.forall_mem_cons.mpr ⟨trivial, List.forall_mem_cons.mpr ⟨trivial, List.forall_mem_cons.mpr ⟨trivial, List.forall_mem_cons.mpr ⟨trivial, List.forall_mem_cons.mpr ⟨trivial, List.forall_mem_cons.mpr ⟨trivial, List.forall_mem_cons.mpr ⟨trivial, fun _ h => absurd h List.not_mem_nil⟩⟩⟩⟩⟩⟩⟩⟩⟩⟩⟩⟩⟩⟩⟩⟩
def k_Row_with : xCd := [
  (0, .iload_n 0, 1, .inl (0, 0)),
  (1, .bipush 7, 2, .inr (.inr (.inl (nI 7)))),
  (3, .iconst 3, 1, .inr (.inr (.inl (nI 3)))),
  (4, .iload_n 1, 1, .inl (0, 0)),
  (5, .imul, 1, .inl (0, 0)),
  (6, .ishl, 1, .inl (0, 0)),
  (7, .iconst (-1), 1, .inr (.inr (.inl (-1)))),
  (8, .ixor, 1, .inl (0, 0)),
  (9, .iand, 1, .inl (0, 0)),
  (10, .iload_n 2, 1, .inl (0, 0)),
  (11, .iconst 3, 1, .inr (.inr (.inl (nI 3)))),
  (12, .iload_n 1, 1, .inl (0, 0)),
  (13, .imul, 1, .inl (0, 0)),
  (14, .ishl, 1, .inl (0, 0)),
  (15, .ior, 1, .inl (0, 0)),
  (16, .ireturn, 1, .inl (0, 0))]
set_option maxRecDepth 100000 in
set_option maxHeartbeats 4000000 in
theorem ok_Row_with : xOK g_Row_with k_Row_with := ⟨by decide +kernel, by decide +kernel, List.forall_mem_cons.mpr ⟨trivial, List.forall_mem_cons.mpr ⟨trivial, List.forall_mem_cons.mpr ⟨trivial, List.forall_mem_cons.mpr ⟨trivial, List.forall_mem_cons.mpr ⟨trivial, List.forall_mem_cons.mpr ⟨trivial, List.forall_mem_cons.mpr ⟨trivial, List.forall_mem_cons.mpr ⟨trivial, List.forall_mem_cons.mpr ⟨trivial, List.forall_mem_cons.mpr ⟨trivial, List.forall_mem_cons.mpr ⟨trivial, List.forall_mem_cons.mpr ⟨trivial, List.forall_mem_cons.mpr ⟨trivial, List.forall_mem_cons.mpr ⟨trivial, List.forall_mem_cons.mpr ⟨trivial, List.forall_mem_cons.mpr ⟨trivial, fun _ h => absurd h List.not_mem_nil⟩⟩⟩⟩⟩⟩⟩⟩⟩⟩⟩⟩⟩⟩⟩⟩⟩
def k_Row_ascending : xCd := [
  (0, .iconst 0, 1, .inr (.inr (.inl (nI 0)))),
  (1, .istore_n 1, 1, .inl (0, 0)),
  (2, .iconst 0, 1, .inr (.inr (.inl (nI 0)))),
  (3, .istore_n 2, 1, .inl (0, 0)),
  (4, .iload_n 2, 1, .inl (0, 0)),
  (5, .iload_n 0, 1, .inl (0, 0)),
  (6, .if_icmp .ge 16, 3, .inl (22, 0)),
  (9, .iload_n 1, 1, .inl (0, 0)),
  (10, .iload_n 2, 1, .inl (0, 0)),
  (11, .iload_n 2, 1, .inl (0, 0)),
  (12, .invokestatic 7, 3, .inr (.inl g_Row_with)),
  (15, .istore_n 1, 1, .inl (0, 0)),
  (16, .iinc 2 1, 3, .inr (.inr (.inl (nI 1)))),
  (19, .goto (-15), 3, .inl (4, 0)),
  (22, .iload_n 1, 1, .inl (0, 0)),
  (23, .ireturn, 1, .inl (0, 0))]
set_option maxRecDepth 100000 in
set_option maxHeartbeats 4000000 in
theorem ok_Row_ascending : xOK g_Row_ascending k_Row_ascending := ⟨by decide +kernel, by decide +kernel, List.forall_mem_cons.mpr ⟨trivial, List.forall_mem_cons.mpr ⟨trivial, List.forall_mem_cons.mpr ⟨trivial, List.forall_mem_cons.mpr ⟨trivial, List.forall_mem_cons.mpr ⟨trivial, List.forall_mem_cons.mpr ⟨trivial, List.forall_mem_cons.mpr ⟨trivial, List.forall_mem_cons.mpr ⟨trivial, List.forall_mem_cons.mpr ⟨trivial, List.forall_mem_cons.mpr ⟨trivial, List.forall_mem_cons.mpr ⟨⟨ml_Row_7, xms_Row_with⟩, List.forall_mem_cons.mpr ⟨trivial, List.forall_mem_cons.mpr ⟨trivial, List.forall_mem_cons.mpr ⟨trivial, List.forall_mem_cons.mpr ⟨trivial, List.forall_mem_cons.mpr ⟨trivial, fun _ h => absurd h List.not_mem_nil⟩⟩⟩⟩⟩⟩⟩⟩⟩⟩⟩⟩⟩⟩⟩⟩⟩
def k_Row_entry : xCd := [
  (0, .iload_n 0, 1, .inl (0, 0)),
  (1, .iconst 3, 1, .inr (.inr (.inl (nI 3)))),
  (2, .iload_n 1, 1, .inl (0, 0)),
  (3, .imul, 1, .inl (0, 0)),
  (4, .ishr, 1, .inl (0, 0)),
  (5, .bipush 7, 2, .inr (.inr (.inl (nI 7)))),
  (7, .iand, 1, .inl (0, 0)),
  (8, .ireturn, 1, .inl (0, 0))]
set_option maxRecDepth 100000 in
set_option maxHeartbeats 4000000 in
theorem ok_Row_entry : xOK g_Row_entry k_Row_entry := ⟨by decide +kernel, by decide +kernel, List.forall_mem_cons.mpr ⟨trivial, List.forall_mem_cons.mpr ⟨trivial, List.forall_mem_cons.mpr ⟨trivial, List.forall_mem_cons.mpr ⟨trivial, List.forall_mem_cons.mpr ⟨trivial, List.forall_mem_cons.mpr ⟨trivial, List.forall_mem_cons.mpr ⟨trivial, List.forall_mem_cons.mpr ⟨trivial, fun _ h => absurd h List.not_mem_nil⟩⟩⟩⟩⟩⟩⟩⟩⟩
def k_Row_turned : xCd := [
  (0, .iconst 0, 1, .inr (.inr (.inl (nI 0)))),
  (1, .istore_n 3, 1, .inl (0, 0)),
  (2, .iconst 0, 1, .inr (.inr (.inl (nI 0)))),
  (3, .istore 4, 2, .inl (0, 0)),
  (5, .iload 4, 2, .inl (0, 0)),
  (7, .iload_n 2, 1, .inl (0, 0)),
  (8, .if_icmp .ge 26, 3, .inl (34, 0)),
  (11, .iload_n 3, 1, .inl (0, 0)),
  (12, .iload 4, 2, .inl (0, 0)),
  (14, .iload_n 0, 1, .inl (0, 0)),
  (15, .iload_n 1, 1, .inl (0, 0)),
  (16, .iload 4, 2, .inl (0, 0)),
  (18, .invokestatic 13, 3, .inr (.inl g_Row_entry)),
  (21, .invokestatic 13, 3, .inr (.inl g_Row_entry)),
  (24, .invokestatic 7, 3, .inr (.inl g_Row_with)),
  (27, .istore_n 3, 1, .inl (0, 0)),
  (28, .iinc 4 1, 3, .inr (.inr (.inl (nI 1)))),
  (31, .goto (-26), 3, .inl (5, 0)),
  (34, .iload_n 3, 1, .inl (0, 0)),
  (35, .ireturn, 1, .inl (0, 0))]
set_option maxRecDepth 100000 in
set_option maxHeartbeats 4000000 in
theorem ok_Row_turned : xOK g_Row_turned k_Row_turned := ⟨by decide +kernel, by decide +kernel, List.forall_mem_cons.mpr ⟨trivial, List.forall_mem_cons.mpr ⟨trivial, List.forall_mem_cons.mpr ⟨trivial, List.forall_mem_cons.mpr ⟨trivial, List.forall_mem_cons.mpr ⟨trivial, List.forall_mem_cons.mpr ⟨trivial, List.forall_mem_cons.mpr ⟨trivial, List.forall_mem_cons.mpr ⟨trivial, List.forall_mem_cons.mpr ⟨trivial, List.forall_mem_cons.mpr ⟨trivial, List.forall_mem_cons.mpr ⟨trivial, List.forall_mem_cons.mpr ⟨trivial, List.forall_mem_cons.mpr ⟨⟨ml_Row_13, xms_Row_entry⟩, List.forall_mem_cons.mpr ⟨⟨ml_Row_13, xms_Row_entry⟩, List.forall_mem_cons.mpr ⟨⟨ml_Row_7, xms_Row_with⟩, List.forall_mem_cons.mpr ⟨trivial, List.forall_mem_cons.mpr ⟨trivial, List.forall_mem_cons.mpr ⟨trivial, List.forall_mem_cons.mpr ⟨trivial, List.forall_mem_cons.mpr ⟨trivial, fun _ h => absurd h List.not_mem_nil⟩⟩⟩⟩⟩⟩⟩⟩⟩⟩⟩⟩⟩⟩⟩⟩⟩⟩⟩⟩⟩
def k_JI_bitCount : xCd := [
  (0, .iload_n 0, 1, .inl (0, 0)),
  (1, .iload_n 0, 1, .inl (0, 0)),
  (2, .iconst 1, 1, .inr (.inr (.inl (nI 1)))),
  (3, .iushr, 1, .inl (0, 0)),
  (4, .ldc_w 265, 3, .inr (.inr (.inl (nI 1431655765)))),
  (7, .iand, 1, .inl (0, 0)),
  (8, .isub, 1, .inl (0, 0)),
  (9, .istore_n 0, 1, .inl (0, 0)),
  (10, .iload_n 0, 1, .inl (0, 0)),
  (11, .ldc_w 266, 3, .inr (.inr (.inl (nI 858993459)))),
  (14, .iand, 1, .inl (0, 0)),
  (15, .iload_n 0, 1, .inl (0, 0)),
  (16, .iconst 2, 1, .inr (.inr (.inl (nI 2)))),
  (17, .iushr, 1, .inl (0, 0)),
  (18, .ldc_w 266, 3, .inr (.inr (.inl (nI 858993459)))),
  (21, .iand, 1, .inl (0, 0)),
  (22, .iadd, 1, .inl (0, 0)),
  (23, .istore_n 0, 1, .inl (0, 0)),
  (24, .iload_n 0, 1, .inl (0, 0)),
  (25, .iload_n 0, 1, .inl (0, 0)),
  (26, .iconst 4, 1, .inr (.inr (.inl (nI 4)))),
  (27, .iushr, 1, .inl (0, 0)),
  (28, .iadd, 1, .inl (0, 0)),
  (29, .ldc_w 267, 3, .inr (.inr (.inl (nI 252645135)))),
  (32, .iand, 1, .inl (0, 0)),
  (33, .istore_n 0, 1, .inl (0, 0)),
  (34, .iload_n 0, 1, .inl (0, 0)),
  (35, .iload_n 0, 1, .inl (0, 0)),
  (36, .bipush 8, 2, .inr (.inr (.inl (nI 8)))),
  (38, .iushr, 1, .inl (0, 0)),
  (39, .iadd, 1, .inl (0, 0)),
  (40, .istore_n 0, 1, .inl (0, 0)),
  (41, .iload_n 0, 1, .inl (0, 0)),
  (42, .iload_n 0, 1, .inl (0, 0)),
  (43, .bipush 16, 2, .inr (.inr (.inl (nI 16)))),
  (45, .iushr, 1, .inl (0, 0)),
  (46, .iadd, 1, .inl (0, 0)),
  (47, .istore_n 0, 1, .inl (0, 0)),
  (48, .iload_n 0, 1, .inl (0, 0)),
  (49, .bipush 63, 2, .inr (.inr (.inl (nI 63)))),
  (51, .iand, 1, .inl (0, 0)),
  (52, .ireturn, 1, .inl (0, 0))]
set_option maxRecDepth 100000 in
set_option maxHeartbeats 4000000 in
theorem ok_JI_bitCount : xOK g_JI_bitCount k_JI_bitCount := ⟨by decide +kernel, by decide +kernel, List.forall_mem_cons.mpr ⟨trivial, List.forall_mem_cons.mpr ⟨trivial, List.forall_mem_cons.mpr ⟨trivial, List.forall_mem_cons.mpr ⟨trivial, List.forall_mem_cons.mpr ⟨lw_gm 430 rfl rfl, List.forall_mem_cons.mpr ⟨trivial, List.forall_mem_cons.mpr ⟨trivial, List.forall_mem_cons.mpr ⟨trivial, List.forall_mem_cons.mpr ⟨trivial, List.forall_mem_cons.mpr ⟨lw_gm 431 rfl rfl, List.forall_mem_cons.mpr ⟨trivial, List.forall_mem_cons.mpr ⟨trivial, List.forall_mem_cons.mpr ⟨trivial, List.forall_mem_cons.mpr ⟨trivial, List.forall_mem_cons.mpr ⟨lw_gm 431 rfl rfl, List.forall_mem_cons.mpr ⟨trivial, List.forall_mem_cons.mpr ⟨trivial, List.forall_mem_cons.mpr ⟨trivial, List.forall_mem_cons.mpr ⟨trivial, List.forall_mem_cons.mpr ⟨trivial, List.forall_mem_cons.mpr ⟨trivial, List.forall_mem_cons.mpr ⟨trivial, List.forall_mem_cons.mpr ⟨trivial, List.forall_mem_cons.mpr ⟨lw_gm 432 rfl rfl, List.forall_mem_cons.mpr ⟨trivial, List.forall_mem_cons.mpr ⟨trivial, List.forall_mem_cons.mpr ⟨trivial, List.forall_mem_cons.mpr ⟨trivial, List.forall_mem_cons.mpr ⟨trivial, List.forall_mem_cons.mpr ⟨trivial, List.forall_mem_cons.mpr ⟨trivial, List.forall_mem_cons.mpr ⟨trivial, List.forall_mem_cons.mpr ⟨trivial, List.forall_mem_cons.mpr ⟨trivial, List.forall_mem_cons.mpr ⟨trivial, List.forall_mem_cons.mpr ⟨trivial, List.forall_mem_cons.mpr ⟨trivial, List.forall_mem_cons.mpr ⟨trivial, List.forall_mem_cons.mpr ⟨trivial, List.forall_mem_cons.mpr ⟨trivial, List.forall_mem_cons.mpr ⟨trivial, List.forall_mem_cons.mpr ⟨trivial, fun _ h => absurd h List.not_mem_nil⟩⟩⟩⟩⟩⟩⟩⟩⟩⟩⟩⟩⟩⟩⟩⟩⟩⟩⟩⟩⟩⟩⟩⟩⟩⟩⟩⟩⟩⟩⟩⟩⟩⟩⟩⟩⟩⟩⟩⟩⟩⟩⟩
def k_Perm_count : xCd := [
  (0, .iconst 1, 1, .inr (.inr (.inl (nI 1)))),
  (1, .istore_n 1, 1, .inl (0, 0)),
  (2, .iconst 2, 1, .inr (.inr (.inl (nI 2)))),
  (3, .istore_n 2, 1, .inl (0, 0)),
  (4, .iload_n 2, 1, .inl (0, 0)),
  (5, .iload_n 0, 1, .inl (0, 0)),
  (6, .if_icmp .gt 13, 3, .inl (19, 0)),
  (9, .iload_n 1, 1, .inl (0, 0)),
  (10, .iload_n 2, 1, .inl (0, 0)),
  (11, .imul, 1, .inl (0, 0)),
  (12, .istore_n 1, 1, .inl (0, 0)),
  (13, .iinc 2 1, 3, .inr (.inr (.inl (nI 1)))),
  (16, .goto (-12), 3, .inl (4, 0)),
  (19, .iload_n 1, 1, .inl (0, 0)),
  (20, .ireturn, 1, .inl (0, 0))]
set_option maxRecDepth 100000 in
set_option maxHeartbeats 4000000 in
theorem ok_Perm_count : xOK g_Perm_count k_Perm_count := ⟨by decide +kernel, by decide +kernel, List.forall_mem_cons.mpr ⟨trivial, List.forall_mem_cons.mpr ⟨trivial, List.forall_mem_cons.mpr ⟨trivial, List.forall_mem_cons.mpr ⟨trivial, List.forall_mem_cons.mpr ⟨trivial, List.forall_mem_cons.mpr ⟨trivial, List.forall_mem_cons.mpr ⟨trivial, List.forall_mem_cons.mpr ⟨trivial, List.forall_mem_cons.mpr ⟨trivial, List.forall_mem_cons.mpr ⟨trivial, List.forall_mem_cons.mpr ⟨trivial, List.forall_mem_cons.mpr ⟨trivial, List.forall_mem_cons.mpr ⟨trivial, List.forall_mem_cons.mpr ⟨trivial, List.forall_mem_cons.mpr ⟨trivial, fun _ h => absurd h List.not_mem_nil⟩⟩⟩⟩⟩⟩⟩⟩⟩⟩⟩⟩⟩⟩⟩⟩
def k_Perm_numbered : xCd := [
  (0, .iconst 0, 1, .inr (.inr (.inl (nI 0)))),
  (1, .istore_n 2, 1, .inl (0, 0)),
  (2, .iload_n 0, 1, .inl (0, 0)),
  (3, .istore_n 3, 1, .inl (0, 0)),
  (4, .iload_n 1, 1, .inl (0, 0)),
  (5, .iconst 1, 1, .inr (.inr (.inl (nI 1)))),
  (6, .isub, 1, .inl (0, 0)),
  (7, .istore 4, 2, .inl (0, 0)),
  (9, .iload 4, 2, .inl (0, 0)),
  (11, .ifCond .lt 79, 3, .inl (90, 0)),
  (14, .iload_n 1, 1, .inl (0, 0)),
  (15, .iload 4, 2, .inl (0, 0)),
  (17, .isub, 1, .inl (0, 0)),
  (18, .istore 5, 2, .inl (0, 0)),
  (20, .iload_n 3, 1, .inl (0, 0)),
  (21, .iload 5, 2, .inl (0, 0)),
  (23, .irem, 1, .inl (0, 0)),
  (24, .istore 6, 2, .inl (0, 0)),
  (26, .iload_n 3, 1, .inl (0, 0)),
  (27, .iload 5, 2, .inl (0, 0)),
  (29, .idiv, 1, .inl (0, 0)),
  (30, .istore_n 3, 1, .inl (0, 0)),
  (31, .iload 4, 2, .inl (0, 0)),
  (33, .iconst 1, 1, .inr (.inr (.inl (nI 1)))),
  (34, .iadd, 1, .inl (0, 0)),
  (35, .istore 7, 2, .inl (0, 0)),
  (37, .iload 7, 2, .inl (0, 0)),
  (39, .iload_n 1, 1, .inl (0, 0)),
  (40, .if_icmp .ge 35, 3, .inl (75, 0)),
  (43, .iload_n 2, 1, .inl (0, 0)),
  (44, .iload 7, 2, .inl (0, 0)),
  (46, .invokestatic 9, 3, .inr (.inl g_Row_entry)),
  (49, .istore 8, 2, .inl (0, 0)),
  (51, .iload 8, 2, .inl (0, 0)),
  (53, .iload 6, 2, .inl (0, 0)),
  (55, .if_icmp .lt 14, 3, .inl (69, 0)),
  (58, .iload_n 2, 1, .inl (0, 0)),
  (59, .iload 7, 2, .inl (0, 0)),
  (61, .iload 8, 2, .inl (0, 0)),
  (63, .iconst 1, 1, .inr (.inr (.inl (nI 1)))),
  (64, .iadd, 1, .inl (0, 0)),
  (65, .invokestatic 21, 3, .inr (.inl g_Row_with)),
  (68, .istore_n 2, 1, .inl (0, 0)),
  (69, .iinc 7 1, 3, .inr (.inr (.inl (nI 1)))),
  (72, .goto (-35), 3, .inl (37, 0)),
  (75, .iload_n 2, 1, .inl (0, 0)),
  (76, .iload 4, 2, .inl (0, 0)),
  (78, .iload 6, 2, .inl (0, 0)),
  (80, .invokestatic 21, 3, .inr (.inl g_Row_with)),
  (83, .istore_n 2, 1, .inl (0, 0)),
  (84, .iinc 4 (-1), 3, .inr (.inr (.inl (-1)))),
  (87, .goto (-78), 3, .inl (9, 0)),
  (90, .iload_n 2, 1, .inl (0, 0)),
  (91, .ireturn, 1, .inl (0, 0))]
set_option maxRecDepth 100000 in
set_option maxHeartbeats 4000000 in
theorem ok_Perm_numbered : xOK g_Perm_numbered k_Perm_numbered := ⟨by decide +kernel, by decide +kernel, List.forall_mem_cons.mpr ⟨trivial, List.forall_mem_cons.mpr ⟨trivial, List.forall_mem_cons.mpr ⟨trivial, List.forall_mem_cons.mpr ⟨trivial, List.forall_mem_cons.mpr ⟨trivial, List.forall_mem_cons.mpr ⟨trivial, List.forall_mem_cons.mpr ⟨trivial, List.forall_mem_cons.mpr ⟨trivial, List.forall_mem_cons.mpr ⟨trivial, List.forall_mem_cons.mpr ⟨trivial, List.forall_mem_cons.mpr ⟨trivial, List.forall_mem_cons.mpr ⟨trivial, List.forall_mem_cons.mpr ⟨trivial, List.forall_mem_cons.mpr ⟨trivial, List.forall_mem_cons.mpr ⟨trivial, List.forall_mem_cons.mpr ⟨trivial, List.forall_mem_cons.mpr ⟨trivial, List.forall_mem_cons.mpr ⟨trivial, List.forall_mem_cons.mpr ⟨trivial, List.forall_mem_cons.mpr ⟨trivial, List.forall_mem_cons.mpr ⟨trivial, List.forall_mem_cons.mpr ⟨trivial, List.forall_mem_cons.mpr ⟨trivial, List.forall_mem_cons.mpr ⟨trivial, List.forall_mem_cons.mpr ⟨trivial, List.forall_mem_cons.mpr ⟨trivial, List.forall_mem_cons.mpr ⟨trivial, List.forall_mem_cons.mpr ⟨trivial, List.forall_mem_cons.mpr ⟨trivial, List.forall_mem_cons.mpr ⟨trivial, List.forall_mem_cons.mpr ⟨trivial, List.forall_mem_cons.mpr ⟨⟨ml_Perm_9, xms_Row_entry⟩, List.forall_mem_cons.mpr ⟨trivial, List.forall_mem_cons.mpr ⟨trivial, List.forall_mem_cons.mpr ⟨trivial, List.forall_mem_cons.mpr ⟨trivial, List.forall_mem_cons.mpr ⟨trivial, List.forall_mem_cons.mpr ⟨trivial, List.forall_mem_cons.mpr ⟨trivial, List.forall_mem_cons.mpr ⟨trivial, List.forall_mem_cons.mpr ⟨trivial, List.forall_mem_cons.mpr ⟨⟨ml_Perm_21, xms_Row_with⟩, List.forall_mem_cons.mpr ⟨trivial, List.forall_mem_cons.mpr ⟨trivial, List.forall_mem_cons.mpr ⟨trivial, List.forall_mem_cons.mpr ⟨trivial, List.forall_mem_cons.mpr ⟨trivial, List.forall_mem_cons.mpr ⟨trivial, List.forall_mem_cons.mpr ⟨⟨ml_Perm_21, xms_Row_with⟩, List.forall_mem_cons.mpr ⟨trivial, List.forall_mem_cons.mpr ⟨trivial, List.forall_mem_cons.mpr ⟨trivial, List.forall_mem_cons.mpr ⟨trivial, List.forall_mem_cons.mpr ⟨trivial, fun _ h => absurd h List.not_mem_nil⟩⟩⟩⟩⟩⟩⟩⟩⟩⟩⟩⟩⟩⟩⟩⟩⟩⟩⟩⟩⟩⟩⟩⟩⟩⟩⟩⟩⟩⟩⟩⟩⟩⟩⟩⟩⟩⟩⟩⟩⟩⟩⟩⟩⟩⟩⟩⟩⟩⟩⟩⟩⟩⟩⟩
def k_Perm_number : xCd := [
  (0, .iconst 1, 1, .inr (.inr (.inl (nI 1)))),
  (1, .iload_n 1, 1, .inl (0, 0)),
  (2, .ishl, 1, .inl (0, 0)),
  (3, .iconst 1, 1, .inr (.inr (.inl (nI 1)))),
  (4, .isub, 1, .inl (0, 0)),
  (5, .istore_n 2, 1, .inl (0, 0)),
  (6, .iconst 0, 1, .inr (.inr (.inl (nI 0)))),
  (7, .istore_n 3, 1, .inl (0, 0)),
  (8, .iconst 0, 1, .inr (.inr (.inl (nI 0)))),
  (9, .istore 4, 2, .inl (0, 0)),
  (11, .iload 4, 2, .inl (0, 0)),
  (13, .iload_n 1, 1, .inl (0, 0)),
  (14, .if_icmp .ge 43, 3, .inl (57, 0)),
  (17, .iconst 1, 1, .inr (.inr (.inl (nI 1)))),
  (18, .iload_n 0, 1, .inl (0, 0)),
  (19, .iload 4, 2, .inl (0, 0)),
  (21, .invokestatic 9, 3, .inr (.inl g_Row_entry)),
  (24, .ishl, 1, .inl (0, 0)),
  (25, .istore 5, 2, .inl (0, 0)),
  (27, .iload_n 3, 1, .inl (0, 0)),
  (28, .iload_n 1, 1, .inl (0, 0)),
  (29, .iload 4, 2, .inl (0, 0)),
  (31, .isub, 1, .inl (0, 0)),
  (32, .imul, 1, .inl (0, 0)),
  (33, .iload_n 2, 1, .inl (0, 0)),
  (34, .iload 5, 2, .inl (0, 0)),
  (36, .iconst 1, 1, .inr (.inr (.inl (nI 1)))),
  (37, .isub, 1, .inl (0, 0)),
  (38, .iand, 1, .inl (0, 0)),
  (39, .invokestatic 15, 3, .inr (.inl g_JI_bitCount)),
  (42, .iadd, 1, .inl (0, 0)),
  (43, .istore_n 3, 1, .inl (0, 0)),
  (44, .iload_n 2, 1, .inl (0, 0)),
  (45, .iload 5, 2, .inl (0, 0)),
  (47, .iconst (-1), 1, .inr (.inr (.inl (-1)))),
  (48, .ixor, 1, .inl (0, 0)),
  (49, .iand, 1, .inl (0, 0)),
  (50, .istore_n 2, 1, .inl (0, 0)),
  (51, .iinc 4 1, 3, .inr (.inr (.inl (nI 1)))),
  (54, .goto (-43), 3, .inl (11, 0)),
  (57, .iload_n 3, 1, .inl (0, 0)),
  (58, .ireturn, 1, .inl (0, 0))]
set_option maxRecDepth 100000 in
set_option maxHeartbeats 4000000 in
theorem ok_Perm_number : xOK g_Perm_number k_Perm_number := ⟨by decide +kernel, by decide +kernel, List.forall_mem_cons.mpr ⟨trivial, List.forall_mem_cons.mpr ⟨trivial, List.forall_mem_cons.mpr ⟨trivial, List.forall_mem_cons.mpr ⟨trivial, List.forall_mem_cons.mpr ⟨trivial, List.forall_mem_cons.mpr ⟨trivial, List.forall_mem_cons.mpr ⟨trivial, List.forall_mem_cons.mpr ⟨trivial, List.forall_mem_cons.mpr ⟨trivial, List.forall_mem_cons.mpr ⟨trivial, List.forall_mem_cons.mpr ⟨trivial, List.forall_mem_cons.mpr ⟨trivial, List.forall_mem_cons.mpr ⟨trivial, List.forall_mem_cons.mpr ⟨trivial, List.forall_mem_cons.mpr ⟨trivial, List.forall_mem_cons.mpr ⟨trivial, List.forall_mem_cons.mpr ⟨⟨ml_Perm_9, xms_Row_entry⟩, List.forall_mem_cons.mpr ⟨trivial, List.forall_mem_cons.mpr ⟨trivial, List.forall_mem_cons.mpr ⟨trivial, List.forall_mem_cons.mpr ⟨trivial, List.forall_mem_cons.mpr ⟨trivial, List.forall_mem_cons.mpr ⟨trivial, List.forall_mem_cons.mpr ⟨trivial, List.forall_mem_cons.mpr ⟨trivial, List.forall_mem_cons.mpr ⟨trivial, List.forall_mem_cons.mpr ⟨trivial, List.forall_mem_cons.mpr ⟨trivial, List.forall_mem_cons.mpr ⟨trivial, List.forall_mem_cons.mpr ⟨⟨ml_Perm_15, xms_JI_bitCount⟩, List.forall_mem_cons.mpr ⟨trivial, List.forall_mem_cons.mpr ⟨trivial, List.forall_mem_cons.mpr ⟨trivial, List.forall_mem_cons.mpr ⟨trivial, List.forall_mem_cons.mpr ⟨trivial, List.forall_mem_cons.mpr ⟨trivial, List.forall_mem_cons.mpr ⟨trivial, List.forall_mem_cons.mpr ⟨trivial, List.forall_mem_cons.mpr ⟨trivial, List.forall_mem_cons.mpr ⟨trivial, List.forall_mem_cons.mpr ⟨trivial, List.forall_mem_cons.mpr ⟨trivial, fun _ h => absurd h List.not_mem_nil⟩⟩⟩⟩⟩⟩⟩⟩⟩⟩⟩⟩⟩⟩⟩⟩⟩⟩⟩⟩⟩⟩⟩⟩⟩⟩⟩⟩⟩⟩⟩⟩⟩⟩⟩⟩⟩⟩⟩⟩⟩⟩⟩
def k_Perm_lineOfWeave : xCd := [
  (0, .iload_n 0, 1, .inl (0, 0)),
  (1, .iconst 1, 1, .inr (.inr (.inl (nI 1)))),
  (2, .iadd, 1, .inl (0, 0)),
  (3, .iconst 2, 1, .inr (.inr (.inl (nI 2)))),
  (4, .idiv, 1, .inl (0, 0)),
  (5, .istore_n 2, 1, .inl (0, 0)),
  (6, .iload_n 1, 1, .inl (0, 0)),
  (7, .iload_n 2, 1, .inl (0, 0)),
  (8, .if_icmp .ge 9, 3, .inl (17, 0)),
  (11, .iconst 2, 1, .inr (.inr (.inl (nI 2)))),
  (12, .iload_n 1, 1, .inl (0, 0)),
  (13, .imul, 1, .inl (0, 0)),
  (14, .goto 10, 3, .inl (24, 0)),
  (17, .iconst 2, 1, .inr (.inr (.inl (nI 2)))),
  (18, .iload_n 1, 1, .inl (0, 0)),
  (19, .iload_n 2, 1, .inl (0, 0)),
  (20, .isub, 1, .inl (0, 0)),
  (21, .imul, 1, .inl (0, 0)),
  (22, .iconst 1, 1, .inr (.inr (.inl (nI 1)))),
  (23, .iadd, 1, .inl (0, 0)),
  (24, .ireturn, 1, .inl (0, 0))]
set_option maxRecDepth 100000 in
set_option maxHeartbeats 4000000 in
theorem ok_Perm_lineOfWeave : xOK g_Perm_lineOfWeave k_Perm_lineOfWeave := ⟨by decide +kernel, by decide +kernel, List.forall_mem_cons.mpr ⟨trivial, List.forall_mem_cons.mpr ⟨trivial, List.forall_mem_cons.mpr ⟨trivial, List.forall_mem_cons.mpr ⟨trivial, List.forall_mem_cons.mpr ⟨trivial, List.forall_mem_cons.mpr ⟨trivial, List.forall_mem_cons.mpr ⟨trivial, List.forall_mem_cons.mpr ⟨trivial, List.forall_mem_cons.mpr ⟨trivial, List.forall_mem_cons.mpr ⟨trivial, List.forall_mem_cons.mpr ⟨trivial, List.forall_mem_cons.mpr ⟨trivial, List.forall_mem_cons.mpr ⟨trivial, List.forall_mem_cons.mpr ⟨trivial, List.forall_mem_cons.mpr ⟨trivial, List.forall_mem_cons.mpr ⟨trivial, List.forall_mem_cons.mpr ⟨trivial, List.forall_mem_cons.mpr ⟨trivial, List.forall_mem_cons.mpr ⟨trivial, List.forall_mem_cons.mpr ⟨trivial, List.forall_mem_cons.mpr ⟨trivial, fun _ h => absurd h List.not_mem_nil⟩⟩⟩⟩⟩⟩⟩⟩⟩⟩⟩⟩⟩⟩⟩⟩⟩⟩⟩⟩⟩⟩
def k_Perm_lineOfKind : xCd := [
  (0, .iload_n 0, 1, .inl (0, 0)),
  (1, .tableswitch 105 1 5 #[35, 55, 61, 80, 99], 35, .inr (.inr (.inr (.inr (106, [(nI 1, 36), (nI 2, 56), (nI 3, 62), (nI 4, 81), (nI 5, 100)]))))),
  (36, .iload_n 3, 1, .inl (0, 0)),
  (37, .iconst 2, 1, .inr (.inr (.inl (nI 2)))),
  (38, .irem, 1, .inl (0, 0)),
  (39, .ifCond .ne 13, 3, .inl (52, 0)),
  (42, .iload_n 2, 1, .inl (0, 0)),
  (43, .iconst 1, 1, .inr (.inr (.inl (nI 1)))),
  (44, .isub, 1, .inl (0, 0)),
  (45, .iload_n 3, 1, .inl (0, 0)),
  (46, .iconst 2, 1, .inr (.inr (.inl (nI 2)))),
  (47, .idiv, 1, .inl (0, 0)),
  (48, .isub, 1, .inl (0, 0)),
  (49, .goto 6, 3, .inl (55, 0)),
  (52, .iload_n 3, 1, .inl (0, 0)),
  (53, .iconst 2, 1, .inr (.inr (.inl (nI 2)))),
  (54, .idiv, 1, .inl (0, 0)),
  (55, .ireturn, 1, .inl (0, 0)),
  (56, .iload_n 2, 1, .inl (0, 0)),
  (57, .iconst 1, 1, .inr (.inr (.inl (nI 1)))),
  (58, .isub, 1, .inl (0, 0)),
  (59, .iload_n 3, 1, .inl (0, 0)),
  (60, .isub, 1, .inl (0, 0)),
  (61, .ireturn, 1, .inl (0, 0)),
  (62, .iload_n 3, 1, .inl (0, 0)),
  (63, .iload_n 1, 1, .inl (0, 0)),
  (64, .iadd, 1, .inl (0, 0)),
  (65, .iload_n 2, 1, .inl (0, 0)),
  (66, .if_icmp .ge 9, 3, .inl (75, 0)),
  (69, .iload_n 3, 1, .inl (0, 0)),
  (70, .iload_n 1, 1, .inl (0, 0)),
  (71, .iadd, 1, .inl (0, 0)),
  (72, .goto 8, 3, .inl (80, 0)),
  (75, .iload_n 3, 1, .inl (0, 0)),
  (76, .iload_n 1, 1, .inl (0, 0)),
  (77, .iadd, 1, .inl (0, 0)),
  (78, .iload_n 2, 1, .inl (0, 0)),
  (79, .isub, 1, .inl (0, 0)),
  (80, .ireturn, 1, .inl (0, 0)),
  (81, .iload_n 3, 1, .inl (0, 0)),
  (82, .ifCond .ne 7, 3, .inl (89, 0)),
  (85, .iload_n 1, 1, .inl (0, 0)),
  (86, .goto 13, 3, .inl (99, 0)),
  (89, .iload_n 3, 1, .inl (0, 0)),
  (90, .iload_n 1, 1, .inl (0, 0)),
  (91, .if_icmp .ne 7, 3, .inl (98, 0)),
  (94, .iconst 0, 1, .inr (.inr (.inl (nI 0)))),
  (95, .goto 4, 3, .inl (99, 0)),
  (98, .iload_n 3, 1, .inl (0, 0)),
  (99, .ireturn, 1, .inl (0, 0)),
  (100, .iload_n 2, 1, .inl (0, 0)),
  (101, .iload_n 3, 1, .inl (0, 0)),
  (102, .invokestatic 31, 3, .inr (.inl g_Perm_lineOfWeave)),
  (105, .ireturn, 1, .inl (0, 0)),
  (106, .iload_n 3, 1, .inl (0, 0)),
  (107, .ireturn, 1, .inl (0, 0))]
set_option maxRecDepth 100000 in
set_option maxHeartbeats 4000000 in
theorem ok_Perm_lineOfKind : xOK g_Perm_lineOfKind k_Perm_lineOfKind := ⟨by decide +kernel, by decide +kernel, List.forall_mem_cons.mpr ⟨trivial, List.forall_mem_cons.mpr ⟨trivial, List.forall_mem_cons.mpr ⟨trivial, List.forall_mem_cons.mpr ⟨trivial, List.forall_mem_cons.mpr ⟨trivial, List.forall_mem_cons.mpr ⟨trivial, List.forall_mem_cons.mpr ⟨trivial, List.forall_mem_cons.mpr ⟨trivial, List.forall_mem_cons.mpr ⟨trivial, List.forall_mem_cons.mpr ⟨trivial, List.forall_mem_cons.mpr ⟨trivial, List.forall_mem_cons.mpr ⟨trivial, List.forall_mem_cons.mpr ⟨trivial, List.forall_mem_cons.mpr ⟨trivial, List.forall_mem_cons.mpr ⟨trivial, List.forall_mem_cons.mpr ⟨trivial, List.forall_mem_cons.mpr ⟨trivial, List.forall_mem_cons.mpr ⟨trivial, List.forall_mem_cons.mpr ⟨trivial, List.forall_mem_cons.mpr ⟨trivial, List.forall_mem_cons.mpr ⟨trivial, List.forall_mem_cons.mpr ⟨trivial, List.forall_mem_cons.mpr ⟨trivial, List.forall_mem_cons.mpr ⟨trivial, List.forall_mem_cons.mpr ⟨trivial, List.forall_mem_cons.mpr ⟨trivial, List.forall_mem_cons.mpr ⟨trivial, List.forall_mem_cons.mpr ⟨trivial, List.forall_mem_cons.mpr ⟨trivial, List.forall_mem_cons.mpr ⟨trivial, List.forall_mem_cons.mpr ⟨trivial, List.forall_mem_cons.mpr ⟨trivial, List.forall_mem_cons.mpr ⟨trivial, List.forall_mem_cons.mpr ⟨trivial, List.forall_mem_cons.mpr ⟨trivial, List.forall_mem_cons.mpr ⟨trivial, List.forall_mem_cons.mpr ⟨trivial, List.forall_mem_cons.mpr ⟨trivial, List.forall_mem_cons.mpr ⟨trivial, List.forall_mem_cons.mpr ⟨trivial, List.forall_mem_cons.mpr ⟨trivial, List.forall_mem_cons.mpr ⟨trivial, List.forall_mem_cons.mpr ⟨trivial, List.forall_mem_cons.mpr ⟨trivial, List.forall_mem_cons.mpr ⟨trivial, List.forall_mem_cons.mpr ⟨trivial, List.forall_mem_cons.mpr ⟨trivial, List.forall_mem_cons.mpr ⟨trivial, List.forall_mem_cons.mpr ⟨trivial, List.forall_mem_cons.mpr ⟨trivial, List.forall_mem_cons.mpr ⟨trivial, List.forall_mem_cons.mpr ⟨trivial, List.forall_mem_cons.mpr ⟨⟨ml_Perm_31, xms_Perm_lineOfWeave⟩, List.forall_mem_cons.mpr ⟨trivial, List.forall_mem_cons.mpr ⟨trivial, List.forall_mem_cons.mpr ⟨trivial, fun _ h => absurd h List.not_mem_nil⟩⟩⟩⟩⟩⟩⟩⟩⟩⟩⟩⟩⟩⟩⟩⟩⟩⟩⟩⟩⟩⟩⟩⟩⟩⟩⟩⟩⟩⟩⟩⟩⟩⟩⟩⟩⟩⟩⟩⟩⟩⟩⟩⟩⟩⟩⟩⟩⟩⟩⟩⟩⟩⟩⟩⟩⟩
def k_Perm_ofKind : xCd := [
  (0, .iconst 0, 1, .inr (.inr (.inl (nI 0)))),
  (1, .istore_n 3, 1, .inl (0, 0)),
  (2, .iconst 0, 1, .inr (.inr (.inl (nI 0)))),
  (3, .istore 4, 2, .inl (0, 0)),
  (5, .iload 4, 2, .inl (0, 0)),
  (7, .iload_n 2, 1, .inl (0, 0)),
  (8, .if_icmp .ge 24, 3, .inl (32, 0)),
  (11, .iload_n 3, 1, .inl (0, 0)),
  (12, .iload 4, 2, .inl (0, 0)),
  (14, .iload_n 0, 1, .inl (0, 0)),
  (15, .iload_n 1, 1, .inl (0, 0)),
  (16, .iload_n 2, 1, .inl (0, 0)),
  (17, .iload 4, 2, .inl (0, 0)),
  (19, .invokestatic 25, 3, .inr (.inl g_Perm_lineOfKind)),
  (22, .invokestatic 21, 3, .inr (.inl g_Row_with)),
  (25, .istore_n 3, 1, .inl (0, 0)),
  (26, .iinc 4 1, 3, .inr (.inr (.inl (nI 1)))),
  (29, .goto (-24), 3, .inl (5, 0)),
  (32, .iload_n 3, 1, .inl (0, 0)),
  (33, .ireturn, 1, .inl (0, 0))]
set_option maxRecDepth 100000 in
set_option maxHeartbeats 4000000 in
theorem ok_Perm_ofKind : xOK g_Perm_ofKind k_Perm_ofKind := ⟨by decide +kernel, by decide +kernel, List.forall_mem_cons.mpr ⟨trivial, List.forall_mem_cons.mpr ⟨trivial, List.forall_mem_cons.mpr ⟨trivial, List.forall_mem_cons.mpr ⟨trivial, List.forall_mem_cons.mpr ⟨trivial, List.forall_mem_cons.mpr ⟨trivial, List.forall_mem_cons.mpr ⟨trivial, List.forall_mem_cons.mpr ⟨trivial, List.forall_mem_cons.mpr ⟨trivial, List.forall_mem_cons.mpr ⟨trivial, List.forall_mem_cons.mpr ⟨trivial, List.forall_mem_cons.mpr ⟨trivial, List.forall_mem_cons.mpr ⟨trivial, List.forall_mem_cons.mpr ⟨⟨ml_Perm_25, xms_Perm_lineOfKind⟩, List.forall_mem_cons.mpr ⟨⟨ml_Perm_21, xms_Row_with⟩, List.forall_mem_cons.mpr ⟨trivial, List.forall_mem_cons.mpr ⟨trivial, List.forall_mem_cons.mpr ⟨trivial, List.forall_mem_cons.mpr ⟨trivial, List.forall_mem_cons.mpr ⟨trivial, fun _ h => absurd h List.not_mem_nil⟩⟩⟩⟩⟩⟩⟩⟩⟩⟩⟩⟩⟩⟩⟩⟩⟩⟩⟩⟩⟩
def k_Perm_inverse : xCd := [
  (0, .iconst 0, 1, .inr (.inr (.inl (nI 0)))),
  (1, .istore_n 2, 1, .inl (0, 0)),
  (2, .iconst 0, 1, .inr (.inr (.inl (nI 0)))),
  (3, .istore_n 3, 1, .inl (0, 0)),
  (4, .iload_n 3, 1, .inl (0, 0)),
  (5, .iload_n 1, 1, .inl (0, 0)),
  (6, .if_icmp .ge 20, 3, .inl (26, 0)),
  (9, .iload_n 2, 1, .inl (0, 0)),
  (10, .iload_n 0, 1, .inl (0, 0)),
  (11, .iload_n 3, 1, .inl (0, 0)),
  (12, .invokestatic 9, 3, .inr (.inl g_Row_entry)),
  (15, .iload_n 3, 1, .inl (0, 0)),
  (16, .invokestatic 21, 3, .inr (.inl g_Row_with)),
  (19, .istore_n 2, 1, .inl (0, 0)),
  (20, .iinc 3 1, 3, .inr (.inr (.inl (nI 1)))),
  (23, .goto (-19), 3, .inl (4, 0)),
  (26, .iload_n 2, 1, .inl (0, 0)),
  (27, .ireturn, 1, .inl (0, 0))]
set_option maxRecDepth 100000 in
set_option maxHeartbeats 4000000 in
theorem ok_Perm_inverse : xOK g_Perm_inverse k_Perm_inverse := ⟨by decide +kernel, by decide +kernel, List.forall_mem_cons.mpr ⟨trivial, List.forall_mem_cons.mpr ⟨trivial, List.forall_mem_cons.mpr ⟨trivial, List.forall_mem_cons.mpr ⟨trivial, List.forall_mem_cons.mpr ⟨trivial, List.forall_mem_cons.mpr ⟨trivial, List.forall_mem_cons.mpr ⟨trivial, List.forall_mem_cons.mpr ⟨trivial, List.forall_mem_cons.mpr ⟨trivial, List.forall_mem_cons.mpr ⟨trivial, List.forall_mem_cons.mpr ⟨⟨ml_Perm_9, xms_Row_entry⟩, List.forall_mem_cons.mpr ⟨trivial, List.forall_mem_cons.mpr ⟨⟨ml_Perm_21, xms_Row_with⟩, List.forall_mem_cons.mpr ⟨trivial, List.forall_mem_cons.mpr ⟨trivial, List.forall_mem_cons.mpr ⟨trivial, List.forall_mem_cons.mpr ⟨trivial, List.forall_mem_cons.mpr ⟨trivial, fun _ h => absurd h List.not_mem_nil⟩⟩⟩⟩⟩⟩⟩⟩⟩⟩⟩⟩⟩⟩⟩⟩⟩⟩⟩
def k_Perm_repeated : xCd := [
  (0, .iload_n 2, 1, .inl (0, 0)),
  (1, .invokestatic 34, 3, .inr (.inl g_Row_ascending)),
  (4, .istore_n 3, 1, .inl (0, 0)),
  (5, .iload_n 0, 1, .inl (0, 0)),
  (6, .istore 4, 2, .inl (0, 0)),
  (8, .iload_n 1, 1, .inl (0, 0)),
  (9, .istore 5, 2, .inl (0, 0)),
  (11, .iload 5, 2, .inl (0, 0)),
  (13, .ifCond .le 38, 3, .inl (51, 0)),
  (16, .iload 5, 2, .inl (0, 0)),
  (18, .iconst 1, 1, .inr (.inr (.inl (nI 1)))),
  (19, .iand, 1, .inl (0, 0)),
  (20, .iconst 1, 1, .inr (.inr (.inl (nI 1)))),
  (21, .if_icmp .ne 11, 3, .inl (32, 0)),
  (24, .iload_n 3, 1, .inl (0, 0)),
  (25, .iload 4, 2, .inl (0, 0)),
  (27, .iload_n 2, 1, .inl (0, 0)),
  (28, .invokestatic 37, 3, .inr (.inl g_Row_turned)),
  (31, .istore_n 3, 1, .inl (0, 0)),
  (32, .iload 4, 2, .inl (0, 0)),
  (34, .iload 4, 2, .inl (0, 0)),
  (36, .iload_n 2, 1, .inl (0, 0)),
  (37, .invokestatic 37, 3, .inr (.inl g_Row_turned)),
  (40, .istore 4, 2, .inl (0, 0)),
  (42, .iload 5, 2, .inl (0, 0)),
  (44, .iconst 1, 1, .inr (.inr (.inl (nI 1)))),
  (45, .ishr, 1, .inl (0, 0)),
  (46, .istore 5, 2, .inl (0, 0)),
  (48, .goto (-37), 3, .inl (11, 0)),
  (51, .iload_n 3, 1, .inl (0, 0)),
  (52, .ireturn, 1, .inl (0, 0))]
set_option maxRecDepth 100000 in
set_option maxHeartbeats 4000000 in
theorem ok_Perm_repeated : xOK g_Perm_repeated k_Perm_repeated := ⟨by decide +kernel, by decide +kernel, List.forall_mem_cons.mpr ⟨trivial, List.forall_mem_cons.mpr ⟨⟨ml_Perm_34, xms_Row_ascending⟩, List.forall_mem_cons.mpr ⟨trivial, List.forall_mem_cons.mpr ⟨trivial, List.forall_mem_cons.mpr ⟨trivial, List.forall_mem_cons.mpr ⟨trivial, List.forall_mem_cons.mpr ⟨trivial, List.forall_mem_cons.mpr ⟨trivial, List.forall_mem_cons.mpr ⟨trivial, List.forall_mem_cons.mpr ⟨trivial, List.forall_mem_cons.mpr ⟨trivial, List.forall_mem_cons.mpr ⟨trivial, List.forall_mem_cons.mpr ⟨trivial, List.forall_mem_cons.mpr ⟨trivial, List.forall_mem_cons.mpr ⟨trivial, List.forall_mem_cons.mpr ⟨trivial, List.forall_mem_cons.mpr ⟨trivial, List.forall_mem_cons.mpr ⟨⟨ml_Perm_37, xms_Row_turned⟩, List.forall_mem_cons.mpr ⟨trivial, List.forall_mem_cons.mpr ⟨trivial, List.forall_mem_cons.mpr ⟨trivial, List.forall_mem_cons.mpr ⟨trivial, List.forall_mem_cons.mpr ⟨⟨ml_Perm_37, xms_Row_turned⟩, List.forall_mem_cons.mpr ⟨trivial, List.forall_mem_cons.mpr ⟨trivial, List.forall_mem_cons.mpr ⟨trivial, List.forall_mem_cons.mpr ⟨trivial, List.forall_mem_cons.mpr ⟨trivial, List.forall_mem_cons.mpr ⟨trivial, List.forall_mem_cons.mpr ⟨trivial, List.forall_mem_cons.mpr ⟨trivial, fun _ h => absurd h List.not_mem_nil⟩⟩⟩⟩⟩⟩⟩⟩⟩⟩⟩⟩⟩⟩⟩⟩⟩⟩⟩⟩⟩⟩⟩⟩⟩⟩⟩⟩⟩⟩⟩⟩
def k_Perm_firstRoot : xCd := [
  (0, .iload_n 2, 1, .inl (0, 0)),
  (1, .invokestatic 40, 3, .inr (.inl g_Perm_count)),
  (4, .istore_n 3, 1, .inl (0, 0)),
  (5, .iconst 0, 1, .inr (.inr (.inl (nI 0)))),
  (6, .istore 4, 2, .inl (0, 0)),
  (8, .iload 4, 2, .inl (0, 0)),
  (10, .iload_n 3, 1, .inl (0, 0)),
  (11, .if_icmp .ge 31, 3, .inl (42, 0)),
  (14, .iload 4, 2, .inl (0, 0)),
  (16, .iload_n 2, 1, .inl (0, 0)),
  (17, .invokestatic 43, 3, .inr (.inl g_Perm_numbered)),
  (20, .istore 5, 2, .inl (0, 0)),
  (22, .iload 5, 2, .inl (0, 0)),
  (24, .iload_n 1, 1, .inl (0, 0)),
  (25, .iload_n 2, 1, .inl (0, 0)),
  (26, .invokestatic 46, 3, .inr (.inl g_Perm_repeated)),
  (29, .iload_n 0, 1, .inl (0, 0)),
  (30, .if_icmp .ne 6, 3, .inl (36, 0)),
  (33, .iload 5, 2, .inl (0, 0)),
  (35, .ireturn, 1, .inl (0, 0)),
  (36, .iinc 4 1, 3, .inr (.inr (.inl (nI 1)))),
  (39, .goto (-31), 3, .inl (8, 0)),
  (42, .iconst (-1), 1, .inr (.inr (.inl (-1)))),
  (43, .ireturn, 1, .inl (0, 0))]
set_option maxRecDepth 100000 in
set_option maxHeartbeats 4000000 in
theorem ok_Perm_firstRoot : xOK g_Perm_firstRoot k_Perm_firstRoot := ⟨by decide +kernel, by decide +kernel, List.forall_mem_cons.mpr ⟨trivial, List.forall_mem_cons.mpr ⟨⟨ml_Perm_40, xms_Perm_count⟩, List.forall_mem_cons.mpr ⟨trivial, List.forall_mem_cons.mpr ⟨trivial, List.forall_mem_cons.mpr ⟨trivial, List.forall_mem_cons.mpr ⟨trivial, List.forall_mem_cons.mpr ⟨trivial, List.forall_mem_cons.mpr ⟨trivial, List.forall_mem_cons.mpr ⟨trivial, List.forall_mem_cons.mpr ⟨trivial, List.forall_mem_cons.mpr ⟨⟨ml_Perm_43, xms_Perm_numbered⟩, List.forall_mem_cons.mpr ⟨trivial, List.forall_mem_cons.mpr ⟨trivial, List.forall_mem_cons.mpr ⟨trivial, List.forall_mem_cons.mpr ⟨trivial, List.forall_mem_cons.mpr ⟨⟨ml_Perm_46, xms_Perm_repeated⟩, List.forall_mem_cons.mpr ⟨trivial, List.forall_mem_cons.mpr ⟨trivial, List.forall_mem_cons.mpr ⟨trivial, List.forall_mem_cons.mpr ⟨trivial, List.forall_mem_cons.mpr ⟨trivial, List.forall_mem_cons.mpr ⟨trivial, List.forall_mem_cons.mpr ⟨trivial, List.forall_mem_cons.mpr ⟨trivial, fun _ h => absurd h List.not_mem_nil⟩⟩⟩⟩⟩⟩⟩⟩⟩⟩⟩⟩⟩⟩⟩⟩⟩⟩⟩⟩⟩⟩⟩⟩⟩
def k_Perm_order : xCd := [
  (0, .iload_n 1, 1, .inl (0, 0)),
  (1, .invokestatic 34, 3, .inr (.inl g_Row_ascending)),
  (4, .istore_n 2, 1, .inl (0, 0)),
  (5, .iload_n 0, 1, .inl (0, 0)),
  (6, .istore_n 3, 1, .inl (0, 0)),
  (7, .iconst 1, 1, .inr (.inr (.inl (nI 1)))),
  (8, .istore 4, 2, .inl (0, 0)),
  (10, .iload_n 3, 1, .inl (0, 0)),
  (11, .iload_n 2, 1, .inl (0, 0)),
  (12, .if_icmp .eq 23, 3, .inl (35, 0)),
  (15, .iload 4, 2, .inl (0, 0)),
  (17, .bipush 12, 2, .inr (.inr (.inl (nI 12)))),
  (19, .if_icmp .ge 16, 3, .inl (35, 0)),
  (22, .iload_n 3, 1, .inl (0, 0)),
  (23, .iload_n 0, 1, .inl (0, 0)),
  (24, .iload_n 1, 1, .inl (0, 0)),
  (25, .invokestatic 37, 3, .inr (.inl g_Row_turned)),
  (28, .istore_n 3, 1, .inl (0, 0)),
  (29, .iinc 4 1, 3, .inr (.inr (.inl (nI 1)))),
  (32, .goto (-22), 3, .inl (10, 0)),
  (35, .iload 4, 2, .inl (0, 0)),
  (37, .ireturn, 1, .inl (0, 0))]
set_option maxRecDepth 100000 in
set_option maxHeartbeats 4000000 in
theorem ok_Perm_order : xOK g_Perm_order k_Perm_order := ⟨by decide +kernel, by decide +kernel, List.forall_mem_cons.mpr ⟨trivial, List.forall_mem_cons.mpr ⟨⟨ml_Perm_34, xms_Row_ascending⟩, List.forall_mem_cons.mpr ⟨trivial, List.forall_mem_cons.mpr ⟨trivial, List.forall_mem_cons.mpr ⟨trivial, List.forall_mem_cons.mpr ⟨trivial, List.forall_mem_cons.mpr ⟨trivial, List.forall_mem_cons.mpr ⟨trivial, List.forall_mem_cons.mpr ⟨trivial, List.forall_mem_cons.mpr ⟨trivial, List.forall_mem_cons.mpr ⟨trivial, List.forall_mem_cons.mpr ⟨trivial, List.forall_mem_cons.mpr ⟨trivial, List.forall_mem_cons.mpr ⟨trivial, List.forall_mem_cons.mpr ⟨trivial, List.forall_mem_cons.mpr ⟨trivial, List.forall_mem_cons.mpr ⟨⟨ml_Perm_37, xms_Row_turned⟩, List.forall_mem_cons.mpr ⟨trivial, List.forall_mem_cons.mpr ⟨trivial, List.forall_mem_cons.mpr ⟨trivial, List.forall_mem_cons.mpr ⟨trivial, List.forall_mem_cons.mpr ⟨trivial, fun _ h => absurd h List.not_mem_nil⟩⟩⟩⟩⟩⟩⟩⟩⟩⟩⟩⟩⟩⟩⟩⟩⟩⟩⟩⟩⟩⟩⟩
def k_Perm_cycleOf : xCd := [
  (0, .iload_n 0, 1, .inl (0, 0)),
  (1, .iload_n 1, 1, .inl (0, 0)),
  (2, .invokestatic 9, 3, .inr (.inl g_Row_entry)),
  (5, .istore_n 3, 1, .inl (0, 0)),
  (6, .iconst 1, 1, .inr (.inr (.inl (nI 1)))),
  (7, .istore 4, 2, .inl (0, 0)),
  (9, .iload_n 3, 1, .inl (0, 0)),
  (10, .iload_n 1, 1, .inl (0, 0)),
  (11, .if_icmp .le 21, 3, .inl (32, 0)),
  (14, .iload 4, 2, .inl (0, 0)),
  (16, .iload_n 2, 1, .inl (0, 0)),
  (17, .if_icmp .ge 15, 3, .inl (32, 0)),
  (20, .iload_n 0, 1, .inl (0, 0)),
  (21, .iload_n 3, 1, .inl (0, 0)),
  (22, .invokestatic 9, 3, .inr (.inl g_Row_entry)),
  (25, .istore_n 3, 1, .inl (0, 0)),
  (26, .iinc 4 1, 3, .inr (.inr (.inl (nI 1)))),
  (29, .goto (-20), 3, .inl (9, 0)),
  (32, .iload_n 3, 1, .inl (0, 0)),
  (33, .iload_n 1, 1, .inl (0, 0)),
  (34, .if_icmp .ne 8, 3, .inl (42, 0)),
  (37, .iload 4, 2, .inl (0, 0)),
  (39, .goto 4, 3, .inl (43, 0)),
  (42, .iconst 0, 1, .inr (.inr (.inl (nI 0)))),
  (43, .ireturn, 1, .inl (0, 0))]
set_option maxRecDepth 100000 in
set_option maxHeartbeats 4000000 in
theorem ok_Perm_cycleOf : xOK g_Perm_cycleOf k_Perm_cycleOf := ⟨by decide +kernel, by decide +kernel, List.forall_mem_cons.mpr ⟨trivial, List.forall_mem_cons.mpr ⟨trivial, List.forall_mem_cons.mpr ⟨⟨ml_Perm_9, xms_Row_entry⟩, List.forall_mem_cons.mpr ⟨trivial, List.forall_mem_cons.mpr ⟨trivial, List.forall_mem_cons.mpr ⟨trivial, List.forall_mem_cons.mpr ⟨trivial, List.forall_mem_cons.mpr ⟨trivial, List.forall_mem_cons.mpr ⟨trivial, List.forall_mem_cons.mpr ⟨trivial, List.forall_mem_cons.mpr ⟨trivial, List.forall_mem_cons.mpr ⟨trivial, List.forall_mem_cons.mpr ⟨trivial, List.forall_mem_cons.mpr ⟨trivial, List.forall_mem_cons.mpr ⟨⟨ml_Perm_9, xms_Row_entry⟩, List.forall_mem_cons.mpr ⟨trivial, List.forall_mem_cons.mpr ⟨trivial, List.forall_mem_cons.mpr ⟨trivial, List.forall_mem_cons.mpr ⟨trivial, List.forall_mem_cons.mpr ⟨trivial, List.forall_mem_cons.mpr ⟨trivial, List.forall_mem_cons.mpr ⟨trivial, List.forall_mem_cons.mpr ⟨trivial, List.forall_mem_cons.mpr ⟨trivial, List.forall_mem_cons.mpr ⟨trivial, fun _ h => absurd h List.not_mem_nil⟩⟩⟩⟩⟩⟩⟩⟩⟩⟩⟩⟩⟩⟩⟩⟩⟩⟩⟩⟩⟩⟩⟩⟩⟩⟩
def k_Perm_cycles : xCd := [
  (0, .iconst 0, 1, .inr (.inr (.inl (nI 0)))),
  (1, .istore_n 2, 1, .inl (0, 0)),
  (2, .iconst 0, 1, .inr (.inr (.inl (nI 0)))),
  (3, .istore_n 3, 1, .inl (0, 0)),
  (4, .iload_n 3, 1, .inl (0, 0)),
  (5, .iload_n 1, 1, .inl (0, 0)),
  (6, .if_icmp .ge 21, 3, .inl (27, 0)),
  (9, .iload_n 0, 1, .inl (0, 0)),
  (10, .iload_n 3, 1, .inl (0, 0)),
  (11, .iload_n 1, 1, .inl (0, 0)),
  (12, .invokestatic 67, 3, .inr (.inl g_Perm_cycleOf)),
  (15, .ifCond .le 6, 3, .inl (21, 0)),
  (18, .iinc 2 1, 3, .inr (.inr (.inl (nI 1)))),
  (21, .iinc 3 1, 3, .inr (.inr (.inl (nI 1)))),
  (24, .goto (-20), 3, .inl (4, 0)),
  (27, .iload_n 2, 1, .inl (0, 0)),
  (28, .ireturn, 1, .inl (0, 0))]
set_option maxRecDepth 100000 in
set_option maxHeartbeats 4000000 in
theorem ok_Perm_cycles : xOK g_Perm_cycles k_Perm_cycles := ⟨by decide +kernel, by decide +kernel, List.forall_mem_cons.mpr ⟨trivial, List.forall_mem_cons.mpr ⟨trivial, List.forall_mem_cons.mpr ⟨trivial, List.forall_mem_cons.mpr ⟨trivial, List.forall_mem_cons.mpr ⟨trivial, List.forall_mem_cons.mpr ⟨trivial, List.forall_mem_cons.mpr ⟨trivial, List.forall_mem_cons.mpr ⟨trivial, List.forall_mem_cons.mpr ⟨trivial, List.forall_mem_cons.mpr ⟨trivial, List.forall_mem_cons.mpr ⟨⟨ml_Perm_67, xms_Perm_cycleOf⟩, List.forall_mem_cons.mpr ⟨trivial, List.forall_mem_cons.mpr ⟨trivial, List.forall_mem_cons.mpr ⟨trivial, List.forall_mem_cons.mpr ⟨trivial, List.forall_mem_cons.mpr ⟨trivial, List.forall_mem_cons.mpr ⟨trivial, fun _ h => absurd h List.not_mem_nil⟩⟩⟩⟩⟩⟩⟩⟩⟩⟩⟩⟩⟩⟩⟩⟩⟩⟩
def k_Perm_fixedLines : xCd := [
  (0, .iconst 0, 1, .inr (.inr (.inl (nI 0)))),
  (1, .istore_n 2, 1, .inl (0, 0)),
  (2, .iconst 0, 1, .inr (.inr (.inl (nI 0)))),
  (3, .istore_n 3, 1, .inl (0, 0)),
  (4, .iload_n 3, 1, .inl (0, 0)),
  (5, .iload_n 1, 1, .inl (0, 0)),
  (6, .if_icmp .ge 21, 3, .inl (27, 0)),
  (9, .iload_n 0, 1, .inl (0, 0)),
  (10, .iload_n 3, 1, .inl (0, 0)),
  (11, .invokestatic 9, 3, .inr (.inl g_Row_entry)),
  (14, .iload_n 3, 1, .inl (0, 0)),
  (15, .if_icmp .ne 6, 3, .inl (21, 0)),
  (18, .iinc 2 1, 3, .inr (.inr (.inl (nI 1)))),
  (21, .iinc 3 1, 3, .inr (.inr (.inl (nI 1)))),
  (24, .goto (-20), 3, .inl (4, 0)),
  (27, .iload_n 2, 1, .inl (0, 0)),
  (28, .ireturn, 1, .inl (0, 0))]
set_option maxRecDepth 100000 in
set_option maxHeartbeats 4000000 in
theorem ok_Perm_fixedLines : xOK g_Perm_fixedLines k_Perm_fixedLines := ⟨by decide +kernel, by decide +kernel, List.forall_mem_cons.mpr ⟨trivial, List.forall_mem_cons.mpr ⟨trivial, List.forall_mem_cons.mpr ⟨trivial, List.forall_mem_cons.mpr ⟨trivial, List.forall_mem_cons.mpr ⟨trivial, List.forall_mem_cons.mpr ⟨trivial, List.forall_mem_cons.mpr ⟨trivial, List.forall_mem_cons.mpr ⟨trivial, List.forall_mem_cons.mpr ⟨trivial, List.forall_mem_cons.mpr ⟨⟨ml_Perm_9, xms_Row_entry⟩, List.forall_mem_cons.mpr ⟨trivial, List.forall_mem_cons.mpr ⟨trivial, List.forall_mem_cons.mpr ⟨trivial, List.forall_mem_cons.mpr ⟨trivial, List.forall_mem_cons.mpr ⟨trivial, List.forall_mem_cons.mpr ⟨trivial, List.forall_mem_cons.mpr ⟨trivial, fun _ h => absurd h List.not_mem_nil⟩⟩⟩⟩⟩⟩⟩⟩⟩⟩⟩⟩⟩⟩⟩⟩⟩⟩
def k_Perm_longestCycle : xCd := [
  (0, .iconst 0, 1, .inr (.inr (.inl (nI 0)))),
  (1, .istore_n 2, 1, .inl (0, 0)),
  (2, .iconst 0, 1, .inr (.inr (.inl (nI 0)))),
  (3, .istore_n 3, 1, .inl (0, 0)),
  (4, .iload_n 3, 1, .inl (0, 0)),
  (5, .iload_n 1, 1, .inl (0, 0)),
  (6, .if_icmp .ge 20, 3, .inl (26, 0)),
  (9, .iload_n 2, 1, .inl (0, 0)),
  (10, .iload_n 0, 1, .inl (0, 0)),
  (11, .iload_n 3, 1, .inl (0, 0)),
  (12, .iload_n 1, 1, .inl (0, 0)),
  (13, .invokestatic 67, 3, .inr (.inl g_Perm_cycleOf)),
  (16, .invokestatic 70, 3, .inr (.inr (.inr (.inr (0, []))))),
  (19, .istore_n 2, 1, .inl (0, 0)),
  (20, .iinc 3 1, 3, .inr (.inr (.inl (nI 1)))),
  (23, .goto (-19), 3, .inl (4, 0)),
  (26, .iload_n 2, 1, .inl (0, 0)),
  (27, .ireturn, 1, .inl (0, 0))]
set_option maxRecDepth 100000 in
set_option maxHeartbeats 4000000 in
theorem ok_Perm_longestCycle : xOK g_Perm_longestCycle k_Perm_longestCycle := ⟨by decide +kernel, by decide +kernel, List.forall_mem_cons.mpr ⟨trivial, List.forall_mem_cons.mpr ⟨trivial, List.forall_mem_cons.mpr ⟨trivial, List.forall_mem_cons.mpr ⟨trivial, List.forall_mem_cons.mpr ⟨trivial, List.forall_mem_cons.mpr ⟨trivial, List.forall_mem_cons.mpr ⟨trivial, List.forall_mem_cons.mpr ⟨trivial, List.forall_mem_cons.mpr ⟨trivial, List.forall_mem_cons.mpr ⟨trivial, List.forall_mem_cons.mpr ⟨trivial, List.forall_mem_cons.mpr ⟨⟨ml_Perm_67, xms_Perm_cycleOf⟩, List.forall_mem_cons.mpr ⟨⟨lw_gm 520 rfl rfl, lw_gm 521 rfl rfl, lw_gm 82 rfl rfl, lw_gm 522 rfl rfl⟩, List.forall_mem_cons.mpr ⟨trivial, List.forall_mem_cons.mpr ⟨trivial, List.forall_mem_cons.mpr ⟨trivial, List.forall_mem_cons.mpr ⟨trivial, List.forall_mem_cons.mpr ⟨trivial, fun _ h => absurd h List.not_mem_nil⟩⟩⟩⟩⟩⟩⟩⟩⟩⟩⟩⟩⟩⟩⟩⟩⟩⟩⟩
def k_Perm_cycleType : xCd := [
  (0, .iconst 0, 1, .inr (.inr (.inl (nI 0)))),
  (1, .istore_n 2, 1, .inl (0, 0)),
  (2, .iconst 0, 1, .inr (.inr (.inl (nI 0)))),
  (3, .istore_n 3, 1, .inl (0, 0)),
  (4, .iload_n 3, 1, .inl (0, 0)),
  (5, .iload_n 1, 1, .inl (0, 0)),
  (6, .if_icmp .ge 33, 3, .inl (39, 0)),
  (9, .iload_n 0, 1, .inl (0, 0)),
  (10, .iload_n 3, 1, .inl (0, 0)),
  (11, .iload_n 1, 1, .inl (0, 0)),
  (12, .invokestatic 67, 3, .inr (.inl g_Perm_cycleOf)),
  (15, .istore 4, 2, .inl (0, 0)),
  (17, .iload 4, 2, .inl (0, 0)),
  (19, .ifCond .le 14, 3, .inl (33, 0)),
  (22, .iload_n 2, 1, .inl (0, 0)),
  (23, .iconst 1, 1, .inr (.inr (.inl (nI 1)))),
  (24, .iconst 3, 1, .inr (.inr (.inl (nI 3)))),
  (25, .iload 4, 2, .inl (0, 0)),
  (27, .iconst 1, 1, .inr (.inr (.inl (nI 1)))),
  (28, .isub, 1, .inl (0, 0)),
  (29, .imul, 1, .inl (0, 0)),
  (30, .ishl, 1, .inl (0, 0)),
  (31, .iadd, 1, .inl (0, 0)),
  (32, .istore_n 2, 1, .inl (0, 0)),
  (33, .iinc 3 1, 3, .inr (.inr (.inl (nI 1)))),
  (36, .goto (-32), 3, .inl (4, 0)),
  (39, .iload_n 2, 1, .inl (0, 0)),
  (40, .ireturn, 1, .inl (0, 0))]
set_option maxRecDepth 100000 in
set_option maxHeartbeats 4000000 in
theorem ok_Perm_cycleType : xOK g_Perm_cycleType k_Perm_cycleType := ⟨by decide +kernel, by decide +kernel, List.forall_mem_cons.mpr ⟨trivial, List.forall_mem_cons.mpr ⟨trivial, List.forall_mem_cons.mpr ⟨trivial, List.forall_mem_cons.mpr ⟨trivial, List.forall_mem_cons.mpr ⟨trivial, List.forall_mem_cons.mpr ⟨trivial, List.forall_mem_cons.mpr ⟨trivial, List.forall_mem_cons.mpr ⟨trivial, List.forall_mem_cons.mpr ⟨trivial, List.forall_mem_cons.mpr ⟨trivial, List.forall_mem_cons.mpr ⟨⟨ml_Perm_67, xms_Perm_cycleOf⟩, List.forall_mem_cons.mpr ⟨trivial, List.forall_mem_cons.mpr ⟨trivial, List.forall_mem_cons.mpr ⟨trivial, List.forall_mem_cons.mpr ⟨trivial, List.forall_mem_cons.mpr ⟨trivial, List.forall_mem_cons.mpr ⟨trivial, List.forall_mem_cons.mpr ⟨trivial, List.forall_mem_cons.mpr ⟨trivial, List.forall_mem_cons.mpr ⟨trivial, List.forall_mem_cons.mpr ⟨trivial, List.forall_mem_cons.mpr ⟨trivial, List.forall_mem_cons.mpr ⟨trivial, List.forall_mem_cons.mpr ⟨trivial, List.forall_mem_cons.mpr ⟨trivial, List.forall_mem_cons.mpr ⟨trivial, List.forall_mem_cons.mpr ⟨trivial, List.forall_mem_cons.mpr ⟨trivial, fun _ h => absurd h List.not_mem_nil⟩⟩⟩⟩⟩⟩⟩⟩⟩⟩⟩⟩⟩⟩⟩⟩⟩⟩⟩⟩⟩⟩⟩⟩⟩⟩⟩⟩⟩
def k_Perm_property : xCd := [
  (0, .iload_n 1, 1, .inl (0, 0)),
  (1, .tableswitch 79 0 5 #[39, 45, 51, 57, 63, 69], 39, .inr (.inr (.inr (.inr (80, [(nI 0, 40), (nI 1, 46), (nI 2, 52), (nI 3, 58), (nI 4, 64), (nI 5, 70)]))))),
  (40, .iload_n 0, 1, .inl (0, 0)),
  (41, .iload_n 2, 1, .inl (0, 0)),
  (42, .invokestatic 49, 3, .inr (.inl g_Perm_number)),
  (45, .ireturn, 1, .inl (0, 0)),
  (46, .iload_n 0, 1, .inl (0, 0)),
  (47, .iload_n 2, 1, .inl (0, 0)),
  (48, .invokestatic 52, 3, .inr (.inl g_Perm_order)),
  (51, .ireturn, 1, .inl (0, 0)),
  (52, .iload_n 0, 1, .inl (0, 0)),
  (53, .iload_n 2, 1, .inl (0, 0)),
  (54, .invokestatic 55, 3, .inr (.inl g_Perm_cycles)),
  (57, .ireturn, 1, .inl (0, 0)),
  (58, .iload_n 0, 1, .inl (0, 0)),
  (59, .iload_n 2, 1, .inl (0, 0)),
  (60, .invokestatic 58, 3, .inr (.inl g_Perm_fixedLines)),
  (63, .ireturn, 1, .inl (0, 0)),
  (64, .iload_n 0, 1, .inl (0, 0)),
  (65, .iload_n 2, 1, .inl (0, 0)),
  (66, .invokestatic 61, 3, .inr (.inl g_Perm_longestCycle)),
  (69, .ireturn, 1, .inl (0, 0)),
  (70, .iload_n 2, 1, .inl (0, 0)),
  (71, .iload_n 0, 1, .inl (0, 0)),
  (72, .iload_n 2, 1, .inl (0, 0)),
  (73, .invokestatic 55, 3, .inr (.inl g_Perm_cycles)),
  (76, .isub, 1, .inl (0, 0)),
  (77, .iconst 1, 1, .inr (.inr (.inl (nI 1)))),
  (78, .iand, 1, .inl (0, 0)),
  (79, .ireturn, 1, .inl (0, 0)),
  (80, .iload_n 0, 1, .inl (0, 0)),
  (81, .iload_n 2, 1, .inl (0, 0)),
  (82, .invokestatic 64, 3, .inr (.inl g_Perm_cycleType)),
  (85, .ireturn, 1, .inl (0, 0))]
set_option maxRecDepth 100000 in
set_option maxHeartbeats 4000000 in
theorem ok_Perm_property : xOK g_Perm_property k_Perm_property := ⟨by decide +kernel, by decide +kernel, List.forall_mem_cons.mpr ⟨trivial, List.forall_mem_cons.mpr ⟨trivial, List.forall_mem_cons.mpr ⟨trivial, List.forall_mem_cons.mpr ⟨trivial, List.forall_mem_cons.mpr ⟨⟨ml_Perm_49, xms_Perm_number⟩, List.forall_mem_cons.mpr ⟨trivial, List.forall_mem_cons.mpr ⟨trivial, List.forall_mem_cons.mpr ⟨trivial, List.forall_mem_cons.mpr ⟨⟨ml_Perm_52, xms_Perm_order⟩, List.forall_mem_cons.mpr ⟨trivial, List.forall_mem_cons.mpr ⟨trivial, List.forall_mem_cons.mpr ⟨trivial, List.forall_mem_cons.mpr ⟨⟨ml_Perm_55, xms_Perm_cycles⟩, List.forall_mem_cons.mpr ⟨trivial, List.forall_mem_cons.mpr ⟨trivial, List.forall_mem_cons.mpr ⟨trivial, List.forall_mem_cons.mpr ⟨⟨ml_Perm_58, xms_Perm_fixedLines⟩, List.forall_mem_cons.mpr ⟨trivial, List.forall_mem_cons.mpr ⟨trivial, List.forall_mem_cons.mpr ⟨trivial, List.forall_mem_cons.mpr ⟨⟨ml_Perm_61, xms_Perm_longestCycle⟩, List.forall_mem_cons.mpr ⟨trivial, List.forall_mem_cons.mpr ⟨trivial, List.forall_mem_cons.mpr ⟨trivial, List.forall_mem_cons.mpr ⟨trivial, List.forall_mem_cons.mpr ⟨⟨ml_Perm_55, xms_Perm_cycles⟩, List.forall_mem_cons.mpr ⟨trivial, List.forall_mem_cons.mpr ⟨trivial, List.forall_mem_cons.mpr ⟨trivial, List.forall_mem_cons.mpr ⟨trivial, List.forall_mem_cons.mpr ⟨trivial, List.forall_mem_cons.mpr ⟨trivial, List.forall_mem_cons.mpr ⟨⟨ml_Perm_64, xms_Perm_cycleType⟩, List.forall_mem_cons.mpr ⟨trivial, fun _ h => absurd h List.not_mem_nil⟩⟩⟩⟩⟩⟩⟩⟩⟩⟩⟩⟩⟩⟩⟩⟩⟩⟩⟩⟩⟩⟩⟩⟩⟩⟩⟩⟩⟩⟩⟩⟩⟩⟩⟩
def k_Row_entries : xCd := [
  (0, .iconst 0, 1, .inr (.inr (.inl (nI 0)))),
  (1, .istore_n 2, 1, .inl (0, 0)),
  (2, .iconst 0, 1, .inr (.inr (.inl (nI 0)))),
  (3, .istore_n 3, 1, .inl (0, 0)),
  (4, .iload_n 3, 1, .inl (0, 0)),
  (5, .iload_n 1, 1, .inl (0, 0)),
  (6, .if_icmp .ge 19, 3, .inl (25, 0)),
  (9, .iload_n 2, 1, .inl (0, 0)),
  (10, .iconst 1, 1, .inr (.inr (.inl (nI 1)))),
  (11, .iload_n 0, 1, .inl (0, 0)),
  (12, .iload_n 3, 1, .inl (0, 0)),
  (13, .invokestatic 13, 3, .inr (.inl g_Row_entry)),
  (16, .ishl, 1, .inl (0, 0)),
  (17, .ior, 1, .inl (0, 0)),
  (18, .istore_n 2, 1, .inl (0, 0)),
  (19, .iinc 3 1, 3, .inr (.inr (.inl (nI 1)))),
  (22, .goto (-18), 3, .inl (4, 0)),
  (25, .iload_n 2, 1, .inl (0, 0)),
  (26, .ireturn, 1, .inl (0, 0))]
set_option maxRecDepth 100000 in
set_option maxHeartbeats 4000000 in
theorem ok_Row_entries : xOK g_Row_entries k_Row_entries := ⟨by decide +kernel, by decide +kernel, List.forall_mem_cons.mpr ⟨trivial, List.forall_mem_cons.mpr ⟨trivial, List.forall_mem_cons.mpr ⟨trivial, List.forall_mem_cons.mpr ⟨trivial, List.forall_mem_cons.mpr ⟨trivial, List.forall_mem_cons.mpr ⟨trivial, List.forall_mem_cons.mpr ⟨trivial, List.forall_mem_cons.mpr ⟨trivial, List.forall_mem_cons.mpr ⟨trivial, List.forall_mem_cons.mpr ⟨trivial, List.forall_mem_cons.mpr ⟨trivial, List.forall_mem_cons.mpr ⟨⟨ml_Row_13, xms_Row_entry⟩, List.forall_mem_cons.mpr ⟨trivial, List.forall_mem_cons.mpr ⟨trivial, List.forall_mem_cons.mpr ⟨trivial, List.forall_mem_cons.mpr ⟨trivial, List.forall_mem_cons.mpr ⟨trivial, List.forall_mem_cons.mpr ⟨trivial, List.forall_mem_cons.mpr ⟨trivial, fun _ h => absurd h List.not_mem_nil⟩⟩⟩⟩⟩⟩⟩⟩⟩⟩⟩⟩⟩⟩⟩⟩⟩⟩⟩⟩
def k_Row_hasEach : xCd := [
  (0, .iload_n 0, 1, .inl (0, 0)),
  (1, .iload_n 1, 1, .inl (0, 0)),
  (2, .invokestatic 17, 3, .inr (.inl g_Row_entries)),
  (5, .iconst 1, 1, .inr (.inr (.inl (nI 1)))),
  (6, .iload_n 1, 1, .inl (0, 0)),
  (7, .ishl, 1, .inl (0, 0)),
  (8, .iconst 1, 1, .inr (.inr (.inl (nI 1)))),
  (9, .isub, 1, .inl (0, 0)),
  (10, .if_icmp .ne 7, 3, .inl (17, 0)),
  (13, .iconst 1, 1, .inr (.inr (.inl (nI 1)))),
  (14, .goto 4, 3, .inl (18, 0)),
  (17, .iconst 0, 1, .inr (.inr (.inl (nI 0)))),
  (18, .ireturn, 1, .inl (0, 0))]
set_option maxRecDepth 100000 in
set_option maxHeartbeats 4000000 in
theorem ok_Row_hasEach : xOK g_Row_hasEach k_Row_hasEach := ⟨by decide +kernel, by decide +kernel, List.forall_mem_cons.mpr ⟨trivial, List.forall_mem_cons.mpr ⟨trivial, List.forall_mem_cons.mpr ⟨⟨ml_Row_17, xms_Row_entries⟩, List.forall_mem_cons.mpr ⟨trivial, List.forall_mem_cons.mpr ⟨trivial, List.forall_mem_cons.mpr ⟨trivial, List.forall_mem_cons.mpr ⟨trivial, List.forall_mem_cons.mpr ⟨trivial, List.forall_mem_cons.mpr ⟨trivial, List.forall_mem_cons.mpr ⟨trivial, List.forall_mem_cons.mpr ⟨trivial, List.forall_mem_cons.mpr ⟨trivial, List.forall_mem_cons.mpr ⟨trivial, fun _ h => absurd h List.not_mem_nil⟩⟩⟩⟩⟩⟩⟩⟩⟩⟩⟩⟩⟩⟩
def k_Txt_byteAt : xCd := [
  (0, .iload_n 1, 1, .inl (0, 0)),
  (1, .ifCond .lt 20, 3, .inl (21, 0)),
  (4, .iload_n 1, 1, .inl (0, 0)),
  (5, .aload_n 0, 1, .inl (0, 0)),
  (6, .getfield 9, 3, .inl (6, 0)),
  (9, .if_icmp .ge 12, 3, .inl (21, 0)),
  (12, .aload_n 0, 1, .inl (0, 0)),
  (13, .getfield 15, 3, .inl (6, 1)),
  (16, .iload_n 1, 1, .inl (0, 0)),
  (17, .iaload, 1, .inl (0, 0)),
  (18, .goto 4, 3, .inl (22, 0)),
  (21, .iconst 0, 1, .inr (.inr (.inl (nI 0)))),
  (22, .ireturn, 1, .inl (0, 0))]
set_option maxRecDepth 100000 in
set_option maxHeartbeats 4000000 in
theorem ok_Txt_byteAt : xOK g_Txt_byteAt k_Txt_byteAt := ⟨by decide +kernel, by decide +kernel, List.forall_mem_cons.mpr ⟨trivial, List.forall_mem_cons.mpr ⟨trivial, List.forall_mem_cons.mpr ⟨trivial, List.forall_mem_cons.mpr ⟨trivial, List.forall_mem_cons.mpr ⟨fl_Txt_9, List.forall_mem_cons.mpr ⟨trivial, List.forall_mem_cons.mpr ⟨trivial, List.forall_mem_cons.mpr ⟨fl_Txt_15, List.forall_mem_cons.mpr ⟨trivial, List.forall_mem_cons.mpr ⟨trivial, List.forall_mem_cons.mpr ⟨trivial, List.forall_mem_cons.mpr ⟨trivial, List.forall_mem_cons.mpr ⟨trivial, fun _ h => absurd h List.not_mem_nil⟩⟩⟩⟩⟩⟩⟩⟩⟩⟩⟩⟩⟩⟩
def k_Rhy_firstRhyme : xCd := [
  (0, .iconst 0, 1, .inr (.inr (.inl (nI 0)))),
  (1, .istore_n 2, 1, .inl (0, 0)),
  (2, .iload_n 2, 1, .inl (0, 0)),
  (3, .iload_n 1, 1, .inl (0, 0)),
  (4, .if_icmp .ge 22, 3, .inl (26, 0)),
  (7, .iload_n 0, 1, .inl (0, 0)),
  (8, .iload_n 2, 1, .inl (0, 0)),
  (9, .invokestatic 13, 3, .inr (.inl g_Row_entry)),
  (12, .iload_n 0, 1, .inl (0, 0)),
  (13, .iload_n 1, 1, .inl (0, 0)),
  (14, .invokestatic 13, 3, .inr (.inl g_Row_entry)),
  (17, .if_icmp .eq 9, 3, .inl (26, 0)),
  (20, .iinc 2 1, 3, .inr (.inr (.inl (nI 1)))),
  (23, .goto (-21), 3, .inl (2, 0)),
  (26, .iload_n 2, 1, .inl (0, 0)),
  (27, .ireturn, 1, .inl (0, 0))]
set_option maxRecDepth 100000 in
set_option maxHeartbeats 4000000 in
theorem ok_Rhy_firstRhyme : xOK g_Rhy_firstRhyme k_Rhy_firstRhyme := ⟨by decide +kernel, by decide +kernel, List.forall_mem_cons.mpr ⟨trivial, List.forall_mem_cons.mpr ⟨trivial, List.forall_mem_cons.mpr ⟨trivial, List.forall_mem_cons.mpr ⟨trivial, List.forall_mem_cons.mpr ⟨trivial, List.forall_mem_cons.mpr ⟨trivial, List.forall_mem_cons.mpr ⟨trivial, List.forall_mem_cons.mpr ⟨⟨ml_Rhy_13, xms_Row_entry⟩, List.forall_mem_cons.mpr ⟨trivial, List.forall_mem_cons.mpr ⟨trivial, List.forall_mem_cons.mpr ⟨⟨ml_Rhy_13, xms_Row_entry⟩, List.forall_mem_cons.mpr ⟨trivial, List.forall_mem_cons.mpr ⟨trivial, List.forall_mem_cons.mpr ⟨trivial, List.forall_mem_cons.mpr ⟨trivial, List.forall_mem_cons.mpr ⟨trivial, fun _ h => absurd h List.not_mem_nil⟩⟩⟩⟩⟩⟩⟩⟩⟩⟩⟩⟩⟩⟩⟩⟩⟩
def k_Rhy_pattern : xCd := [
  (0, .iconst 0, 1, .inr (.inr (.inl (nI 0)))),
  (1, .istore_n 2, 1, .inl (0, 0)),
  (2, .iconst 0, 1, .inr (.inr (.inl (nI 0)))),
  (3, .istore_n 3, 1, .inl (0, 0)),
  (4, .iload_n 3, 1, .inl (0, 0)),
  (5, .iload_n 1, 1, .inl (0, 0)),
  (6, .if_icmp .ge 20, 3, .inl (26, 0)),
  (9, .iload_n 2, 1, .inl (0, 0)),
  (10, .bipush 7, 2, .inr (.inr (.inl (nI 7)))),
  (12, .imul, 1, .inl (0, 0)),
  (13, .iload_n 0, 1, .inl (0, 0)),
  (14, .iload_n 3, 1, .inl (0, 0)),
  (15, .invokestatic 7, 3, .inr (.inl g_Rhy_firstRhyme)),
  (18, .iadd, 1, .inl (0, 0)),
  (19, .istore_n 2, 1, .inl (0, 0)),
  (20, .iinc 3 1, 3, .inr (.inr (.inl (nI 1)))),
  (23, .goto (-19), 3, .inl (4, 0)),
  (26, .iload_n 2, 1, .inl (0, 0)),
  (27, .ireturn, 1, .inl (0, 0))]
set_option maxRecDepth 100000 in
set_option maxHeartbeats 4000000 in
theorem ok_Rhy_pattern : xOK g_Rhy_pattern k_Rhy_pattern := ⟨by decide +kernel, by decide +kernel, List.forall_mem_cons.mpr ⟨trivial, List.forall_mem_cons.mpr ⟨trivial, List.forall_mem_cons.mpr ⟨trivial, List.forall_mem_cons.mpr ⟨trivial, List.forall_mem_cons.mpr ⟨trivial, List.forall_mem_cons.mpr ⟨trivial, List.forall_mem_cons.mpr ⟨trivial, List.forall_mem_cons.mpr ⟨trivial, List.forall_mem_cons.mpr ⟨trivial, List.forall_mem_cons.mpr ⟨trivial, List.forall_mem_cons.mpr ⟨trivial, List.forall_mem_cons.mpr ⟨trivial, List.forall_mem_cons.mpr ⟨⟨ml_Rhy_7, xms_Rhy_firstRhyme⟩, List.forall_mem_cons.mpr ⟨trivial, List.forall_mem_cons.mpr ⟨trivial, List.forall_mem_cons.mpr ⟨trivial, List.forall_mem_cons.mpr ⟨trivial, List.forall_mem_cons.mpr ⟨trivial, List.forall_mem_cons.mpr ⟨trivial, fun _ h => absurd h List.not_mem_nil⟩⟩⟩⟩⟩⟩⟩⟩⟩⟩⟩⟩⟩⟩⟩⟩⟩⟩⟩⟩
def k_Rhy_isAmong : xCd := [
  (0, .iconst 0, 1, .inr (.inr (.inl (nI 0)))),
  (1, .istore_n 3, 1, .inl (0, 0)),
  (2, .iload_n 3, 1, .inl (0, 0)),
  (3, .iload_n 2, 1, .inl (0, 0)),
  (4, .if_icmp .ge 24, 3, .inl (28, 0)),
  (7, .iload_n 3, 1, .inl (0, 0)),
  (8, .aload_n 1, 1, .inl (0, 0)),
  (9, .arraylength, 1, .inl (0, 0)),
  (10, .if_icmp .ge 18, 3, .inl (28, 0)),
  (13, .aload_n 1, 1, .inl (0, 0)),
  (14, .iload_n 3, 1, .inl (0, 0)),
  (15, .iaload, 1, .inl (0, 0)),
  (16, .iload_n 0, 1, .inl (0, 0)),
  (17, .if_icmp .ne 5, 3, .inl (22, 0)),
  (20, .iconst 1, 1, .inr (.inr (.inl (nI 1)))),
  (21, .ireturn, 1, .inl (0, 0)),
  (22, .iinc 3 1, 3, .inr (.inr (.inl (nI 1)))),
  (25, .goto (-23), 3, .inl (2, 0)),
  (28, .iconst 0, 1, .inr (.inr (.inl (nI 0)))),
  (29, .ireturn, 1, .inl (0, 0))]
set_option maxRecDepth 100000 in
set_option maxHeartbeats 4000000 in
theorem ok_Rhy_isAmong : xOK g_Rhy_isAmong k_Rhy_isAmong := ⟨by decide +kernel, by decide +kernel, List.forall_mem_cons.mpr ⟨trivial, List.forall_mem_cons.mpr ⟨trivial, List.forall_mem_cons.mpr ⟨trivial, List.forall_mem_cons.mpr ⟨trivial, List.forall_mem_cons.mpr ⟨trivial, List.forall_mem_cons.mpr ⟨trivial, List.forall_mem_cons.mpr ⟨trivial, List.forall_mem_cons.mpr ⟨trivial, List.forall_mem_cons.mpr ⟨trivial, List.forall_mem_cons.mpr ⟨trivial, List.forall_mem_cons.mpr ⟨trivial, List.forall_mem_cons.mpr ⟨trivial, List.forall_mem_cons.mpr ⟨trivial, List.forall_mem_cons.mpr ⟨trivial, List.forall_mem_cons.mpr ⟨trivial, List.forall_mem_cons.mpr ⟨trivial, List.forall_mem_cons.mpr ⟨trivial, List.forall_mem_cons.mpr ⟨trivial, List.forall_mem_cons.mpr ⟨trivial, List.forall_mem_cons.mpr ⟨trivial, fun _ h => absurd h List.not_mem_nil⟩⟩⟩⟩⟩⟩⟩⟩⟩⟩⟩⟩⟩⟩⟩⟩⟩⟩⟩⟩⟩
def k_Rhy_differentPatterns : xCd := [
  (0, .iconst 0, 1, .inr (.inr (.inl (nI 0)))),
  (1, .istore 4, 2, .inl (0, 0)),
  (3, .iload_n 1, 1, .inl (0, 0)),
  (4, .iload_n 2, 1, .inl (0, 0)),
  (5, .invokestatic 18, 3, .inr (.inl g_Perm_order)),
  (8, .istore 5, 2, .inl (0, 0)),
  (10, .iload_n 0, 1, .inl (0, 0)),
  (11, .istore 6, 2, .inl (0, 0)),
  (13, .iconst 0, 1, .inr (.inr (.inl (nI 0)))),
  (14, .istore 7, 2, .inl (0, 0)),
  (16, .iload 7, 2, .inl (0, 0)),
  (18, .iload 5, 2, .inl (0, 0)),
  (20, .if_icmp .ge 53, 3, .inl (73, 0)),
  (23, .iload 4, 2, .inl (0, 0)),
  (25, .aload_n 3, 1, .inl (0, 0)),
  (26, .arraylength, 1, .inl (0, 0)),
  (27, .if_icmp .ge 46, 3, .inl (73, 0)),
  (30, .iload 6, 2, .inl (0, 0)),
  (32, .iload_n 2, 1, .inl (0, 0)),
  (33, .invokestatic 23, 3, .inr (.inl g_Rhy_pattern)),
  (36, .istore 8, 2, .inl (0, 0)),
  (38, .iload 8, 2, .inl (0, 0)),
  (40, .aload_n 3, 1, .inl (0, 0)),
  (41, .iload 4, 2, .inl (0, 0)),
  (43, .invokestatic 26, 3, .inr (.inl g_Rhy_isAmong)),
  (46, .ifCond .ne 12, 3, .inl (58, 0)),
  (49, .aload_n 3, 1, .inl (0, 0)),
  (50, .iload 4, 2, .inl (0, 0)),
  (52, .iload 8, 2, .inl (0, 0)),
  (54, .iastore, 1, .inl (0, 0)),
  (55, .iinc 4 1, 3, .inr (.inr (.inl (nI 1)))),
  (58, .iload 6, 2, .inl (0, 0)),
  (60, .iload_n 1, 1, .inl (0, 0)),
  (61, .iload_n 2, 1, .inl (0, 0)),
  (62, .invokestatic 30, 3, .inr (.inl g_Row_turned)),
  (65, .istore 6, 2, .inl (0, 0)),
  (67, .iinc 7 1, 3, .inr (.inr (.inl (nI 1)))),
  (70, .goto (-54), 3, .inl (16, 0)),
  (73, .iload 4, 2, .inl (0, 0)),
  (75, .ireturn, 1, .inl (0, 0))]
set_option maxRecDepth 100000 in
set_option maxHeartbeats 4000000 in
theorem ok_Rhy_differentPatterns : xOK g_Rhy_differentPatterns k_Rhy_differentPatterns := ⟨by decide +kernel, by decide +kernel, List.forall_mem_cons.mpr ⟨trivial, List.forall_mem_cons.mpr ⟨trivial, List.forall_mem_cons.mpr ⟨trivial, List.forall_mem_cons.mpr ⟨trivial, List.forall_mem_cons.mpr ⟨⟨ml_Rhy_18, xms_Perm_order⟩, List.forall_mem_cons.mpr ⟨trivial, List.forall_mem_cons.mpr ⟨trivial, List.forall_mem_cons.mpr ⟨trivial, List.forall_mem_cons.mpr ⟨trivial, List.forall_mem_cons.mpr ⟨trivial, List.forall_mem_cons.mpr ⟨trivial, List.forall_mem_cons.mpr ⟨trivial, List.forall_mem_cons.mpr ⟨trivial, List.forall_mem_cons.mpr ⟨trivial, List.forall_mem_cons.mpr ⟨trivial, List.forall_mem_cons.mpr ⟨trivial, List.forall_mem_cons.mpr ⟨trivial, List.forall_mem_cons.mpr ⟨trivial, List.forall_mem_cons.mpr ⟨trivial, List.forall_mem_cons.mpr ⟨⟨ml_Rhy_23, xms_Rhy_pattern⟩, List.forall_mem_cons.mpr ⟨trivial, List.forall_mem_cons.mpr ⟨trivial, List.forall_mem_cons.mpr ⟨trivial, List.forall_mem_cons.mpr ⟨trivial, List.forall_mem_cons.mpr ⟨⟨ml_Rhy_26, xms_Rhy_isAmong⟩, List.forall_mem_cons.mpr ⟨trivial, List.forall_mem_cons.mpr ⟨trivial, List.forall_mem_cons.mpr ⟨trivial, List.forall_mem_cons.mpr ⟨trivial, List.forall_mem_cons.mpr ⟨trivial, List.forall_mem_cons.mpr ⟨trivial, List.forall_mem_cons.mpr ⟨trivial, List.forall_mem_cons.mpr ⟨trivial, List.forall_mem_cons.mpr ⟨trivial, List.forall_mem_cons.mpr ⟨⟨ml_Rhy_30, xms_Row_turned⟩, List.forall_mem_cons.mpr ⟨trivial, List.forall_mem_cons.mpr ⟨trivial, List.forall_mem_cons.mpr ⟨trivial, List.forall_mem_cons.mpr ⟨trivial, List.forall_mem_cons.mpr ⟨trivial, fun _ h => absurd h List.not_mem_nil⟩⟩⟩⟩⟩⟩⟩⟩⟩⟩⟩⟩⟩⟩⟩⟩⟩⟩⟩⟩⟩⟩⟩⟩⟩⟩⟩⟩⟩⟩⟩⟩⟩⟩⟩⟩⟩⟩⟩⟩⟩
def k_Rhy_neighbors : xCd := [
  (0, .iconst 0, 1, .inr (.inr (.inl (nI 0)))),
  (1, .istore_n 2, 1, .inl (0, 0)),
  (2, .iconst 0, 1, .inr (.inr (.inl (nI 0)))),
  (3, .istore_n 3, 1, .inl (0, 0)),
  (4, .iload_n 3, 1, .inl (0, 0)),
  (5, .iconst 1, 1, .inr (.inr (.inl (nI 1)))),
  (6, .iadd, 1, .inl (0, 0)),
  (7, .iload_n 1, 1, .inl (0, 0)),
  (8, .if_icmp .ge 27, 3, .inl (35, 0)),
  (11, .iload_n 0, 1, .inl (0, 0)),
  (12, .iload_n 3, 1, .inl (0, 0)),
  (13, .invokestatic 13, 3, .inr (.inl g_Row_entry)),
  (16, .iload_n 0, 1, .inl (0, 0)),
  (17, .iload_n 3, 1, .inl (0, 0)),
  (18, .iconst 1, 1, .inr (.inr (.inl (nI 1)))),
  (19, .iadd, 1, .inl (0, 0)),
  (20, .invokestatic 13, 3, .inr (.inl g_Row_entry)),
  (23, .if_icmp .ne 6, 3, .inl (29, 0)),
  (26, .iinc 2 1, 3, .inr (.inr (.inl (nI 1)))),
  (29, .iinc 3 1, 3, .inr (.inr (.inl (nI 1)))),
  (32, .goto (-28), 3, .inl (4, 0)),
  (35, .iload_n 2, 1, .inl (0, 0)),
  (36, .ireturn, 1, .inl (0, 0))]
set_option maxRecDepth 100000 in
set_option maxHeartbeats 4000000 in
theorem ok_Rhy_neighbors : xOK g_Rhy_neighbors k_Rhy_neighbors := ⟨by decide +kernel, by decide +kernel, List.forall_mem_cons.mpr ⟨trivial, List.forall_mem_cons.mpr ⟨trivial, List.forall_mem_cons.mpr ⟨trivial, List.forall_mem_cons.mpr ⟨trivial, List.forall_mem_cons.mpr ⟨trivial, List.forall_mem_cons.mpr ⟨trivial, List.forall_mem_cons.mpr ⟨trivial, List.forall_mem_cons.mpr ⟨trivial, List.forall_mem_cons.mpr ⟨trivial, List.forall_mem_cons.mpr ⟨trivial, List.forall_mem_cons.mpr ⟨trivial, List.forall_mem_cons.mpr ⟨⟨ml_Rhy_13, xms_Row_entry⟩, List.forall_mem_cons.mpr ⟨trivial, List.forall_mem_cons.mpr ⟨trivial, List.forall_mem_cons.mpr ⟨trivial, List.forall_mem_cons.mpr ⟨trivial, List.forall_mem_cons.mpr ⟨⟨ml_Rhy_13, xms_Row_entry⟩, List.forall_mem_cons.mpr ⟨trivial, List.forall_mem_cons.mpr ⟨trivial, List.forall_mem_cons.mpr ⟨trivial, List.forall_mem_cons.mpr ⟨trivial, List.forall_mem_cons.mpr ⟨trivial, List.forall_mem_cons.mpr ⟨trivial, fun _ h => absurd h List.not_mem_nil⟩⟩⟩⟩⟩⟩⟩⟩⟩⟩⟩⟩⟩⟩⟩⟩⟩⟩⟩⟩⟩⟩⟩⟩
def k_Rhy_mostNeighborly : xCd := [
  (0, .iconst 0, 1, .inr (.inr (.inl (nI 0)))),
  (1, .istore_n 2, 1, .inl (0, 0)),
  (2, .iconst (-1), 1, .inr (.inr (.inl (-1)))),
  (3, .istore_n 3, 1, .inl (0, 0)),
  (4, .iload_n 1, 1, .inl (0, 0)),
  (5, .invokestatic 34, 3, .inr (.inl g_Perm_count)),
  (8, .istore 4, 2, .inl (0, 0)),
  (10, .iconst 0, 1, .inr (.inr (.inl (nI 0)))),
  (11, .istore 5, 2, .inl (0, 0)),
  (13, .iload 5, 2, .inl (0, 0)),
  (15, .iload 4, 2, .inl (0, 0)),
  (17, .if_icmp .ge 38, 3, .inl (55, 0)),
  (20, .iload_n 0, 1, .inl (0, 0)),
  (21, .iload 5, 2, .inl (0, 0)),
  (23, .iload_n 1, 1, .inl (0, 0)),
  (24, .invokestatic 38, 3, .inr (.inl g_Perm_numbered)),
  (27, .iload_n 1, 1, .inl (0, 0)),
  (28, .invokestatic 30, 3, .inr (.inl g_Row_turned)),
  (31, .iload_n 1, 1, .inl (0, 0)),
  (32, .invokestatic 41, 3, .inr (.inl g_Rhy_neighbors)),
  (35, .istore 6, 2, .inl (0, 0)),
  (37, .iload 6, 2, .inl (0, 0)),
  (39, .iload_n 3, 1, .inl (0, 0)),
  (40, .if_icmp .le 9, 3, .inl (49, 0)),
  (43, .iload 6, 2, .inl (0, 0)),
  (45, .istore_n 3, 1, .inl (0, 0)),
  (46, .iload 5, 2, .inl (0, 0)),
  (48, .istore_n 2, 1, .inl (0, 0)),
  (49, .iinc 5 1, 3, .inr (.inr (.inl (nI 1)))),
  (52, .goto (-39), 3, .inl (13, 0)),
  (55, .iload_n 2, 1, .inl (0, 0)),
  (56, .ireturn, 1, .inl (0, 0))]
set_option maxRecDepth 100000 in
set_option maxHeartbeats 4000000 in
theorem ok_Rhy_mostNeighborly : xOK g_Rhy_mostNeighborly k_Rhy_mostNeighborly := ⟨by decide +kernel, by decide +kernel, List.forall_mem_cons.mpr ⟨trivial, List.forall_mem_cons.mpr ⟨trivial, List.forall_mem_cons.mpr ⟨trivial, List.forall_mem_cons.mpr ⟨trivial, List.forall_mem_cons.mpr ⟨trivial, List.forall_mem_cons.mpr ⟨⟨ml_Rhy_34, xms_Perm_count⟩, List.forall_mem_cons.mpr ⟨trivial, List.forall_mem_cons.mpr ⟨trivial, List.forall_mem_cons.mpr ⟨trivial, List.forall_mem_cons.mpr ⟨trivial, List.forall_mem_cons.mpr ⟨trivial, List.forall_mem_cons.mpr ⟨trivial, List.forall_mem_cons.mpr ⟨trivial, List.forall_mem_cons.mpr ⟨trivial, List.forall_mem_cons.mpr ⟨trivial, List.forall_mem_cons.mpr ⟨⟨ml_Rhy_38, xms_Perm_numbered⟩, List.forall_mem_cons.mpr ⟨trivial, List.forall_mem_cons.mpr ⟨⟨ml_Rhy_30, xms_Row_turned⟩, List.forall_mem_cons.mpr ⟨trivial, List.forall_mem_cons.mpr ⟨⟨ml_Rhy_41, xms_Rhy_neighbors⟩, List.forall_mem_cons.mpr ⟨trivial, List.forall_mem_cons.mpr ⟨trivial, List.forall_mem_cons.mpr ⟨trivial, List.forall_mem_cons.mpr ⟨trivial, List.forall_mem_cons.mpr ⟨trivial, List.forall_mem_cons.mpr ⟨trivial, List.forall_mem_cons.mpr ⟨trivial, List.forall_mem_cons.mpr ⟨trivial, List.forall_mem_cons.mpr ⟨trivial, List.forall_mem_cons.mpr ⟨trivial, List.forall_mem_cons.mpr ⟨trivial, List.forall_mem_cons.mpr ⟨trivial, fun _ h => absurd h List.not_mem_nil⟩⟩⟩⟩⟩⟩⟩⟩⟩⟩⟩⟩⟩⟩⟩⟩⟩⟩⟩⟩⟩⟩⟩⟩⟩⟩⟩⟩⟩⟩⟩⟩⟩
def k_Txt_init : xCd := [
  (0, .aload_n 0, 1, .inl (0, 0)),
  (1, .invokespecial 3, 3, .inl (0, 0)),
  (4, .aload_n 0, 1, .inl (0, 0)),
  (5, .iconst 0, 1, .inr (.inr (.inl (nI 0)))),
  (6, .putfield 9, 3, .inl (6, 0)),
  (9, .aload_n 0, 1, .inl (0, 0)),
  (10, .bipush 80, 2, .inr (.inr (.inl (nI 80)))),
  (12, .newarray .int, 2, .inl (0, 0)),
  (14, .putfield 15, 3, .inl (6, 1)),
  (17, .return_, 1, .inl (0, 0))]
set_option maxRecDepth 100000 in
set_option maxHeartbeats 4000000 in
theorem ok_Txt_init : xOK g_Txt_init k_Txt_init := ⟨by decide +kernel, by decide +kernel, List.forall_mem_cons.mpr ⟨trivial, List.forall_mem_cons.mpr ⟨⟨lw_gm 197 rfl rfl, lw_gm 92 rfl rfl, lw_gm 93 rfl rfl⟩, List.forall_mem_cons.mpr ⟨trivial, List.forall_mem_cons.mpr ⟨trivial, List.forall_mem_cons.mpr ⟨⟨fl_Txt_9, nf_6_0 _⟩, List.forall_mem_cons.mpr ⟨trivial, List.forall_mem_cons.mpr ⟨trivial, List.forall_mem_cons.mpr ⟨lw_gm 134 rfl rfl, List.forall_mem_cons.mpr ⟨⟨fl_Txt_15, fun r hr _ => by cases hr; exact ⟨rfl, rfl⟩⟩, List.forall_mem_cons.mpr ⟨trivial, fun _ h => absurd h List.not_mem_nil⟩⟩⟩⟩⟩⟩⟩⟩⟩⟩⟩
def k_Txt_append : xCd := [
  (0, .aload_n 0, 1, .inl (0, 0)),
  (1, .getfield 9, 3, .inl (6, 0)),
  (4, .bipush 80, 2, .inr (.inr (.inl (nI 80)))),
  (6, .if_icmp .ge 23, 3, .inl (29, 0)),
  (9, .aload_n 0, 1, .inl (0, 0)),
  (10, .getfield 15, 3, .inl (6, 1)),
  (13, .aload_n 0, 1, .inl (0, 0)),
  (14, .getfield 9, 3, .inl (6, 0)),
  (17, .iload_n 1, 1, .inl (0, 0)),
  (18, .iastore, 1, .inl (0, 0)),
  (19, .aload_n 0, 1, .inl (0, 0)),
  (20, .dup, 1, .inl (0, 0)),
  (21, .getfield 9, 3, .inl (6, 0)),
  (24, .iconst 1, 1, .inr (.inr (.inl (nI 1)))),
  (25, .iadd, 1, .inl (0, 0)),
  (26, .putfield 9, 3, .inl (6, 0)),
  (29, .return_, 1, .inl (0, 0))]
set_option maxRecDepth 100000 in
set_option maxHeartbeats 4000000 in
theorem ok_Txt_append : xOK g_Txt_append k_Txt_append := ⟨by decide +kernel, by decide +kernel, List.forall_mem_cons.mpr ⟨trivial, List.forall_mem_cons.mpr ⟨fl_Txt_9, List.forall_mem_cons.mpr ⟨trivial, List.forall_mem_cons.mpr ⟨trivial, List.forall_mem_cons.mpr ⟨trivial, List.forall_mem_cons.mpr ⟨fl_Txt_15, List.forall_mem_cons.mpr ⟨trivial, List.forall_mem_cons.mpr ⟨fl_Txt_9, List.forall_mem_cons.mpr ⟨trivial, List.forall_mem_cons.mpr ⟨trivial, List.forall_mem_cons.mpr ⟨trivial, List.forall_mem_cons.mpr ⟨trivial, List.forall_mem_cons.mpr ⟨fl_Txt_9, List.forall_mem_cons.mpr ⟨trivial, List.forall_mem_cons.mpr ⟨trivial, List.forall_mem_cons.mpr ⟨⟨fl_Txt_9, nf_6_0 _⟩, List.forall_mem_cons.mpr ⟨trivial, fun _ h => absurd h List.not_mem_nil⟩⟩⟩⟩⟩⟩⟩⟩⟩⟩⟩⟩⟩⟩⟩⟩⟩⟩
def k_TR_init : xCd := [
  (0, .aload_n 0, 1, .inl (0, 0)),
  (1, .invokespecial 3, 3, .inl (0, 0)),
  (4, .aload_n 0, 1, .inl (0, 0)),
  (5, .iconst 0, 1, .inr (.inr (.inl (nI 0)))),
  (6, .putfield 9, 3, .inl (7, 0)),
  (9, .return_, 1, .inl (0, 0))]
set_option maxRecDepth 100000 in
set_option maxHeartbeats 4000000 in
theorem ok_TR_init : xOK g_TR_init k_TR_init := ⟨by decide +kernel, by decide +kernel, List.forall_mem_cons.mpr ⟨trivial, List.forall_mem_cons.mpr ⟨⟨lw_gm 233 rfl rfl, lw_gm 92 rfl rfl, lw_gm 93 rfl rfl⟩, List.forall_mem_cons.mpr ⟨trivial, List.forall_mem_cons.mpr ⟨trivial, List.forall_mem_cons.mpr ⟨⟨fl_TR_9, nf_7_0 _⟩, List.forall_mem_cons.mpr ⟨trivial, fun _ h => absurd h List.not_mem_nil⟩⟩⟩⟩⟩⟩⟩
def k_TR_readText : xCd := [
  (0, .aload_n 0, 1, .inl (0, 0)),
  (1, .iload_n 2, 1, .inl (0, 0)),
  (2, .invokestatic 15, 3, .inr (.inl g_Row_ascending)),
  (5, .putfield 9, 3, .inl (7, 0)),
  (8, .iconst 0, 1, .inr (.inr (.inl (nI 0)))),
  (9, .istore_n 3, 1, .inl (0, 0)),
  (10, .iconst 0, 1, .inr (.inr (.inl (nI 0)))),
  (11, .istore 4, 2, .inl (0, 0)),
  (13, .iconst (-1), 1, .inr (.inr (.inl (-1)))),
  (14, .istore 5, 2, .inl (0, 0)),
  (16, .iconst (-1), 1, .inr (.inr (.inl (-1)))),
  (17, .istore 6, 2, .inl (0, 0)),
  (19, .iconst 0, 1, .inr (.inr (.inl (nI 0)))),
  (20, .istore 7, 2, .inl (0, 0)),
  (22, .iload 7, 2, .inl (0, 0)),
  (24, .aload_n 1, 1, .inl (0, 0)),
  (25, .getfield 21, 3, .inl (6, 0)),
  (28, .if_icmp .ge 143, 3, .inl (171, 0)),
  (31, .aload_n 1, 1, .inl (0, 0)),
  (32, .iload 7, 2, .inl (0, 0)),
  (34, .invokevirtual 26, 3, .inr (.inl g_Txt_byteAt)),
  (37, .istore 8, 2, .inl (0, 0)),
  (39, .iload 4, 2, .inl (0, 0)),
  (41, .ifCond .ne 22, 3, .inl (63, 0)),
  (44, .iload 8, 2, .inl (0, 0)),
  (46, .bipush 40, 2, .inr (.inr (.inl (nI 40)))),
  (48, .if_icmp .eq 6, 3, .inl (54, 0)),
  (51, .iload 7, 2, .inl (0, 0)),
  (53, .ireturn, 1, .inl (0, 0)),
  (54, .iconst 1, 1, .inr (.inr (.inl (nI 1)))),
  (55, .istore 4, 2, .inl (0, 0)),
  (57, .iconst (-1), 1, .inr (.inr (.inl (-1)))),
  (58, .istore 5, 2, .inl (0, 0)),
  (60, .goto 105, 3, .inl (165, 0)),
  (63, .iload 8, 2, .inl (0, 0)),
  (65, .bipush 41, 2, .inr (.inr (.inl (nI 41)))),
  (67, .if_icmp .ne 29, 3, .inl (96, 0)),
  (70, .iload 5, 2, .inl (0, 0)),
  (72, .ifCond .lt 24, 3, .inl (96, 0)),
  (75, .aload_n 0, 1, .inl (0, 0)),
  (76, .aload_n 0, 1, .inl (0, 0)),
  (77, .getfield 9, 3, .inl (7, 0)),
  (80, .iload 6, 2, .inl (0, 0)),
  (82, .iload 5, 2, .inl (0, 0)),
  (84, .invokestatic 29, 3, .inr (.inl g_Row_with)),
  (87, .putfield 9, 3, .inl (7, 0)),
  (90, .iconst 0, 1, .inr (.inr (.inl (nI 0)))),
  (91, .istore 4, 2, .inl (0, 0)),
  (93, .goto 72, 3, .inl (165, 0)),
  (96, .iload 8, 2, .inl (0, 0)),
  (98, .bipush 49, 2, .inr (.inr (.inl (nI 49)))),
  (100, .isub, 1, .inl (0, 0)),
  (101, .istore 9, 2, .inl (0, 0)),
  (103, .iload 9, 2, .inl (0, 0)),
  (105, .ifCond .lt 19, 3, .inl (124, 0)),
  (108, .iload 9, 2, .inl (0, 0)),
  (110, .iload_n 2, 1, .inl (0, 0)),
  (111, .if_icmp .ge 13, 3, .inl (124, 0)),
  (114, .iload_n 3, 1, .inl (0, 0)),
  (115, .iload 9, 2, .inl (0, 0)),
  (117, .ishr, 1, .inl (0, 0)),
  (118, .iconst 1, 1, .inr (.inr (.inl (nI 1)))),
  (119, .iand, 1, .inl (0, 0)),
  (120, .iconst 1, 1, .inr (.inr (.inl (nI 1)))),
  (121, .if_icmp .ne 6, 3, .inl (127, 0)),
  (124, .iload 7, 2, .inl (0, 0)),
  (126, .ireturn, 1, .inl (0, 0)),
  (127, .iload_n 3, 1, .inl (0, 0)),
  (128, .iconst 1, 1, .inr (.inr (.inl (nI 1)))),
  (129, .iload 9, 2, .inl (0, 0)),
  (131, .ishl, 1, .inl (0, 0)),
  (132, .ior, 1, .inl (0, 0)),
  (133, .istore_n 3, 1, .inl (0, 0)),
  (134, .iload 5, 2, .inl (0, 0)),
  (136, .ifCond .ge 10, 3, .inl (146, 0)),
  (139, .iload 9, 2, .inl (0, 0)),
  (141, .istore 5, 2, .inl (0, 0)),
  (143, .goto 18, 3, .inl (161, 0)),
  (146, .aload_n 0, 1, .inl (0, 0)),
  (147, .aload_n 0, 1, .inl (0, 0)),
  (148, .getfield 9, 3, .inl (7, 0)),
  (151, .iload 6, 2, .inl (0, 0)),
  (153, .iload 9, 2, .inl (0, 0)),
  (155, .invokestatic 29, 3, .inr (.inl g_Row_with)),
  (158, .putfield 9, 3, .inl (7, 0)),
  (161, .iload 9, 2, .inl (0, 0)),
  (163, .istore 6, 2, .inl (0, 0)),
  (165, .iinc 7 1, 3, .inr (.inr (.inl (nI 1)))),
  (168, .goto (-146), 3, .inl (22, 0)),
  (171, .iload 4, 2, .inl (0, 0)),
  (173, .ifCond .eq 10, 3, .inl (183, 0)),
  (176, .aload_n 1, 1, .inl (0, 0)),
  (177, .getfield 21, 3, .inl (6, 0)),
  (180, .goto 4, 3, .inl (184, 0)),
  (183, .iconst (-1), 1, .inr (.inr (.inl (-1)))),
  (184, .ireturn, 1, .inl (0, 0))]
set_option maxRecDepth 100000 in
set_option maxHeartbeats 4000000 in
theorem ok_TR_readText : xOK g_TR_readText k_TR_readText := ⟨by decide +kernel, by decide +kernel, List.forall_mem_cons.mpr ⟨trivial, List.forall_mem_cons.mpr ⟨trivial, List.forall_mem_cons.mpr ⟨⟨ml_TR_15, xms_Row_ascending⟩, List.forall_mem_cons.mpr ⟨⟨fl_TR_9, nf_7_0 _⟩, List.forall_mem_cons.mpr ⟨trivial, List.forall_mem_cons.mpr ⟨trivial, List.forall_mem_cons.mpr ⟨trivial, List.forall_mem_cons.mpr ⟨trivial, List.forall_mem_cons.mpr ⟨trivial, List.forall_mem_cons.mpr ⟨trivial, List.forall_mem_cons.mpr ⟨trivial, List.forall_mem_cons.mpr ⟨trivial, List.forall_mem_cons.mpr ⟨trivial, List.forall_mem_cons.mpr ⟨trivial, List.forall_mem_cons.mpr ⟨trivial, List.forall_mem_cons.mpr ⟨trivial, List.forall_mem_cons.mpr ⟨fl_TR_21, List.forall_mem_cons.mpr ⟨trivial, List.forall_mem_cons.mpr ⟨trivial, List.forall_mem_cons.mpr ⟨trivial, List.forall_mem_cons.mpr ⟨⟨ml_TR_26, xmv_Txt_byteAt⟩, List.forall_mem_cons.mpr ⟨trivial, List.forall_mem_cons.mpr ⟨trivial, List.forall_mem_cons.mpr ⟨trivial, List.forall_mem_cons.mpr ⟨trivial, List.forall_mem_cons.mpr ⟨trivial, List.forall_mem_cons.mpr ⟨trivial, List.forall_mem_cons.mpr ⟨trivial, List.forall_mem_cons.mpr ⟨trivial, List.forall_mem_cons.mpr ⟨trivial, List.forall_mem_cons.mpr ⟨trivial, List.forall_mem_cons.mpr ⟨trivial, List.forall_mem_cons.mpr ⟨trivial, List.forall_mem_cons.mpr ⟨trivial, List.forall_mem_cons.mpr ⟨trivial, List.forall_mem_cons.mpr ⟨trivial, List.forall_mem_cons.mpr ⟨trivial, List.forall_mem_cons.mpr ⟨trivial, List.forall_mem_cons.mpr ⟨trivial, List.forall_mem_cons.mpr ⟨trivial, List.forall_mem_cons.mpr ⟨trivial, List.forall_mem_cons.mpr ⟨fl_TR_9, List.forall_mem_cons.mpr ⟨trivial, List.forall_mem_cons.mpr ⟨trivial, List.forall_mem_cons.mpr ⟨⟨ml_TR_29, xms_Row_with⟩, List.forall_mem_cons.mpr ⟨⟨fl_TR_9, nf_7_0 _⟩, List.forall_mem_cons.mpr ⟨trivial, List.forall_mem_cons.mpr ⟨trivial, List.forall_mem_cons.mpr ⟨trivial, List.forall_mem_cons.mpr ⟨trivial, List.forall_mem_cons.mpr ⟨trivial, List.forall_mem_cons.mpr ⟨trivial, List.forall_mem_cons.mpr ⟨trivial, List.forall_mem_cons.mpr ⟨trivial, List.forall_mem_cons.mpr ⟨trivial, List.forall_mem_cons.mpr ⟨trivial, List.forall_mem_cons.mpr ⟨trivial, List.forall_mem_cons.mpr ⟨trivial, List.forall_mem_cons.mpr ⟨trivial, List.forall_mem_cons.mpr ⟨trivial, List.forall_mem_cons.mpr ⟨trivial, List.forall_mem_cons.mpr ⟨trivial, List.forall_mem_cons.mpr ⟨trivial, List.forall_mem_cons.mpr ⟨trivial, List.forall_mem_cons.mpr ⟨trivial, List.forall_mem_cons.mpr ⟨trivial, List.forall_mem_cons.mpr ⟨trivial, List.forall_mem_cons.mpr ⟨trivial, List.forall_mem_cons.mpr ⟨trivial, List.forall_mem_cons.mpr ⟨trivial, List.forall_mem_cons.mpr ⟨trivial, List.forall_mem_cons.mpr ⟨trivial, List.forall_mem_cons.mpr ⟨trivial, List.forall_mem_cons.mpr ⟨trivial, List.forall_mem_cons.mpr ⟨trivial, List.forall_mem_cons.mpr ⟨trivial, List.forall_mem_cons.mpr ⟨trivial, List.forall_mem_cons.mpr ⟨trivial, List.forall_mem_cons.mpr ⟨trivial, List.forall_mem_cons.mpr ⟨trivial, List.forall_mem_cons.mpr ⟨fl_TR_9, List.forall_mem_cons.mpr ⟨trivial, List.forall_mem_cons.mpr ⟨trivial, List.forall_mem_cons.mpr ⟨⟨ml_TR_29, xms_Row_with⟩, List.forall_mem_cons.mpr ⟨⟨fl_TR_9, nf_7_0 _⟩, List.forall_mem_cons.mpr ⟨trivial, List.forall_mem_cons.mpr ⟨trivial, List.forall_mem_cons.mpr ⟨trivial, List.forall_mem_cons.mpr ⟨trivial, List.forall_mem_cons.mpr ⟨trivial, List.forall_mem_cons.mpr ⟨trivial, List.forall_mem_cons.mpr ⟨trivial, List.forall_mem_cons.mpr ⟨fl_TR_21, List.forall_mem_cons.mpr ⟨trivial, List.forall_mem_cons.mpr ⟨trivial, List.forall_mem_cons.mpr ⟨trivial, fun _ h => absurd h List.not_mem_nil⟩⟩⟩⟩⟩⟩⟩⟩⟩⟩⟩⟩⟩⟩⟩⟩⟩⟩⟩⟩⟩⟩⟩⟩⟩⟩⟩⟩⟩⟩⟩⟩⟩⟩⟩⟩⟩⟩⟩⟩⟩⟩⟩⟩⟩⟩⟩⟩⟩⟩⟩⟩⟩⟩⟩⟩⟩⟩⟩⟩⟩⟩⟩⟩⟩⟩⟩⟩⟩⟩⟩⟩⟩⟩⟩⟩⟩⟩⟩⟩⟩⟩⟩⟩⟩⟩⟩⟩⟩⟩⟩⟩⟩⟩⟩⟩⟩
end
section
/-! CODE, decoded, with its links; checked once -/
def k_Fit_init : xCd := [
  (0, .aload_n 0, 1, .inl (0, 0)),
  (1, .invokespecial 3, 3, .inl (0, 0)),
  (4, .aload_n 0, 1, .inl (0, 0)),
  (5, .iconst 0, 1, .inr (.inr (.inl (nI 0)))),
  (6, .putfield 9, 3, .inl (0, 0)),
  (9, .aload_n 0, 1, .inl (0, 0)),
  (10, .bipush 64, 2, .inr (.inr (.inl (nI 64)))),
  (12, .newarray .int, 2, .inl (0, 0)),
  (14, .putfield 15, 3, .inl (0, 1)),
  (17, .aload_n 0, 1, .inl (0, 0)),
  (18, .bipush 8, 2, .inr (.inr (.inl (nI 8)))),
  (20, .newarray .int, 2, .inl (0, 0)),
  (22, .putfield 19, 3, .inl (0, 2)),
  (25, .aload_n 0, 1, .inl (0, 0)),
  (26, .sipush 128, 3, .inr (.inr (.inl (nI 128)))),
  (29, .newarray .int, 2, .inl (0, 0)),
  (31, .putfield 22, 3, .inl (0, 3)),
  (34, .return_, 1, .inl (0, 0))]
set_option maxRecDepth 100000 in
set_option maxHeartbeats 4000000 in
theorem ok_Fit_init : xOK g_Fit_init k_Fit_init := ⟨by decide +kernel, by decide +kernel, List.forall_mem_cons.mpr ⟨trivial, List.forall_mem_cons.mpr ⟨⟨lw_gm 270 rfl rfl, lw_gm 92 rfl rfl, lw_gm 93 rfl rfl⟩, List.forall_mem_cons.mpr ⟨trivial, List.forall_mem_cons.mpr ⟨trivial, List.forall_mem_cons.mpr ⟨⟨fl_Fit_9, nf_0_0 _⟩, List.forall_mem_cons.mpr ⟨trivial, List.forall_mem_cons.mpr ⟨trivial, List.forall_mem_cons.mpr ⟨lw_gm 134 rfl rfl, List.forall_mem_cons.mpr ⟨⟨fl_Fit_15, fun r hr _ => by cases hr; exact ⟨rfl, rfl⟩⟩, List.forall_mem_cons.mpr ⟨trivial, List.forall_mem_cons.mpr ⟨trivial, List.forall_mem_cons.mpr ⟨lw_gm 134 rfl rfl, List.forall_mem_cons.mpr ⟨⟨fl_Fit_19, fun r hr _ => by cases hr; exact ⟨rfl, rfl⟩⟩, List.forall_mem_cons.mpr ⟨trivial, List.forall_mem_cons.mpr ⟨trivial, List.forall_mem_cons.mpr ⟨lw_gm 134 rfl rfl, List.forall_mem_cons.mpr ⟨⟨fl_Fit_22, fun r hr _ => by cases hr; exact ⟨rfl, rfl⟩⟩, List.forall_mem_cons.mpr ⟨trivial, fun _ h => absurd h List.not_mem_nil⟩⟩⟩⟩⟩⟩⟩⟩⟩⟩⟩⟩⟩⟩⟩⟩⟩⟩⟩
def k_Fit_compare : xCd := [
  (0, .aload_n 0, 1, .inl (0, 0)),
  (1, .iload_n 3, 1, .inl (0, 0)),
  (2, .putfield 9, 3, .inl (0, 0)),
  (5, .aload_n 0, 1, .inl (0, 0)),
  (6, .getfield 15, 3, .inl (0, 1)),
  (9, .iconst 0, 1, .inr (.inr (.inl (nI 0)))),
  (10, .invokestatic 59, 3, .inr (.inl g_JA_fill)),
  (13, .aload_n 0, 1, .inl (0, 0)),
  (14, .getfield 19, 3, .inl (0, 2)),
  (17, .iconst 1, 1, .inr (.inr (.inl (nI 1)))),
  (18, .aload_n 0, 1, .inl (0, 0)),
  (19, .getfield 9, 3, .inl (0, 0)),
  (22, .ishl, 1, .inl (0, 0)),
  (23, .iconst 1, 1, .inr (.inr (.inl (nI 1)))),
  (24, .isub, 1, .inl (0, 0)),
  (25, .invokestatic 59, 3, .inr (.inl g_JA_fill)),
  (28, .aload_n 0, 1, .inl (0, 0)),
  (29, .getfield 9, 3, .inl (0, 0)),
  (32, .invokestatic 65, 3, .inr (.inl g_Row_ascending)),
  (35, .istore 4, 2, .inl (0, 0)),
  (37, .iconst 0, 1, .inr (.inr (.inl (nI 0)))),
  (38, .istore 5, 2, .inl (0, 0)),
  (40, .iload 5, 2, .inl (0, 0)),
  (42, .aload_n 1, 1, .inl (0, 0)),
  (43, .getfield 33, 3, .inl (2, 0)),
  (46, .if_icmp .ge 115, 3, .inl (161, 0)),
  (49, .iload 5, 2, .inl (0, 0)),
  (51, .bipush 8, 2, .inr (.inr (.inl (nI 8)))),
  (53, .if_icmp .ge 108, 3, .inl (161, 0)),
  (56, .iconst 0, 1, .inr (.inr (.inl (nI 0)))),
  (57, .istore 6, 2, .inl (0, 0)),
  (59, .iload 6, 2, .inl (0, 0)),
  (61, .aload_n 0, 1, .inl (0, 0)),
  (62, .getfield 9, 3, .inl (0, 0)),
  (65, .if_icmp .ge 78, 3, .inl (143, 0)),
  (68, .iload 4, 2, .inl (0, 0)),
  (70, .iload 6, 2, .inl (0, 0)),
  (72, .invokestatic 68, 3, .inr (.inl g_Row_entry)),
  (75, .istore 7, 2, .inl (0, 0)),
  (77, .aload_n 1, 1, .inl (0, 0)),
  (78, .getfield 71, 3, .inl (2, 2)),
  (81, .iload 5, 2, .inl (0, 0)),
  (83, .iaload, 1, .inl (0, 0)),
  (84, .iload 6, 2, .inl (0, 0)),
  (86, .invokestatic 68, 3, .inr (.inl g_Row_entry)),
  (89, .istore 8, 2, .inl (0, 0)),
  (91, .aload_n 0, 1, .inl (0, 0)),
  (92, .getfield 15, 3, .inl (0, 1)),
  (95, .iload 7, 2, .inl (0, 0)),
  (97, .iconst 3, 1, .inr (.inr (.inl (nI 3)))),
  (98, .ishl, 1, .inl (0, 0)),
  (99, .iload 8, 2, .inl (0, 0)),
  (101, .ior, 1, .inl (0, 0)),
  (102, .dup2, 1, .inl (0, 0)),
  (103, .iaload, 1, .inl (0, 0)),
  (104, .iconst 1, 1, .inr (.inr (.inl (nI 1)))),
  (105, .iadd, 1, .inl (0, 0)),
  (106, .iastore, 1, .inl (0, 0)),
  (107, .aload_n 1, 1, .inl (0, 0)),
  (108, .getfield 74, 3, .inl (2, 3)),
  (111, .iload 5, 2, .inl (0, 0)),
  (113, .iaload, 1, .inl (0, 0)),
  (114, .iload 6, 2, .inl (0, 0)),
  (116, .ishr, 1, .inl (0, 0)),
  (117, .iconst 1, 1, .inr (.inr (.inl (nI 1)))),
  (118, .iand, 1, .inl (0, 0)),
  (119, .iconst 1, 1, .inr (.inr (.inl (nI 1)))),
  (120, .if_icmp .ne 17, 3, .inl (137, 0)),
  (123, .aload_n 0, 1, .inl (0, 0)),
  (124, .getfield 19, 3, .inl (0, 2)),
  (127, .iload 7, 2, .inl (0, 0)),
  (129, .dup2, 1, .inl (0, 0)),
  (130, .iaload, 1, .inl (0, 0)),
  (131, .iconst 1, 1, .inr (.inr (.inl (nI 1)))),
  (132, .iload 8, 2, .inl (0, 0)),
  (134, .ishl, 1, .inl (0, 0)),
  (135, .iand, 1, .inl (0, 0)),
  (136, .iastore, 1, .inl (0, 0)),
  (137, .iinc 6 1, 3, .inr (.inr (.inl (nI 1)))),
  (140, .goto (-81), 3, .inl (59, 0)),
  (143, .iload 4, 2, .inl (0, 0)),
  (145, .iload_n 2, 1, .inl (0, 0)),
  (146, .aload_n 0, 1, .inl (0, 0)),
  (147, .getfield 9, 3, .inl (0, 0)),
  (150, .invokestatic 77, 3, .inr (.inl g_Row_turned)),
  (153, .istore 4, 2, .inl (0, 0)),
  (155, .iinc 5 1, 3, .inr (.inr (.inl (nI 1)))),
  (158, .goto (-118), 3, .inl (40, 0)),
  (161, .return_, 1, .inl (0, 0))]
set_option maxRecDepth 100000 in
set_option maxHeartbeats 4000000 in
theorem ok_Fit_compare : xOK g_Fit_compare k_Fit_compare := ⟨by decide +kernel, by decide +kernel, List.forall_mem_cons.mpr ⟨trivial, List.forall_mem_cons.mpr ⟨trivial, List.forall_mem_cons.mpr ⟨⟨fl_Fit_9, nf_0_0 _⟩, List.forall_mem_cons.mpr ⟨trivial, List.forall_mem_cons.mpr ⟨fl_Fit_15, List.forall_mem_cons.mpr ⟨trivial, List.forall_mem_cons.mpr ⟨⟨ml_Fit_59, xms_JA_fill⟩, List.forall_mem_cons.mpr ⟨trivial, List.forall_mem_cons.mpr ⟨fl_Fit_19, List.forall_mem_cons.mpr ⟨trivial, List.forall_mem_cons.mpr ⟨trivial, List.forall_mem_cons.mpr ⟨fl_Fit_9, List.forall_mem_cons.mpr ⟨trivial, List.forall_mem_cons.mpr ⟨trivial, List.forall_mem_cons.mpr ⟨trivial, List.forall_mem_cons.mpr ⟨⟨ml_Fit_59, xms_JA_fill⟩, List.forall_mem_cons.mpr ⟨trivial, List.forall_mem_cons.mpr ⟨fl_Fit_9, List.forall_mem_cons.mpr ⟨⟨ml_Fit_65, xms_Row_ascending⟩, List.forall_mem_cons.mpr ⟨trivial, List.forall_mem_cons.mpr ⟨trivial, List.forall_mem_cons.mpr ⟨trivial, List.forall_mem_cons.mpr ⟨trivial, List.forall_mem_cons.mpr ⟨trivial, List.forall_mem_cons.mpr ⟨fl_Fit_33, List.forall_mem_cons.mpr ⟨trivial, List.forall_mem_cons.mpr ⟨trivial, List.forall_mem_cons.mpr ⟨trivial, List.forall_mem_cons.mpr ⟨trivial, List.forall_mem_cons.mpr ⟨trivial, List.forall_mem_cons.mpr ⟨trivial, List.forall_mem_cons.mpr ⟨trivial, List.forall_mem_cons.mpr ⟨trivial, List.forall_mem_cons.mpr ⟨fl_Fit_9, List.forall_mem_cons.mpr ⟨trivial, List.forall_mem_cons.mpr ⟨trivial, List.forall_mem_cons.mpr ⟨trivial, List.forall_mem_cons.mpr ⟨⟨ml_Fit_68, xms_Row_entry⟩, List.forall_mem_cons.mpr ⟨trivial, List.forall_mem_cons.mpr ⟨trivial, List.forall_mem_cons.mpr ⟨fl_Fit_71, List.forall_mem_cons.mpr ⟨trivial, List.forall_mem_cons.mpr ⟨trivial, List.forall_mem_cons.mpr ⟨trivial, List.forall_mem_cons.mpr ⟨⟨ml_Fit_68, xms_Row_entry⟩, List.forall_mem_cons.mpr ⟨trivial, List.forall_mem_cons.mpr ⟨trivial, List.forall_mem_cons.mpr ⟨fl_Fit_15, List.forall_mem_cons.mpr ⟨trivial, List.forall_mem_cons.mpr ⟨trivial, List.forall_mem_cons.mpr ⟨trivial, List.forall_mem_cons.mpr ⟨trivial, List.forall_mem_cons.mpr ⟨trivial, List.forall_mem_cons.mpr ⟨trivial, List.forall_mem_cons.mpr ⟨trivial, List.forall_mem_cons.mpr ⟨trivial, List.forall_mem_cons.mpr ⟨trivial, List.forall_mem_cons.mpr ⟨trivial, List.forall_mem_cons.mpr ⟨trivial, List.forall_mem_cons.mpr ⟨fl_Fit_74, List.forall_mem_cons.mpr ⟨trivial, List.forall_mem_cons.mpr ⟨trivial, List.forall_mem_cons.mpr ⟨trivial, List.forall_mem_cons.mpr ⟨trivial, List.forall_mem_cons.mpr ⟨trivial, List.forall_mem_cons.mpr ⟨trivial, List.forall_mem_cons.mpr ⟨trivial, List.forall_mem_cons.mpr ⟨trivial, List.forall_mem_cons.mpr ⟨trivial, List.forall_mem_cons.mpr ⟨fl_Fit_19, List.forall_mem_cons.mpr ⟨trivial, List.forall_mem_cons.mpr ⟨trivial, List.forall_mem_cons.mpr ⟨trivial, List.forall_mem_cons.mpr ⟨trivial, List.forall_mem_cons.mpr ⟨trivial, List.forall_mem_cons.mpr ⟨trivial, List.forall_mem_cons.mpr ⟨trivial, List.forall_mem_cons.mpr ⟨trivial, List.forall_mem_cons.mpr ⟨trivial, List.forall_mem_cons.mpr ⟨trivial, List.forall_mem_cons.mpr ⟨trivial, List.forall_mem_cons.mpr ⟨trivial, List.forall_mem_cons.mpr ⟨trivial, List.forall_mem_cons.mpr ⟨fl_Fit_9, List.forall_mem_cons.mpr ⟨⟨ml_Fit_77, xms_Row_turned⟩, List.forall_mem_cons.mpr ⟨trivial, List.forall_mem_cons.mpr ⟨trivial, List.forall_mem_cons.mpr ⟨trivial, List.forall_mem_cons.mpr ⟨trivial, fun _ h => absurd h List.not_mem_nil⟩⟩⟩⟩⟩⟩⟩⟩⟩⟩⟩⟩⟩⟩⟩⟩⟩⟩⟩⟩⟩⟩⟩⟩⟩⟩⟩⟩⟩⟩⟩⟩⟩⟩⟩⟩⟩⟩⟩⟩⟩⟩⟩⟩⟩⟩⟩⟩⟩⟩⟩⟩⟩⟩⟩⟩⟩⟩⟩⟩⟩⟩⟩⟩⟩⟩⟩⟩⟩⟩⟩⟩⟩⟩⟩⟩⟩⟩⟩⟩⟩⟩⟩⟩⟩⟩⟩⟩⟩⟩
def k_Fit_keptWith : xCd := [
  (0, .iconst 1, 1, .inr (.inr (.inl (nI 1)))),
  (1, .iload_n 2, 1, .inl (0, 0)),
  (2, .ishl, 1, .inl (0, 0)),
  (3, .istore 4, 2, .inl (0, 0)),
  (5, .iload_n 3, 1, .inl (0, 0)),
  (6, .iload 4, 2, .inl (0, 0)),
  (8, .iand, 1, .inl (0, 0)),
  (9, .ifCond .ne 28, 3, .inl (37, 0)),
  (12, .aload_n 0, 1, .inl (0, 0)),
  (13, .getfield 19, 3, .inl (0, 2)),
  (16, .iload_n 1, 1, .inl (0, 0)),
  (17, .iaload, 1, .inl (0, 0)),
  (18, .iload 4, 2, .inl (0, 0)),
  (20, .iand, 1, .inl (0, 0)),
  (21, .ifCond .eq 16, 3, .inl (37, 0)),
  (24, .aload_n 0, 1, .inl (0, 0)),
  (25, .getfield 22, 3, .inl (0, 3)),
  (28, .iload_n 3, 1, .inl (0, 0)),
  (29, .iload 4, 2, .inl (0, 0)),
  (31, .ior, 1, .inl (0, 0)),
  (32, .iaload, 1, .inl (0, 0)),
  (33, .iconst (-1), 1, .inr (.inr (.inl (-1)))),
  (34, .if_icmp .ne 5, 3, .inl (39, 0)),
  (37, .iconst (-1), 1, .inr (.inr (.inl (-1)))),
  (38, .ireturn, 1, .inl (0, 0)),
  (39, .aload_n 0, 1, .inl (0, 0)),
  (40, .getfield 15, 3, .inl (0, 1)),
  (43, .iload_n 1, 1, .inl (0, 0)),
  (44, .iconst 3, 1, .inr (.inr (.inl (nI 3)))),
  (45, .ishl, 1, .inl (0, 0)),
  (46, .iload_n 2, 1, .inl (0, 0)),
  (47, .ior, 1, .inl (0, 0)),
  (48, .iaload, 1, .inl (0, 0)),
  (49, .aload_n 0, 1, .inl (0, 0)),
  (50, .getfield 22, 3, .inl (0, 3)),
  (53, .iload_n 3, 1, .inl (0, 0)),
  (54, .iload 4, 2, .inl (0, 0)),
  (56, .ior, 1, .inl (0, 0)),
  (57, .iaload, 1, .inl (0, 0)),
  (58, .iadd, 1, .inl (0, 0)),
  (59, .ireturn, 1, .inl (0, 0))]
set_option maxRecDepth 100000 in
set_option maxHeartbeats 4000000 in
theorem ok_Fit_keptWith : xOK g_Fit_keptWith k_Fit_keptWith := ⟨by decide +kernel, by decide +kernel, List.forall_mem_cons.mpr ⟨trivial, List.forall_mem_cons.mpr ⟨trivial, List.forall_mem_cons.mpr ⟨trivial, List.forall_mem_cons.mpr ⟨trivial, List.forall_mem_cons.mpr ⟨trivial, List.forall_mem_cons.mpr ⟨trivial, List.forall_mem_cons.mpr ⟨trivial, List.forall_mem_cons.mpr ⟨trivial, List.forall_mem_cons.mpr ⟨trivial, List.forall_mem_cons.mpr ⟨fl_Fit_19, List.forall_mem_cons.mpr ⟨trivial, List.forall_mem_cons.mpr ⟨trivial, List.forall_mem_cons.mpr ⟨trivial, List.forall_mem_cons.mpr ⟨trivial, List.forall_mem_cons.mpr ⟨trivial, List.forall_mem_cons.mpr ⟨trivial, List.forall_mem_cons.mpr ⟨fl_Fit_22, List.forall_mem_cons.mpr ⟨trivial, List.forall_mem_cons.mpr ⟨trivial, List.forall_mem_cons.mpr ⟨trivial, List.forall_mem_cons.mpr ⟨trivial, List.forall_mem_cons.mpr ⟨trivial, List.forall_mem_cons.mpr ⟨trivial, List.forall_mem_cons.mpr ⟨trivial, List.forall_mem_cons.mpr ⟨trivial, List.forall_mem_cons.mpr ⟨trivial, List.forall_mem_cons.mpr ⟨fl_Fit_15, List.forall_mem_cons.mpr ⟨trivial, List.forall_mem_cons.mpr ⟨trivial, List.forall_mem_cons.mpr ⟨trivial, List.forall_mem_cons.mpr ⟨trivial, List.forall_mem_cons.mpr ⟨trivial, List.forall_mem_cons.mpr ⟨trivial, List.forall_mem_cons.mpr ⟨trivial, List.forall_mem_cons.mpr ⟨fl_Fit_22, List.forall_mem_cons.mpr ⟨trivial, List.forall_mem_cons.mpr ⟨trivial, List.forall_mem_cons.mpr ⟨trivial, List.forall_mem_cons.mpr ⟨trivial, List.forall_mem_cons.mpr ⟨trivial, List.forall_mem_cons.mpr ⟨trivial, fun _ h => absurd h List.not_mem_nil⟩⟩⟩⟩⟩⟩⟩⟩⟩⟩⟩⟩⟩⟩⟩⟩⟩⟩⟩⟩⟩⟩⟩⟩⟩⟩⟩⟩⟩⟩⟩⟩⟩⟩⟩⟩⟩⟩⟩⟩⟩⟩
def k_Fit_mostKept : xCd := [
  (0, .iconst 1, 1, .inr (.inr (.inl (nI 1)))),
  (1, .aload_n 0, 1, .inl (0, 0)),
  (2, .getfield 9, 3, .inl (0, 0)),
  (5, .ishl, 1, .inl (0, 0)),
  (6, .iconst 1, 1, .inr (.inr (.inl (nI 1)))),
  (7, .isub, 1, .inl (0, 0)),
  (8, .istore_n 1, 1, .inl (0, 0)),
  (9, .aload_n 0, 1, .inl (0, 0)),
  (10, .getfield 22, 3, .inl (0, 3)),
  (13, .iload_n 1, 1, .inl (0, 0)),
  (14, .iconst 0, 1, .inr (.inr (.inl (nI 0)))),
  (15, .iastore, 1, .inl (0, 0)),
  (16, .iload_n 1, 1, .inl (0, 0)),
  (17, .iconst 1, 1, .inr (.inr (.inl (nI 1)))),
  (18, .isub, 1, .inl (0, 0)),
  (19, .istore_n 2, 1, .inl (0, 0)),
  (20, .iload_n 2, 1, .inl (0, 0)),
  (21, .ifCond .lt 58, 3, .inl (79, 0)),
  (24, .iload_n 2, 1, .inl (0, 0)),
  (25, .invokestatic 80, 3, .inr (.inl g_JI_bitCount)),
  (28, .istore_n 3, 1, .inl (0, 0)),
  (29, .iconst (-1), 1, .inr (.inr (.inl (-1)))),
  (30, .istore 4, 2, .inl (0, 0)),
  (32, .iconst 0, 1, .inr (.inr (.inl (nI 0)))),
  (33, .istore 5, 2, .inl (0, 0)),
  (35, .iload 5, 2, .inl (0, 0)),
  (37, .aload_n 0, 1, .inl (0, 0)),
  (38, .getfield 9, 3, .inl (0, 0)),
  (41, .if_icmp .ge 24, 3, .inl (65, 0)),
  (44, .iload 4, 2, .inl (0, 0)),
  (46, .aload_n 0, 1, .inl (0, 0)),
  (47, .iload_n 3, 1, .inl (0, 0)),
  (48, .iload 5, 2, .inl (0, 0)),
  (50, .iload_n 2, 1, .inl (0, 0)),
  (51, .invokevirtual 85, 3, .inr (.inl g_Fit_keptWith)),
  (54, .invokestatic 88, 3, .inr (.inr (.inr (.inr (0, []))))),
  (57, .istore 4, 2, .inl (0, 0)),
  (59, .iinc 5 1, 3, .inr (.inr (.inl (nI 1)))),
  (62, .goto (-27), 3, .inl (35, 0)),
  (65, .aload_n 0, 1, .inl (0, 0)),
  (66, .getfield 22, 3, .inl (0, 3)),
  (69, .iload_n 2, 1, .inl (0, 0)),
  (70, .iload 4, 2, .inl (0, 0)),
  (72, .iastore, 1, .inl (0, 0)),
  (73, .iinc 2 (-1), 3, .inr (.inr (.inl (-1)))),
  (76, .goto (-56), 3, .inl (20, 0)),
  (79, .aload_n 0, 1, .inl (0, 0)),
  (80, .getfield 22, 3, .inl (0, 3)),
  (83, .iconst 0, 1, .inr (.inr (.inl (nI 0)))),
  (84, .iaload, 1, .inl (0, 0)),
  (85, .ireturn, 1, .inl (0, 0))]
set_option maxRecDepth 100000 in
set_option maxHeartbeats 4000000 in
theorem ok_Fit_mostKept : xOK g_Fit_mostKept k_Fit_mostKept := ⟨by decide +kernel, by decide +kernel, List.forall_mem_cons.mpr ⟨trivial, List.forall_mem_cons.mpr ⟨trivial, List.forall_mem_cons.mpr ⟨fl_Fit_9, List.forall_mem_cons.mpr ⟨trivial, List.forall_mem_cons.mpr ⟨trivial, List.forall_mem_cons.mpr ⟨trivial, List.forall_mem_cons.mpr ⟨trivial, List.forall_mem_cons.mpr ⟨trivial, List.forall_mem_cons.mpr ⟨fl_Fit_22, List.forall_mem_cons.mpr ⟨trivial, List.forall_mem_cons.mpr ⟨trivial, List.forall_mem_cons.mpr ⟨trivial, List.forall_mem_cons.mpr ⟨trivial, List.forall_mem_cons.mpr ⟨trivial, List.forall_mem_cons.mpr ⟨trivial, List.forall_mem_cons.mpr ⟨trivial, List.forall_mem_cons.mpr ⟨trivial, List.forall_mem_cons.mpr ⟨trivial, List.forall_mem_cons.mpr ⟨trivial, List.forall_mem_cons.mpr ⟨⟨ml_Fit_80, xms_JI_bitCount⟩, List.forall_mem_cons.mpr ⟨trivial, List.forall_mem_cons.mpr ⟨trivial, List.forall_mem_cons.mpr ⟨trivial, List.forall_mem_cons.mpr ⟨trivial, List.forall_mem_cons.mpr ⟨trivial, List.forall_mem_cons.mpr ⟨trivial, List.forall_mem_cons.mpr ⟨trivial, List.forall_mem_cons.mpr ⟨fl_Fit_9, List.forall_mem_cons.mpr ⟨trivial, List.forall_mem_cons.mpr ⟨trivial, List.forall_mem_cons.mpr ⟨trivial, List.forall_mem_cons.mpr ⟨trivial, List.forall_mem_cons.mpr ⟨trivial, List.forall_mem_cons.mpr ⟨trivial, List.forall_mem_cons.mpr ⟨⟨ml_Fit_85, xmv_Fit_keptWith⟩, List.forall_mem_cons.mpr ⟨⟨lw_gm 668 rfl rfl, lw_gm 521 rfl rfl, lw_gm 82 rfl rfl, lw_gm 522 rfl rfl⟩, List.forall_mem_cons.mpr ⟨trivial, List.forall_mem_cons.mpr ⟨trivial, List.forall_mem_cons.mpr ⟨trivial, List.forall_mem_cons.mpr ⟨trivial, List.forall_mem_cons.mpr ⟨fl_Fit_22, List.forall_mem_cons.mpr ⟨trivial, List.forall_mem_cons.mpr ⟨trivial, List.forall_mem_cons.mpr ⟨trivial, List.forall_mem_cons.mpr ⟨trivial, List.forall_mem_cons.mpr ⟨trivial, List.forall_mem_cons.mpr ⟨trivial, List.forall_mem_cons.mpr ⟨fl_Fit_22, List.forall_mem_cons.mpr ⟨trivial, List.forall_mem_cons.mpr ⟨trivial, List.forall_mem_cons.mpr ⟨trivial, fun _ h => absurd h List.not_mem_nil⟩⟩⟩⟩⟩⟩⟩⟩⟩⟩⟩⟩⟩⟩⟩⟩⟩⟩⟩⟩⟩⟩⟩⟩⟩⟩⟩⟩⟩⟩⟩⟩⟩⟩⟩⟩⟩⟩⟩⟩⟩⟩⟩⟩⟩⟩⟩⟩⟩⟩⟩⟩
def k_Fit_changes : xCd := [
  (0, .aload_n 0, 1, .inl (0, 0)),
  (1, .aload_n 1, 1, .inl (0, 0)),
  (2, .iload_n 2, 1, .inl (0, 0)),
  (3, .iload_n 3, 1, .inl (0, 0)),
  (4, .invokevirtual 25, 3, .inr (.inl g_Fit_compare)),
  (7, .aload_n 0, 1, .inl (0, 0)),
  (8, .invokevirtual 29, 3, .inr (.inl g_Fit_mostKept)),
  (11, .istore 4, 2, .inl (0, 0)),
  (13, .iload 4, 2, .inl (0, 0)),
  (15, .iconst (-1), 1, .inr (.inr (.inl (-1)))),
  (16, .if_icmp .ne 8, 3, .inl (24, 0)),
  (19, .bipush (-9), 2, .inr (.inr (.inl (-9)))),
  (21, .goto 15, 3, .inl (36, 0)),
  (24, .aload_n 1, 1, .inl (0, 0)),
  (25, .getfield 33, 3, .inl (2, 0)),
  (28, .aload_n 0, 1, .inl (0, 0)),
  (29, .getfield 9, 3, .inl (0, 0)),
  (32, .imul, 1, .inl (0, 0)),
  (33, .iload 4, 2, .inl (0, 0)),
  (35, .isub, 1, .inl (0, 0)),
  (36, .ireturn, 1, .inl (0, 0))]
set_option maxRecDepth 100000 in
set_option maxHeartbeats 4000000 in
theorem ok_Fit_changes : xOK g_Fit_changes k_Fit_changes := ⟨by decide +kernel, by decide +kernel, List.forall_mem_cons.mpr ⟨trivial, List.forall_mem_cons.mpr ⟨trivial, List.forall_mem_cons.mpr ⟨trivial, List.forall_mem_cons.mpr ⟨trivial, List.forall_mem_cons.mpr ⟨⟨ml_Fit_25, xmv_Fit_compare⟩, List.forall_mem_cons.mpr ⟨trivial, List.forall_mem_cons.mpr ⟨⟨ml_Fit_29, xmv_Fit_mostKept⟩, List.forall_mem_cons.mpr ⟨trivial, List.forall_mem_cons.mpr ⟨trivial, List.forall_mem_cons.mpr ⟨trivial, List.forall_mem_cons.mpr ⟨trivial, List.forall_mem_cons.mpr ⟨trivial, List.forall_mem_cons.mpr ⟨trivial, List.forall_mem_cons.mpr ⟨trivial, List.forall_mem_cons.mpr ⟨fl_Fit_33, List.forall_mem_cons.mpr ⟨trivial, List.forall_mem_cons.mpr ⟨fl_Fit_9, List.forall_mem_cons.mpr ⟨trivial, List.forall_mem_cons.mpr ⟨trivial, List.forall_mem_cons.mpr ⟨trivial, List.forall_mem_cons.mpr ⟨trivial, fun _ h => absurd h List.not_mem_nil⟩⟩⟩⟩⟩⟩⟩⟩⟩⟩⟩⟩⟩⟩⟩⟩⟩⟩⟩⟩⟩⟩
def k_Fit_firstWord : xCd := [
  (0, .iconst 0, 1, .inr (.inr (.inl (nI 0)))),
  (1, .istore_n 3, 1, .inl (0, 0)),
  (2, .iload_n 3, 1, .inl (0, 0)),
  (3, .aload_n 0, 1, .inl (0, 0)),
  (4, .getfield 9, 3, .inl (0, 0)),
  (7, .if_icmp .ge 37, 3, .inl (44, 0)),
  (10, .aload_n 0, 1, .inl (0, 0)),
  (11, .getfield 22, 3, .inl (0, 3)),
  (14, .iload_n 2, 1, .inl (0, 0)),
  (15, .iaload, 1, .inl (0, 0)),
  (16, .iconst (-1), 1, .inr (.inr (.inl (-1)))),
  (17, .if_icmp .eq 21, 3, .inl (38, 0)),
  (20, .aload_n 0, 1, .inl (0, 0)),
  (21, .iload_n 1, 1, .inl (0, 0)),
  (22, .iload_n 3, 1, .inl (0, 0)),
  (23, .iload_n 2, 1, .inl (0, 0)),
  (24, .invokevirtual 85, 3, .inr (.inl g_Fit_keptWith)),
  (27, .aload_n 0, 1, .inl (0, 0)),
  (28, .getfield 22, 3, .inl (0, 3)),
  (31, .iload_n 2, 1, .inl (0, 0)),
  (32, .iaload, 1, .inl (0, 0)),
  (33, .if_icmp .ne 5, 3, .inl (38, 0)),
  (36, .iload_n 3, 1, .inl (0, 0)),
  (37, .ireturn, 1, .inl (0, 0)),
  (38, .iinc 3 1, 3, .inr (.inr (.inl (nI 1)))),
  (41, .goto (-39), 3, .inl (2, 0)),
  (44, .iconst 0, 1, .inr (.inr (.inl (nI 0)))),
  (45, .ireturn, 1, .inl (0, 0))]
set_option maxRecDepth 100000 in
set_option maxHeartbeats 4000000 in
theorem ok_Fit_firstWord : xOK g_Fit_firstWord k_Fit_firstWord := ⟨by decide +kernel, by decide +kernel, List.forall_mem_cons.mpr ⟨trivial, List.forall_mem_cons.mpr ⟨trivial, List.forall_mem_cons.mpr ⟨trivial, List.forall_mem_cons.mpr ⟨trivial, List.forall_mem_cons.mpr ⟨fl_Fit_9, List.forall_mem_cons.mpr ⟨trivial, List.forall_mem_cons.mpr ⟨trivial, List.forall_mem_cons.mpr ⟨fl_Fit_22, List.forall_mem_cons.mpr ⟨trivial, List.forall_mem_cons.mpr ⟨trivial, List.forall_mem_cons.mpr ⟨trivial, List.forall_mem_cons.mpr ⟨trivial, List.forall_mem_cons.mpr ⟨trivial, List.forall_mem_cons.mpr ⟨trivial, List.forall_mem_cons.mpr ⟨trivial, List.forall_mem_cons.mpr ⟨trivial, List.forall_mem_cons.mpr ⟨⟨ml_Fit_85, xmv_Fit_keptWith⟩, List.forall_mem_cons.mpr ⟨trivial, List.forall_mem_cons.mpr ⟨fl_Fit_22, List.forall_mem_cons.mpr ⟨trivial, List.forall_mem_cons.mpr ⟨trivial, List.forall_mem_cons.mpr ⟨trivial, List.forall_mem_cons.mpr ⟨trivial, List.forall_mem_cons.mpr ⟨trivial, List.forall_mem_cons.mpr ⟨trivial, List.forall_mem_cons.mpr ⟨trivial, List.forall_mem_cons.mpr ⟨trivial, List.forall_mem_cons.mpr ⟨trivial, fun _ h => absurd h List.not_mem_nil⟩⟩⟩⟩⟩⟩⟩⟩⟩⟩⟩⟩⟩⟩⟩⟩⟩⟩⟩⟩⟩⟩⟩⟩⟩⟩⟩⟩⟩
def k_Fit_firstRow : xCd := [
  (0, .iconst 0, 1, .inr (.inr (.inl (nI 0)))),
  (1, .istore_n 1, 1, .inl (0, 0)),
  (2, .iconst 0, 1, .inr (.inr (.inl (nI 0)))),
  (3, .istore_n 2, 1, .inl (0, 0)),
  (4, .iconst 0, 1, .inr (.inr (.inl (nI 0)))),
  (5, .istore_n 3, 1, .inl (0, 0)),
  (6, .iload_n 3, 1, .inl (0, 0)),
  (7, .aload_n 0, 1, .inl (0, 0)),
  (8, .getfield 9, 3, .inl (0, 0)),
  (11, .if_icmp .ge 32, 3, .inl (43, 0)),
  (14, .aload_n 0, 1, .inl (0, 0)),
  (15, .iload_n 3, 1, .inl (0, 0)),
  (16, .iload_n 2, 1, .inl (0, 0)),
  (17, .invokevirtual 38, 3, .inr (.inl g_Fit_firstWord)),
  (20, .istore 4, 2, .inl (0, 0)),
  (22, .iload_n 1, 1, .inl (0, 0)),
  (23, .iload_n 3, 1, .inl (0, 0)),
  (24, .iload 4, 2, .inl (0, 0)),
  (26, .invokestatic 42, 3, .inr (.inl g_Row_with)),
  (29, .istore_n 1, 1, .inl (0, 0)),
  (30, .iload_n 2, 1, .inl (0, 0)),
  (31, .iconst 1, 1, .inr (.inr (.inl (nI 1)))),
  (32, .iload 4, 2, .inl (0, 0)),
  (34, .ishl, 1, .inl (0, 0)),
  (35, .ior, 1, .inl (0, 0)),
  (36, .istore_n 2, 1, .inl (0, 0)),
  (37, .iinc 3 1, 3, .inr (.inr (.inl (nI 1)))),
  (40, .goto (-34), 3, .inl (6, 0)),
  (43, .iload_n 1, 1, .inl (0, 0)),
  (44, .ireturn, 1, .inl (0, 0))]
set_option maxRecDepth 100000 in
set_option maxHeartbeats 4000000 in
theorem ok_Fit_firstRow : xOK g_Fit_firstRow k_Fit_firstRow := ⟨by decide +kernel, by decide +kernel, List.forall_mem_cons.mpr ⟨trivial, List.forall_mem_cons.mpr ⟨trivial, List.forall_mem_cons.mpr ⟨trivial, List.forall_mem_cons.mpr ⟨trivial, List.forall_mem_cons.mpr ⟨trivial, List.forall_mem_cons.mpr ⟨trivial, List.forall_mem_cons.mpr ⟨trivial, List.forall_mem_cons.mpr ⟨trivial, List.forall_mem_cons.mpr ⟨fl_Fit_9, List.forall_mem_cons.mpr ⟨trivial, List.forall_mem_cons.mpr ⟨trivial, List.forall_mem_cons.mpr ⟨trivial, List.forall_mem_cons.mpr ⟨trivial, List.forall_mem_cons.mpr ⟨⟨ml_Fit_38, xmv_Fit_firstWord⟩, List.forall_mem_cons.mpr ⟨trivial, List.forall_mem_cons.mpr ⟨trivial, List.forall_mem_cons.mpr ⟨trivial, List.forall_mem_cons.mpr ⟨trivial, List.forall_mem_cons.mpr ⟨⟨ml_Fit_42, xms_Row_with⟩, List.forall_mem_cons.mpr ⟨trivial, List.forall_mem_cons.mpr ⟨trivial, List.forall_mem_cons.mpr ⟨trivial, List.forall_mem_cons.mpr ⟨trivial, List.forall_mem_cons.mpr ⟨trivial, List.forall_mem_cons.mpr ⟨trivial, List.forall_mem_cons.mpr ⟨trivial, List.forall_mem_cons.mpr ⟨trivial, List.forall_mem_cons.mpr ⟨trivial, List.forall_mem_cons.mpr ⟨trivial, List.forall_mem_cons.mpr ⟨trivial, fun _ h => absurd h List.not_mem_nil⟩⟩⟩⟩⟩⟩⟩⟩⟩⟩⟩⟩⟩⟩⟩⟩⟩⟩⟩⟩⟩⟩⟩⟩⟩⟩⟩⟩⟩⟩⟩
def k_Fit_mostOfLine : xCd := [
  (0, .iconst 0, 1, .inr (.inr (.inl (nI 0)))),
  (1, .istore_n 2, 1, .inl (0, 0)),
  (2, .iconst 0, 1, .inr (.inr (.inl (nI 0)))),
  (3, .istore_n 3, 1, .inl (0, 0)),
  (4, .iload_n 3, 1, .inl (0, 0)),
  (5, .aload_n 0, 1, .inl (0, 0)),
  (6, .getfield 9, 3, .inl (0, 0)),
  (9, .if_icmp .ge 24, 3, .inl (33, 0)),
  (12, .iload_n 2, 1, .inl (0, 0)),
  (13, .aload_n 0, 1, .inl (0, 0)),
  (14, .getfield 15, 3, .inl (0, 1)),
  (17, .iload_n 1, 1, .inl (0, 0)),
  (18, .iconst 3, 1, .inr (.inr (.inl (nI 3)))),
  (19, .ishl, 1, .inl (0, 0)),
  (20, .iload_n 3, 1, .inl (0, 0)),
  (21, .ior, 1, .inl (0, 0)),
  (22, .iaload, 1, .inl (0, 0)),
  (23, .invokestatic 88, 3, .inr (.inr (.inr (.inr (0, []))))),
  (26, .istore_n 2, 1, .inl (0, 0)),
  (27, .iinc 3 1, 3, .inr (.inr (.inl (nI 1)))),
  (30, .goto (-26), 3, .inl (4, 0)),
  (33, .iload_n 2, 1, .inl (0, 0)),
  (34, .ireturn, 1, .inl (0, 0))]
set_option maxRecDepth 100000 in
set_option maxHeartbeats 4000000 in
theorem ok_Fit_mostOfLine : xOK g_Fit_mostOfLine k_Fit_mostOfLine := ⟨by decide +kernel, by decide +kernel, List.forall_mem_cons.mpr ⟨trivial, List.forall_mem_cons.mpr ⟨trivial, List.forall_mem_cons.mpr ⟨trivial, List.forall_mem_cons.mpr ⟨trivial, List.forall_mem_cons.mpr ⟨trivial, List.forall_mem_cons.mpr ⟨trivial, List.forall_mem_cons.mpr ⟨fl_Fit_9, List.forall_mem_cons.mpr ⟨trivial, List.forall_mem_cons.mpr ⟨trivial, List.forall_mem_cons.mpr ⟨trivial, List.forall_mem_cons.mpr ⟨fl_Fit_15, List.forall_mem_cons.mpr ⟨trivial, List.forall_mem_cons.mpr ⟨trivial, List.forall_mem_cons.mpr ⟨trivial, List.forall_mem_cons.mpr ⟨trivial, List.forall_mem_cons.mpr ⟨trivial, List.forall_mem_cons.mpr ⟨trivial, List.forall_mem_cons.mpr ⟨⟨lw_gm 668 rfl rfl, lw_gm 521 rfl rfl, lw_gm 82 rfl rfl, lw_gm 522 rfl rfl⟩, List.forall_mem_cons.mpr ⟨trivial, List.forall_mem_cons.mpr ⟨trivial, List.forall_mem_cons.mpr ⟨trivial, List.forall_mem_cons.mpr ⟨trivial, List.forall_mem_cons.mpr ⟨trivial, fun _ h => absurd h List.not_mem_nil⟩⟩⟩⟩⟩⟩⟩⟩⟩⟩⟩⟩⟩⟩⟩⟩⟩⟩⟩⟩⟩⟩⟩⟩
def k_Fit_mostOfWord : xCd := [
  (0, .iconst 0, 1, .inr (.inr (.inl (nI 0)))),
  (1, .istore_n 2, 1, .inl (0, 0)),
  (2, .iconst 0, 1, .inr (.inr (.inl (nI 0)))),
  (3, .istore_n 3, 1, .inl (0, 0)),
  (4, .iload_n 3, 1, .inl (0, 0)),
  (5, .aload_n 0, 1, .inl (0, 0)),
  (6, .getfield 9, 3, .inl (0, 0)),
  (9, .if_icmp .ge 24, 3, .inl (33, 0)),
  (12, .iload_n 2, 1, .inl (0, 0)),
  (13, .aload_n 0, 1, .inl (0, 0)),
  (14, .getfield 15, 3, .inl (0, 1)),
  (17, .iload_n 3, 1, .inl (0, 0)),
  (18, .iconst 3, 1, .inr (.inr (.inl (nI 3)))),
  (19, .ishl, 1, .inl (0, 0)),
  (20, .iload_n 1, 1, .inl (0, 0)),
  (21, .ior, 1, .inl (0, 0)),
  (22, .iaload, 1, .inl (0, 0)),
  (23, .invokestatic 88, 3, .inr (.inr (.inr (.inr (0, []))))),
  (26, .istore_n 2, 1, .inl (0, 0)),
  (27, .iinc 3 1, 3, .inr (.inr (.inl (nI 1)))),
  (30, .goto (-26), 3, .inl (4, 0)),
  (33, .iload_n 2, 1, .inl (0, 0)),
  (34, .ireturn, 1, .inl (0, 0))]
set_option maxRecDepth 100000 in
set_option maxHeartbeats 4000000 in
theorem ok_Fit_mostOfWord : xOK g_Fit_mostOfWord k_Fit_mostOfWord := ⟨by decide +kernel, by decide +kernel, List.forall_mem_cons.mpr ⟨trivial, List.forall_mem_cons.mpr ⟨trivial, List.forall_mem_cons.mpr ⟨trivial, List.forall_mem_cons.mpr ⟨trivial, List.forall_mem_cons.mpr ⟨trivial, List.forall_mem_cons.mpr ⟨trivial, List.forall_mem_cons.mpr ⟨fl_Fit_9, List.forall_mem_cons.mpr ⟨trivial, List.forall_mem_cons.mpr ⟨trivial, List.forall_mem_cons.mpr ⟨trivial, List.forall_mem_cons.mpr ⟨fl_Fit_15, List.forall_mem_cons.mpr ⟨trivial, List.forall_mem_cons.mpr ⟨trivial, List.forall_mem_cons.mpr ⟨trivial, List.forall_mem_cons.mpr ⟨trivial, List.forall_mem_cons.mpr ⟨trivial, List.forall_mem_cons.mpr ⟨trivial, List.forall_mem_cons.mpr ⟨⟨lw_gm 668 rfl rfl, lw_gm 521 rfl rfl, lw_gm 82 rfl rfl, lw_gm 522 rfl rfl⟩, List.forall_mem_cons.mpr ⟨trivial, List.forall_mem_cons.mpr ⟨trivial, List.forall_mem_cons.mpr ⟨trivial, List.forall_mem_cons.mpr ⟨trivial, List.forall_mem_cons.mpr ⟨trivial, fun _ h => absurd h List.not_mem_nil⟩⟩⟩⟩⟩⟩⟩⟩⟩⟩⟩⟩⟩⟩⟩⟩⟩⟩⟩⟩⟩⟩⟩⟩
def k_Fit_atMostKept : xCd := [
  (0, .iconst 0, 1, .inr (.inr (.inl (nI 0)))),
  (1, .istore_n 1, 1, .inl (0, 0)),
  (2, .iconst 0, 1, .inr (.inr (.inl (nI 0)))),
  (3, .istore_n 2, 1, .inl (0, 0)),
  (4, .iconst 0, 1, .inr (.inr (.inl (nI 0)))),
  (5, .istore_n 3, 1, .inl (0, 0)),
  (6, .iload_n 3, 1, .inl (0, 0)),
  (7, .aload_n 0, 1, .inl (0, 0)),
  (8, .getfield 9, 3, .inl (0, 0)),
  (11, .if_icmp .ge 25, 3, .inl (36, 0)),
  (14, .iload_n 1, 1, .inl (0, 0)),
  (15, .aload_n 0, 1, .inl (0, 0)),
  (16, .iload_n 3, 1, .inl (0, 0)),
  (17, .invokevirtual 93, 3, .inr (.inl g_Fit_mostOfLine)),
  (20, .iadd, 1, .inl (0, 0)),
  (21, .istore_n 1, 1, .inl (0, 0)),
  (22, .iload_n 2, 1, .inl (0, 0)),
  (23, .aload_n 0, 1, .inl (0, 0)),
  (24, .iload_n 3, 1, .inl (0, 0)),
  (25, .invokevirtual 96, 3, .inr (.inl g_Fit_mostOfWord)),
  (28, .iadd, 1, .inl (0, 0)),
  (29, .istore_n 2, 1, .inl (0, 0)),
  (30, .iinc 3 1, 3, .inr (.inr (.inl (nI 1)))),
  (33, .goto (-27), 3, .inl (6, 0)),
  (36, .iload_n 1, 1, .inl (0, 0)),
  (37, .iload_n 2, 1, .inl (0, 0)),
  (38, .invokestatic 99, 3, .inr (.inr (.inr (.inr (1, []))))),
  (41, .ireturn, 1, .inl (0, 0))]
set_option maxRecDepth 100000 in
set_option maxHeartbeats 4000000 in
theorem ok_Fit_atMostKept : xOK g_Fit_atMostKept k_Fit_atMostKept := ⟨by decide +kernel, by decide +kernel, List.forall_mem_cons.mpr ⟨trivial, List.forall_mem_cons.mpr ⟨trivial, List.forall_mem_cons.mpr ⟨trivial, List.forall_mem_cons.mpr ⟨trivial, List.forall_mem_cons.mpr ⟨trivial, List.forall_mem_cons.mpr ⟨trivial, List.forall_mem_cons.mpr ⟨trivial, List.forall_mem_cons.mpr ⟨trivial, List.forall_mem_cons.mpr ⟨fl_Fit_9, List.forall_mem_cons.mpr ⟨trivial, List.forall_mem_cons.mpr ⟨trivial, List.forall_mem_cons.mpr ⟨trivial, List.forall_mem_cons.mpr ⟨trivial, List.forall_mem_cons.mpr ⟨⟨ml_Fit_93, xmv_Fit_mostOfLine⟩, List.forall_mem_cons.mpr ⟨trivial, List.forall_mem_cons.mpr ⟨trivial, List.forall_mem_cons.mpr ⟨trivial, List.forall_mem_cons.mpr ⟨trivial, List.forall_mem_cons.mpr ⟨trivial, List.forall_mem_cons.mpr ⟨⟨ml_Fit_96, xmv_Fit_mostOfWord⟩, List.forall_mem_cons.mpr ⟨trivial, List.forall_mem_cons.mpr ⟨trivial, List.forall_mem_cons.mpr ⟨trivial, List.forall_mem_cons.mpr ⟨trivial, List.forall_mem_cons.mpr ⟨trivial, List.forall_mem_cons.mpr ⟨trivial, List.forall_mem_cons.mpr ⟨⟨lw_gm 708 rfl rfl, lw_gm 330 rfl rfl, lw_gm 82 rfl rfl, lw_gm 331 rfl rfl⟩, List.forall_mem_cons.mpr ⟨trivial, fun _ h => absurd h List.not_mem_nil⟩⟩⟩⟩⟩⟩⟩⟩⟩⟩⟩⟩⟩⟩⟩⟩⟩⟩⟩⟩⟩⟩⟩⟩⟩⟩⟩⟩⟩
def k_Fit_bestPermutation : xCd := [
  (0, .iconst (-1), 1, .inr (.inr (.inl (-1)))),
  (1, .istore_n 3, 1, .inl (0, 0)),
  (2, .iconst (-1), 1, .inr (.inr (.inl (-1)))),
  (3, .istore 4, 2, .inl (0, 0)),
  (5, .iload_n 2, 1, .inl (0, 0)),
  (6, .invokestatic 48, 3, .inr (.inl g_Perm_count)),
  (9, .istore 5, 2, .inl (0, 0)),
  (11, .iconst 0, 1, .inr (.inr (.inl (nI 0)))),
  (12, .istore 6, 2, .inl (0, 0)),
  (14, .iload 6, 2, .inl (0, 0)),
  (16, .iload 5, 2, .inl (0, 0)),
  (18, .if_icmp .ge 54, 3, .inl (72, 0)),
  (21, .iload 6, 2, .inl (0, 0)),
  (23, .iload_n 2, 1, .inl (0, 0)),
  (24, .invokestatic 53, 3, .inr (.inl g_Perm_numbered)),
  (27, .istore 7, 2, .inl (0, 0)),
  (29, .aload_n 0, 1, .inl (0, 0)),
  (30, .aload_n 1, 1, .inl (0, 0)),
  (31, .iload 7, 2, .inl (0, 0)),
  (33, .iload_n 2, 1, .inl (0, 0)),
  (34, .invokevirtual 25, 3, .inr (.inl g_Fit_compare)),
  (37, .aload_n 0, 1, .inl (0, 0)),
  (38, .invokevirtual 56, 3, .inr (.inl g_Fit_atMostKept)),
  (41, .iload 4, 2, .inl (0, 0)),
  (43, .if_icmp .le 23, 3, .inl (66, 0)),
  (46, .aload_n 0, 1, .inl (0, 0)),
  (47, .invokevirtual 29, 3, .inr (.inl g_Fit_mostKept)),
  (50, .istore 8, 2, .inl (0, 0)),
  (52, .iload 8, 2, .inl (0, 0)),
  (54, .iload 4, 2, .inl (0, 0)),
  (56, .if_icmp .le 10, 3, .inl (66, 0)),
  (59, .iload 8, 2, .inl (0, 0)),
  (61, .istore 4, 2, .inl (0, 0)),
  (63, .iload 7, 2, .inl (0, 0)),
  (65, .istore_n 3, 1, .inl (0, 0)),
  (66, .iinc 6 1, 3, .inr (.inr (.inl (nI 1)))),
  (69, .goto (-55), 3, .inl (14, 0)),
  (72, .iload_n 3, 1, .inl (0, 0)),
  (73, .ireturn, 1, .inl (0, 0))]
set_option maxRecDepth 100000 in
set_option maxHeartbeats 4000000 in
theorem ok_Fit_bestPermutation : xOK g_Fit_bestPermutation k_Fit_bestPermutation := ⟨by decide +kernel, by decide +kernel, List.forall_mem_cons.mpr ⟨trivial, List.forall_mem_cons.mpr ⟨trivial, List.forall_mem_cons.mpr ⟨trivial, List.forall_mem_cons.mpr ⟨trivial, List.forall_mem_cons.mpr ⟨trivial, List.forall_mem_cons.mpr ⟨⟨ml_Fit_48, xms_Perm_count⟩, List.forall_mem_cons.mpr ⟨trivial, List.forall_mem_cons.mpr ⟨trivial, List.forall_mem_cons.mpr ⟨trivial, List.forall_mem_cons.mpr ⟨trivial, List.forall_mem_cons.mpr ⟨trivial, List.forall_mem_cons.mpr ⟨trivial, List.forall_mem_cons.mpr ⟨trivial, List.forall_mem_cons.mpr ⟨trivial, List.forall_mem_cons.mpr ⟨⟨ml_Fit_53, xms_Perm_numbered⟩, List.forall_mem_cons.mpr ⟨trivial, List.forall_mem_cons.mpr ⟨trivial, List.forall_mem_cons.mpr ⟨trivial, List.forall_mem_cons.mpr ⟨trivial, List.forall_mem_cons.mpr ⟨trivial, List.forall_mem_cons.mpr ⟨⟨ml_Fit_25, xmv_Fit_compare⟩, List.forall_mem_cons.mpr ⟨trivial, List.forall_mem_cons.mpr ⟨⟨ml_Fit_56, xmv_Fit_atMostKept⟩, List.forall_mem_cons.mpr ⟨trivial, List.forall_mem_cons.mpr ⟨trivial, List.forall_mem_cons.mpr ⟨trivial, List.forall_mem_cons.mpr ⟨⟨ml_Fit_29, xmv_Fit_mostKept⟩, List.forall_mem_cons.mpr ⟨trivial, List.forall_mem_cons.mpr ⟨trivial, List.forall_mem_cons.mpr ⟨trivial, List.forall_mem_cons.mpr ⟨trivial, List.forall_mem_cons.mpr ⟨trivial, List.forall_mem_cons.mpr ⟨trivial, List.forall_mem_cons.mpr ⟨trivial, List.forall_mem_cons.mpr ⟨trivial, List.forall_mem_cons.mpr ⟨trivial, List.forall_mem_cons.mpr ⟨trivial, List.forall_mem_cons.mpr ⟨trivial, List.forall_mem_cons.mpr ⟨trivial, fun _ h => absurd h List.not_mem_nil⟩⟩⟩⟩⟩⟩⟩⟩⟩⟩⟩⟩⟩⟩⟩⟩⟩⟩⟩⟩⟩⟩⟩⟩⟩⟩⟩⟩⟩⟩⟩⟩⟩⟩⟩⟩⟩⟩⟩⟩
def k_Poem_init : xCd := [
  (0, .aload_n 0, 1, .inl (0, 0)),
  (1, .invokespecial 3, 3, .inl (0, 0)),
  (4, .aload_n 0, 1, .inl (0, 0)),
  (5, .iconst 0, 1, .inr (.inr (.inl (nI 0)))),
  (6, .putfield 9, 3, .inl (2, 0)),
  (9, .aload_n 0, 1, .inl (0, 0)),
  (10, .iconst 0, 1, .inr (.inr (.inl (nI 0)))),
  (11, .putfield 15, 3, .inl (2, 1)),
  (14, .aload_n 0, 1, .inl (0, 0)),
  (15, .bipush 8, 2, .inr (.inr (.inl (nI 8)))),
  (17, .newarray .int, 2, .inl (0, 0)),
  (19, .putfield 18, 3, .inl (2, 2)),
  (22, .aload_n 0, 1, .inl (0, 0)),
  (23, .bipush 8, 2, .inr (.inr (.inl (nI 8)))),
  (25, .newarray .int, 2, .inl (0, 0)),
  (27, .putfield 22, 3, .inl (2, 3)),
  (30, .aload_n 0, 1, .inl (0, 0)),
  (31, .iconst 4, 1, .inr (.inr (.inl (nI 4)))),
  (32, .newarray .int, 2, .inl (0, 0)),
  (34, .putfield 25, 3, .inl (2, 4)),
  (37, .aload_n 0, 1, .inl (0, 0)),
  (38, .iconst 4, 1, .inr (.inr (.inl (nI 4)))),
  (39, .newarray .int, 2, .inl (0, 0)),
  (41, .putfield 28, 3, .inl (2, 5)),
  (44, .return_, 1, .inl (0, 0))]
set_option maxRecDepth 100000 in
set_option maxHeartbeats 4000000 in
theorem ok_Poem_init : xOK g_Poem_init k_Poem_init := ⟨by decide +kernel, by decide +kernel, List.forall_mem_cons.mpr ⟨trivial, List.forall_mem_cons.mpr ⟨⟨lw_gm 105 rfl rfl, lw_gm 92 rfl rfl, lw_gm 93 rfl rfl⟩, List.forall_mem_cons.mpr ⟨trivial, List.forall_mem_cons.mpr ⟨trivial, List.forall_mem_cons.mpr ⟨⟨fl_Poem_9, nf_2_0 _⟩, List.forall_mem_cons.mpr ⟨trivial, List.forall_mem_cons.mpr ⟨trivial, List.forall_mem_cons.mpr ⟨⟨fl_Poem_15, nf_2_1 _⟩, List.forall_mem_cons.mpr ⟨trivial, List.forall_mem_cons.mpr ⟨trivial, List.forall_mem_cons.mpr ⟨lw_gm 134 rfl rfl, List.forall_mem_cons.mpr ⟨⟨fl_Poem_18, fun r hr _ => by cases hr; exact ⟨rfl, rfl⟩⟩, List.forall_mem_cons.mpr ⟨trivial, List.forall_mem_cons.mpr ⟨trivial, List.forall_mem_cons.mpr ⟨lw_gm 134 rfl rfl, List.forall_mem_cons.mpr ⟨⟨fl_Poem_22, fun r hr _ => by cases hr; exact ⟨rfl, rfl⟩⟩, List.forall_mem_cons.mpr ⟨trivial, List.forall_mem_cons.mpr ⟨trivial, List.forall_mem_cons.mpr ⟨lw_gm 134 rfl rfl, List.forall_mem_cons.mpr ⟨⟨fl_Poem_25, fun r hr _ => by cases hr; exact ⟨rfl, rfl⟩⟩, List.forall_mem_cons.mpr ⟨trivial, List.forall_mem_cons.mpr ⟨trivial, List.forall_mem_cons.mpr ⟨lw_gm 134 rfl rfl, List.forall_mem_cons.mpr ⟨⟨fl_Poem_28, fun r hr _ => by cases hr; exact ⟨rfl, rfl⟩⟩, List.forall_mem_cons.mpr ⟨trivial, fun _ h => absurd h List.not_mem_nil⟩⟩⟩⟩⟩⟩⟩⟩⟩⟩⟩⟩⟩⟩⟩⟩⟩⟩⟩⟩⟩⟩⟩⟩⟩⟩
def k_Poem_empty : xCd := [
  (0, .aload_n 0, 1, .inl (0, 0)),
  (1, .iconst 0, 1, .inr (.inr (.inl (nI 0)))),
  (2, .putfield 9, 3, .inl (2, 0)),
  (5, .aload_n 0, 1, .inl (0, 0)),
  (6, .iconst 0, 1, .inr (.inr (.inl (nI 0)))),
  (7, .putfield 15, 3, .inl (2, 1)),
  (10, .return_, 1, .inl (0, 0))]
set_option maxRecDepth 100000 in
set_option maxHeartbeats 4000000 in
theorem ok_Poem_empty : xOK g_Poem_empty k_Poem_empty := ⟨by decide +kernel, by decide +kernel, List.forall_mem_cons.mpr ⟨trivial, List.forall_mem_cons.mpr ⟨trivial, List.forall_mem_cons.mpr ⟨⟨fl_Poem_9, nf_2_0 _⟩, List.forall_mem_cons.mpr ⟨trivial, List.forall_mem_cons.mpr ⟨trivial, List.forall_mem_cons.mpr ⟨⟨fl_Poem_15, nf_2_1 _⟩, List.forall_mem_cons.mpr ⟨trivial, fun _ h => absurd h List.not_mem_nil⟩⟩⟩⟩⟩⟩⟩⟩
def k_Sta_startWith : xCd := [
  (0, .aload_n 0, 1, .inl (0, 0)),
  (1, .iload_n 1, 1, .inl (0, 0)),
  (2, .putfield 26, 3, .inl (5, 0)),
  (5, .aload_n 0, 1, .inl (0, 0)),
  (6, .iconst 0, 1, .inr (.inr (.inl (nI 0)))),
  (7, .putfield 30, 3, .inl (5, 1)),
  (10, .iconst 0, 1, .inr (.inr (.inl (nI 0)))),
  (11, .istore_n 2, 1, .inl (0, 0)),
  (12, .iload_n 2, 1, .inl (0, 0)),
  (13, .aload_n 0, 1, .inl (0, 0)),
  (14, .getfield 26, 3, .inl (5, 0)),
  (17, .if_icmp .ge 24, 3, .inl (41, 0)),
  (20, .aload_n 0, 1, .inl (0, 0)),
  (21, .aload_n 0, 1, .inl (0, 0)),
  (22, .getfield 30, 3, .inl (5, 1)),
  (25, .iload_n 2, 1, .inl (0, 0)),
  (26, .iload_n 2, 1, .inl (0, 0)),
  (27, .iconst 4, 1, .inr (.inr (.inl (nI 4)))),
  (28, .irem, 1, .inl (0, 0)),
  (29, .invokestatic 33, 3, .inr (.inl g_Row_with)),
  (32, .putfield 30, 3, .inl (5, 1)),
  (35, .iinc 2 1, 3, .inr (.inr (.inl (nI 1)))),
  (38, .goto (-26), 3, .inl (12, 0)),
  (41, .aload_n 0, 1, .inl (0, 0)),
  (42, .getfield 9, 3, .inl (5, 2)),
  (45, .aload_n 0, 1, .inl (0, 0)),
  (46, .getfield 26, 3, .inl (5, 0)),
  (49, .invokestatic 39, 3, .inr (.inl g_Row_ascending)),
  (52, .invokestatic 43, 3, .inr (.inl g_JA_fill)),
  (55, .aload_n 0, 1, .inl (0, 0)),
  (56, .getfield 18, 3, .inl (5, 3)),
  (59, .invokevirtual 49, 3, .inr (.inl g_Poem_empty)),
  (62, .return_, 1, .inl (0, 0))]
set_option maxRecDepth 100000 in
set_option maxHeartbeats 4000000 in
theorem ok_Sta_startWith : xOK g_Sta_startWith k_Sta_startWith := ⟨by decide +kernel, by decide +kernel, List.forall_mem_cons.mpr ⟨trivial, List.forall_mem_cons.mpr ⟨trivial, List.forall_mem_cons.mpr ⟨⟨fl_Sta_26, nf_5_0 _⟩, List.forall_mem_cons.mpr ⟨trivial, List.forall_mem_cons.mpr ⟨trivial, List.forall_mem_cons.mpr ⟨⟨fl_Sta_30, nf_5_1 _⟩, List.forall_mem_cons.mpr ⟨trivial, List.forall_mem_cons.mpr ⟨trivial, List.forall_mem_cons.mpr ⟨trivial, List.forall_mem_cons.mpr ⟨trivial, List.forall_mem_cons.mpr ⟨fl_Sta_26, List.forall_mem_cons.mpr ⟨trivial, List.forall_mem_cons.mpr ⟨trivial, List.forall_mem_cons.mpr ⟨trivial, List.forall_mem_cons.mpr ⟨fl_Sta_30, List.forall_mem_cons.mpr ⟨trivial, List.forall_mem_cons.mpr ⟨trivial, List.forall_mem_cons.mpr ⟨trivial, List.forall_mem_cons.mpr ⟨trivial, List.forall_mem_cons.mpr ⟨⟨ml_Sta_33, xms_Row_with⟩, List.forall_mem_cons.mpr ⟨⟨fl_Sta_30, nf_5_1 _⟩, List.forall_mem_cons.mpr ⟨trivial, List.forall_mem_cons.mpr ⟨trivial, List.forall_mem_cons.mpr ⟨trivial, List.forall_mem_cons.mpr ⟨fl_Sta_9, List.forall_mem_cons.mpr ⟨trivial, List.forall_mem_cons.mpr ⟨fl_Sta_26, List.forall_mem_cons.mpr ⟨⟨ml_Sta_39, xms_Row_ascending⟩, List.forall_mem_cons.mpr ⟨⟨ml_Sta_43, xms_JA_fill⟩, List.forall_mem_cons.mpr ⟨trivial, List.forall_mem_cons.mpr ⟨fl_Sta_18, List.forall_mem_cons.mpr ⟨⟨ml_Sta_49, xmv_Poem_empty⟩, List.forall_mem_cons.mpr ⟨trivial, fun _ h => absurd h List.not_mem_nil⟩⟩⟩⟩⟩⟩⟩⟩⟩⟩⟩⟩⟩⟩⟩⟩⟩⟩⟩⟩⟩⟩⟩⟩⟩⟩⟩⟩⟩⟩⟩⟩⟩⟩
def k_Sta_init : xCd := [
  (0, .aload_n 0, 1, .inl (0, 0)),
  (1, .invokespecial 3, 3, .inl (0, 0)),
  (4, .aload_n 0, 1, .inl (0, 0)),
  (5, .bipush 6, 2, .inr (.inr (.inl (nI 6)))),
  (7, .newarray .int, 2, .inl (0, 0)),
  (9, .putfield 9, 3, .inl (5, 2)),
  (12, .aload_n 0, 1, .inl (0, 0)),
  (13, .new 15, 3, .inl (2, 6)),
  (16, .dup, 1, .inl (0, 0)),
  (17, .invokespecial 17, 3, .inr (.inl g_Poem_init)),
  (20, .putfield 18, 3, .inl (5, 3)),
  (23, .aload_n 0, 1, .inl (0, 0)),
  (24, .bipush 6, 2, .inr (.inr (.inl (nI 6)))),
  (26, .invokevirtual 22, 3, .inr (.inl g_Sta_startWith)),
  (29, .return_, 1, .inl (0, 0))]
set_option maxRecDepth 100000 in
set_option maxHeartbeats 4000000 in
theorem ok_Sta_init : xOK g_Sta_init k_Sta_init := ⟨by decide +kernel, by decide +kernel, List.forall_mem_cons.mpr ⟨trivial, List.forall_mem_cons.mpr ⟨⟨lw_gm 99 rfl rfl, lw_gm 92 rfl rfl, lw_gm 93 rfl rfl⟩, List.forall_mem_cons.mpr ⟨trivial, List.forall_mem_cons.mpr ⟨trivial, List.forall_mem_cons.mpr ⟨lw_gm 134 rfl rfl, List.forall_mem_cons.mpr ⟨⟨fl_Sta_9, fun r hr _ => by cases hr; exact ⟨rfl, rfl⟩⟩, List.forall_mem_cons.mpr ⟨trivial, List.forall_mem_cons.mpr ⟨⟨_, rfl, rfl, lw_gm 100 rfl rfl, lw_gm 101 rfl rfl, lw_gm 71 rfl rfl⟩, List.forall_mem_cons.mpr ⟨trivial, List.forall_mem_cons.mpr ⟨⟨ml_Sta_17, xmi_Poem_init⟩, List.forall_mem_cons.mpr ⟨⟨fl_Sta_18, fun r hr _ => by cases hr; exact ⟨rfl, rfl⟩⟩, List.forall_mem_cons.mpr ⟨trivial, List.forall_mem_cons.mpr ⟨trivial, List.forall_mem_cons.mpr ⟨⟨ml_Sta_22, xmv_Sta_startWith⟩, List.forall_mem_cons.mpr ⟨trivial, fun _ h => absurd h List.not_mem_nil⟩⟩⟩⟩⟩⟩⟩⟩⟩⟩⟩⟩⟩⟩⟩⟩
def k_Hist_init : xCd := [
  (0, .aload_n 0, 1, .inl (0, 0)),
  (1, .invokespecial 3, 3, .inl (0, 0)),
  (4, .aload_n 0, 1, .inl (0, 0)),
  (5, .iconst 0, 1, .inr (.inr (.inl (nI 0)))),
  (6, .putfield 9, 3, .inl (1, 0)),
  (9, .aload_n 0, 1, .inl (0, 0)),
  (10, .iconst 0, 1, .inr (.inr (.inl (nI 0)))),
  (11, .putfield 15, 3, .inl (1, 1)),
  (14, .aload_n 0, 1, .inl (0, 0)),
  (15, .bipush 8, 2, .inr (.inr (.inl (nI 8)))),
  (17, .anewarray 18, 3, .inl (0, 0)),
  (20, .putfield 20, 3, .inl (1, 2)),
  (23, .iconst 0, 1, .inr (.inr (.inl (nI 0)))),
  (24, .istore_n 1, 1, .inl (0, 0)),
  (25, .iload_n 1, 1, .inl (0, 0)),
  (26, .bipush 8, 2, .inr (.inr (.inl (nI 8)))),
  (28, .if_icmp .ge 22, 3, .inl (50, 0)),
  (31, .aload_n 0, 1, .inl (0, 0)),
  (32, .getfield 20, 3, .inl (1, 2)),
  (35, .iload_n 1, 1, .inl (0, 0)),
  (36, .new 18, 3, .inl (5, 4)),
  (39, .dup, 1, .inl (0, 0)),
  (40, .invokespecial 24, 3, .inr (.inl g_Sta_init)),
  (43, .aastore, 1, .inl (0, 0)),
  (44, .iinc 1 1, 3, .inr (.inr (.inl (nI 1)))),
  (47, .goto (-22), 3, .inl (25, 0)),
  (50, .return_, 1, .inl (0, 0))]
set_option maxRecDepth 100000 in
set_option maxHeartbeats 4000000 in
theorem ok_Hist_init : xOK g_Hist_init k_Hist_init := ⟨by decide +kernel, by decide +kernel, List.forall_mem_cons.mpr ⟨trivial, List.forall_mem_cons.mpr ⟨⟨lw_gm 177 rfl rfl, lw_gm 92 rfl rfl, lw_gm 93 rfl rfl⟩, List.forall_mem_cons.mpr ⟨trivial, List.forall_mem_cons.mpr ⟨trivial, List.forall_mem_cons.mpr ⟨⟨fl_Hist_9, nf_1_0 _⟩, List.forall_mem_cons.mpr ⟨trivial, List.forall_mem_cons.mpr ⟨trivial, List.forall_mem_cons.mpr ⟨⟨fl_Hist_15, nf_1_1 _⟩, List.forall_mem_cons.mpr ⟨trivial, List.forall_mem_cons.mpr ⟨trivial, List.forall_mem_cons.mpr ⟨lw_gm 178 rfl rfl, List.forall_mem_cons.mpr ⟨⟨fl_Hist_20, fun r hr _ => by cases hr; exact ⟨rfl, rfl⟩⟩, List.forall_mem_cons.mpr ⟨trivial, List.forall_mem_cons.mpr ⟨trivial, List.forall_mem_cons.mpr ⟨trivial, List.forall_mem_cons.mpr ⟨trivial, List.forall_mem_cons.mpr ⟨trivial, List.forall_mem_cons.mpr ⟨trivial, List.forall_mem_cons.mpr ⟨fl_Hist_20, List.forall_mem_cons.mpr ⟨trivial, List.forall_mem_cons.mpr ⟨⟨_, rfl, rfl, lw_gm 178 rfl rfl, lw_gm 95 rfl rfl, lw_gm 70 rfl rfl⟩, List.forall_mem_cons.mpr ⟨trivial, List.forall_mem_cons.mpr ⟨⟨ml_Hist_24, xmi_Sta_init⟩, List.forall_mem_cons.mpr ⟨trivial, List.forall_mem_cons.mpr ⟨trivial, List.forall_mem_cons.mpr ⟨trivial, List.forall_mem_cons.mpr ⟨trivial, fun _ h => absurd h List.not_mem_nil⟩⟩⟩⟩⟩⟩⟩⟩⟩⟩⟩⟩⟩⟩⟩⟩⟩⟩⟩⟩⟩⟩⟩⟩⟩⟩⟩⟩
def k_Poem_copyFrom : xCd := [
  (0, .aload_n 0, 1, .inl (0, 0)),
  (1, .aload_n 1, 1, .inl (0, 0)),
  (2, .getfield 9, 3, .inl (2, 0)),
  (5, .putfield 9, 3, .inl (2, 0)),
  (8, .aload_n 0, 1, .inl (0, 0)),
  (9, .aload_n 1, 1, .inl (0, 0)),
  (10, .getfield 15, 3, .inl (2, 1)),
  (13, .putfield 15, 3, .inl (2, 1)),
  (16, .aload_n 1, 1, .inl (0, 0)),
  (17, .getfield 18, 3, .inl (2, 2)),
  (20, .iconst 0, 1, .inr (.inr (.inl (nI 0)))),
  (21, .aload_n 0, 1, .inl (0, 0)),
  (22, .getfield 18, 3, .inl (2, 2)),
  (25, .iconst 0, 1, .inr (.inr (.inl (nI 0)))),
  (26, .bipush 8, 2, .inr (.inr (.inl (nI 8)))),
  (28, .invokestatic 31, 3, .inl (0, 0)),
  (31, .aload_n 1, 1, .inl (0, 0)),
  (32, .getfield 22, 3, .inl (2, 3)),
  (35, .iconst 0, 1, .inr (.inr (.inl (nI 0)))),
  (36, .aload_n 0, 1, .inl (0, 0)),
  (37, .getfield 22, 3, .inl (2, 3)),
  (40, .iconst 0, 1, .inr (.inr (.inl (nI 0)))),
  (41, .bipush 8, 2, .inr (.inr (.inl (nI 8)))),
  (43, .invokestatic 31, 3, .inl (0, 0)),
  (46, .aload_n 1, 1, .inl (0, 0)),
  (47, .getfield 25, 3, .inl (2, 4)),
  (50, .iconst 0, 1, .inr (.inr (.inl (nI 0)))),
  (51, .aload_n 0, 1, .inl (0, 0)),
  (52, .getfield 25, 3, .inl (2, 4)),
  (55, .iconst 0, 1, .inr (.inr (.inl (nI 0)))),
  (56, .iconst 4, 1, .inr (.inr (.inl (nI 4)))),
  (57, .invokestatic 31, 3, .inl (0, 0)),
  (60, .aload_n 1, 1, .inl (0, 0)),
  (61, .getfield 28, 3, .inl (2, 5)),
  (64, .iconst 0, 1, .inr (.inr (.inl (nI 0)))),
  (65, .aload_n 0, 1, .inl (0, 0)),
  (66, .getfield 28, 3, .inl (2, 5)),
  (69, .iconst 0, 1, .inr (.inr (.inl (nI 0)))),
  (70, .iconst 4, 1, .inr (.inr (.inl (nI 4)))),
  (71, .invokestatic 31, 3, .inl (0, 0)),
  (74, .return_, 1, .inl (0, 0))]
set_option maxRecDepth 100000 in
set_option maxHeartbeats 4000000 in
theorem ok_Poem_copyFrom : xOK g_Poem_copyFrom k_Poem_copyFrom := ⟨by decide +kernel, by decide +kernel, List.forall_mem_cons.mpr ⟨trivial, List.forall_mem_cons.mpr ⟨trivial, List.forall_mem_cons.mpr ⟨fl_Poem_9, List.forall_mem_cons.mpr ⟨⟨fl_Poem_9, nf_2_0 _⟩, List.forall_mem_cons.mpr ⟨trivial, List.forall_mem_cons.mpr ⟨trivial, List.forall_mem_cons.mpr ⟨fl_Poem_15, List.forall_mem_cons.mpr ⟨⟨fl_Poem_15, nf_2_1 _⟩, List.forall_mem_cons.mpr ⟨trivial, List.forall_mem_cons.mpr ⟨fl_Poem_18, List.forall_mem_cons.mpr ⟨trivial, List.forall_mem_cons.mpr ⟨trivial, List.forall_mem_cons.mpr ⟨fl_Poem_18, List.forall_mem_cons.mpr ⟨trivial, List.forall_mem_cons.mpr ⟨trivial, List.forall_mem_cons.mpr ⟨⟨lw_gm 328 rfl rfl, lw_gm 323 rfl rfl, lw_gm 322 rfl rfl, lw_gm 81 rfl rfl⟩, List.forall_mem_cons.mpr ⟨trivial, List.forall_mem_cons.mpr ⟨fl_Poem_22, List.forall_mem_cons.mpr ⟨trivial, List.forall_mem_cons.mpr ⟨trivial, List.forall_mem_cons.mpr ⟨fl_Poem_22, List.forall_mem_cons.mpr ⟨trivial, List.forall_mem_cons.mpr ⟨trivial, List.forall_mem_cons.mpr ⟨⟨lw_gm 328 rfl rfl, lw_gm 323 rfl rfl, lw_gm 322 rfl rfl, lw_gm 81 rfl rfl⟩, List.forall_mem_cons.mpr ⟨trivial, List.forall_mem_cons.mpr ⟨fl_Poem_25, List.forall_mem_cons.mpr ⟨trivial, List.forall_mem_cons.mpr ⟨trivial, List.forall_mem_cons.mpr ⟨fl_Poem_25, List.forall_mem_cons.mpr ⟨trivial, List.forall_mem_cons.mpr ⟨trivial, List.forall_mem_cons.mpr ⟨⟨lw_gm 328 rfl rfl, lw_gm 323 rfl rfl, lw_gm 322 rfl rfl, lw_gm 81 rfl rfl⟩, List.forall_mem_cons.mpr ⟨trivial, List.forall_mem_cons.mpr ⟨fl_Poem_28, List.forall_mem_cons.mpr ⟨trivial, List.forall_mem_cons.mpr ⟨trivial, List.forall_mem_cons.mpr ⟨fl_Poem_28, List.forall_mem_cons.mpr ⟨trivial, List.forall_mem_cons.mpr ⟨trivial, List.forall_mem_cons.mpr ⟨⟨lw_gm 328 rfl rfl, lw_gm 323 rfl rfl, lw_gm 322 rfl rfl, lw_gm 81 rfl rfl⟩, List.forall_mem_cons.mpr ⟨trivial, fun _ h => absurd h List.not_mem_nil⟩⟩⟩⟩⟩⟩⟩⟩⟩⟩⟩⟩⟩⟩⟩⟩⟩⟩⟩⟩⟩⟩⟩⟩⟩⟩⟩⟩⟩⟩⟩⟩⟩⟩⟩⟩⟩⟩⟩⟩⟩⟩
def k_Sta_copyFrom : xCd := [
  (0, .aload_n 0, 1, .inl (0, 0)),
  (1, .aload_n 1, 1, .inl (0, 0)),
  (2, .getfield 26, 3, .inl (5, 0)),
  (5, .putfield 26, 3, .inl (5, 0)),
  (8, .aload_n 0, 1, .inl (0, 0)),
  (9, .aload_n 1, 1, .inl (0, 0)),
  (10, .getfield 30, 3, .inl (5, 1)),
  (13, .putfield 30, 3, .inl (5, 1)),
  (16, .aload_n 1, 1, .inl (0, 0)),
  (17, .getfield 9, 3, .inl (5, 2)),
  (20, .iconst 0, 1, .inr (.inr (.inl (nI 0)))),
  (21, .aload_n 0, 1, .inl (0, 0)),
  (22, .getfield 9, 3, .inl (5, 2)),
  (25, .iconst 0, 1, .inr (.inr (.inl (nI 0)))),
  (26, .bipush 6, 2, .inr (.inr (.inl (nI 6)))),
  (28, .invokestatic 52, 3, .inl (0, 0)),
  (31, .aload_n 0, 1, .inl (0, 0)),
  (32, .getfield 18, 3, .inl (5, 3)),
  (35, .aload_n 1, 1, .inl (0, 0)),
  (36, .getfield 18, 3, .inl (5, 3)),
  (39, .invokevirtual 58, 3, .inr (.inl g_Poem_copyFrom)),
  (42, .return_, 1, .inl (0, 0))]
set_option maxRecDepth 100000 in
set_option maxHeartbeats 4000000 in
theorem ok_Sta_copyFrom : xOK g_Sta_copyFrom k_Sta_copyFrom := ⟨by decide +kernel, by decide +kernel, List.forall_mem_cons.mpr ⟨trivial, List.forall_mem_cons.mpr ⟨trivial, List.forall_mem_cons.mpr ⟨fl_Sta_26, List.forall_mem_cons.mpr ⟨⟨fl_Sta_26, nf_5_0 _⟩, List.forall_mem_cons.mpr ⟨trivial, List.forall_mem_cons.mpr ⟨trivial, List.forall_mem_cons.mpr ⟨fl_Sta_30, List.forall_mem_cons.mpr ⟨⟨fl_Sta_30, nf_5_1 _⟩, List.forall_mem_cons.mpr ⟨trivial, List.forall_mem_cons.mpr ⟨fl_Sta_9, List.forall_mem_cons.mpr ⟨trivial, List.forall_mem_cons.mpr ⟨trivial, List.forall_mem_cons.mpr ⟨fl_Sta_9, List.forall_mem_cons.mpr ⟨trivial, List.forall_mem_cons.mpr ⟨trivial, List.forall_mem_cons.mpr ⟨⟨lw_gm 321 rfl rfl, lw_gm 323 rfl rfl, lw_gm 322 rfl rfl, lw_gm 81 rfl rfl⟩, List.forall_mem_cons.mpr ⟨trivial, List.forall_mem_cons.mpr ⟨fl_Sta_18, List.forall_mem_cons.mpr ⟨trivial, List.forall_mem_cons.mpr ⟨fl_Sta_18, List.forall_mem_cons.mpr ⟨⟨ml_Sta_58, xmv_Poem_copyFrom⟩, List.forall_mem_cons.mpr ⟨trivial, fun _ h => absurd h List.not_mem_nil⟩⟩⟩⟩⟩⟩⟩⟩⟩⟩⟩⟩⟩⟩⟩⟩⟩⟩⟩⟩⟩⟩⟩
def k_Hist_remember : xCd := [
  (0, .aload_n 0, 1, .inl (0, 0)),
  (1, .getfield 20, 3, .inl (1, 2)),
  (4, .aload_n 0, 1, .inl (0, 0)),
  (5, .getfield 15, 3, .inl (1, 1)),
  (8, .aaload, 1, .inl (0, 0)),
  (9, .aload_n 1, 1, .inl (0, 0)),
  (10, .invokevirtual 25, 3, .inr (.inl g_Sta_copyFrom)),
  (13, .aload_n 0, 1, .inl (0, 0)),
  (14, .aload_n 0, 1, .inl (0, 0)),
  (15, .getfield 15, 3, .inl (1, 1)),
  (18, .iconst 1, 1, .inr (.inr (.inl (nI 1)))),
  (19, .iadd, 1, .inl (0, 0)),
  (20, .bipush 8, 2, .inr (.inr (.inl (nI 8)))),
  (22, .irem, 1, .inl (0, 0)),
  (23, .putfield 15, 3, .inl (1, 1)),
  (26, .aload_n 0, 1, .inl (0, 0)),
  (27, .aload_n 0, 1, .inl (0, 0)),
  (28, .getfield 9, 3, .inl (1, 0)),
  (31, .iconst 1, 1, .inr (.inr (.inl (nI 1)))),
  (32, .iadd, 1, .inl (0, 0)),
  (33, .bipush 8, 2, .inr (.inr (.inl (nI 8)))),
  (35, .invokestatic 29, 3, .inr (.inr (.inr (.inr (1, []))))),
  (38, .putfield 9, 3, .inl (1, 0)),
  (41, .return_, 1, .inl (0, 0))]
set_option maxRecDepth 100000 in
set_option maxHeartbeats 4000000 in
theorem ok_Hist_remember : xOK g_Hist_remember k_Hist_remember := ⟨by decide +kernel, by decide +kernel, List.forall_mem_cons.mpr ⟨trivial, List.forall_mem_cons.mpr ⟨fl_Hist_20, List.forall_mem_cons.mpr ⟨trivial, List.forall_mem_cons.mpr ⟨fl_Hist_15, List.forall_mem_cons.mpr ⟨trivial, List.forall_mem_cons.mpr ⟨trivial, List.forall_mem_cons.mpr ⟨⟨ml_Hist_25, xmv_Sta_copyFrom⟩, List.forall_mem_cons.mpr ⟨trivial, List.forall_mem_cons.mpr ⟨trivial, List.forall_mem_cons.mpr ⟨fl_Hist_15, List.forall_mem_cons.mpr ⟨trivial, List.forall_mem_cons.mpr ⟨trivial, List.forall_mem_cons.mpr ⟨trivial, List.forall_mem_cons.mpr ⟨trivial, List.forall_mem_cons.mpr ⟨⟨fl_Hist_15, nf_1_1 _⟩, List.forall_mem_cons.mpr ⟨trivial, List.forall_mem_cons.mpr ⟨trivial, List.forall_mem_cons.mpr ⟨fl_Hist_9, List.forall_mem_cons.mpr ⟨trivial, List.forall_mem_cons.mpr ⟨trivial, List.forall_mem_cons.mpr ⟨trivial, List.forall_mem_cons.mpr ⟨⟨lw_gm 329 rfl rfl, lw_gm 330 rfl rfl, lw_gm 82 rfl rfl, lw_gm 331 rfl rfl⟩, List.forall_mem_cons.mpr ⟨⟨fl_Hist_9, nf_1_0 _⟩, List.forall_mem_cons.mpr ⟨trivial, fun _ h => absurd h List.not_mem_nil⟩⟩⟩⟩⟩⟩⟩⟩⟩⟩⟩⟩⟩⟩⟩⟩⟩⟩⟩⟩⟩⟩⟩⟩⟩
def k_Hist_restore : xCd := [
  (0, .aload_n 0, 1, .inl (0, 0)),
  (1, .getfield 9, 3, .inl (1, 0)),
  (4, .ifCond .le 42, 3, .inl (46, 0)),
  (7, .aload_n 0, 1, .inl (0, 0)),
  (8, .aload_n 0, 1, .inl (0, 0)),
  (9, .getfield 15, 3, .inl (1, 1)),
  (12, .bipush 8, 2, .inr (.inr (.inl (nI 8)))),
  (14, .iadd, 1, .inl (0, 0)),
  (15, .iconst 1, 1, .inr (.inr (.inl (nI 1)))),
  (16, .isub, 1, .inl (0, 0)),
  (17, .bipush 8, 2, .inr (.inr (.inl (nI 8)))),
  (19, .irem, 1, .inl (0, 0)),
  (20, .putfield 15, 3, .inl (1, 1)),
  (23, .aload_n 0, 1, .inl (0, 0)),
  (24, .dup, 1, .inl (0, 0)),
  (25, .getfield 9, 3, .inl (1, 0)),
  (28, .iconst 1, 1, .inr (.inr (.inl (nI 1)))),
  (29, .isub, 1, .inl (0, 0)),
  (30, .putfield 9, 3, .inl (1, 0)),
  (33, .aload_n 1, 1, .inl (0, 0)),
  (34, .aload_n 0, 1, .inl (0, 0)),
  (35, .getfield 20, 3, .inl (1, 2)),
  (38, .aload_n 0, 1, .inl (0, 0)),
  (39, .getfield 15, 3, .inl (1, 1)),
  (42, .aaload, 1, .inl (0, 0)),
  (43, .invokevirtual 25, 3, .inr (.inl g_Sta_copyFrom)),
  (46, .return_, 1, .inl (0, 0))]
set_option maxRecDepth 100000 in
set_option maxHeartbeats 4000000 in
theorem ok_Hist_restore : xOK g_Hist_restore k_Hist_restore := ⟨by decide +kernel, by decide +kernel, List.forall_mem_cons.mpr ⟨trivial, List.forall_mem_cons.mpr ⟨fl_Hist_9, List.forall_mem_cons.mpr ⟨trivial, List.forall_mem_cons.mpr ⟨trivial, List.forall_mem_cons.mpr ⟨trivial, List.forall_mem_cons.mpr ⟨fl_Hist_15, List.forall_mem_cons.mpr ⟨trivial, List.forall_mem_cons.mpr ⟨trivial, List.forall_mem_cons.mpr ⟨trivial, List.forall_mem_cons.mpr ⟨trivial, List.forall_mem_cons.mpr ⟨trivial, List.forall_mem_cons.mpr ⟨trivial, List.forall_mem_cons.mpr ⟨⟨fl_Hist_15, nf_1_1 _⟩, List.forall_mem_cons.mpr ⟨trivial, List.forall_mem_cons.mpr ⟨trivial, List.forall_mem_cons.mpr ⟨fl_Hist_9, List.forall_mem_cons.mpr ⟨trivial, List.forall_mem_cons.mpr ⟨trivial, List.forall_mem_cons.mpr ⟨⟨fl_Hist_9, nf_1_0 _⟩, List.forall_mem_cons.mpr ⟨trivial, List.forall_mem_cons.mpr ⟨trivial, List.forall_mem_cons.mpr ⟨fl_Hist_20, List.forall_mem_cons.mpr ⟨trivial, List.forall_mem_cons.mpr ⟨fl_Hist_15, List.forall_mem_cons.mpr ⟨trivial, List.forall_mem_cons.mpr ⟨⟨ml_Hist_25, xmv_Sta_copyFrom⟩, List.forall_mem_cons.mpr ⟨trivial, fun _ h => absurd h List.not_mem_nil⟩⟩⟩⟩⟩⟩⟩⟩⟩⟩⟩⟩⟩⟩⟩⟩⟩⟩⟩⟩⟩⟩⟩⟩⟩⟩⟩⟩
def k_Poem_append : xCd := [
  (0, .aload_n 0, 1, .inl (0, 0)),
  (1, .getfield 9, 3, .inl (2, 0)),
  (4, .bipush 8, 2, .inr (.inr (.inl (nI 8)))),
  (6, .if_icmp .ge 33, 3, .inl (39, 0)),
  (9, .aload_n 0, 1, .inl (0, 0)),
  (10, .getfield 18, 3, .inl (2, 2)),
  (13, .aload_n 0, 1, .inl (0, 0)),
  (14, .getfield 9, 3, .inl (2, 0)),
  (17, .iload_n 1, 1, .inl (0, 0)),
  (18, .iastore, 1, .inl (0, 0)),
  (19, .aload_n 0, 1, .inl (0, 0)),
  (20, .getfield 22, 3, .inl (2, 3)),
  (23, .aload_n 0, 1, .inl (0, 0)),
  (24, .getfield 9, 3, .inl (2, 0)),
  (27, .iconst 0, 1, .inr (.inr (.inl (nI 0)))),
  (28, .iastore, 1, .inl (0, 0)),
  (29, .aload_n 0, 1, .inl (0, 0)),
  (30, .dup, 1, .inl (0, 0)),
  (31, .getfield 9, 3, .inl (2, 0)),
  (34, .iconst 1, 1, .inr (.inr (.inl (nI 1)))),
  (35, .iadd, 1, .inl (0, 0)),
  (36, .putfield 9, 3, .inl (2, 0)),
  (39, .return_, 1, .inl (0, 0))]
set_option maxRecDepth 100000 in
set_option maxHeartbeats 4000000 in
theorem ok_Poem_append : xOK g_Poem_append k_Poem_append := ⟨by decide +kernel, by decide +kernel, List.forall_mem_cons.mpr ⟨trivial, List.forall_mem_cons.mpr ⟨fl_Poem_9, List.forall_mem_cons.mpr ⟨trivial, List.forall_mem_cons.mpr ⟨trivial, List.forall_mem_cons.mpr ⟨trivial, List.forall_mem_cons.mpr ⟨fl_Poem_18, List.forall_mem_cons.mpr ⟨trivial, List.forall_mem_cons.mpr ⟨fl_Poem_9, List.forall_mem_cons.mpr ⟨trivial, List.forall_mem_cons.mpr ⟨trivial, List.forall_mem_cons.mpr ⟨trivial, List.forall_mem_cons.mpr ⟨fl_Poem_22, List.forall_mem_cons.mpr ⟨trivial, List.forall_mem_cons.mpr ⟨fl_Poem_9, List.forall_mem_cons.mpr ⟨trivial, List.forall_mem_cons.mpr ⟨trivial, List.forall_mem_cons.mpr ⟨trivial, List.forall_mem_cons.mpr ⟨trivial, List.forall_mem_cons.mpr ⟨fl_Poem_9, List.forall_mem_cons.mpr ⟨trivial, List.forall_mem_cons.mpr ⟨trivial, List.forall_mem_cons.mpr ⟨⟨fl_Poem_9, nf_2_0 _⟩, List.forall_mem_cons.mpr ⟨trivial, fun _ h => absurd h List.not_mem_nil⟩⟩⟩⟩⟩⟩⟩⟩⟩⟩⟩⟩⟩⟩⟩⟩⟩⟩⟩⟩⟩⟩⟩⟩
def k_Poem_appendTailLine : xCd := [
  (0, .aload_n 0, 1, .inl (0, 0)),
  (1, .getfield 15, 3, .inl (2, 1)),
  (4, .iconst 4, 1, .inr (.inr (.inl (nI 4)))),
  (5, .if_icmp .ge 33, 3, .inl (38, 0)),
  (8, .aload_n 0, 1, .inl (0, 0)),
  (9, .getfield 25, 3, .inl (2, 4)),
  (12, .aload_n 0, 1, .inl (0, 0)),
  (13, .getfield 15, 3, .inl (2, 1)),
  (16, .iload_n 1, 1, .inl (0, 0)),
  (17, .iastore, 1, .inl (0, 0)),
  (18, .aload_n 0, 1, .inl (0, 0)),
  (19, .getfield 28, 3, .inl (2, 5)),
  (22, .aload_n 0, 1, .inl (0, 0)),
  (23, .getfield 15, 3, .inl (2, 1)),
  (26, .iload_n 2, 1, .inl (0, 0)),
  (27, .iastore, 1, .inl (0, 0)),
  (28, .aload_n 0, 1, .inl (0, 0)),
  (29, .dup, 1, .inl (0, 0)),
  (30, .getfield 15, 3, .inl (2, 1)),
  (33, .iconst 1, 1, .inr (.inr (.inl (nI 1)))),
  (34, .iadd, 1, .inl (0, 0)),
  (35, .putfield 15, 3, .inl (2, 1)),
  (38, .return_, 1, .inl (0, 0))]
set_option maxRecDepth 100000 in
set_option maxHeartbeats 4000000 in
theorem ok_Poem_appendTailLine : xOK g_Poem_appendTailLine k_Poem_appendTailLine := ⟨by decide +kernel, by decide +kernel, List.forall_mem_cons.mpr ⟨trivial, List.forall_mem_cons.mpr ⟨fl_Poem_15, List.forall_mem_cons.mpr ⟨trivial, List.forall_mem_cons.mpr ⟨trivial, List.forall_mem_cons.mpr ⟨trivial, List.forall_mem_cons.mpr ⟨fl_Poem_25, List.forall_mem_cons.mpr ⟨trivial, List.forall_mem_cons.mpr ⟨fl_Poem_15, List.forall_mem_cons.mpr ⟨trivial, List.forall_mem_cons.mpr ⟨trivial, List.forall_mem_cons.mpr ⟨trivial, List.forall_mem_cons.mpr ⟨fl_Poem_28, List.forall_mem_cons.mpr ⟨trivial, List.forall_mem_cons.mpr ⟨fl_Poem_15, List.forall_mem_cons.mpr ⟨trivial, List.forall_mem_cons.mpr ⟨trivial, List.forall_mem_cons.mpr ⟨trivial, List.forall_mem_cons.mpr ⟨trivial, List.forall_mem_cons.mpr ⟨fl_Poem_15, List.forall_mem_cons.mpr ⟨trivial, List.forall_mem_cons.mpr ⟨trivial, List.forall_mem_cons.mpr ⟨⟨fl_Poem_15, nf_2_1 _⟩, List.forall_mem_cons.mpr ⟨trivial, fun _ h => absurd h List.not_mem_nil⟩⟩⟩⟩⟩⟩⟩⟩⟩⟩⟩⟩⟩⟩⟩⟩⟩⟩⟩⟩⟩⟩⟩⟩
def k_Poem_properStanzas : xCd := [
  (0, .iconst 0, 1, .inr (.inr (.inl (nI 0)))),
  (1, .istore_n 2, 1, .inl (0, 0)),
  (2, .iconst 0, 1, .inr (.inr (.inl (nI 0)))),
  (3, .istore_n 3, 1, .inl (0, 0)),
  (4, .iload_n 3, 1, .inl (0, 0)),
  (5, .aload_n 0, 1, .inl (0, 0)),
  (6, .getfield 9, 3, .inl (2, 0)),
  (9, .if_icmp .ge 25, 3, .inl (34, 0)),
  (12, .aload_n 0, 1, .inl (0, 0)),
  (13, .getfield 18, 3, .inl (2, 2)),
  (16, .iload_n 3, 1, .inl (0, 0)),
  (17, .iaload, 1, .inl (0, 0)),
  (18, .iload_n 1, 1, .inl (0, 0)),
  (19, .invokestatic 37, 3, .inr (.inl g_Row_hasEach)),
  (22, .ifCond .eq 6, 3, .inl (28, 0)),
  (25, .iinc 2 1, 3, .inr (.inr (.inl (nI 1)))),
  (28, .iinc 3 1, 3, .inr (.inr (.inl (nI 1)))),
  (31, .goto (-27), 3, .inl (4, 0)),
  (34, .iload_n 2, 1, .inl (0, 0)),
  (35, .ireturn, 1, .inl (0, 0))]
set_option maxRecDepth 100000 in
set_option maxHeartbeats 4000000 in
theorem ok_Poem_properStanzas : xOK g_Poem_properStanzas k_Poem_properStanzas := ⟨by decide +kernel, by decide +kernel, List.forall_mem_cons.mpr ⟨trivial, List.forall_mem_cons.mpr ⟨trivial, List.forall_mem_cons.mpr ⟨trivial, List.forall_mem_cons.mpr ⟨trivial, List.forall_mem_cons.mpr ⟨trivial, List.forall_mem_cons.mpr ⟨trivial, List.forall_mem_cons.mpr ⟨fl_Poem_9, List.forall_mem_cons.mpr ⟨trivial, List.forall_mem_cons.mpr ⟨trivial, List.forall_mem_cons.mpr ⟨fl_Poem_18, List.forall_mem_cons.mpr ⟨trivial, List.forall_mem_cons.mpr ⟨trivial, List.forall_mem_cons.mpr ⟨trivial, List.forall_mem_cons.mpr ⟨⟨ml_Poem_37, xms_Row_hasEach⟩, List.forall_mem_cons.mpr ⟨trivial, List.forall_mem_cons.mpr ⟨trivial, List.forall_mem_cons.mpr ⟨trivial, List.forall_mem_cons.mpr ⟨trivial, List.forall_mem_cons.mpr ⟨trivial, List.forall_mem_cons.mpr ⟨trivial, fun _ h => absurd h List.not_mem_nil⟩⟩⟩⟩⟩⟩⟩⟩⟩⟩⟩⟩⟩⟩⟩⟩⟩⟩⟩⟩⟩
def k_Poem_lockedPlaces : xCd := [
  (0, .iconst 0, 1, .inr (.inr (.inl (nI 0)))),
  (1, .istore_n 1, 1, .inl (0, 0)),
  (2, .iconst 0, 1, .inr (.inr (.inl (nI 0)))),
  (3, .istore_n 2, 1, .inl (0, 0)),
  (4, .iload_n 2, 1, .inl (0, 0)),
  (5, .aload_n 0, 1, .inl (0, 0)),
  (6, .getfield 9, 3, .inl (2, 0)),
  (9, .if_icmp .ge 21, 3, .inl (30, 0)),
  (12, .iload_n 1, 1, .inl (0, 0)),
  (13, .aload_n 0, 1, .inl (0, 0)),
  (14, .getfield 22, 3, .inl (2, 3)),
  (17, .iload_n 2, 1, .inl (0, 0)),
  (18, .iaload, 1, .inl (0, 0)),
  (19, .invokestatic 43, 3, .inr (.inl g_JI_bitCount)),
  (22, .iadd, 1, .inl (0, 0)),
  (23, .istore_n 1, 1, .inl (0, 0)),
  (24, .iinc 2 1, 3, .inr (.inr (.inl (nI 1)))),
  (27, .goto (-23), 3, .inl (4, 0)),
  (30, .iload_n 1, 1, .inl (0, 0)),
  (31, .ireturn, 1, .inl (0, 0))]
set_option maxRecDepth 100000 in
set_option maxHeartbeats 4000000 in
theorem ok_Poem_lockedPlaces : xOK g_Poem_lockedPlaces k_Poem_lockedPlaces := ⟨by decide +kernel, by decide +kernel, List.forall_mem_cons.mpr ⟨trivial, List.forall_mem_cons.mpr ⟨trivial, List.forall_mem_cons.mpr ⟨trivial, List.forall_mem_cons.mpr ⟨trivial, List.forall_mem_cons.mpr ⟨trivial, List.forall_mem_cons.mpr ⟨trivial, List.forall_mem_cons.mpr ⟨fl_Poem_9, List.forall_mem_cons.mpr ⟨trivial, List.forall_mem_cons.mpr ⟨trivial, List.forall_mem_cons.mpr ⟨trivial, List.forall_mem_cons.mpr ⟨fl_Poem_22, List.forall_mem_cons.mpr ⟨trivial, List.forall_mem_cons.mpr ⟨trivial, List.forall_mem_cons.mpr ⟨⟨ml_Poem_43, xms_JI_bitCount⟩, List.forall_mem_cons.mpr ⟨trivial, List.forall_mem_cons.mpr ⟨trivial, List.forall_mem_cons.mpr ⟨trivial, List.forall_mem_cons.mpr ⟨trivial, List.forall_mem_cons.mpr ⟨trivial, List.forall_mem_cons.mpr ⟨trivial, fun _ h => absurd h List.not_mem_nil⟩⟩⟩⟩⟩⟩⟩⟩⟩⟩⟩⟩⟩⟩⟩⟩⟩⟩⟩⟩⟩
def k_Poem_turnBehind : xCd := [
  (0, .iload_n 1, 1, .inl (0, 0)),
  (1, .iconst 1, 1, .inr (.inr (.inl (nI 1)))),
  (2, .iadd, 1, .inl (0, 0)),
  (3, .aload_n 0, 1, .inl (0, 0)),
  (4, .getfield 9, 3, .inl (2, 0)),
  (7, .if_icmp .ge 31, 3, .inl (38, 0)),
  (10, .aload_n 0, 1, .inl (0, 0)),
  (11, .getfield 18, 3, .inl (2, 2)),
  (14, .iload_n 1, 1, .inl (0, 0)),
  (15, .iaload, 1, .inl (0, 0)),
  (16, .iload_n 2, 1, .inl (0, 0)),
  (17, .invokestatic 37, 3, .inr (.inl g_Row_hasEach)),
  (20, .ifCond .eq 18, 3, .inl (38, 0)),
  (23, .aload_n 0, 1, .inl (0, 0)),
  (24, .getfield 18, 3, .inl (2, 2)),
  (27, .iload_n 1, 1, .inl (0, 0)),
  (28, .iconst 1, 1, .inr (.inr (.inl (nI 1)))),
  (29, .iadd, 1, .inl (0, 0)),
  (30, .iaload, 1, .inl (0, 0)),
  (31, .iload_n 2, 1, .inl (0, 0)),
  (32, .invokestatic 37, 3, .inr (.inl g_Row_hasEach)),
  (35, .ifCond .ne 5, 3, .inl (40, 0)),
  (38, .iconst (-1), 1, .inr (.inr (.inl (-1)))),
  (39, .ireturn, 1, .inl (0, 0)),
  (40, .aload_n 0, 1, .inl (0, 0)),
  (41, .getfield 18, 3, .inl (2, 2)),
  (44, .iload_n 1, 1, .inl (0, 0)),
  (45, .iaload, 1, .inl (0, 0)),
  (46, .iload_n 2, 1, .inl (0, 0)),
  (47, .invokestatic 49, 3, .inr (.inl g_Perm_inverse)),
  (50, .aload_n 0, 1, .inl (0, 0)),
  (51, .getfield 18, 3, .inl (2, 2)),
  (54, .iload_n 1, 1, .inl (0, 0)),
  (55, .iconst 1, 1, .inr (.inr (.inl (nI 1)))),
  (56, .iadd, 1, .inl (0, 0)),
  (57, .iaload, 1, .inl (0, 0)),
  (58, .iload_n 2, 1, .inl (0, 0)),
  (59, .invokestatic 55, 3, .inr (.inl g_Row_turned)),
  (62, .ireturn, 1, .inl (0, 0))]
set_option maxRecDepth 100000 in
set_option maxHeartbeats 4000000 in
theorem ok_Poem_turnBehind : xOK g_Poem_turnBehind k_Poem_turnBehind := ⟨by decide +kernel, by decide +kernel, List.forall_mem_cons.mpr ⟨trivial, List.forall_mem_cons.mpr ⟨trivial, List.forall_mem_cons.mpr ⟨trivial, List.forall_mem_cons.mpr ⟨trivial, List.forall_mem_cons.mpr ⟨fl_Poem_9, List.forall_mem_cons.mpr ⟨trivial, List.forall_mem_cons.mpr ⟨trivial, List.forall_mem_cons.mpr ⟨fl_Poem_18, List.forall_mem_cons.mpr ⟨trivial, List.forall_mem_cons.mpr ⟨trivial, List.forall_mem_cons.mpr ⟨trivial, List.forall_mem_cons.mpr ⟨⟨ml_Poem_37, xms_Row_hasEach⟩, List.forall_mem_cons.mpr ⟨trivial, List.forall_mem_cons.mpr ⟨trivial, List.forall_mem_cons.mpr ⟨fl_Poem_18, List.forall_mem_cons.mpr ⟨trivial, List.forall_mem_cons.mpr ⟨trivial, List.forall_mem_cons.mpr ⟨trivial, List.forall_mem_cons.mpr ⟨trivial, List.forall_mem_cons.mpr ⟨trivial, List.forall_mem_cons.mpr ⟨⟨ml_Poem_37, xms_Row_hasEach⟩, List.forall_mem_cons.mpr ⟨trivial, List.forall_mem_cons.mpr ⟨trivial, List.forall_mem_cons.mpr ⟨trivial, List.forall_mem_cons.mpr ⟨trivial, List.forall_mem_cons.mpr ⟨fl_Poem_18, List.forall_mem_cons.mpr ⟨trivial, List.forall_mem_cons.mpr ⟨trivial, List.forall_mem_cons.mpr ⟨trivial, List.forall_mem_cons.mpr ⟨⟨ml_Poem_49, xms_Perm_inverse⟩, List.forall_mem_cons.mpr ⟨trivial, List.forall_mem_cons.mpr ⟨fl_Poem_18, List.forall_mem_cons.mpr ⟨trivial, List.forall_mem_cons.mpr ⟨trivial, List.forall_mem_cons.mpr ⟨trivial, List.forall_mem_cons.mpr ⟨trivial, List.forall_mem_cons.mpr ⟨trivial, List.forall_mem_cons.mpr ⟨⟨ml_Poem_55, xms_Row_turned⟩, List.forall_mem_cons.mpr ⟨trivial, fun _ h => absurd h List.not_mem_nil⟩⟩⟩⟩⟩⟩⟩⟩⟩⟩⟩⟩⟩⟩⟩⟩⟩⟩⟩⟩⟩⟩⟩⟩⟩⟩⟩⟩⟩⟩⟩⟩⟩⟩⟩⟩⟩⟩⟩⟩
def k_Poem_turnsBy : xCd := [
  (0, .aload_n 0, 1, .inl (0, 0)),
  (1, .iload_n 2, 1, .inl (0, 0)),
  (2, .invokevirtual 59, 3, .inr (.inl g_Poem_properStanzas)),
  (5, .aload_n 0, 1, .inl (0, 0)),
  (6, .getfield 9, 3, .inl (2, 0)),
  (9, .if_icmp .ge 5, 3, .inl (14, 0)),
  (12, .iconst 0, 1, .inr (.inr (.inl (nI 0)))),
  (13, .ireturn, 1, .inl (0, 0)),
  (14, .iconst 1, 1, .inr (.inr (.inl (nI 1)))),
  (15, .istore_n 3, 1, .inl (0, 0)),
  (16, .iload_n 3, 1, .inl (0, 0)),
  (17, .aload_n 0, 1, .inl (0, 0)),
  (18, .getfield 9, 3, .inl (2, 0)),
  (21, .if_icmp .ge 33, 3, .inl (54, 0)),
  (24, .aload_n 0, 1, .inl (0, 0)),
  (25, .getfield 18, 3, .inl (2, 2)),
  (28, .iload_n 3, 1, .inl (0, 0)),
  (29, .iaload, 1, .inl (0, 0)),
  (30, .aload_n 0, 1, .inl (0, 0)),
  (31, .getfield 18, 3, .inl (2, 2)),
  (34, .iload_n 3, 1, .inl (0, 0)),
  (35, .iconst 1, 1, .inr (.inr (.inl (nI 1)))),
  (36, .isub, 1, .inl (0, 0)),
  (37, .iaload, 1, .inl (0, 0)),
  (38, .iload_n 1, 1, .inl (0, 0)),
  (39, .iload_n 2, 1, .inl (0, 0)),
  (40, .invokestatic 55, 3, .inr (.inl g_Row_turned)),
  (43, .if_icmp .eq 5, 3, .inl (48, 0)),
  (46, .iconst 0, 1, .inr (.inr (.inl (nI 0)))),
  (47, .ireturn, 1, .inl (0, 0)),
  (48, .iinc 3 1, 3, .inr (.inr (.inl (nI 1)))),
  (51, .goto (-35), 3, .inl (16, 0)),
  (54, .iconst 1, 1, .inr (.inr (.inl (nI 1)))),
  (55, .ireturn, 1, .inl (0, 0))]
set_option maxRecDepth 100000 in
set_option maxHeartbeats 4000000 in
theorem ok_Poem_turnsBy : xOK g_Poem_turnsBy k_Poem_turnsBy := ⟨by decide +kernel, by decide +kernel, List.forall_mem_cons.mpr ⟨trivial, List.forall_mem_cons.mpr ⟨trivial, List.forall_mem_cons.mpr ⟨⟨ml_Poem_59, xmv_Poem_properStanzas⟩, List.forall_mem_cons.mpr ⟨trivial, List.forall_mem_cons.mpr ⟨fl_Poem_9, List.forall_mem_cons.mpr ⟨trivial, List.forall_mem_cons.mpr ⟨trivial, List.forall_mem_cons.mpr ⟨trivial, List.forall_mem_cons.mpr ⟨trivial, List.forall_mem_cons.mpr ⟨trivial, List.forall_mem_cons.mpr ⟨trivial, List.forall_mem_cons.mpr ⟨trivial, List.forall_mem_cons.mpr ⟨fl_Poem_9, List.forall_mem_cons.mpr ⟨trivial, List.forall_mem_cons.mpr ⟨trivial, List.forall_mem_cons.mpr ⟨fl_Poem_18, List.forall_mem_cons.mpr ⟨trivial, List.forall_mem_cons.mpr ⟨trivial, List.forall_mem_cons.mpr ⟨trivial, List.forall_mem_cons.mpr ⟨fl_Poem_18, List.forall_mem_cons.mpr ⟨trivial, List.forall_mem_cons.mpr ⟨trivial, List.forall_mem_cons.mpr ⟨trivial, List.forall_mem_cons.mpr ⟨trivial, List.forall_mem_cons.mpr ⟨trivial, List.forall_mem_cons.mpr ⟨trivial, List.forall_mem_cons.mpr ⟨⟨ml_Poem_55, xms_Row_turned⟩, List.forall_mem_cons.mpr ⟨trivial, List.forall_mem_cons.mpr ⟨trivial, List.forall_mem_cons.mpr ⟨trivial, List.forall_mem_cons.mpr ⟨trivial, List.forall_mem_cons.mpr ⟨trivial, List.forall_mem_cons.mpr ⟨trivial, List.forall_mem_cons.mpr ⟨trivial, fun _ h => absurd h List.not_mem_nil⟩⟩⟩⟩⟩⟩⟩⟩⟩⟩⟩⟩⟩⟩⟩⟩⟩⟩⟩⟩⟩⟩⟩⟩⟩⟩⟩⟩⟩⟩⟩⟩⟩⟩⟩
def k_Poem_rewrite : xCd := [
  (0, .iload_n 1, 1, .inl (0, 0)),
  (1, .istore 4, 2, .inl (0, 0)),
  (3, .iconst 0, 1, .inr (.inr (.inl (nI 0)))),
  (4, .istore 5, 2, .inl (0, 0)),
  (6, .iload 5, 2, .inl (0, 0)),
  (8, .aload_n 0, 1, .inl (0, 0)),
  (9, .getfield 9, 3, .inl (2, 0)),
  (12, .if_icmp .ge 27, 3, .inl (39, 0)),
  (15, .aload_n 0, 1, .inl (0, 0)),
  (16, .getfield 18, 3, .inl (2, 2)),
  (19, .iload 5, 2, .inl (0, 0)),
  (21, .iload 4, 2, .inl (0, 0)),
  (23, .iastore, 1, .inl (0, 0)),
  (24, .iload 4, 2, .inl (0, 0)),
  (26, .iload_n 2, 1, .inl (0, 0)),
  (27, .iload_n 3, 1, .inl (0, 0)),
  (28, .invokestatic 55, 3, .inr (.inl g_Row_turned)),
  (31, .istore 4, 2, .inl (0, 0)),
  (33, .iinc 5 1, 3, .inr (.inr (.inl (nI 1)))),
  (36, .goto (-30), 3, .inl (6, 0)),
  (39, .return_, 1, .inl (0, 0))]
set_option maxRecDepth 100000 in
set_option maxHeartbeats 4000000 in
theorem ok_Poem_rewrite : xOK g_Poem_rewrite k_Poem_rewrite := ⟨by decide +kernel, by decide +kernel, List.forall_mem_cons.mpr ⟨trivial, List.forall_mem_cons.mpr ⟨trivial, List.forall_mem_cons.mpr ⟨trivial, List.forall_mem_cons.mpr ⟨trivial, List.forall_mem_cons.mpr ⟨trivial, List.forall_mem_cons.mpr ⟨trivial, List.forall_mem_cons.mpr ⟨fl_Poem_9, List.forall_mem_cons.mpr ⟨trivial, List.forall_mem_cons.mpr ⟨trivial, List.forall_mem_cons.mpr ⟨fl_Poem_18, List.forall_mem_cons.mpr ⟨trivial, List.forall_mem_cons.mpr ⟨trivial, List.forall_mem_cons.mpr ⟨trivial, List.forall_mem_cons.mpr ⟨trivial, List.forall_mem_cons.mpr ⟨trivial, List.forall_mem_cons.mpr ⟨trivial, List.forall_mem_cons.mpr ⟨⟨ml_Poem_55, xms_Row_turned⟩, List.forall_mem_cons.mpr ⟨trivial, List.forall_mem_cons.mpr ⟨trivial, List.forall_mem_cons.mpr ⟨trivial, List.forall_mem_cons.mpr ⟨trivial, fun _ h => absurd h List.not_mem_nil⟩⟩⟩⟩⟩⟩⟩⟩⟩⟩⟩⟩⟩⟩⟩⟩⟩⟩⟩⟩⟩⟩
def k_Poem_lengthOfTail : xCd := [
  (0, .iconst 0, 1, .inr (.inr (.inl (nI 0)))),
  (1, .istore_n 1, 1, .inl (0, 0)),
  (2, .iconst 0, 1, .inr (.inr (.inl (nI 0)))),
  (3, .istore_n 2, 1, .inl (0, 0)),
  (4, .iload_n 2, 1, .inl (0, 0)),
  (5, .aload_n 0, 1, .inl (0, 0)),
  (6, .getfield 15, 3, .inl (2, 1)),
  (9, .if_icmp .ge 18, 3, .inl (27, 0)),
  (12, .iload_n 1, 1, .inl (0, 0)),
  (13, .aload_n 0, 1, .inl (0, 0)),
  (14, .getfield 28, 3, .inl (2, 5)),
  (17, .iload_n 2, 1, .inl (0, 0)),
  (18, .iaload, 1, .inl (0, 0)),
  (19, .iadd, 1, .inl (0, 0)),
  (20, .istore_n 1, 1, .inl (0, 0)),
  (21, .iinc 2 1, 3, .inr (.inr (.inl (nI 1)))),
  (24, .goto (-20), 3, .inl (4, 0)),
  (27, .iload_n 1, 1, .inl (0, 0)),
  (28, .ireturn, 1, .inl (0, 0))]
set_option maxRecDepth 100000 in
set_option maxHeartbeats 4000000 in
theorem ok_Poem_lengthOfTail : xOK g_Poem_lengthOfTail k_Poem_lengthOfTail := ⟨by decide +kernel, by decide +kernel, List.forall_mem_cons.mpr ⟨trivial, List.forall_mem_cons.mpr ⟨trivial, List.forall_mem_cons.mpr ⟨trivial, List.forall_mem_cons.mpr ⟨trivial, List.forall_mem_cons.mpr ⟨trivial, List.forall_mem_cons.mpr ⟨trivial, List.forall_mem_cons.mpr ⟨fl_Poem_15, List.forall_mem_cons.mpr ⟨trivial, List.forall_mem_cons.mpr ⟨trivial, List.forall_mem_cons.mpr ⟨trivial, List.forall_mem_cons.mpr ⟨fl_Poem_28, List.forall_mem_cons.mpr ⟨trivial, List.forall_mem_cons.mpr ⟨trivial, List.forall_mem_cons.mpr ⟨trivial, List.forall_mem_cons.mpr ⟨trivial, List.forall_mem_cons.mpr ⟨trivial, List.forall_mem_cons.mpr ⟨trivial, List.forall_mem_cons.mpr ⟨trivial, List.forall_mem_cons.mpr ⟨trivial, fun _ h => absurd h List.not_mem_nil⟩⟩⟩⟩⟩⟩⟩⟩⟩⟩⟩⟩⟩⟩⟩⟩⟩⟩⟩⟩
def k_Poem_wordsOfTail : xCd := [
  (0, .iconst 0, 1, .inr (.inr (.inl (nI 0)))),
  (1, .istore_n 1, 1, .inl (0, 0)),
  (2, .iconst 0, 1, .inr (.inr (.inl (nI 0)))),
  (3, .istore_n 2, 1, .inl (0, 0)),
  (4, .iload_n 2, 1, .inl (0, 0)),
  (5, .aload_n 0, 1, .inl (0, 0)),
  (6, .getfield 15, 3, .inl (2, 1)),
  (9, .if_icmp .ge 27, 3, .inl (36, 0)),
  (12, .iload_n 1, 1, .inl (0, 0)),
  (13, .aload_n 0, 1, .inl (0, 0)),
  (14, .getfield 25, 3, .inl (2, 4)),
  (17, .iload_n 2, 1, .inl (0, 0)),
  (18, .iaload, 1, .inl (0, 0)),
  (19, .aload_n 0, 1, .inl (0, 0)),
  (20, .getfield 28, 3, .inl (2, 5)),
  (23, .iload_n 2, 1, .inl (0, 0)),
  (24, .iaload, 1, .inl (0, 0)),
  (25, .invokestatic 62, 3, .inr (.inl g_Row_entries)),
  (28, .ior, 1, .inl (0, 0)),
  (29, .istore_n 1, 1, .inl (0, 0)),
  (30, .iinc 2 1, 3, .inr (.inr (.inl (nI 1)))),
  (33, .goto (-29), 3, .inl (4, 0)),
  (36, .iload_n 1, 1, .inl (0, 0)),
  (37, .ireturn, 1, .inl (0, 0))]
set_option maxRecDepth 100000 in
set_option maxHeartbeats 4000000 in
theorem ok_Poem_wordsOfTail : xOK g_Poem_wordsOfTail k_Poem_wordsOfTail := ⟨by decide +kernel, by decide +kernel, List.forall_mem_cons.mpr ⟨trivial, List.forall_mem_cons.mpr ⟨trivial, List.forall_mem_cons.mpr ⟨trivial, List.forall_mem_cons.mpr ⟨trivial, List.forall_mem_cons.mpr ⟨trivial, List.forall_mem_cons.mpr ⟨trivial, List.forall_mem_cons.mpr ⟨fl_Poem_15, List.forall_mem_cons.mpr ⟨trivial, List.forall_mem_cons.mpr ⟨trivial, List.forall_mem_cons.mpr ⟨trivial, List.forall_mem_cons.mpr ⟨fl_Poem_25, List.forall_mem_cons.mpr ⟨trivial, List.forall_mem_cons.mpr ⟨trivial, List.forall_mem_cons.mpr ⟨trivial, List.forall_mem_cons.mpr ⟨fl_Poem_28, List.forall_mem_cons.mpr ⟨trivial, List.forall_mem_cons.mpr ⟨trivial, List.forall_mem_cons.mpr ⟨⟨ml_Poem_62, xms_Row_entries⟩, List.forall_mem_cons.mpr ⟨trivial, List.forall_mem_cons.mpr ⟨trivial, List.forall_mem_cons.mpr ⟨trivial, List.forall_mem_cons.mpr ⟨trivial, List.forall_mem_cons.mpr ⟨trivial, List.forall_mem_cons.mpr ⟨trivial, fun _ h => absurd h List.not_mem_nil⟩⟩⟩⟩⟩⟩⟩⟩⟩⟩⟩⟩⟩⟩⟩⟩⟩⟩⟩⟩⟩⟩⟩⟩⟩
def k_PR_init : xCd := [
  (0, .aload_n 0, 1, .inl (0, 0)),
  (1, .invokespecial 3, 3, .inl (0, 0)),
  (4, .aload_n 0, 1, .inl (0, 0)),
  (5, .new 9, 3, .inl (2, 6)),
  (8, .dup, 1, .inl (0, 0)),
  (9, .invokespecial 11, 3, .inr (.inl g_Poem_init)),
  (12, .putfield 12, 3, .inl (3, 1)),
  (15, .aload_n 0, 1, .inl (0, 0)),
  (16, .iconst 0, 1, .inr (.inr (.inl (nI 0)))),
  (17, .putfield 18, 3, .inl (3, 0)),
  (20, .aload_n 0, 1, .inl (0, 0)),
  (21, .iconst 0, 1, .inr (.inr (.inl (nI 0)))),
  (22, .putfield 22, 3, .inl (3, 2)),
  (25, .return_, 1, .inl (0, 0))]
set_option maxRecDepth 100000 in
set_option maxHeartbeats 4000000 in
theorem ok_PR_init : xOK g_PR_init k_PR_init := ⟨by decide +kernel, by decide +kernel, List.forall_mem_cons.mpr ⟨trivial, List.forall_mem_cons.mpr ⟨⟨lw_gm 213 rfl rfl, lw_gm 92 rfl rfl, lw_gm 93 rfl rfl⟩, List.forall_mem_cons.mpr ⟨trivial, List.forall_mem_cons.mpr ⟨⟨_, rfl, rfl, lw_gm 214 rfl rfl, lw_gm 101 rfl rfl, lw_gm 71 rfl rfl⟩, List.forall_mem_cons.mpr ⟨trivial, List.forall_mem_cons.mpr ⟨⟨ml_PR_11, xmi_Poem_init⟩, List.forall_mem_cons.mpr ⟨⟨fl_PR_12, fun r hr _ => by cases hr; exact ⟨rfl, rfl⟩⟩, List.forall_mem_cons.mpr ⟨trivial, List.forall_mem_cons.mpr ⟨trivial, List.forall_mem_cons.mpr ⟨⟨fl_PR_18, nf_3_0 _⟩, List.forall_mem_cons.mpr ⟨trivial, List.forall_mem_cons.mpr ⟨trivial, List.forall_mem_cons.mpr ⟨⟨fl_PR_22, nf_3_2 _⟩, List.forall_mem_cons.mpr ⟨trivial, fun _ h => absurd h List.not_mem_nil⟩⟩⟩⟩⟩⟩⟩⟩⟩⟩⟩⟩⟩⟩⟩
def k_PR_wordBelow : xCd := [
  (0, .aload_n 1, 1, .inl (0, 0)),
  (1, .aload_n 0, 1, .inl (0, 0)),
  (2, .getfield 22, 3, .inl (3, 2)),
  (5, .invokevirtual 32, 3, .inr (.inl g_Txt_byteAt)),
  (8, .bipush 97, 2, .inr (.inr (.inl (nI 97)))),
  (10, .isub, 1, .inl (0, 0)),
  (11, .istore_n 3, 1, .inl (0, 0)),
  (12, .iload_n 3, 1, .inl (0, 0)),
  (13, .iload_n 2, 1, .inl (0, 0)),
  (14, .if_icmp .ge 7, 3, .inl (21, 0)),
  (17, .iload_n 3, 1, .inl (0, 0)),
  (18, .goto 4, 3, .inl (22, 0)),
  (21, .iconst (-1), 1, .inr (.inr (.inl (-1)))),
  (22, .ireturn, 1, .inl (0, 0))]
set_option maxRecDepth 100000 in
set_option maxHeartbeats 4000000 in
theorem ok_PR_wordBelow : xOK g_PR_wordBelow k_PR_wordBelow := ⟨by decide +kernel, by decide +kernel, List.forall_mem_cons.mpr ⟨trivial, List.forall_mem_cons.mpr ⟨trivial, List.forall_mem_cons.mpr ⟨fl_PR_22, List.forall_mem_cons.mpr ⟨⟨ml_PR_32, xmv_Txt_byteAt⟩, List.forall_mem_cons.mpr ⟨trivial, List.forall_mem_cons.mpr ⟨trivial, List.forall_mem_cons.mpr ⟨trivial, List.forall_mem_cons.mpr ⟨trivial, List.forall_mem_cons.mpr ⟨trivial, List.forall_mem_cons.mpr ⟨trivial, List.forall_mem_cons.mpr ⟨trivial, List.forall_mem_cons.mpr ⟨trivial, List.forall_mem_cons.mpr ⟨trivial, List.forall_mem_cons.mpr ⟨trivial, fun _ h => absurd h List.not_mem_nil⟩⟩⟩⟩⟩⟩⟩⟩⟩⟩⟩⟩⟩⟩⟩
def k_PR_isStanzaOver : xCd := [
  (0, .aload_n 1, 1, .inl (0, 0)),
  (1, .aload_n 0, 1, .inl (0, 0)),
  (2, .getfield 22, 3, .inl (3, 2)),
  (5, .invokevirtual 32, 3, .inr (.inl g_Txt_byteAt)),
  (8, .istore_n 2, 1, .inl (0, 0)),
  (9, .iload_n 2, 1, .inl (0, 0)),
  (10, .bipush 47, 2, .inr (.inr (.inl (nI 47)))),
  (12, .if_icmp .eq 13, 3, .inl (25, 0)),
  (15, .iload_n 2, 1, .inl (0, 0)),
  (16, .bipush 59, 2, .inr (.inr (.inl (nI 59)))),
  (18, .if_icmp .eq 7, 3, .inl (25, 0)),
  (21, .iload_n 2, 1, .inl (0, 0)),
  (22, .ifCond .ne 7, 3, .inl (29, 0)),
  (25, .iconst 1, 1, .inr (.inr (.inl (nI 1)))),
  (26, .goto 4, 3, .inl (30, 0)),
  (29, .iconst 0, 1, .inr (.inr (.inl (nI 0)))),
  (30, .ireturn, 1, .inl (0, 0))]
set_option maxRecDepth 100000 in
set_option maxHeartbeats 4000000 in
theorem ok_PR_isStanzaOver : xOK g_PR_isStanzaOver k_PR_isStanzaOver := ⟨by decide +kernel, by decide +kernel, List.forall_mem_cons.mpr ⟨trivial, List.forall_mem_cons.mpr ⟨trivial, List.forall_mem_cons.mpr ⟨fl_PR_22, List.forall_mem_cons.mpr ⟨⟨ml_PR_32, xmv_Txt_byteAt⟩, List.forall_mem_cons.mpr ⟨trivial, List.forall_mem_cons.mpr ⟨trivial, List.forall_mem_cons.mpr ⟨trivial, List.forall_mem_cons.mpr ⟨trivial, List.forall_mem_cons.mpr ⟨trivial, List.forall_mem_cons.mpr ⟨trivial, List.forall_mem_cons.mpr ⟨trivial, List.forall_mem_cons.mpr ⟨trivial, List.forall_mem_cons.mpr ⟨trivial, List.forall_mem_cons.mpr ⟨trivial, List.forall_mem_cons.mpr ⟨trivial, List.forall_mem_cons.mpr ⟨trivial, List.forall_mem_cons.mpr ⟨trivial, fun _ h => absurd h List.not_mem_nil⟩⟩⟩⟩⟩⟩⟩⟩⟩⟩⟩⟩⟩⟩⟩⟩⟩⟩
def k_PR_readFirstStanza : xCd := [
  (0, .iconst 0, 1, .inr (.inr (.inl (nI 0)))),
  (1, .istore_n 2, 1, .inl (0, 0)),
  (2, .iconst 0, 1, .inr (.inr (.inl (nI 0)))),
  (3, .istore_n 3, 1, .inl (0, 0)),
  (4, .iload_n 2, 1, .inl (0, 0)),
  (5, .bipush 7, 2, .inr (.inr (.inl (nI 7)))),
  (7, .if_icmp .ge 42, 3, .inl (49, 0)),
  (10, .aload_n 0, 1, .inl (0, 0)),
  (11, .aload_n 1, 1, .inl (0, 0)),
  (12, .bipush 7, 2, .inr (.inr (.inl (nI 7)))),
  (14, .invokevirtual 47, 3, .inr (.inl g_PR_wordBelow)),
  (17, .ifCond .lt 32, 3, .inl (49, 0)),
  (20, .iload_n 3, 1, .inl (0, 0)),
  (21, .iload_n 2, 1, .inl (0, 0)),
  (22, .aload_n 0, 1, .inl (0, 0)),
  (23, .aload_n 1, 1, .inl (0, 0)),
  (24, .bipush 7, 2, .inr (.inr (.inl (nI 7)))),
  (26, .invokevirtual 47, 3, .inr (.inl g_PR_wordBelow)),
  (29, .invokestatic 51, 3, .inr (.inl g_Row_with)),
  (32, .istore_n 3, 1, .inl (0, 0)),
  (33, .iinc 2 1, 3, .inr (.inr (.inl (nI 1)))),
  (36, .aload_n 0, 1, .inl (0, 0)),
  (37, .dup, 1, .inl (0, 0)),
  (38, .getfield 22, 3, .inl (3, 2)),
  (41, .iconst 1, 1, .inr (.inr (.inl (nI 1)))),
  (42, .iadd, 1, .inl (0, 0)),
  (43, .putfield 22, 3, .inl (3, 2)),
  (46, .goto (-42), 3, .inl (4, 0)),
  (49, .iload_n 2, 1, .inl (0, 0)),
  (50, .iconst 2, 1, .inr (.inr (.inl (nI 2)))),
  (51, .if_icmp .lt 11, 3, .inl (62, 0)),
  (54, .aload_n 0, 1, .inl (0, 0)),
  (55, .aload_n 1, 1, .inl (0, 0)),
  (56, .invokevirtual 57, 3, .inr (.inl g_PR_isStanzaOver)),
  (59, .ifCond .ne 8, 3, .inl (67, 0)),
  (62, .aload_n 0, 1, .inl (0, 0)),
  (63, .getfield 22, 3, .inl (3, 2)),
  (66, .ireturn, 1, .inl (0, 0)),
  (67, .iconst 0, 1, .inr (.inr (.inl (nI 0)))),
  (68, .istore 4, 2, .inl (0, 0)),
  (70, .iload 4, 2, .inl (0, 0)),
  (72, .iload_n 2, 1, .inl (0, 0)),
  (73, .if_icmp .ge 22, 3, .inl (95, 0)),
  (76, .iload_n 3, 1, .inl (0, 0)),
  (77, .iload 4, 2, .inl (0, 0)),
  (79, .invokestatic 61, 3, .inr (.inl g_Row_entry)),
  (82, .iload_n 2, 1, .inl (0, 0)),
  (83, .if_icmp .lt 6, 3, .inl (89, 0)),
  (86, .iload 4, 2, .inl (0, 0)),
  (88, .ireturn, 1, .inl (0, 0)),
  (89, .iinc 4 1, 3, .inr (.inr (.inl (nI 1)))),
  (92, .goto (-22), 3, .inl (70, 0)),
  (95, .aload_n 0, 1, .inl (0, 0)),
  (96, .iload_n 2, 1, .inl (0, 0)),
  (97, .putfield 18, 3, .inl (3, 0)),
  (100, .aload_n 0, 1, .inl (0, 0)),
  (101, .getfield 12, 3, .inl (3, 1)),
  (104, .iload_n 3, 1, .inl (0, 0)),
  (105, .invokevirtual 65, 3, .inr (.inl g_Poem_append)),
  (108, .iconst (-1), 1, .inr (.inr (.inl (-1)))),
  (109, .ireturn, 1, .inl (0, 0))]
set_option maxRecDepth 100000 in
set_option maxHeartbeats 4000000 in
theorem ok_PR_readFirstStanza : xOK g_PR_readFirstStanza k_PR_readFirstStanza := ⟨by decide +kernel, by decide +kernel, List.forall_mem_cons.mpr ⟨trivial, List.forall_mem_cons.mpr ⟨trivial, List.forall_mem_cons.mpr ⟨trivial, List.forall_mem_cons.mpr ⟨trivial, List.forall_mem_cons.mpr ⟨trivial, List.forall_mem_cons.mpr ⟨trivial, List.forall_mem_cons.mpr ⟨trivial, List.forall_mem_cons.mpr ⟨trivial, List.forall_mem_cons.mpr ⟨trivial, List.forall_mem_cons.mpr ⟨trivial, List.forall_mem_cons.mpr ⟨⟨ml_PR_47, xmv_PR_wordBelow⟩, List.forall_mem_cons.mpr ⟨trivial, List.forall_mem_cons.mpr ⟨trivial, List.forall_mem_cons.mpr ⟨trivial, List.forall_mem_cons.mpr ⟨trivial, List.forall_mem_cons.mpr ⟨trivial, List.forall_mem_cons.mpr ⟨trivial, List.forall_mem_cons.mpr ⟨⟨ml_PR_47, xmv_PR_wordBelow⟩, List.forall_mem_cons.mpr ⟨⟨ml_PR_51, xms_Row_with⟩, List.forall_mem_cons.mpr ⟨trivial, List.forall_mem_cons.mpr ⟨trivial, List.forall_mem_cons.mpr ⟨trivial, List.forall_mem_cons.mpr ⟨trivial, List.forall_mem_cons.mpr ⟨fl_PR_22, List.forall_mem_cons.mpr ⟨trivial, List.forall_mem_cons.mpr ⟨trivial, List.forall_mem_cons.mpr ⟨⟨fl_PR_22, nf_3_2 _⟩, List.forall_mem_cons.mpr ⟨trivial, List.forall_mem_cons.mpr ⟨trivial, List.forall_mem_cons.mpr ⟨trivial, List.forall_mem_cons.mpr ⟨trivial, List.forall_mem_cons.mpr ⟨trivial, List.forall_mem_cons.mpr ⟨trivial, List.forall_mem_cons.mpr ⟨⟨ml_PR_57, xmv_PR_isStanzaOver⟩, List.forall_mem_cons.mpr ⟨trivial, List.forall_mem_cons.mpr ⟨trivial, List.forall_mem_cons.mpr ⟨fl_PR_22, List.forall_mem_cons.mpr ⟨trivial, List.forall_mem_cons.mpr ⟨trivial, List.forall_mem_cons.mpr ⟨trivial, List.forall_mem_cons.mpr ⟨trivial, List.forall_mem_cons.mpr ⟨trivial, List.forall_mem_cons.mpr ⟨trivial, List.forall_mem_cons.mpr ⟨trivial, List.forall_mem_cons.mpr ⟨trivial, List.forall_mem_cons.mpr ⟨⟨ml_PR_61, xms_Row_entry⟩, List.forall_mem_cons.mpr ⟨trivial, List.forall_mem_cons.mpr ⟨trivial, List.forall_mem_cons.mpr ⟨trivial, List.forall_mem_cons.mpr ⟨trivial, List.forall_mem_cons.mpr ⟨trivial, List.forall_mem_cons.mpr ⟨trivial, List.forall_mem_cons.mpr ⟨trivial, List.forall_mem_cons.mpr ⟨trivial, List.forall_mem_cons.mpr ⟨⟨fl_PR_18, nf_3_0 _⟩, List.forall_mem_cons.mpr ⟨trivial, List.forall_mem_cons.mpr ⟨fl_PR_12, List.forall_mem_cons.mpr ⟨trivial, List.forall_mem_cons.mpr ⟨⟨ml_PR_65, xmv_Poem_append⟩, List.forall_mem_cons.mpr ⟨trivial, List.forall_mem_cons.mpr ⟨trivial, fun _ h => absurd h List.not_mem_nil⟩⟩⟩⟩⟩⟩⟩⟩⟩⟩⟩⟩⟩⟩⟩⟩⟩⟩⟩⟩⟩⟩⟩⟩⟩⟩⟩⟩⟩⟩⟩⟩⟩⟩⟩⟩⟩⟩⟩⟩⟩⟩⟩⟩⟩⟩⟩⟩⟩⟩⟩⟩⟩⟩⟩⟩⟩⟩⟩⟩⟩⟩
def k_PR_readStanza : xCd := [
  (0, .iconst 0, 1, .inr (.inr (.inl (nI 0)))),
  (1, .istore_n 2, 1, .inl (0, 0)),
  (2, .iconst 0, 1, .inr (.inr (.inl (nI 0)))),
  (3, .istore_n 3, 1, .inl (0, 0)),
  (4, .iload_n 3, 1, .inl (0, 0)),
  (5, .aload_n 0, 1, .inl (0, 0)),
  (6, .getfield 18, 3, .inl (3, 0)),
  (9, .if_icmp .ge 48, 3, .inl (57, 0)),
  (12, .aload_n 0, 1, .inl (0, 0)),
  (13, .aload_n 1, 1, .inl (0, 0)),
  (14, .aload_n 0, 1, .inl (0, 0)),
  (15, .getfield 18, 3, .inl (3, 0)),
  (18, .invokevirtual 47, 3, .inr (.inl g_PR_wordBelow)),
  (21, .istore 4, 2, .inl (0, 0)),
  (23, .iload 4, 2, .inl (0, 0)),
  (25, .ifCond .ge 8, 3, .inl (33, 0)),
  (28, .aload_n 0, 1, .inl (0, 0)),
  (29, .getfield 22, 3, .inl (3, 2)),
  (32, .ireturn, 1, .inl (0, 0)),
  (33, .iload_n 2, 1, .inl (0, 0)),
  (34, .iload_n 3, 1, .inl (0, 0)),
  (35, .iload 4, 2, .inl (0, 0)),
  (37, .invokestatic 51, 3, .inr (.inl g_Row_with)),
  (40, .istore_n 2, 1, .inl (0, 0)),
  (41, .aload_n 0, 1, .inl (0, 0)),
  (42, .dup, 1, .inl (0, 0)),
  (43, .getfield 22, 3, .inl (3, 2)),
  (46, .iconst 1, 1, .inr (.inr (.inl (nI 1)))),
  (47, .iadd, 1, .inl (0, 0)),
  (48, .putfield 22, 3, .inl (3, 2)),
  (51, .iinc 3 1, 3, .inr (.inr (.inl (nI 1)))),
  (54, .goto (-50), 3, .inl (4, 0)),
  (57, .aload_n 0, 1, .inl (0, 0)),
  (58, .getfield 12, 3, .inl (3, 1)),
  (61, .iload_n 2, 1, .inl (0, 0)),
  (62, .invokevirtual 65, 3, .inr (.inl g_Poem_append)),
  (65, .aload_n 0, 1, .inl (0, 0)),
  (66, .aload_n 1, 1, .inl (0, 0)),
  (67, .invokevirtual 57, 3, .inr (.inl g_PR_isStanzaOver)),
  (70, .ifCond .eq 7, 3, .inl (77, 0)),
  (73, .iconst (-1), 1, .inr (.inr (.inl (-1)))),
  (74, .goto 7, 3, .inl (81, 0)),
  (77, .aload_n 0, 1, .inl (0, 0)),
  (78, .getfield 22, 3, .inl (3, 2)),
  (81, .ireturn, 1, .inl (0, 0))]
set_option maxRecDepth 100000 in
set_option maxHeartbeats 4000000 in
theorem ok_PR_readStanza : xOK g_PR_readStanza k_PR_readStanza := ⟨by decide +kernel, by decide +kernel, List.forall_mem_cons.mpr ⟨trivial, List.forall_mem_cons.mpr ⟨trivial, List.forall_mem_cons.mpr ⟨trivial, List.forall_mem_cons.mpr ⟨trivial, List.forall_mem_cons.mpr ⟨trivial, List.forall_mem_cons.mpr ⟨trivial, List.forall_mem_cons.mpr ⟨fl_PR_18, List.forall_mem_cons.mpr ⟨trivial, List.forall_mem_cons.mpr ⟨trivial, List.forall_mem_cons.mpr ⟨trivial, List.forall_mem_cons.mpr ⟨trivial, List.forall_mem_cons.mpr ⟨fl_PR_18, List.forall_mem_cons.mpr ⟨⟨ml_PR_47, xmv_PR_wordBelow⟩, List.forall_mem_cons.mpr ⟨trivial, List.forall_mem_cons.mpr ⟨trivial, List.forall_mem_cons.mpr ⟨trivial, List.forall_mem_cons.mpr ⟨trivial, List.forall_mem_cons.mpr ⟨fl_PR_22, List.forall_mem_cons.mpr ⟨trivial, List.forall_mem_cons.mpr ⟨trivial, List.forall_mem_cons.mpr ⟨trivial, List.forall_mem_cons.mpr ⟨trivial, List.forall_mem_cons.mpr ⟨⟨ml_PR_51, xms_Row_with⟩, List.forall_mem_cons.mpr ⟨trivial, List.forall_mem_cons.mpr ⟨trivial, List.forall_mem_cons.mpr ⟨trivial, List.forall_mem_cons.mpr ⟨fl_PR_22, List.forall_mem_cons.mpr ⟨trivial, List.forall_mem_cons.mpr ⟨trivial, List.forall_mem_cons.mpr ⟨⟨fl_PR_22, nf_3_2 _⟩, List.forall_mem_cons.mpr ⟨trivial, List.forall_mem_cons.mpr ⟨trivial, List.forall_mem_cons.mpr ⟨trivial, List.forall_mem_cons.mpr ⟨fl_PR_12, List.forall_mem_cons.mpr ⟨trivial, List.forall_mem_cons.mpr ⟨⟨ml_PR_65, xmv_Poem_append⟩, List.forall_mem_cons.mpr ⟨trivial, List.forall_mem_cons.mpr ⟨trivial, List.forall_mem_cons.mpr ⟨⟨ml_PR_57, xmv_PR_isStanzaOver⟩, List.forall_mem_cons.mpr ⟨trivial, List.forall_mem_cons.mpr ⟨trivial, List.forall_mem_cons.mpr ⟨trivial, List.forall_mem_cons.mpr ⟨trivial, List.forall_mem_cons.mpr ⟨fl_PR_22, List.forall_mem_cons.mpr ⟨trivial, fun _ h => absurd h List.not_mem_nil⟩⟩⟩⟩⟩⟩⟩⟩⟩⟩⟩⟩⟩⟩⟩⟩⟩⟩⟩⟩⟩⟩⟩⟩⟩⟩⟩⟩⟩⟩⟩⟩⟩⟩⟩⟩⟩⟩⟩⟩⟩⟩⟩⟩⟩⟩
def k_PR_readTailLine : xCd := [
  (0, .iconst 0, 1, .inr (.inr (.inl (nI 0)))),
  (1, .istore_n 2, 1, .inl (0, 0)),
  (2, .iconst 0, 1, .inr (.inr (.inl (nI 0)))),
  (3, .istore_n 3, 1, .inl (0, 0)),
  (4, .iload_n 2, 1, .inl (0, 0)),
  (5, .iconst 3, 1, .inr (.inr (.inl (nI 3)))),
  (6, .if_icmp .ge 46, 3, .inl (52, 0)),
  (9, .aload_n 0, 1, .inl (0, 0)),
  (10, .aload_n 1, 1, .inl (0, 0)),
  (11, .aload_n 0, 1, .inl (0, 0)),
  (12, .getfield 18, 3, .inl (3, 0)),
  (15, .invokevirtual 47, 3, .inr (.inl g_PR_wordBelow)),
  (18, .ifCond .lt 34, 3, .inl (52, 0)),
  (21, .iload_n 3, 1, .inl (0, 0)),
  (22, .iload_n 2, 1, .inl (0, 0)),
  (23, .aload_n 0, 1, .inl (0, 0)),
  (24, .aload_n 1, 1, .inl (0, 0)),
  (25, .aload_n 0, 1, .inl (0, 0)),
  (26, .getfield 18, 3, .inl (3, 0)),
  (29, .invokevirtual 47, 3, .inr (.inl g_PR_wordBelow)),
  (32, .invokestatic 51, 3, .inr (.inl g_Row_with)),
  (35, .istore_n 3, 1, .inl (0, 0)),
  (36, .iinc 2 1, 3, .inr (.inr (.inl (nI 1)))),
  (39, .aload_n 0, 1, .inl (0, 0)),
  (40, .dup, 1, .inl (0, 0)),
  (41, .getfield 22, 3, .inl (3, 2)),
  (44, .iconst 1, 1, .inr (.inr (.inl (nI 1)))),
  (45, .iadd, 1, .inl (0, 0)),
  (46, .putfield 22, 3, .inl (3, 2)),
  (49, .goto (-45), 3, .inl (4, 0)),
  (52, .aload_n 0, 1, .inl (0, 0)),
  (53, .getfield 12, 3, .inl (3, 1)),
  (56, .iload_n 3, 1, .inl (0, 0)),
  (57, .iload_n 2, 1, .inl (0, 0)),
  (58, .invokevirtual 72, 3, .inr (.inl g_Poem_appendTailLine)),
  (61, .iload_n 2, 1, .inl (0, 0)),
  (62, .ireturn, 1, .inl (0, 0))]
set_option maxRecDepth 100000 in
set_option maxHeartbeats 4000000 in
theorem ok_PR_readTailLine : xOK g_PR_readTailLine k_PR_readTailLine := ⟨by decide +kernel, by decide +kernel, List.forall_mem_cons.mpr ⟨trivial, List.forall_mem_cons.mpr ⟨trivial, List.forall_mem_cons.mpr ⟨trivial, List.forall_mem_cons.mpr ⟨trivial, List.forall_mem_cons.mpr ⟨trivial, List.forall_mem_cons.mpr ⟨trivial, List.forall_mem_cons.mpr ⟨trivial, List.forall_mem_cons.mpr ⟨trivial, List.forall_mem_cons.mpr ⟨trivial, List.forall_mem_cons.mpr ⟨trivial, List.forall_mem_cons.mpr ⟨fl_PR_18, List.forall_mem_cons.mpr ⟨⟨ml_PR_47, xmv_PR_wordBelow⟩, List.forall_mem_cons.mpr ⟨trivial, List.forall_mem_cons.mpr ⟨trivial, List.forall_mem_cons.mpr ⟨trivial, List.forall_mem_cons.mpr ⟨trivial, List.forall_mem_cons.mpr ⟨trivial, List.forall_mem_cons.mpr ⟨trivial, List.forall_mem_cons.mpr ⟨fl_PR_18, List.forall_mem_cons.mpr ⟨⟨ml_PR_47, xmv_PR_wordBelow⟩, List.forall_mem_cons.mpr ⟨⟨ml_PR_51, xms_Row_with⟩, List.forall_mem_cons.mpr ⟨trivial, List.forall_mem_cons.mpr ⟨trivial, List.forall_mem_cons.mpr ⟨trivial, List.forall_mem_cons.mpr ⟨trivial, List.forall_mem_cons.mpr ⟨fl_PR_22, List.forall_mem_cons.mpr ⟨trivial, List.forall_mem_cons.mpr ⟨trivial, List.forall_mem_cons.mpr ⟨⟨fl_PR_22, nf_3_2 _⟩, List.forall_mem_cons.mpr ⟨trivial, List.forall_mem_cons.mpr ⟨trivial, List.forall_mem_cons.mpr ⟨fl_PR_12, List.forall_mem_cons.mpr ⟨trivial, List.forall_mem_cons.mpr ⟨trivial, List.forall_mem_cons.mpr ⟨⟨ml_PR_72, xmv_Poem_appendTailLine⟩, List.forall_mem_cons.mpr ⟨trivial, List.forall_mem_cons.mpr ⟨trivial, fun _ h => absurd h List.not_mem_nil⟩⟩⟩⟩⟩⟩⟩⟩⟩⟩⟩⟩⟩⟩⟩⟩⟩⟩⟩⟩⟩⟩⟩⟩⟩⟩⟩⟩⟩⟩⟩⟩⟩⟩⟩⟩⟩⟩
def k_PR_readTail : xCd := [
  (0, .iconst 0, 1, .inr (.inr (.inl (nI 0)))),
  (1, .istore_n 2, 1, .inl (0, 0)),
  (2, .aload_n 0, 1, .inl (0, 0)),
  (3, .dup, 1, .inl (0, 0)),
  (4, .getfield 22, 3, .inl (3, 2)),
  (7, .iconst 1, 1, .inr (.inr (.inl (nI 1)))),
  (8, .iadd, 1, .inl (0, 0)),
  (9, .putfield 22, 3, .inl (3, 2)),
  (12, .aload_n 0, 1, .inl (0, 0)),
  (13, .aload_n 1, 1, .inl (0, 0)),
  (14, .invokevirtual 69, 3, .inr (.inl g_PR_readTailLine)),
  (17, .istore_n 3, 1, .inl (0, 0)),
  (18, .iload_n 3, 1, .inl (0, 0)),
  (19, .ifCond .ne 8, 3, .inl (27, 0)),
  (22, .aload_n 0, 1, .inl (0, 0)),
  (23, .getfield 22, 3, .inl (3, 2)),
  (26, .ireturn, 1, .inl (0, 0)),
  (27, .iinc 2 1, 3, .inr (.inr (.inl (nI 1)))),
  (30, .iload_n 2, 1, .inl (0, 0)),
  (31, .iconst 4, 1, .inr (.inr (.inl (nI 4)))),
  (32, .if_icmp .ge 16, 3, .inl (48, 0)),
  (35, .aload_n 1, 1, .inl (0, 0)),
  (36, .aload_n 0, 1, .inl (0, 0)),
  (37, .getfield 22, 3, .inl (3, 2)),
  (40, .invokevirtual 32, 3, .inr (.inl g_Txt_byteAt)),
  (43, .bipush 44, 2, .inr (.inr (.inl (nI 44)))),
  (45, .if_icmp .eq (-43), 3, .inl (2, 0)),
  (48, .iconst (-1), 1, .inr (.inr (.inl (-1)))),
  (49, .ireturn, 1, .inl (0, 0))]
set_option maxRecDepth 100000 in
set_option maxHeartbeats 4000000 in
theorem ok_PR_readTail : xOK g_PR_readTail k_PR_readTail := ⟨by decide +kernel, by decide +kernel, List.forall_mem_cons.mpr ⟨trivial, List.forall_mem_cons.mpr ⟨trivial, List.forall_mem_cons.mpr ⟨trivial, List.forall_mem_cons.mpr ⟨trivial, List.forall_mem_cons.mpr ⟨fl_PR_22, List.forall_mem_cons.mpr ⟨trivial, List.forall_mem_cons.mpr ⟨trivial, List.forall_mem_cons.mpr ⟨⟨fl_PR_22, nf_3_2 _⟩, List.forall_mem_cons.mpr ⟨trivial, List.forall_mem_cons.mpr ⟨trivial, List.forall_mem_cons.mpr ⟨⟨ml_PR_69, xmv_PR_readTailLine⟩, List.forall_mem_cons.mpr ⟨trivial, List.forall_mem_cons.mpr ⟨trivial, List.forall_mem_cons.mpr ⟨trivial, List.forall_mem_cons.mpr ⟨trivial, List.forall_mem_cons.mpr ⟨fl_PR_22, List.forall_mem_cons.mpr ⟨trivial, List.forall_mem_cons.mpr ⟨trivial, List.forall_mem_cons.mpr ⟨trivial, List.forall_mem_cons.mpr ⟨trivial, List.forall_mem_cons.mpr ⟨trivial, List.forall_mem_cons.mpr ⟨trivial, List.forall_mem_cons.mpr ⟨trivial, List.forall_mem_cons.mpr ⟨fl_PR_22, List.forall_mem_cons.mpr ⟨⟨ml_PR_32, xmv_Txt_byteAt⟩, List.forall_mem_cons.mpr ⟨trivial, List.forall_mem_cons.mpr ⟨trivial, List.forall_mem_cons.mpr ⟨trivial, List.forall_mem_cons.mpr ⟨trivial, fun _ h => absurd h List.not_mem_nil⟩⟩⟩⟩⟩⟩⟩⟩⟩⟩⟩⟩⟩⟩⟩⟩⟩⟩⟩⟩⟩⟩⟩⟩⟩⟩⟩⟩⟩⟩
def k_PR_readText : xCd := [
  (0, .aload_n 0, 1, .inl (0, 0)),
  (1, .getfield 12, 3, .inl (3, 1)),
  (4, .invokevirtual 25, 3, .inr (.inl g_Poem_empty)),
  (7, .aload_n 0, 1, .inl (0, 0)),
  (8, .iconst 0, 1, .inr (.inr (.inl (nI 0)))),
  (9, .putfield 22, 3, .inl (3, 2)),
  (12, .aload_n 0, 1, .inl (0, 0)),
  (13, .aload_n 1, 1, .inl (0, 0)),
  (14, .invokevirtual 28, 3, .inr (.inl g_PR_readFirstStanza)),
  (17, .istore_n 2, 1, .inl (0, 0)),
  (18, .iconst 1, 1, .inr (.inr (.inl (nI 1)))),
  (19, .istore_n 3, 1, .inl (0, 0)),
  (20, .iload_n 3, 1, .inl (0, 0)),
  (21, .bipush 8, 2, .inr (.inr (.inl (nI 8)))),
  (23, .if_icmp .ge 43, 3, .inl (66, 0)),
  (26, .iload_n 2, 1, .inl (0, 0)),
  (27, .iconst (-1), 1, .inr (.inr (.inl (-1)))),
  (28, .if_icmp .ne 38, 3, .inl (66, 0)),
  (31, .aload_n 1, 1, .inl (0, 0)),
  (32, .aload_n 0, 1, .inl (0, 0)),
  (33, .getfield 22, 3, .inl (3, 2)),
  (36, .invokevirtual 32, 3, .inr (.inl g_Txt_byteAt)),
  (39, .bipush 47, 2, .inr (.inr (.inl (nI 47)))),
  (41, .if_icmp .ne 25, 3, .inl (66, 0)),
  (44, .aload_n 0, 1, .inl (0, 0)),
  (45, .dup, 1, .inl (0, 0)),
  (46, .getfield 22, 3, .inl (3, 2)),
  (49, .iconst 1, 1, .inr (.inr (.inl (nI 1)))),
  (50, .iadd, 1, .inl (0, 0)),
  (51, .putfield 22, 3, .inl (3, 2)),
  (54, .aload_n 0, 1, .inl (0, 0)),
  (55, .aload_n 1, 1, .inl (0, 0)),
  (56, .invokevirtual 38, 3, .inr (.inl g_PR_readStanza)),
  (59, .istore_n 2, 1, .inl (0, 0)),
  (60, .iinc 3 1, 3, .inr (.inr (.inl (nI 1)))),
  (63, .goto (-43), 3, .inl (20, 0)),
  (66, .iload_n 2, 1, .inl (0, 0)),
  (67, .iconst (-1), 1, .inr (.inr (.inl (-1)))),
  (68, .if_icmp .ne 22, 3, .inl (90, 0)),
  (71, .aload_n 1, 1, .inl (0, 0)),
  (72, .aload_n 0, 1, .inl (0, 0)),
  (73, .getfield 22, 3, .inl (3, 2)),
  (76, .invokevirtual 32, 3, .inr (.inl g_Txt_byteAt)),
  (79, .bipush 59, 2, .inr (.inr (.inl (nI 59)))),
  (81, .if_icmp .ne 9, 3, .inl (90, 0)),
  (84, .aload_n 0, 1, .inl (0, 0)),
  (85, .aload_n 1, 1, .inl (0, 0)),
  (86, .invokevirtual 41, 3, .inr (.inl g_PR_readTail)),
  (89, .istore_n 2, 1, .inl (0, 0)),
  (90, .iload_n 2, 1, .inl (0, 0)),
  (91, .iconst (-1), 1, .inr (.inr (.inl (-1)))),
  (92, .if_icmp .ne 19, 3, .inl (111, 0)),
  (95, .aload_n 0, 1, .inl (0, 0)),
  (96, .getfield 22, 3, .inl (3, 2)),
  (99, .aload_n 1, 1, .inl (0, 0)),
  (100, .getfield 44, 3, .inl (6, 0)),
  (103, .if_icmp .ge 8, 3, .inl (111, 0)),
  (106, .aload_n 0, 1, .inl (0, 0)),
  (107, .getfield 22, 3, .inl (3, 2)),
  (110, .ireturn, 1, .inl (0, 0)),
  (111, .iload_n 2, 1, .inl (0, 0)),
  (112, .ireturn, 1, .inl (0, 0))]
set_option maxRecDepth 100000 in
set_option maxHeartbeats 4000000 in
theorem ok_PR_readText : xOK g_PR_readText k_PR_readText := ⟨by decide +kernel, by decide +kernel, List.forall_mem_cons.mpr ⟨trivial, List.forall_mem_cons.mpr ⟨fl_PR_12, List.forall_mem_cons.mpr ⟨⟨ml_PR_25, xmv_Poem_empty⟩, List.forall_mem_cons.mpr ⟨trivial, List.forall_mem_cons.mpr ⟨trivial, List.forall_mem_cons.mpr ⟨⟨fl_PR_22, nf_3_2 _⟩, List.forall_mem_cons.mpr ⟨trivial, List.forall_mem_cons.mpr ⟨trivial, List.forall_mem_cons.mpr ⟨⟨ml_PR_28, xmv_PR_readFirstStanza⟩, List.forall_mem_cons.mpr ⟨trivial, List.forall_mem_cons.mpr ⟨trivial, List.forall_mem_cons.mpr ⟨trivial, List.forall_mem_cons.mpr ⟨trivial, List.forall_mem_cons.mpr ⟨trivial, List.forall_mem_cons.mpr ⟨trivial, List.forall_mem_cons.mpr ⟨trivial, List.forall_mem_cons.mpr ⟨trivial, List.forall_mem_cons.mpr ⟨trivial, List.forall_mem_cons.mpr ⟨trivial, List.forall_mem_cons.mpr ⟨trivial, List.forall_mem_cons.mpr ⟨fl_PR_22, List.forall_mem_cons.mpr ⟨⟨ml_PR_32, xmv_Txt_byteAt⟩, List.forall_mem_cons.mpr ⟨trivial, List.forall_mem_cons.mpr ⟨trivial, List.forall_mem_cons.mpr ⟨trivial, List.forall_mem_cons.mpr ⟨trivial, List.forall_mem_cons.mpr ⟨fl_PR_22, List.forall_mem_cons.mpr ⟨trivial, List.forall_mem_cons.mpr ⟨trivial, List.forall_mem_cons.mpr ⟨⟨fl_PR_22, nf_3_2 _⟩, List.forall_mem_cons.mpr ⟨trivial, List.forall_mem_cons.mpr ⟨trivial, List.forall_mem_cons.mpr ⟨⟨ml_PR_38, xmv_PR_readStanza⟩, List.forall_mem_cons.mpr ⟨trivial, List.forall_mem_cons.mpr ⟨trivial, List.forall_mem_cons.mpr ⟨trivial, List.forall_mem_cons.mpr ⟨trivial, List.forall_mem_cons.mpr ⟨trivial, List.forall_mem_cons.mpr ⟨trivial, List.forall_mem_cons.mpr ⟨trivial, List.forall_mem_cons.mpr ⟨trivial, List.forall_mem_cons.mpr ⟨fl_PR_22, List.forall_mem_cons.mpr ⟨⟨ml_PR_32, xmv_Txt_byteAt⟩, List.forall_mem_cons.mpr ⟨trivial, List.forall_mem_cons.mpr ⟨trivial, List.forall_mem_cons.mpr ⟨trivial, List.forall_mem_cons.mpr ⟨trivial, List.forall_mem_cons.mpr ⟨⟨ml_PR_41, xmv_PR_readTail⟩, List.forall_mem_cons.mpr ⟨trivial, List.forall_mem_cons.mpr ⟨trivial, List.forall_mem_cons.mpr ⟨trivial, List.forall_mem_cons.mpr ⟨trivial, List.forall_mem_cons.mpr ⟨trivial, List.forall_mem_cons.mpr ⟨fl_PR_22, List.forall_mem_cons.mpr ⟨trivial, List.forall_mem_cons.mpr ⟨fl_PR_44, List.forall_mem_cons.mpr ⟨trivial, List.forall_mem_cons.mpr ⟨trivial, List.forall_mem_cons.mpr ⟨fl_PR_22, List.forall_mem_cons.mpr ⟨trivial, List.forall_mem_cons.mpr ⟨trivial, List.forall_mem_cons.mpr ⟨trivial, fun _ h => absurd h List.not_mem_nil⟩⟩⟩⟩⟩⟩⟩⟩⟩⟩⟩⟩⟩⟩⟩⟩⟩⟩⟩⟩⟩⟩⟩⟩⟩⟩⟩⟩⟩⟩⟩⟩⟩⟩⟩⟩⟩⟩⟩⟩⟩⟩⟩⟩⟩⟩⟩⟩⟩⟩⟩⟩⟩⟩⟩⟩⟩⟩⟩⟩⟩⟩⟩
def k_Sea_init : xCd := [
  (0, .aload_n 0, 1, .inl (0, 0)),
  (1, .invokespecial 3, 3, .inl (0, 0)),
  (4, .aload_n 0, 1, .inl (0, 0)),
  (5, .iconst 0, 1, .inr (.inr (.inl (nI 0)))),
  (6, .putfield 9, 3, .inl (4, 0)),
  (9, .aload_n 0, 1, .inl (0, 0)),
  (10, .iconst 0, 1, .inr (.inr (.inl (nI 0)))),
  (11, .putfield 15, 3, .inl (4, 1)),
  (14, .aload_n 0, 1, .inl (0, 0)),
  (15, .iconst 0, 1, .inr (.inr (.inl (nI 0)))),
  (16, .putfield 18, 3, .inl (4, 2)),
  (19, .aload_n 0, 1, .inl (0, 0)),
  (20, .bipush 6, 2, .inr (.inr (.inl (nI 6)))),
  (22, .newarray .int, 2, .inl (0, 0)),
  (24, .putfield 21, 3, .inl (4, 3)),
  (27, .aload_n 0, 1, .inl (0, 0)),
  (28, .sipush 5040, 3, .inr (.inr (.inl (nI 5040)))),
  (31, .newarray .int, 2, .inl (0, 0)),
  (33, .putfield 25, 3, .inl (4, 4)),
  (36, .aload_n 0, 1, .inl (0, 0)),
  (37, .sipush 5040, 3, .inr (.inr (.inl (nI 5040)))),
  (40, .newarray .int, 2, .inl (0, 0)),
  (42, .putfield 28, 3, .inl (4, 5)),
  (45, .return_, 1, .inl (0, 0))]
set_option maxRecDepth 100000 in
set_option maxHeartbeats 4000000 in
theorem ok_Sea_init : xOK g_Sea_init k_Sea_init := ⟨by decide +kernel, by decide +kernel, List.forall_mem_cons.mpr ⟨trivial, List.forall_mem_cons.mpr ⟨⟨lw_gm 244 rfl rfl, lw_gm 92 rfl rfl, lw_gm 93 rfl rfl⟩, List.forall_mem_cons.mpr ⟨trivial, List.forall_mem_cons.mpr ⟨trivial, List.forall_mem_cons.mpr ⟨⟨fl_Sea_9, nf_4_0 _⟩, List.forall_mem_cons.mpr ⟨trivial, List.forall_mem_cons.mpr ⟨trivial, List.forall_mem_cons.mpr ⟨⟨fl_Sea_15, nf_4_1 _⟩, List.forall_mem_cons.mpr ⟨trivial, List.forall_mem_cons.mpr ⟨trivial, List.forall_mem_cons.mpr ⟨⟨fl_Sea_18, nf_4_2 _⟩, List.forall_mem_cons.mpr ⟨trivial, List.forall_mem_cons.mpr ⟨trivial, List.forall_mem_cons.mpr ⟨lw_gm 134 rfl rfl, List.forall_mem_cons.mpr ⟨⟨fl_Sea_21, fun r hr _ => by cases hr; exact ⟨rfl, rfl⟩⟩, List.forall_mem_cons.mpr ⟨trivial, List.forall_mem_cons.mpr ⟨trivial, List.forall_mem_cons.mpr ⟨lw_gm 134 rfl rfl, List.forall_mem_cons.mpr ⟨⟨fl_Sea_25, fun r hr _ => by cases hr; exact ⟨rfl, rfl⟩⟩, List.forall_mem_cons.mpr ⟨trivial, List.forall_mem_cons.mpr ⟨trivial, List.forall_mem_cons.mpr ⟨lw_gm 134 rfl rfl, List.forall_mem_cons.mpr ⟨⟨fl_Sea_28, fun r hr _ => by cases hr; exact ⟨rfl, rfl⟩⟩, List.forall_mem_cons.mpr ⟨trivial, fun _ h => absurd h List.not_mem_nil⟩⟩⟩⟩⟩⟩⟩⟩⟩⟩⟩⟩⟩⟩⟩⟩⟩⟩⟩⟩⟩⟩⟩⟩⟩
def k_Sea_note : xCd := [
  (0, .iload_n 1, 1, .inl (0, 0)),
  (1, .aload_n 0, 1, .inl (0, 0)),
  (2, .getfield 15, 3, .inl (4, 1)),
  (5, .invokestatic 70, 3, .inr (.inl g_Perm_number)),
  (8, .istore_n 3, 1, .inl (0, 0)),
  (9, .iload_n 3, 1, .inl (0, 0)),
  (10, .ifCond .lt 57, 3, .inl (67, 0)),
  (13, .iload_n 3, 1, .inl (0, 0)),
  (14, .sipush 5040, 3, .inr (.inr (.inl (nI 5040)))),
  (17, .if_icmp .ge 50, 3, .inl (67, 0)),
  (20, .aload_n 0, 1, .inl (0, 0)),
  (21, .getfield 28, 3, .inl (4, 5)),
  (24, .iload_n 3, 1, .inl (0, 0)),
  (25, .iaload, 1, .inl (0, 0)),
  (26, .iconst (-1), 1, .inr (.inr (.inl (-1)))),
  (27, .if_icmp .ne 40, 3, .inl (67, 0)),
  (30, .aload_n 0, 1, .inl (0, 0)),
  (31, .getfield 9, 3, .inl (4, 0)),
  (34, .sipush 5040, 3, .inr (.inr (.inl (nI 5040)))),
  (37, .if_icmp .ge 30, 3, .inl (67, 0)),
  (40, .aload_n 0, 1, .inl (0, 0)),
  (41, .getfield 28, 3, .inl (4, 5)),
  (44, .iload_n 3, 1, .inl (0, 0)),
  (45, .iload_n 2, 1, .inl (0, 0)),
  (46, .iastore, 1, .inl (0, 0)),
  (47, .aload_n 0, 1, .inl (0, 0)),
  (48, .getfield 25, 3, .inl (4, 4)),
  (51, .aload_n 0, 1, .inl (0, 0)),
  (52, .getfield 9, 3, .inl (4, 0)),
  (55, .iload_n 1, 1, .inl (0, 0)),
  (56, .iastore, 1, .inl (0, 0)),
  (57, .aload_n 0, 1, .inl (0, 0)),
  (58, .dup, 1, .inl (0, 0)),
  (59, .getfield 9, 3, .inl (4, 0)),
  (62, .iconst 1, 1, .inr (.inr (.inl (nI 1)))),
  (63, .iadd, 1, .inl (0, 0)),
  (64, .putfield 9, 3, .inl (4, 0)),
  (67, .return_, 1, .inl (0, 0))]
set_option maxRecDepth 100000 in
set_option maxHeartbeats 4000000 in
theorem ok_Sea_note : xOK g_Sea_note k_Sea_note := ⟨by decide +kernel, by decide +kernel, List.forall_mem_cons.mpr ⟨trivial, List.forall_mem_cons.mpr ⟨trivial, List.forall_mem_cons.mpr ⟨fl_Sea_15, List.forall_mem_cons.mpr ⟨⟨ml_Sea_70, xms_Perm_number⟩, List.forall_mem_cons.mpr ⟨trivial, List.forall_mem_cons.mpr ⟨trivial, List.forall_mem_cons.mpr ⟨trivial, List.forall_mem_cons.mpr ⟨trivial, List.forall_mem_cons.mpr ⟨trivial, List.forall_mem_cons.mpr ⟨trivial, List.forall_mem_cons.mpr ⟨trivial, List.forall_mem_cons.mpr ⟨fl_Sea_28, List.forall_mem_cons.mpr ⟨trivial, List.forall_mem_cons.mpr ⟨trivial, List.forall_mem_cons.mpr ⟨trivial, List.forall_mem_cons.mpr ⟨trivial, List.forall_mem_cons.mpr ⟨trivial, List.forall_mem_cons.mpr ⟨fl_Sea_9, List.forall_mem_cons.mpr ⟨trivial, List.forall_mem_cons.mpr ⟨trivial, List.forall_mem_cons.mpr ⟨trivial, List.forall_mem_cons.mpr ⟨fl_Sea_28, List.forall_mem_cons.mpr ⟨trivial, List.forall_mem_cons.mpr ⟨trivial, List.forall_mem_cons.mpr ⟨trivial, List.forall_mem_cons.mpr ⟨trivial, List.forall_mem_cons.mpr ⟨fl_Sea_25, List.forall_mem_cons.mpr ⟨trivial, List.forall_mem_cons.mpr ⟨fl_Sea_9, List.forall_mem_cons.mpr ⟨trivial, List.forall_mem_cons.mpr ⟨trivial, List.forall_mem_cons.mpr ⟨trivial, List.forall_mem_cons.mpr ⟨trivial, List.forall_mem_cons.mpr ⟨fl_Sea_9, List.forall_mem_cons.mpr ⟨trivial, List.forall_mem_cons.mpr ⟨trivial, List.forall_mem_cons.mpr ⟨⟨fl_Sea_9, nf_4_0 _⟩, List.forall_mem_cons.mpr ⟨trivial, fun _ h => absurd h List.not_mem_nil⟩⟩⟩⟩⟩⟩⟩⟩⟩⟩⟩⟩⟩⟩⟩⟩⟩⟩⟩⟩⟩⟩⟩⟩⟩⟩⟩⟩⟩⟩⟩⟩⟩⟩⟩⟩⟩⟩⟩
def k_Sea_depthOf : xCd := [
  (0, .iload_n 1, 1, .inl (0, 0)),
  (1, .aload_n 0, 1, .inl (0, 0)),
  (2, .getfield 15, 3, .inl (4, 1)),
  (5, .invokestatic 70, 3, .inr (.inl g_Perm_number)),
  (8, .istore_n 2, 1, .inl (0, 0)),
  (9, .iload_n 2, 1, .inl (0, 0)),
  (10, .ifCond .lt 19, 3, .inl (29, 0)),
  (13, .iload_n 2, 1, .inl (0, 0)),
  (14, .sipush 5040, 3, .inr (.inr (.inl (nI 5040)))),
  (17, .if_icmp .ge 12, 3, .inl (29, 0)),
  (20, .aload_n 0, 1, .inl (0, 0)),
  (21, .getfield 28, 3, .inl (4, 5)),
  (24, .iload_n 2, 1, .inl (0, 0)),
  (25, .iaload, 1, .inl (0, 0)),
  (26, .goto 4, 3, .inl (30, 0)),
  (29, .iconst (-1), 1, .inr (.inr (.inl (-1)))),
  (30, .ireturn, 1, .inl (0, 0))]
set_option maxRecDepth 100000 in
set_option maxHeartbeats 4000000 in
theorem ok_Sea_depthOf : xOK g_Sea_depthOf k_Sea_depthOf := ⟨by decide +kernel, by decide +kernel, List.forall_mem_cons.mpr ⟨trivial, List.forall_mem_cons.mpr ⟨trivial, List.forall_mem_cons.mpr ⟨fl_Sea_15, List.forall_mem_cons.mpr ⟨⟨ml_Sea_70, xms_Perm_number⟩, List.forall_mem_cons.mpr ⟨trivial, List.forall_mem_cons.mpr ⟨trivial, List.forall_mem_cons.mpr ⟨trivial, List.forall_mem_cons.mpr ⟨trivial, List.forall_mem_cons.mpr ⟨trivial, List.forall_mem_cons.mpr ⟨trivial, List.forall_mem_cons.mpr ⟨trivial, List.forall_mem_cons.mpr ⟨fl_Sea_28, List.forall_mem_cons.mpr ⟨trivial, List.forall_mem_cons.mpr ⟨trivial, List.forall_mem_cons.mpr ⟨trivial, List.forall_mem_cons.mpr ⟨trivial, List.forall_mem_cons.mpr ⟨trivial, fun _ h => absurd h List.not_mem_nil⟩⟩⟩⟩⟩⟩⟩⟩⟩⟩⟩⟩⟩⟩⟩⟩⟩⟩
def k_Sea_isFactor : xCd := [
  (0, .aload_n 0, 1, .inl (0, 0)),
  (1, .getfield 18, 3, .inl (4, 2)),
  (4, .iload_n 1, 1, .inl (0, 0)),
  (5, .ishr, 1, .inl (0, 0)),
  (6, .iconst 1, 1, .inr (.inr (.inl (nI 1)))),
  (7, .iand, 1, .inl (0, 0)),
  (8, .iconst 1, 1, .inr (.inr (.inl (nI 1)))),
  (9, .if_icmp .ne 7, 3, .inl (16, 0)),
  (12, .iconst 1, 1, .inr (.inr (.inl (nI 1)))),
  (13, .goto 4, 3, .inl (17, 0)),
  (16, .iconst 0, 1, .inr (.inr (.inl (nI 0)))),
  (17, .ireturn, 1, .inl (0, 0))]
set_option maxRecDepth 100000 in
set_option maxHeartbeats 4000000 in
theorem ok_Sea_isFactor : xOK g_Sea_isFactor k_Sea_isFactor := ⟨by decide +kernel, by decide +kernel, List.forall_mem_cons.mpr ⟨trivial, List.forall_mem_cons.mpr ⟨fl_Sea_18, List.forall_mem_cons.mpr ⟨trivial, List.forall_mem_cons.mpr ⟨trivial, List.forall_mem_cons.mpr ⟨trivial, List.forall_mem_cons.mpr ⟨trivial, List.forall_mem_cons.mpr ⟨trivial, List.forall_mem_cons.mpr ⟨trivial, List.forall_mem_cons.mpr ⟨trivial, List.forall_mem_cons.mpr ⟨trivial, List.forall_mem_cons.mpr ⟨trivial, List.forall_mem_cons.mpr ⟨trivial, fun _ h => absurd h List.not_mem_nil⟩⟩⟩⟩⟩⟩⟩⟩⟩⟩⟩⟩⟩
def k_Sea_spread : xCd := [
  (0, .aload_n 0, 1, .inl (0, 0)),
  (1, .aload_n 1, 1, .inl (0, 0)),
  (2, .getfield 31, 3, .inl (5, 0)),
  (5, .putfield 15, 3, .inl (4, 1)),
  (8, .aload_n 0, 1, .inl (0, 0)),
  (9, .iload_n 2, 1, .inl (0, 0)),
  (10, .putfield 18, 3, .inl (4, 2)),
  (13, .aload_n 1, 1, .inl (0, 0)),
  (14, .getfield 34, 3, .inl (5, 2)),
  (17, .iconst 0, 1, .inr (.inr (.inl (nI 0)))),
  (18, .aload_n 0, 1, .inl (0, 0)),
  (19, .getfield 21, 3, .inl (4, 3)),
  (22, .iconst 0, 1, .inr (.inr (.inl (nI 0)))),
  (23, .bipush 6, 2, .inr (.inr (.inl (nI 6)))),
  (25, .invokestatic 37, 3, .inl (0, 0)),
  (28, .aload_n 0, 1, .inl (0, 0)),
  (29, .getfield 28, 3, .inl (4, 5)),
  (32, .iconst (-1), 1, .inr (.inr (.inl (-1)))),
  (33, .invokestatic 43, 3, .inr (.inl g_JA_fill)),
  (36, .aload_n 0, 1, .inl (0, 0)),
  (37, .iconst 0, 1, .inr (.inr (.inl (nI 0)))),
  (38, .putfield 9, 3, .inl (4, 0)),
  (41, .aload_n 0, 1, .inl (0, 0)),
  (42, .aload_n 0, 1, .inl (0, 0)),
  (43, .getfield 15, 3, .inl (4, 1)),
  (46, .invokestatic 49, 3, .inr (.inl g_Row_ascending)),
  (49, .iconst 0, 1, .inr (.inr (.inl (nI 0)))),
  (50, .invokevirtual 55, 3, .inr (.inl g_Sea_note)),
  (53, .iconst 0, 1, .inr (.inr (.inl (nI 0)))),
  (54, .istore_n 3, 1, .inl (0, 0)),
  (55, .iload_n 3, 1, .inl (0, 0)),
  (56, .aload_n 0, 1, .inl (0, 0)),
  (57, .getfield 9, 3, .inl (4, 0)),
  (60, .if_icmp .ge 81, 3, .inl (141, 0)),
  (63, .iload_n 3, 1, .inl (0, 0)),
  (64, .sipush 5040, 3, .inr (.inr (.inl (nI 5040)))),
  (67, .if_icmp .ge 74, 3, .inl (141, 0)),
  (70, .aload_n 0, 1, .inl (0, 0)),
  (71, .aload_n 0, 1, .inl (0, 0)),
  (72, .getfield 25, 3, .inl (4, 4)),
  (75, .iload_n 3, 1, .inl (0, 0)),
  (76, .iaload, 1, .inl (0, 0)),
  (77, .invokevirtual 59, 3, .inr (.inl g_Sea_depthOf)),
  (80, .istore 4, 2, .inl (0, 0)),
  (82, .iconst 0, 1, .inr (.inr (.inl (nI 0)))),
  (83, .istore 5, 2, .inl (0, 0)),
  (85, .iload 5, 2, .inl (0, 0)),
  (87, .bipush 6, 2, .inr (.inr (.inl (nI 6)))),
  (89, .if_icmp .ge 46, 3, .inl (135, 0)),
  (92, .aload_n 0, 1, .inl (0, 0)),
  (93, .iload 5, 2, .inl (0, 0)),
  (95, .invokevirtual 62, 3, .inr (.inl g_Sea_isFactor)),
  (98, .ifCond .eq 31, 3, .inl (129, 0)),
  (101, .aload_n 0, 1, .inl (0, 0)),
  (102, .aload_n 0, 1, .inl (0, 0)),
  (103, .getfield 25, 3, .inl (4, 4)),
  (106, .iload_n 3, 1, .inl (0, 0)),
  (107, .iaload, 1, .inl (0, 0)),
  (108, .aload_n 0, 1, .inl (0, 0)),
  (109, .getfield 21, 3, .inl (4, 3)),
  (112, .iload 5, 2, .inl (0, 0)),
  (114, .iaload, 1, .inl (0, 0)),
  (115, .aload_n 0, 1, .inl (0, 0)),
  (116, .getfield 15, 3, .inl (4, 1)),
  (119, .invokestatic 66, 3, .inr (.inl g_Row_turned)),
  (122, .iload 4, 2, .inl (0, 0)),
  (124, .iconst 1, 1, .inr (.inr (.inl (nI 1)))),
  (125, .iadd, 1, .inl (0, 0)),
  (126, .invokevirtual 55, 3, .inr (.inl g_Sea_note)),
  (129, .iinc 5 1, 3, .inr (.inr (.inl (nI 1)))),
  (132, .goto (-47), 3, .inl (85, 0)),
  (135, .iinc 3 1, 3, .inr (.inr (.inl (nI 1)))),
  (138, .goto (-83), 3, .inl (55, 0)),
  (141, .return_, 1, .inl (0, 0))]
set_option maxRecDepth 100000 in
set_option maxHeartbeats 4000000 in
theorem ok_Sea_spread : xOK g_Sea_spread k_Sea_spread := ⟨by decide +kernel, by decide +kernel, List.forall_mem_cons.mpr ⟨trivial, List.forall_mem_cons.mpr ⟨trivial, List.forall_mem_cons.mpr ⟨fl_Sea_31, List.forall_mem_cons.mpr ⟨⟨fl_Sea_15, nf_4_1 _⟩, List.forall_mem_cons.mpr ⟨trivial, List.forall_mem_cons.mpr ⟨trivial, List.forall_mem_cons.mpr ⟨⟨fl_Sea_18, nf_4_2 _⟩, List.forall_mem_cons.mpr ⟨trivial, List.forall_mem_cons.mpr ⟨fl_Sea_34, List.forall_mem_cons.mpr ⟨trivial, List.forall_mem_cons.mpr ⟨trivial, List.forall_mem_cons.mpr ⟨fl_Sea_21, List.forall_mem_cons.mpr ⟨trivial, List.forall_mem_cons.mpr ⟨trivial, List.forall_mem_cons.mpr ⟨⟨lw_gm 541 rfl rfl, lw_gm 323 rfl rfl, lw_gm 322 rfl rfl, lw_gm 81 rfl rfl⟩, List.forall_mem_cons.mpr ⟨trivial, List.forall_mem_cons.mpr ⟨fl_Sea_28, List.forall_mem_cons.mpr ⟨trivial, List.forall_mem_cons.mpr ⟨⟨ml_Sea_43, xms_JA_fill⟩, List.forall_mem_cons.mpr ⟨trivial, List.forall_mem_cons.mpr ⟨trivial, List.forall_mem_cons.mpr ⟨⟨fl_Sea_9, nf_4_0 _⟩, List.forall_mem_cons.mpr ⟨trivial, List.forall_mem_cons.mpr ⟨trivial, List.forall_mem_cons.mpr ⟨fl_Sea_15, List.forall_mem_cons.mpr ⟨⟨ml_Sea_49, xms_Row_ascending⟩, List.forall_mem_cons.mpr ⟨trivial, List.forall_mem_cons.mpr ⟨⟨ml_Sea_55, xmv_Sea_note⟩, List.forall_mem_cons.mpr ⟨trivial, List.forall_mem_cons.mpr ⟨trivial, List.forall_mem_cons.mpr ⟨trivial, List.forall_mem_cons.mpr ⟨trivial, List.forall_mem_cons.mpr ⟨fl_Sea_9, List.forall_mem_cons.mpr ⟨trivial, List.forall_mem_cons.mpr ⟨trivial, List.forall_mem_cons.mpr ⟨trivial, List.forall_mem_cons.mpr ⟨trivial, List.forall_mem_cons.mpr ⟨trivial, List.forall_mem_cons.mpr ⟨trivial, List.forall_mem_cons.mpr ⟨fl_Sea_25, List.forall_mem_cons.mpr ⟨trivial, List.forall_mem_cons.mpr ⟨trivial, List.forall_mem_cons.mpr ⟨⟨ml_Sea_59, xmv_Sea_depthOf⟩, List.forall_mem_cons.mpr ⟨trivial, List.forall_mem_cons.mpr ⟨trivial, List.forall_mem_cons.mpr ⟨trivial, List.forall_mem_cons.mpr ⟨trivial, List.forall_mem_cons.mpr ⟨trivial, List.forall_mem_cons.mpr ⟨trivial, List.forall_mem_cons.mpr ⟨trivial, List.forall_mem_cons.mpr ⟨trivial, List.forall_mem_cons.mpr ⟨⟨ml_Sea_62, xmv_Sea_isFactor⟩, List.forall_mem_cons.mpr ⟨trivial, List.forall_mem_cons.mpr ⟨trivial, List.forall_mem_cons.mpr ⟨trivial, List.forall_mem_cons.mpr ⟨fl_Sea_25, List.forall_mem_cons.mpr ⟨trivial, List.forall_mem_cons.mpr ⟨trivial, List.forall_mem_cons.mpr ⟨trivial, List.forall_mem_cons.mpr ⟨fl_Sea_21, List.forall_mem_cons.mpr ⟨trivial, List.forall_mem_cons.mpr ⟨trivial, List.forall_mem_cons.mpr ⟨trivial, List.forall_mem_cons.mpr ⟨fl_Sea_15, List.forall_mem_cons.mpr ⟨⟨ml_Sea_66, xms_Row_turned⟩, List.forall_mem_cons.mpr ⟨trivial, List.forall_mem_cons.mpr ⟨trivial, List.forall_mem_cons.mpr ⟨trivial, List.forall_mem_cons.mpr ⟨⟨ml_Sea_55, xmv_Sea_note⟩, List.forall_mem_cons.mpr ⟨trivial, List.forall_mem_cons.mpr ⟨trivial, List.forall_mem_cons.mpr ⟨trivial, List.forall_mem_cons.mpr ⟨trivial, List.forall_mem_cons.mpr ⟨trivial, fun _ h => absurd h List.not_mem_nil⟩⟩⟩⟩⟩⟩⟩⟩⟩⟩⟩⟩⟩⟩⟩⟩⟩⟩⟩⟩⟩⟩⟩⟩⟩⟩⟩⟩⟩⟩⟩⟩⟩⟩⟩⟩⟩⟩⟩⟩⟩⟩⟩⟩⟩⟩⟩⟩⟩⟩⟩⟩⟩⟩⟩⟩⟩⟩⟩⟩⟩⟩⟩⟩⟩⟩⟩⟩⟩⟩⟩⟩⟩⟩⟩
def k_Sea_without : xCd := [
  (0, .iload_n 1, 1, .inl (0, 0)),
  (1, .ifCond .lt 9, 3, .inl (10, 0)),
  (4, .iload_n 1, 1, .inl (0, 0)),
  (5, .bipush 6, 2, .inr (.inr (.inl (nI 6)))),
  (7, .if_icmp .lt 5, 3, .inl (12, 0)),
  (10, .iload_n 2, 1, .inl (0, 0)),
  (11, .ireturn, 1, .inl (0, 0)),
  (12, .aload_n 0, 1, .inl (0, 0)),
  (13, .getfield 21, 3, .inl (4, 3)),
  (16, .iload_n 1, 1, .inl (0, 0)),
  (17, .iaload, 1, .inl (0, 0)),
  (18, .aload_n 0, 1, .inl (0, 0)),
  (19, .getfield 15, 3, .inl (4, 1)),
  (22, .invokestatic 82, 3, .inr (.inl g_Perm_inverse)),
  (25, .iload_n 2, 1, .inl (0, 0)),
  (26, .aload_n 0, 1, .inl (0, 0)),
  (27, .getfield 15, 3, .inl (4, 1)),
  (30, .invokestatic 66, 3, .inr (.inl g_Row_turned)),
  (33, .ireturn, 1, .inl (0, 0))]
set_option maxRecDepth 100000 in
set_option maxHeartbeats 4000000 in
theorem ok_Sea_without : xOK g_Sea_without k_Sea_without := ⟨by decide +kernel, by decide +kernel, List.forall_mem_cons.mpr ⟨trivial, List.forall_mem_cons.mpr ⟨trivial, List.forall_mem_cons.mpr ⟨trivial, List.forall_mem_cons.mpr ⟨trivial, List.forall_mem_cons.mpr ⟨trivial, List.forall_mem_cons.mpr ⟨trivial, List.forall_mem_cons.mpr ⟨trivial, List.forall_mem_cons.mpr ⟨trivial, List.forall_mem_cons.mpr ⟨fl_Sea_21, List.forall_mem_cons.mpr ⟨trivial, List.forall_mem_cons.mpr ⟨trivial, List.forall_mem_cons.mpr ⟨trivial, List.forall_mem_cons.mpr ⟨fl_Sea_15, List.forall_mem_cons.mpr ⟨⟨ml_Sea_82, xms_Perm_inverse⟩, List.forall_mem_cons.mpr ⟨trivial, List.forall_mem_cons.mpr ⟨trivial, List.forall_mem_cons.mpr ⟨fl_Sea_15, List.forall_mem_cons.mpr ⟨⟨ml_Sea_66, xms_Row_turned⟩, List.forall_mem_cons.mpr ⟨trivial, fun _ h => absurd h List.not_mem_nil⟩⟩⟩⟩⟩⟩⟩⟩⟩⟩⟩⟩⟩⟩⟩⟩⟩⟩⟩⟩
def k_Sea_firstFactor : xCd := [
  (0, .aload_n 0, 1, .inl (0, 0)),
  (1, .iload_n 1, 1, .inl (0, 0)),
  (2, .invokevirtual 59, 3, .inr (.inl g_Sea_depthOf)),
  (5, .istore_n 2, 1, .inl (0, 0)),
  (6, .iconst 0, 1, .inr (.inr (.inl (nI 0)))),
  (7, .istore_n 3, 1, .inl (0, 0)),
  (8, .iload_n 3, 1, .inl (0, 0)),
  (9, .bipush 6, 2, .inr (.inr (.inl (nI 6)))),
  (11, .if_icmp .ge 35, 3, .inl (46, 0)),
  (14, .aload_n 0, 1, .inl (0, 0)),
  (15, .iload_n 3, 1, .inl (0, 0)),
  (16, .invokevirtual 62, 3, .inr (.inl g_Sea_isFactor)),
  (19, .ifCond .eq 21, 3, .inl (40, 0)),
  (22, .aload_n 0, 1, .inl (0, 0)),
  (23, .aload_n 0, 1, .inl (0, 0)),
  (24, .iload_n 3, 1, .inl (0, 0)),
  (25, .iload_n 1, 1, .inl (0, 0)),
  (26, .invokevirtual 79, 3, .inr (.inl g_Sea_without)),
  (29, .invokevirtual 59, 3, .inr (.inl g_Sea_depthOf)),
  (32, .iload_n 2, 1, .inl (0, 0)),
  (33, .iconst 1, 1, .inr (.inr (.inl (nI 1)))),
  (34, .isub, 1, .inl (0, 0)),
  (35, .if_icmp .ne 5, 3, .inl (40, 0)),
  (38, .iload_n 3, 1, .inl (0, 0)),
  (39, .ireturn, 1, .inl (0, 0)),
  (40, .iinc 3 1, 3, .inr (.inr (.inl (nI 1)))),
  (43, .goto (-35), 3, .inl (8, 0)),
  (46, .bipush (-9), 2, .inr (.inr (.inl (-9)))),
  (48, .ireturn, 1, .inl (0, 0))]
set_option maxRecDepth 100000 in
set_option maxHeartbeats 4000000 in
theorem ok_Sea_firstFactor : xOK g_Sea_firstFactor k_Sea_firstFactor := ⟨by decide +kernel, by decide +kernel, List.forall_mem_cons.mpr ⟨trivial, List.forall_mem_cons.mpr ⟨trivial, List.forall_mem_cons.mpr ⟨⟨ml_Sea_59, xmv_Sea_depthOf⟩, List.forall_mem_cons.mpr ⟨trivial, List.forall_mem_cons.mpr ⟨trivial, List.forall_mem_cons.mpr ⟨trivial, List.forall_mem_cons.mpr ⟨trivial, List.forall_mem_cons.mpr ⟨trivial, List.forall_mem_cons.mpr ⟨trivial, List.forall_mem_cons.mpr ⟨trivial, List.forall_mem_cons.mpr ⟨trivial, List.forall_mem_cons.mpr ⟨⟨ml_Sea_62, xmv_Sea_isFactor⟩, List.forall_mem_cons.mpr ⟨trivial, List.forall_mem_cons.mpr ⟨trivial, List.forall_mem_cons.mpr ⟨trivial, List.forall_mem_cons.mpr ⟨trivial, List.forall_mem_cons.mpr ⟨trivial, List.forall_mem_cons.mpr ⟨⟨ml_Sea_79, xmv_Sea_without⟩, List.forall_mem_cons.mpr ⟨⟨ml_Sea_59, xmv_Sea_depthOf⟩, List.forall_mem_cons.mpr ⟨trivial, List.forall_mem_cons.mpr ⟨trivial, List.forall_mem_cons.mpr ⟨trivial, List.forall_mem_cons.mpr ⟨trivial, List.forall_mem_cons.mpr ⟨trivial, List.forall_mem_cons.mpr ⟨trivial, List.forall_mem_cons.mpr ⟨trivial, List.forall_mem_cons.mpr ⟨trivial, List.forall_mem_cons.mpr ⟨trivial, List.forall_mem_cons.mpr ⟨trivial, fun _ h => absurd h List.not_mem_nil⟩⟩⟩⟩⟩⟩⟩⟩⟩⟩⟩⟩⟩⟩⟩⟩⟩⟩⟩⟩⟩⟩⟩⟩⟩⟩⟩⟩⟩⟩
def k_Sea_factorAt : xCd := [
  (0, .iload_n 1, 1, .inl (0, 0)),
  (1, .istore_n 3, 1, .inl (0, 0)),
  (2, .iconst 0, 1, .inr (.inr (.inl (nI 0)))),
  (3, .istore 4, 2, .inl (0, 0)),
  (5, .iload 4, 2, .inl (0, 0)),
  (7, .iload_n 2, 1, .inl (0, 0)),
  (8, .if_icmp .ge 20, 3, .inl (28, 0)),
  (11, .aload_n 0, 1, .inl (0, 0)),
  (12, .aload_n 0, 1, .inl (0, 0)),
  (13, .iload_n 3, 1, .inl (0, 0)),
  (14, .invokevirtual 76, 3, .inr (.inl g_Sea_firstFactor)),
  (17, .iload_n 3, 1, .inl (0, 0)),
  (18, .invokevirtual 79, 3, .inr (.inl g_Sea_without)),
  (21, .istore_n 3, 1, .inl (0, 0)),
  (22, .iinc 4 1, 3, .inr (.inr (.inl (nI 1)))),
  (25, .goto (-20), 3, .inl (5, 0)),
  (28, .aload_n 0, 1, .inl (0, 0)),
  (29, .iload_n 3, 1, .inl (0, 0)),
  (30, .invokevirtual 76, 3, .inr (.inl g_Sea_firstFactor)),
  (33, .ireturn, 1, .inl (0, 0))]
set_option maxRecDepth 100000 in
set_option maxHeartbeats 4000000 in
theorem ok_Sea_factorAt : xOK g_Sea_factorAt k_Sea_factorAt := ⟨by decide +kernel, by decide +kernel, List.forall_mem_cons.mpr ⟨trivial, List.forall_mem_cons.mpr ⟨trivial, List.forall_mem_cons.mpr ⟨trivial, List.forall_mem_cons.mpr ⟨trivial, List.forall_mem_cons.mpr ⟨trivial, List.forall_mem_cons.mpr ⟨trivial, List.forall_mem_cons.mpr ⟨trivial, List.forall_mem_cons.mpr ⟨trivial, List.forall_mem_cons.mpr ⟨trivial, List.forall_mem_cons.mpr ⟨trivial, List.forall_mem_cons.mpr ⟨⟨ml_Sea_76, xmv_Sea_firstFactor⟩, List.forall_mem_cons.mpr ⟨trivial, List.forall_mem_cons.mpr ⟨⟨ml_Sea_79, xmv_Sea_without⟩, List.forall_mem_cons.mpr ⟨trivial, List.forall_mem_cons.mpr ⟨trivial, List.forall_mem_cons.mpr ⟨trivial, List.forall_mem_cons.mpr ⟨trivial, List.forall_mem_cons.mpr ⟨trivial, List.forall_mem_cons.mpr ⟨⟨ml_Sea_76, xmv_Sea_firstFactor⟩, List.forall_mem_cons.mpr ⟨trivial, fun _ h => absurd h List.not_mem_nil⟩⟩⟩⟩⟩⟩⟩⟩⟩⟩⟩⟩⟩⟩⟩⟩⟩⟩⟩⟩⟩
end
section
/-! CODE, decoded, with its links; checked once -/
def k_TV_init : xCd := [
  (0, .aload_n 0, 1, .inl (0, 0)),
  (1, .invokespecial 3, 3, .inl (0, 0)),
  (4, .aload_n 0, 1, .inl (0, 0)),
  (5, .new 9, 3, .inl (5, 4)),
  (8, .dup, 1, .inl (0, 0)),
  (9, .invokespecial 11, 3, .inr (.inl g_Sta_init)),
  (12, .putfield 12, 3, .inl (8, 0)),
  (15, .aload_n 0, 1, .inl (0, 0)),
  (16, .new 16, 3, .inl (1, 3)),
  (19, .dup, 1, .inl (0, 0)),
  (20, .invokespecial 18, 3, .inr (.inl g_Hist_init)),
  (23, .putfield 19, 3, .inl (8, 1)),
  (26, .aload_n 0, 1, .inl (0, 0)),
  (27, .new 23, 3, .inl (6, 2)),
  (30, .dup, 1, .inl (0, 0)),
  (31, .invokespecial 25, 3, .inr (.inl g_Txt_init)),
  (34, .putfield 26, 3, .inl (8, 2)),
  (37, .aload_n 0, 1, .inl (0, 0)),
  (38, .new 30, 3, .inl (3, 3)),
  (41, .dup, 1, .inl (0, 0)),
  (42, .invokespecial 32, 3, .inr (.inl g_PR_init)),
  (45, .putfield 33, 3, .inl (8, 3)),
  (48, .aload_n 0, 1, .inl (0, 0)),
  (49, .new 37, 3, .inl (7, 1)),
  (52, .dup, 1, .inl (0, 0)),
  (53, .invokespecial 39, 3, .inr (.inl g_TR_init)),
  (56, .putfield 40, 3, .inl (8, 4)),
  (59, .aload_n 0, 1, .inl (0, 0)),
  (60, .new 44, 3, .inl (4, 6)),
  (63, .dup, 1, .inl (0, 0)),
  (64, .invokespecial 46, 3, .inr (.inl g_Sea_init)),
  (67, .putfield 47, 3, .inl (8, 5)),
  (70, .aload_n 0, 1, .inl (0, 0)),
  (71, .new 51, 3, .inl (0, 4)),
  (74, .dup, 1, .inl (0, 0)),
  (75, .invokespecial 53, 3, .inr (.inl g_Fit_init)),
  (78, .putfield 54, 3, .inl (8, 6)),
  (81, .aload_n 0, 1, .inl (0, 0)),
  (82, .bipush 12, 2, .inr (.inr (.inl (nI 12)))),
  (84, .newarray .int, 2, .inl (0, 0)),
  (86, .putfield 58, 3, .inl (8, 7)),
  (89, .return_, 1, .inl (0, 0))]
set_option maxRecDepth 100000 in
set_option maxHeartbeats 4000000 in
theorem ok_TV_init : xOK g_TV_init k_TV_init := ⟨by decide +kernel, by decide +kernel, List.forall_mem_cons.mpr ⟨trivial, List.forall_mem_cons.mpr ⟨⟨lw_gm 91 rfl rfl, lw_gm 92 rfl rfl, lw_gm 93 rfl rfl⟩, List.forall_mem_cons.mpr ⟨trivial, List.forall_mem_cons.mpr ⟨⟨_, rfl, rfl, lw_gm 94 rfl rfl, lw_gm 95 rfl rfl, lw_gm 70 rfl rfl⟩, List.forall_mem_cons.mpr ⟨trivial, List.forall_mem_cons.mpr ⟨⟨ml_TV_11, xmi_Sta_init⟩, List.forall_mem_cons.mpr ⟨⟨fl_TV_12, fun r hr _ => by cases hr; exact ⟨rfl, rfl⟩⟩, List.forall_mem_cons.mpr ⟨trivial, List.forall_mem_cons.mpr ⟨⟨_, rfl, rfl, lw_gm 172 rfl rfl, lw_gm 173 rfl rfl, lw_gm 74 rfl rfl⟩, List.forall_mem_cons.mpr ⟨trivial, List.forall_mem_cons.mpr ⟨⟨ml_TV_18, xmi_Hist_init⟩, List.forall_mem_cons.mpr ⟨⟨fl_TV_19, fun r hr _ => by cases hr; exact ⟨rfl, rfl⟩⟩, List.forall_mem_cons.mpr ⟨trivial, List.forall_mem_cons.mpr ⟨⟨_, rfl, rfl, lw_gm 192 rfl rfl, lw_gm 193 rfl rfl, lw_gm 75 rfl rfl⟩, List.forall_mem_cons.mpr ⟨trivial, List.forall_mem_cons.mpr ⟨⟨ml_TV_25, xmi_Txt_init⟩, List.forall_mem_cons.mpr ⟨⟨fl_TV_26, fun r hr _ => by cases hr; exact ⟨rfl, rfl⟩⟩, List.forall_mem_cons.mpr ⟨trivial, List.forall_mem_cons.mpr ⟨⟨_, rfl, rfl, lw_gm 208 rfl rfl, lw_gm 209 rfl rfl, lw_gm 76 rfl rfl⟩, List.forall_mem_cons.mpr ⟨trivial, List.forall_mem_cons.mpr ⟨⟨ml_TV_32, xmi_PR_init⟩, List.forall_mem_cons.mpr ⟨⟨fl_TV_33, fun r hr _ => by cases hr; exact ⟨rfl, rfl⟩⟩, List.forall_mem_cons.mpr ⟨trivial, List.forall_mem_cons.mpr ⟨⟨_, rfl, rfl, lw_gm 228 rfl rfl, lw_gm 229 rfl rfl, lw_gm 77 rfl rfl⟩, List.forall_mem_cons.mpr ⟨trivial, List.forall_mem_cons.mpr ⟨⟨ml_TV_39, xmi_TR_init⟩, List.forall_mem_cons.mpr ⟨⟨fl_TV_40, fun r hr _ => by cases hr; exact ⟨rfl, rfl⟩⟩, List.forall_mem_cons.mpr ⟨trivial, List.forall_mem_cons.mpr ⟨⟨_, rfl, rfl, lw_gm 239 rfl rfl, lw_gm 240 rfl rfl, lw_gm 78 rfl rfl⟩, List.forall_mem_cons.mpr ⟨trivial, List.forall_mem_cons.mpr ⟨⟨ml_TV_46, xmi_Sea_init⟩, List.forall_mem_cons.mpr ⟨⟨fl_TV_47, fun r hr _ => by cases hr; exact ⟨rfl, rfl⟩⟩, List.forall_mem_cons.mpr ⟨trivial, List.forall_mem_cons.mpr ⟨⟨_, rfl, rfl, lw_gm 265 rfl rfl, lw_gm 266 rfl rfl, lw_gm 79 rfl rfl⟩, List.forall_mem_cons.mpr ⟨trivial, List.forall_mem_cons.mpr ⟨⟨ml_TV_53, xmi_Fit_init⟩, List.forall_mem_cons.mpr ⟨⟨fl_TV_54, fun r hr _ => by cases hr; exact ⟨rfl, rfl⟩⟩, List.forall_mem_cons.mpr ⟨trivial, List.forall_mem_cons.mpr ⟨trivial, List.forall_mem_cons.mpr ⟨lw_gm 134 rfl rfl, List.forall_mem_cons.mpr ⟨⟨fl_TV_58, fun r hr _ => by cases hr; exact ⟨rfl, rfl⟩⟩, List.forall_mem_cons.mpr ⟨trivial, fun _ h => absurd h List.not_mem_nil⟩⟩⟩⟩⟩⟩⟩⟩⟩⟩⟩⟩⟩⟩⟩⟩⟩⟩⟩⟩⟩⟩⟩⟩⟩⟩⟩⟩⟩⟩⟩⟩⟩⟩⟩⟩⟩⟩⟩⟩⟩⟩⟩
def k_TV_setWords : xCd := [
  (0, .iload_n 1, 1, .inl (0, 0)),
  (1, .iconst 2, 1, .inr (.inr (.inl (nI 2)))),
  (2, .if_icmp .lt 9, 3, .inl (11, 0)),
  (5, .iload_n 1, 1, .inl (0, 0)),
  (6, .bipush 7, 2, .inr (.inr (.inl (nI 7)))),
  (8, .if_icmp .le 5, 3, .inl (13, 0)),
  (11, .iconst (-1), 1, .inr (.inr (.inl (-1)))),
  (12, .ireturn, 1, .inl (0, 0)),
  (13, .aload_n 0, 1, .inl (0, 0)),
  (14, .getfield 19, 3, .inl (8, 1)),
  (17, .aload_n 0, 1, .inl (0, 0)),
  (18, .getfield 12, 3, .inl (8, 0)),
  (21, .invokevirtual 62, 3, .inr (.inl g_Hist_remember)),
  (24, .aload_n 0, 1, .inl (0, 0)),
  (25, .getfield 12, 3, .inl (8, 0)),
  (28, .getfield 66, 3, .inl (5, 0)),
  (31, .istore_n 2, 1, .inl (0, 0)),
  (32, .aload_n 0, 1, .inl (0, 0)),
  (33, .getfield 12, 3, .inl (8, 0)),
  (36, .iload_n 1, 1, .inl (0, 0)),
  (37, .invokevirtual 70, 3, .inr (.inl g_Sta_startWith)),
  (40, .iload_n 2, 1, .inl (0, 0)),
  (41, .ireturn, 1, .inl (0, 0))]
set_option maxRecDepth 100000 in
set_option maxHeartbeats 4000000 in
theorem ok_TV_setWords : xOK g_TV_setWords k_TV_setWords := ⟨by decide +kernel, by decide +kernel, List.forall_mem_cons.mpr ⟨trivial, List.forall_mem_cons.mpr ⟨trivial, List.forall_mem_cons.mpr ⟨trivial, List.forall_mem_cons.mpr ⟨trivial, List.forall_mem_cons.mpr ⟨trivial, List.forall_mem_cons.mpr ⟨trivial, List.forall_mem_cons.mpr ⟨trivial, List.forall_mem_cons.mpr ⟨trivial, List.forall_mem_cons.mpr ⟨trivial, List.forall_mem_cons.mpr ⟨fl_TV_19, List.forall_mem_cons.mpr ⟨trivial, List.forall_mem_cons.mpr ⟨fl_TV_12, List.forall_mem_cons.mpr ⟨⟨ml_TV_62, xmv_Hist_remember⟩, List.forall_mem_cons.mpr ⟨trivial, List.forall_mem_cons.mpr ⟨fl_TV_12, List.forall_mem_cons.mpr ⟨fl_TV_66, List.forall_mem_cons.mpr ⟨trivial, List.forall_mem_cons.mpr ⟨trivial, List.forall_mem_cons.mpr ⟨fl_TV_12, List.forall_mem_cons.mpr ⟨trivial, List.forall_mem_cons.mpr ⟨⟨ml_TV_70, xmv_Sta_startWith⟩, List.forall_mem_cons.mpr ⟨trivial, List.forall_mem_cons.mpr ⟨trivial, fun _ h => absurd h List.not_mem_nil⟩⟩⟩⟩⟩⟩⟩⟩⟩⟩⟩⟩⟩⟩⟩⟩⟩⟩⟩⟩⟩⟩⟩⟩
def k_TV_isLine : xCd := [
  (0, .iload_n 1, 1, .inl (0, 0)),
  (1, .ifCond .lt 18, 3, .inl (19, 0)),
  (4, .iload_n 1, 1, .inl (0, 0)),
  (5, .aload_n 0, 1, .inl (0, 0)),
  (6, .getfield 12, 3, .inl (8, 0)),
  (9, .getfield 66, 3, .inl (5, 0)),
  (12, .if_icmp .ge 7, 3, .inl (19, 0)),
  (15, .iconst 1, 1, .inr (.inr (.inl (nI 1)))),
  (16, .goto 4, 3, .inl (20, 0)),
  (19, .iconst 0, 1, .inr (.inr (.inl (nI 0)))),
  (20, .ireturn, 1, .inl (0, 0))]
set_option maxRecDepth 100000 in
set_option maxHeartbeats 4000000 in
theorem ok_TV_isLine : xOK g_TV_isLine k_TV_isLine := ⟨by decide +kernel, by decide +kernel, List.forall_mem_cons.mpr ⟨trivial, List.forall_mem_cons.mpr ⟨trivial, List.forall_mem_cons.mpr ⟨trivial, List.forall_mem_cons.mpr ⟨trivial, List.forall_mem_cons.mpr ⟨fl_TV_12, List.forall_mem_cons.mpr ⟨fl_TV_66, List.forall_mem_cons.mpr ⟨trivial, List.forall_mem_cons.mpr ⟨trivial, List.forall_mem_cons.mpr ⟨trivial, List.forall_mem_cons.mpr ⟨trivial, List.forall_mem_cons.mpr ⟨trivial, fun _ h => absurd h List.not_mem_nil⟩⟩⟩⟩⟩⟩⟩⟩⟩⟩⟩⟩
def k_TV_setSound : xCd := [
  (0, .aload_n 0, 1, .inl (0, 0)),
  (1, .iload_n 1, 1, .inl (0, 0)),
  (2, .invokevirtual 74, 3, .inr (.inl g_TV_isLine)),
  (5, .ifCond .eq 12, 3, .inl (17, 0)),
  (8, .iload_n 2, 1, .inl (0, 0)),
  (9, .ifCond .lt 8, 3, .inl (17, 0)),
  (12, .iload_n 2, 1, .inl (0, 0)),
  (13, .iconst 4, 1, .inr (.inr (.inl (nI 4)))),
  (14, .if_icmp .lt 5, 3, .inl (19, 0)),
  (17, .iconst (-1), 1, .inr (.inr (.inl (-1)))),
  (18, .ireturn, 1, .inl (0, 0)),
  (19, .aload_n 0, 1, .inl (0, 0)),
  (20, .getfield 19, 3, .inl (8, 1)),
  (23, .aload_n 0, 1, .inl (0, 0)),
  (24, .getfield 12, 3, .inl (8, 0)),
  (27, .invokevirtual 62, 3, .inr (.inl g_Hist_remember)),
  (30, .aload_n 0, 1, .inl (0, 0)),
  (31, .getfield 12, 3, .inl (8, 0)),
  (34, .getfield 78, 3, .inl (5, 1)),
  (37, .iload_n 1, 1, .inl (0, 0)),
  (38, .invokestatic 81, 3, .inr (.inl g_Row_entry)),
  (41, .istore_n 3, 1, .inl (0, 0)),
  (42, .aload_n 0, 1, .inl (0, 0)),
  (43, .getfield 12, 3, .inl (8, 0)),
  (46, .aload_n 0, 1, .inl (0, 0)),
  (47, .getfield 12, 3, .inl (8, 0)),
  (50, .getfield 78, 3, .inl (5, 1)),
  (53, .iload_n 1, 1, .inl (0, 0)),
  (54, .iload_n 2, 1, .inl (0, 0)),
  (55, .invokestatic 87, 3, .inr (.inl g_Row_with)),
  (58, .putfield 78, 3, .inl (5, 1)),
  (61, .iload_n 3, 1, .inl (0, 0)),
  (62, .ireturn, 1, .inl (0, 0))]
set_option maxRecDepth 100000 in
set_option maxHeartbeats 4000000 in
theorem ok_TV_setSound : xOK g_TV_setSound k_TV_setSound := ⟨by decide +kernel, by decide +kernel, List.forall_mem_cons.mpr ⟨trivial, List.forall_mem_cons.mpr ⟨trivial, List.forall_mem_cons.mpr ⟨⟨ml_TV_74, xmv_TV_isLine⟩, List.forall_mem_cons.mpr ⟨trivial, List.forall_mem_cons.mpr ⟨trivial, List.forall_mem_cons.mpr ⟨trivial, List.forall_mem_cons.mpr ⟨trivial, List.forall_mem_cons.mpr ⟨trivial, List.forall_mem_cons.mpr ⟨trivial, List.forall_mem_cons.mpr ⟨trivial, List.forall_mem_cons.mpr ⟨trivial, List.forall_mem_cons.mpr ⟨trivial, List.forall_mem_cons.mpr ⟨fl_TV_19, List.forall_mem_cons.mpr ⟨trivial, List.forall_mem_cons.mpr ⟨fl_TV_12, List.forall_mem_cons.mpr ⟨⟨ml_TV_62, xmv_Hist_remember⟩, List.forall_mem_cons.mpr ⟨trivial, List.forall_mem_cons.mpr ⟨fl_TV_12, List.forall_mem_cons.mpr ⟨fl_TV_78, List.forall_mem_cons.mpr ⟨trivial, List.forall_mem_cons.mpr ⟨⟨ml_TV_81, xms_Row_entry⟩, List.forall_mem_cons.mpr ⟨trivial, List.forall_mem_cons.mpr ⟨trivial, List.forall_mem_cons.mpr ⟨fl_TV_12, List.forall_mem_cons.mpr ⟨trivial, List.forall_mem_cons.mpr ⟨fl_TV_12, List.forall_mem_cons.mpr ⟨fl_TV_78, List.forall_mem_cons.mpr ⟨trivial, List.forall_mem_cons.mpr ⟨trivial, List.forall_mem_cons.mpr ⟨⟨ml_TV_87, xms_Row_with⟩, List.forall_mem_cons.mpr ⟨⟨fl_TV_78, nf_5_1 _⟩, List.forall_mem_cons.mpr ⟨trivial, List.forall_mem_cons.mpr ⟨trivial, fun _ h => absurd h List.not_mem_nil⟩⟩⟩⟩⟩⟩⟩⟩⟩⟩⟩⟩⟩⟩⟩⟩⟩⟩⟩⟩⟩⟩⟩⟩⟩⟩⟩⟩⟩⟩⟩⟩⟩⟩
def k_TV_type : xCd := [
  (0, .iload_n 1, 1, .inl (0, 0)),
  (1, .bipush 33, 2, .inr (.inr (.inl (nI 33)))),
  (3, .if_icmp .lt 9, 3, .inl (12, 0)),
  (6, .iload_n 1, 1, .inl (0, 0)),
  (7, .bipush 126, 2, .inr (.inr (.inl (nI 126)))),
  (9, .if_icmp .le 5, 3, .inl (14, 0)),
  (12, .iconst (-1), 1, .inr (.inr (.inl (-1)))),
  (13, .ireturn, 1, .inl (0, 0)),
  (14, .aload_n 0, 1, .inl (0, 0)),
  (15, .getfield 26, 3, .inl (8, 2)),
  (18, .getfield 91, 3, .inl (6, 0)),
  (21, .bipush 80, 2, .inr (.inr (.inl (nI 80)))),
  (23, .if_icmp .lt 6, 3, .inl (29, 0)),
  (26, .bipush (-3), 2, .inr (.inr (.inl (-3)))),
  (28, .ireturn, 1, .inl (0, 0)),
  (29, .aload_n 0, 1, .inl (0, 0)),
  (30, .getfield 26, 3, .inl (8, 2)),
  (33, .iload_n 1, 1, .inl (0, 0)),
  (34, .invokevirtual 94, 3, .inr (.inl g_Txt_append)),
  (37, .aload_n 0, 1, .inl (0, 0)),
  (38, .getfield 26, 3, .inl (8, 2)),
  (41, .getfield 91, 3, .inl (6, 0)),
  (44, .ireturn, 1, .inl (0, 0))]
set_option maxRecDepth 100000 in
set_option maxHeartbeats 4000000 in
theorem ok_TV_type : xOK g_TV_type k_TV_type := ⟨by decide +kernel, by decide +kernel, List.forall_mem_cons.mpr ⟨trivial, List.forall_mem_cons.mpr ⟨trivial, List.forall_mem_cons.mpr ⟨trivial, List.forall_mem_cons.mpr ⟨trivial, List.forall_mem_cons.mpr ⟨trivial, List.forall_mem_cons.mpr ⟨trivial, List.forall_mem_cons.mpr ⟨trivial, List.forall_mem_cons.mpr ⟨trivial, List.forall_mem_cons.mpr ⟨trivial, List.forall_mem_cons.mpr ⟨fl_TV_26, List.forall_mem_cons.mpr ⟨fl_TV_91, List.forall_mem_cons.mpr ⟨trivial, List.forall_mem_cons.mpr ⟨trivial, List.forall_mem_cons.mpr ⟨trivial, List.forall_mem_cons.mpr ⟨trivial, List.forall_mem_cons.mpr ⟨trivial, List.forall_mem_cons.mpr ⟨fl_TV_26, List.forall_mem_cons.mpr ⟨trivial, List.forall_mem_cons.mpr ⟨⟨ml_TV_94, xmv_Txt_append⟩, List.forall_mem_cons.mpr ⟨trivial, List.forall_mem_cons.mpr ⟨fl_TV_26, List.forall_mem_cons.mpr ⟨fl_TV_91, List.forall_mem_cons.mpr ⟨trivial, fun _ h => absurd h List.not_mem_nil⟩⟩⟩⟩⟩⟩⟩⟩⟩⟩⟩⟩⟩⟩⟩⟩⟩⟩⟩⟩⟩⟩⟩⟩
def k_TV_clear : xCd := [
  (0, .aload_n 0, 1, .inl (0, 0)),
  (1, .getfield 26, 3, .inl (8, 2)),
  (4, .getfield 91, 3, .inl (6, 0)),
  (7, .istore_n 1, 1, .inl (0, 0)),
  (8, .aload_n 0, 1, .inl (0, 0)),
  (9, .getfield 26, 3, .inl (8, 2)),
  (12, .iconst 0, 1, .inr (.inr (.inl (nI 0)))),
  (13, .putfield 91, 3, .inl (6, 0)),
  (16, .iload_n 1, 1, .inl (0, 0)),
  (17, .ireturn, 1, .inl (0, 0))]
set_option maxRecDepth 100000 in
set_option maxHeartbeats 4000000 in
theorem ok_TV_clear : xOK g_TV_clear k_TV_clear := ⟨by decide +kernel, by decide +kernel, List.forall_mem_cons.mpr ⟨trivial, List.forall_mem_cons.mpr ⟨fl_TV_26, List.forall_mem_cons.mpr ⟨fl_TV_91, List.forall_mem_cons.mpr ⟨trivial, List.forall_mem_cons.mpr ⟨trivial, List.forall_mem_cons.mpr ⟨fl_TV_26, List.forall_mem_cons.mpr ⟨trivial, List.forall_mem_cons.mpr ⟨⟨fl_TV_91, nf_6_0 _⟩, List.forall_mem_cons.mpr ⟨trivial, List.forall_mem_cons.mpr ⟨trivial, fun _ h => absurd h List.not_mem_nil⟩⟩⟩⟩⟩⟩⟩⟩⟩⟩⟩
def k_TV_loadPoem : xCd := [
  (0, .aload_n 0, 1, .inl (0, 0)),
  (1, .getfield 33, 3, .inl (8, 3)),
  (4, .aload_n 0, 1, .inl (0, 0)),
  (5, .getfield 26, 3, .inl (8, 2)),
  (8, .invokevirtual 97, 3, .inr (.inl g_PR_readText)),
  (11, .istore_n 1, 1, .inl (0, 0)),
  (12, .iload_n 1, 1, .inl (0, 0)),
  (13, .iconst (-1), 1, .inr (.inr (.inl (-1)))),
  (14, .if_icmp .eq 8, 3, .inl (22, 0)),
  (17, .bipush (-10), 2, .inr (.inr (.inl (-10)))),
  (19, .iload_n 1, 1, .inl (0, 0)),
  (20, .isub, 1, .inl (0, 0)),
  (21, .ireturn, 1, .inl (0, 0)),
  (22, .aload_n 0, 1, .inl (0, 0)),
  (23, .getfield 19, 3, .inl (8, 1)),
  (26, .aload_n 0, 1, .inl (0, 0)),
  (27, .getfield 12, 3, .inl (8, 0)),
  (30, .invokevirtual 62, 3, .inr (.inl g_Hist_remember)),
  (33, .aload_n 0, 1, .inl (0, 0)),
  (34, .getfield 33, 3, .inl (8, 3)),
  (37, .getfield 101, 3, .inl (3, 0)),
  (40, .aload_n 0, 1, .inl (0, 0)),
  (41, .getfield 12, 3, .inl (8, 0)),
  (44, .getfield 66, 3, .inl (5, 0)),
  (47, .if_icmp .eq 17, 3, .inl (64, 0)),
  (50, .aload_n 0, 1, .inl (0, 0)),
  (51, .getfield 12, 3, .inl (8, 0)),
  (54, .aload_n 0, 1, .inl (0, 0)),
  (55, .getfield 33, 3, .inl (8, 3)),
  (58, .getfield 101, 3, .inl (3, 0)),
  (61, .invokevirtual 70, 3, .inr (.inl g_Sta_startWith)),
  (64, .aload_n 0, 1, .inl (0, 0)),
  (65, .getfield 12, 3, .inl (8, 0)),
  (68, .getfield 102, 3, .inl (5, 3)),
  (71, .aload_n 0, 1, .inl (0, 0)),
  (72, .getfield 33, 3, .inl (8, 3)),
  (75, .getfield 106, 3, .inl (3, 1)),
  (78, .invokevirtual 107, 3, .inr (.inl g_Poem_copyFrom)),
  (81, .aload_n 0, 1, .inl (0, 0)),
  (82, .getfield 12, 3, .inl (8, 0)),
  (85, .getfield 102, 3, .inl (5, 3)),
  (88, .getfield 113, 3, .inl (2, 0)),
  (91, .ireturn, 1, .inl (0, 0))]
set_option maxRecDepth 100000 in
set_option maxHeartbeats 4000000 in
theorem ok_TV_loadPoem : xOK g_TV_loadPoem k_TV_loadPoem := ⟨by decide +kernel, by decide +kernel, List.forall_mem_cons.mpr ⟨trivial, List.forall_mem_cons.mpr ⟨fl_TV_33, List.forall_mem_cons.mpr ⟨trivial, List.forall_mem_cons.mpr ⟨fl_TV_26, List.forall_mem_cons.mpr ⟨⟨ml_TV_97, xmv_PR_readText⟩, List.forall_mem_cons.mpr ⟨trivial, List.forall_mem_cons.mpr ⟨trivial, List.forall_mem_cons.mpr ⟨trivial, List.forall_mem_cons.mpr ⟨trivial, List.forall_mem_cons.mpr ⟨trivial, List.forall_mem_cons.mpr ⟨trivial, List.forall_mem_cons.mpr ⟨trivial, List.forall_mem_cons.mpr ⟨trivial, List.forall_mem_cons.mpr ⟨trivial, List.forall_mem_cons.mpr ⟨fl_TV_19, List.forall_mem_cons.mpr ⟨trivial, List.forall_mem_cons.mpr ⟨fl_TV_12, List.forall_mem_cons.mpr ⟨⟨ml_TV_62, xmv_Hist_remember⟩, List.forall_mem_cons.mpr ⟨trivial, List.forall_mem_cons.mpr ⟨fl_TV_33, List.forall_mem_cons.mpr ⟨fl_TV_101, List.forall_mem_cons.mpr ⟨trivial, List.forall_mem_cons.mpr ⟨fl_TV_12, List.forall_mem_cons.mpr ⟨fl_TV_66, List.forall_mem_cons.mpr ⟨trivial, List.forall_mem_cons.mpr ⟨trivial, List.forall_mem_cons.mpr ⟨fl_TV_12, List.forall_mem_cons.mpr ⟨trivial, List.forall_mem_cons.mpr ⟨fl_TV_33, List.forall_mem_cons.mpr ⟨fl_TV_101, List.forall_mem_cons.mpr ⟨⟨ml_TV_70, xmv_Sta_startWith⟩, List.forall_mem_cons.mpr ⟨trivial, List.forall_mem_cons.mpr ⟨fl_TV_12, List.forall_mem_cons.mpr ⟨fl_TV_102, List.forall_mem_cons.mpr ⟨trivial, List.forall_mem_cons.mpr ⟨fl_TV_33, List.forall_mem_cons.mpr ⟨fl_TV_106, List.forall_mem_cons.mpr ⟨⟨ml_TV_107, xmv_Poem_copyFrom⟩, List.forall_mem_cons.mpr ⟨trivial, List.forall_mem_cons.mpr ⟨fl_TV_12, List.forall_mem_cons.mpr ⟨fl_TV_102, List.forall_mem_cons.mpr ⟨fl_TV_113, List.forall_mem_cons.mpr ⟨trivial, fun _ h => absurd h List.not_mem_nil⟩⟩⟩⟩⟩⟩⟩⟩⟩⟩⟩⟩⟩⟩⟩⟩⟩⟩⟩⟩⟩⟩⟩⟩⟩⟩⟩⟩⟩⟩⟩⟩⟩⟩⟩⟩⟩⟩⟩⟩⟩⟩⟩⟩
def k_TV_isRegister : xCd := [
  (0, .iload_n 0, 1, .inl (0, 0)),
  (1, .ifCond .lt 13, 3, .inl (14, 0)),
  (4, .iload_n 0, 1, .inl (0, 0)),
  (5, .bipush 6, 2, .inr (.inr (.inl (nI 6)))),
  (7, .if_icmp .ge 7, 3, .inl (14, 0)),
  (10, .iconst 1, 1, .inr (.inr (.inl (nI 1)))),
  (11, .goto 4, 3, .inl (15, 0)),
  (14, .iconst 0, 1, .inr (.inr (.inl (nI 0)))),
  (15, .ireturn, 1, .inl (0, 0))]
set_option maxRecDepth 100000 in
set_option maxHeartbeats 4000000 in
theorem ok_TV_isRegister : xOK g_TV_isRegister k_TV_isRegister := ⟨by decide +kernel, by decide +kernel, List.forall_mem_cons.mpr ⟨trivial, List.forall_mem_cons.mpr ⟨trivial, List.forall_mem_cons.mpr ⟨trivial, List.forall_mem_cons.mpr ⟨trivial, List.forall_mem_cons.mpr ⟨trivial, List.forall_mem_cons.mpr ⟨trivial, List.forall_mem_cons.mpr ⟨trivial, List.forall_mem_cons.mpr ⟨trivial, List.forall_mem_cons.mpr ⟨trivial, fun _ h => absurd h List.not_mem_nil⟩⟩⟩⟩⟩⟩⟩⟩⟩⟩
def k_TV_store : xCd := [
  (0, .aload_n 0, 1, .inl (0, 0)),
  (1, .getfield 19, 3, .inl (8, 1)),
  (4, .aload_n 0, 1, .inl (0, 0)),
  (5, .getfield 12, 3, .inl (8, 0)),
  (8, .invokevirtual 62, 3, .inr (.inl g_Hist_remember)),
  (11, .aload_n 0, 1, .inl (0, 0)),
  (12, .getfield 12, 3, .inl (8, 0)),
  (15, .getfield 133, 3, .inl (5, 2)),
  (18, .iload_n 1, 1, .inl (0, 0)),
  (19, .iload_n 2, 1, .inl (0, 0)),
  (20, .iastore, 1, .inl (0, 0)),
  (21, .iload_n 2, 1, .inl (0, 0)),
  (22, .aload_n 0, 1, .inl (0, 0)),
  (23, .getfield 12, 3, .inl (8, 0)),
  (26, .getfield 66, 3, .inl (5, 0)),
  (29, .invokestatic 201, 3, .inr (.inl g_Perm_number)),
  (32, .ireturn, 1, .inl (0, 0))]
set_option maxRecDepth 100000 in
set_option maxHeartbeats 4000000 in
theorem ok_TV_store : xOK g_TV_store k_TV_store := ⟨by decide +kernel, by decide +kernel, List.forall_mem_cons.mpr ⟨trivial, List.forall_mem_cons.mpr ⟨fl_TV_19, List.forall_mem_cons.mpr ⟨trivial, List.forall_mem_cons.mpr ⟨fl_TV_12, List.forall_mem_cons.mpr ⟨⟨ml_TV_62, xmv_Hist_remember⟩, List.forall_mem_cons.mpr ⟨trivial, List.forall_mem_cons.mpr ⟨fl_TV_12, List.forall_mem_cons.mpr ⟨fl_TV_133, List.forall_mem_cons.mpr ⟨trivial, List.forall_mem_cons.mpr ⟨trivial, List.forall_mem_cons.mpr ⟨trivial, List.forall_mem_cons.mpr ⟨trivial, List.forall_mem_cons.mpr ⟨trivial, List.forall_mem_cons.mpr ⟨fl_TV_12, List.forall_mem_cons.mpr ⟨fl_TV_66, List.forall_mem_cons.mpr ⟨⟨ml_TV_201, xms_Perm_number⟩, List.forall_mem_cons.mpr ⟨trivial, fun _ h => absurd h List.not_mem_nil⟩⟩⟩⟩⟩⟩⟩⟩⟩⟩⟩⟩⟩⟩⟩⟩⟩⟩
def k_TV_loadTurn : xCd := [
  (0, .iload_n 1, 1, .inl (0, 0)),
  (1, .invokestatic 116, 3, .inr (.inl g_TV_isRegister)),
  (4, .ifCond .ne 5, 3, .inl (9, 0)),
  (7, .iconst (-1), 1, .inr (.inr (.inl (-1)))),
  (8, .ireturn, 1, .inl (0, 0)),
  (9, .aload_n 0, 1, .inl (0, 0)),
  (10, .getfield 40, 3, .inl (8, 4)),
  (13, .aload_n 0, 1, .inl (0, 0)),
  (14, .getfield 26, 3, .inl (8, 2)),
  (17, .aload_n 0, 1, .inl (0, 0)),
  (18, .getfield 12, 3, .inl (8, 0)),
  (21, .getfield 66, 3, .inl (5, 0)),
  (24, .invokevirtual 119, 3, .inr (.inl g_TR_readText)),
  (27, .istore_n 2, 1, .inl (0, 0)),
  (28, .iload_n 2, 1, .inl (0, 0)),
  (29, .iconst (-1), 1, .inr (.inr (.inl (-1)))),
  (30, .if_icmp .eq 8, 3, .inl (38, 0)),
  (33, .bipush (-10), 2, .inr (.inr (.inl (-10)))),
  (35, .iload_n 2, 1, .inl (0, 0)),
  (36, .isub, 1, .inl (0, 0)),
  (37, .ireturn, 1, .inl (0, 0)),
  (38, .aload_n 0, 1, .inl (0, 0)),
  (39, .iload_n 1, 1, .inl (0, 0)),
  (40, .aload_n 0, 1, .inl (0, 0)),
  (41, .getfield 40, 3, .inl (8, 4)),
  (44, .getfield 122, 3, .inl (7, 0)),
  (47, .invokevirtual 125, 3, .inr (.inl g_TV_store)),
  (50, .ireturn, 1, .inl (0, 0))]
set_option maxRecDepth 100000 in
set_option maxHeartbeats 4000000 in
theorem ok_TV_loadTurn : xOK g_TV_loadTurn k_TV_loadTurn := ⟨by decide +kernel, by decide +kernel, List.forall_mem_cons.mpr ⟨trivial, List.forall_mem_cons.mpr ⟨⟨ml_TV_116, xms_TV_isRegister⟩, List.forall_mem_cons.mpr ⟨trivial, List.forall_mem_cons.mpr ⟨trivial, List.forall_mem_cons.mpr ⟨trivial, List.forall_mem_cons.mpr ⟨trivial, List.forall_mem_cons.mpr ⟨fl_TV_40, List.forall_mem_cons.mpr ⟨trivial, List.forall_mem_cons.mpr ⟨fl_TV_26, List.forall_mem_cons.mpr ⟨trivial, List.forall_mem_cons.mpr ⟨fl_TV_12, List.forall_mem_cons.mpr ⟨fl_TV_66, List.forall_mem_cons.mpr ⟨⟨ml_TV_119, xmv_TR_readText⟩, List.forall_mem_cons.mpr ⟨trivial, List.forall_mem_cons.mpr ⟨trivial, List.forall_mem_cons.mpr ⟨trivial, List.forall_mem_cons.mpr ⟨trivial, List.forall_mem_cons.mpr ⟨trivial, List.forall_mem_cons.mpr ⟨trivial, List.forall_mem_cons.mpr ⟨trivial, List.forall_mem_cons.mpr ⟨trivial, List.forall_mem_cons.mpr ⟨trivial, List.forall_mem_cons.mpr ⟨trivial, List.forall_mem_cons.mpr ⟨trivial, List.forall_mem_cons.mpr ⟨fl_TV_40, List.forall_mem_cons.mpr ⟨fl_TV_122, List.forall_mem_cons.mpr ⟨⟨ml_TV_125, xmv_TV_store⟩, List.forall_mem_cons.mpr ⟨trivial, fun _ h => absurd h List.not_mem_nil⟩⟩⟩⟩⟩⟩⟩⟩⟩⟩⟩⟩⟩⟩⟩⟩⟩⟩⟩⟩⟩⟩⟩⟩⟩⟩⟩⟩⟩
def k_TV_make : xCd := [
  (0, .iload_n 1, 1, .inl (0, 0)),
  (1, .invokestatic 116, 3, .inr (.inl g_TV_isRegister)),
  (4, .ifCond .eq 21, 3, .inl (25, 0)),
  (7, .iload_n 2, 1, .inl (0, 0)),
  (8, .ifCond .lt 17, 3, .inl (25, 0)),
  (11, .iload_n 2, 1, .inl (0, 0)),
  (12, .bipush 6, 2, .inr (.inr (.inl (nI 6)))),
  (14, .if_icmp .ge 11, 3, .inl (25, 0)),
  (17, .aload_n 0, 1, .inl (0, 0)),
  (18, .iload_n 3, 1, .inl (0, 0)),
  (19, .invokevirtual 74, 3, .inr (.inl g_TV_isLine)),
  (22, .ifCond .ne 5, 3, .inl (27, 0)),
  (25, .iconst (-1), 1, .inr (.inr (.inl (-1)))),
  (26, .ireturn, 1, .inl (0, 0)),
  (27, .aload_n 0, 1, .inl (0, 0)),
  (28, .iload_n 1, 1, .inl (0, 0)),
  (29, .iload_n 2, 1, .inl (0, 0)),
  (30, .iload_n 3, 1, .inl (0, 0)),
  (31, .aload_n 0, 1, .inl (0, 0)),
  (32, .getfield 12, 3, .inl (8, 0)),
  (35, .getfield 66, 3, .inl (5, 0)),
  (38, .invokestatic 128, 3, .inr (.inl g_Perm_ofKind)),
  (41, .invokevirtual 125, 3, .inr (.inl g_TV_store)),
  (44, .ireturn, 1, .inl (0, 0))]
set_option maxRecDepth 100000 in
set_option maxHeartbeats 4000000 in
theorem ok_TV_make : xOK g_TV_make k_TV_make := ⟨by decide +kernel, by decide +kernel, List.forall_mem_cons.mpr ⟨trivial, List.forall_mem_cons.mpr ⟨⟨ml_TV_116, xms_TV_isRegister⟩, List.forall_mem_cons.mpr ⟨trivial, List.forall_mem_cons.mpr ⟨trivial, List.forall_mem_cons.mpr ⟨trivial, List.forall_mem_cons.mpr ⟨trivial, List.forall_mem_cons.mpr ⟨trivial, List.forall_mem_cons.mpr ⟨trivial, List.forall_mem_cons.mpr ⟨trivial, List.forall_mem_cons.mpr ⟨trivial, List.forall_mem_cons.mpr ⟨⟨ml_TV_74, xmv_TV_isLine⟩, List.forall_mem_cons.mpr ⟨trivial, List.forall_mem_cons.mpr ⟨trivial, List.forall_mem_cons.mpr ⟨trivial, List.forall_mem_cons.mpr ⟨trivial, List.forall_mem_cons.mpr ⟨trivial, List.forall_mem_cons.mpr ⟨trivial, List.forall_mem_cons.mpr ⟨trivial, List.forall_mem_cons.mpr ⟨trivial, List.forall_mem_cons.mpr ⟨fl_TV_12, List.forall_mem_cons.mpr ⟨fl_TV_66, List.forall_mem_cons.mpr ⟨⟨ml_TV_128, xms_Perm_ofKind⟩, List.forall_mem_cons.mpr ⟨⟨ml_TV_125, xmv_TV_store⟩, List.forall_mem_cons.mpr ⟨trivial, fun _ h => absurd h List.not_mem_nil⟩⟩⟩⟩⟩⟩⟩⟩⟩⟩⟩⟩⟩⟩⟩⟩⟩⟩⟩⟩⟩⟩⟩⟩⟩
def k_TV_product : xCd := [
  (0, .iload_n 1, 1, .inl (0, 0)),
  (1, .invokestatic 116, 3, .inr (.inl g_TV_isRegister)),
  (4, .ifCond .eq 17, 3, .inl (21, 0)),
  (7, .iload_n 2, 1, .inl (0, 0)),
  (8, .invokestatic 116, 3, .inr (.inl g_TV_isRegister)),
  (11, .ifCond .eq 10, 3, .inl (21, 0)),
  (14, .iload_n 3, 1, .inl (0, 0)),
  (15, .invokestatic 116, 3, .inr (.inl g_TV_isRegister)),
  (18, .ifCond .ne 5, 3, .inl (23, 0)),
  (21, .iconst (-1), 1, .inr (.inr (.inl (-1)))),
  (22, .ireturn, 1, .inl (0, 0)),
  (23, .aload_n 0, 1, .inl (0, 0)),
  (24, .iload_n 3, 1, .inl (0, 0)),
  (25, .aload_n 0, 1, .inl (0, 0)),
  (26, .getfield 12, 3, .inl (8, 0)),
  (29, .getfield 133, 3, .inl (5, 2)),
  (32, .iload_n 1, 1, .inl (0, 0)),
  (33, .iaload, 1, .inl (0, 0)),
  (34, .aload_n 0, 1, .inl (0, 0)),
  (35, .getfield 12, 3, .inl (8, 0)),
  (38, .getfield 133, 3, .inl (5, 2)),
  (41, .iload_n 2, 1, .inl (0, 0)),
  (42, .iaload, 1, .inl (0, 0)),
  (43, .aload_n 0, 1, .inl (0, 0)),
  (44, .getfield 12, 3, .inl (8, 0)),
  (47, .getfield 66, 3, .inl (5, 0)),
  (50, .invokestatic 136, 3, .inr (.inl g_Row_turned)),
  (53, .invokevirtual 125, 3, .inr (.inl g_TV_store)),
  (56, .ireturn, 1, .inl (0, 0))]
set_option maxRecDepth 100000 in
set_option maxHeartbeats 4000000 in
theorem ok_TV_product : xOK g_TV_product k_TV_product := ⟨by decide +kernel, by decide +kernel, List.forall_mem_cons.mpr ⟨trivial, List.forall_mem_cons.mpr ⟨⟨ml_TV_116, xms_TV_isRegister⟩, List.forall_mem_cons.mpr ⟨trivial, List.forall_mem_cons.mpr ⟨trivial, List.forall_mem_cons.mpr ⟨⟨ml_TV_116, xms_TV_isRegister⟩, List.forall_mem_cons.mpr ⟨trivial, List.forall_mem_cons.mpr ⟨trivial, List.forall_mem_cons.mpr ⟨⟨ml_TV_116, xms_TV_isRegister⟩, List.forall_mem_cons.mpr ⟨trivial, List.forall_mem_cons.mpr ⟨trivial, List.forall_mem_cons.mpr ⟨trivial, List.forall_mem_cons.mpr ⟨trivial, List.forall_mem_cons.mpr ⟨trivial, List.forall_mem_cons.mpr ⟨trivial, List.forall_mem_cons.mpr ⟨fl_TV_12, List.forall_mem_cons.mpr ⟨fl_TV_133, List.forall_mem_cons.mpr ⟨trivial, List.forall_mem_cons.mpr ⟨trivial, List.forall_mem_cons.mpr ⟨trivial, List.forall_mem_cons.mpr ⟨fl_TV_12, List.forall_mem_cons.mpr ⟨fl_TV_133, List.forall_mem_cons.mpr ⟨trivial, List.forall_mem_cons.mpr ⟨trivial, List.forall_mem_cons.mpr ⟨trivial, List.forall_mem_cons.mpr ⟨fl_TV_12, List.forall_mem_cons.mpr ⟨fl_TV_66, List.forall_mem_cons.mpr ⟨⟨ml_TV_136, xms_Row_turned⟩, List.forall_mem_cons.mpr ⟨⟨ml_TV_125, xmv_TV_store⟩, List.forall_mem_cons.mpr ⟨trivial, fun _ h => absurd h List.not_mem_nil⟩⟩⟩⟩⟩⟩⟩⟩⟩⟩⟩⟩⟩⟩⟩⟩⟩⟩⟩⟩⟩⟩⟩⟩⟩⟩⟩⟩⟩⟩
def k_TV_power : xCd := [
  (0, .iload_n 1, 1, .inl (0, 0)),
  (1, .invokestatic 116, 3, .inr (.inl g_TV_isRegister)),
  (4, .ifCond .eq 22, 3, .inl (26, 0)),
  (7, .iload_n 2, 1, .inl (0, 0)),
  (8, .ldc 139, 2, .inr (.inr (.inl (-1000000)))),
  (10, .if_icmp .lt 16, 3, .inl (26, 0)),
  (13, .iload_n 2, 1, .inl (0, 0)),
  (14, .ldc 140, 2, .inr (.inr (.inl (nI 1000000)))),
  (16, .if_icmp .gt 10, 3, .inl (26, 0)),
  (19, .iload_n 3, 1, .inl (0, 0)),
  (20, .invokestatic 116, 3, .inr (.inl g_TV_isRegister)),
  (23, .ifCond .ne 5, 3, .inl (28, 0)),
  (26, .iconst (-1), 1, .inr (.inr (.inl (-1)))),
  (27, .ireturn, 1, .inl (0, 0)),
  (28, .aload_n 0, 1, .inl (0, 0)),
  (29, .getfield 12, 3, .inl (8, 0)),
  (32, .getfield 133, 3, .inl (5, 2)),
  (35, .iload_n 1, 1, .inl (0, 0)),
  (36, .iaload, 1, .inl (0, 0)),
  (37, .istore 4, 2, .inl (0, 0)),
  (39, .iload_n 2, 1, .inl (0, 0)),
  (40, .ifCond .ge 18, 3, .inl (58, 0)),
  (43, .iload 4, 2, .inl (0, 0)),
  (45, .aload_n 0, 1, .inl (0, 0)),
  (46, .getfield 12, 3, .inl (8, 0)),
  (49, .getfield 66, 3, .inl (5, 0)),
  (52, .invokestatic 141, 3, .inr (.inl g_Perm_inverse)),
  (55, .goto 5, 3, .inl (60, 0)),
  (58, .iload 4, 2, .inl (0, 0)),
  (60, .istore 5, 2, .inl (0, 0)),
  (62, .aload_n 0, 1, .inl (0, 0)),
  (63, .iload_n 3, 1, .inl (0, 0)),
  (64, .iload 5, 2, .inl (0, 0)),
  (66, .iload_n 2, 1, .inl (0, 0)),
  (67, .invokestatic 144, 3, .inr (.inr (.inr (.inr (2, []))))),
  (70, .aload_n 0, 1, .inl (0, 0)),
  (71, .getfield 12, 3, .inl (8, 0)),
  (74, .getfield 66, 3, .inl (5, 0)),
  (77, .invokestatic 150, 3, .inr (.inl g_Perm_repeated)),
  (80, .invokevirtual 125, 3, .inr (.inl g_TV_store)),
  (83, .ireturn, 1, .inl (0, 0))]
set_option maxRecDepth 100000 in
set_option maxHeartbeats 4000000 in
theorem ok_TV_power : xOK g_TV_power k_TV_power := ⟨by decide +kernel, by decide +kernel, List.forall_mem_cons.mpr ⟨trivial, List.forall_mem_cons.mpr ⟨⟨ml_TV_116, xms_TV_isRegister⟩, List.forall_mem_cons.mpr ⟨trivial, List.forall_mem_cons.mpr ⟨trivial, List.forall_mem_cons.mpr ⟨lw_gm 459 rfl rfl, List.forall_mem_cons.mpr ⟨trivial, List.forall_mem_cons.mpr ⟨trivial, List.forall_mem_cons.mpr ⟨lw_gm 460 rfl rfl, List.forall_mem_cons.mpr ⟨trivial, List.forall_mem_cons.mpr ⟨trivial, List.forall_mem_cons.mpr ⟨⟨ml_TV_116, xms_TV_isRegister⟩, List.forall_mem_cons.mpr ⟨trivial, List.forall_mem_cons.mpr ⟨trivial, List.forall_mem_cons.mpr ⟨trivial, List.forall_mem_cons.mpr ⟨trivial, List.forall_mem_cons.mpr ⟨fl_TV_12, List.forall_mem_cons.mpr ⟨fl_TV_133, List.forall_mem_cons.mpr ⟨trivial, List.forall_mem_cons.mpr ⟨trivial, List.forall_mem_cons.mpr ⟨trivial, List.forall_mem_cons.mpr ⟨trivial, List.forall_mem_cons.mpr ⟨trivial, List.forall_mem_cons.mpr ⟨trivial, List.forall_mem_cons.mpr ⟨trivial, List.forall_mem_cons.mpr ⟨fl_TV_12, List.forall_mem_cons.mpr ⟨fl_TV_66, List.forall_mem_cons.mpr ⟨⟨ml_TV_141, xms_Perm_inverse⟩, List.forall_mem_cons.mpr ⟨trivial, List.forall_mem_cons.mpr ⟨trivial, List.forall_mem_cons.mpr ⟨trivial, List.forall_mem_cons.mpr ⟨trivial, List.forall_mem_cons.mpr ⟨trivial, List.forall_mem_cons.mpr ⟨trivial, List.forall_mem_cons.mpr ⟨trivial, List.forall_mem_cons.mpr ⟨⟨lw_gm 464 rfl rfl, lw_gm 465 rfl rfl, lw_gm 82 rfl rfl, lw_gm 466 rfl rfl⟩, List.forall_mem_cons.mpr ⟨trivial, List.forall_mem_cons.mpr ⟨fl_TV_12, List.forall_mem_cons.mpr ⟨fl_TV_66, List.forall_mem_cons.mpr ⟨⟨ml_TV_150, xms_Perm_repeated⟩, List.forall_mem_cons.mpr ⟨⟨ml_TV_125, xmv_TV_store⟩, List.forall_mem_cons.mpr ⟨trivial, fun _ h => absurd h List.not_mem_nil⟩⟩⟩⟩⟩⟩⟩⟩⟩⟩⟩⟩⟩⟩⟩⟩⟩⟩⟩⟩⟩⟩⟩⟩⟩⟩⟩⟩⟩⟩⟩⟩⟩⟩⟩⟩⟩⟩⟩⟩⟩⟩
def k_TV_unrank : xCd := [
  (0, .iload_n 1, 1, .inl (0, 0)),
  (1, .invokestatic 116, 3, .inr (.inl g_TV_isRegister)),
  (4, .ifCond .eq 21, 3, .inl (25, 0)),
  (7, .iload_n 2, 1, .inl (0, 0)),
  (8, .ifCond .lt 17, 3, .inl (25, 0)),
  (11, .iload_n 2, 1, .inl (0, 0)),
  (12, .aload_n 0, 1, .inl (0, 0)),
  (13, .getfield 12, 3, .inl (8, 0)),
  (16, .getfield 66, 3, .inl (5, 0)),
  (19, .invokestatic 153, 3, .inr (.inl g_Perm_count)),
  (22, .if_icmp .lt 5, 3, .inl (27, 0)),
  (25, .iconst (-1), 1, .inr (.inr (.inl (-1)))),
  (26, .ireturn, 1, .inl (0, 0)),
  (27, .iload_n 2, 1, .inl (0, 0)),
  (28, .aload_n 0, 1, .inl (0, 0)),
  (29, .getfield 12, 3, .inl (8, 0)),
  (32, .getfield 66, 3, .inl (5, 0)),
  (35, .invokestatic 155, 3, .inr (.inl g_Perm_numbered)),
  (38, .istore_n 3, 1, .inl (0, 0)),
  (39, .aload_n 0, 1, .inl (0, 0)),
  (40, .iload_n 1, 1, .inl (0, 0)),
  (41, .iload_n 3, 1, .inl (0, 0)),
  (42, .invokevirtual 125, 3, .inr (.inl g_TV_store)),
  (45, .pop, 1, .inl (0, 0)),
  (46, .iload_n 3, 1, .inl (0, 0)),
  (47, .aload_n 0, 1, .inl (0, 0)),
  (48, .getfield 12, 3, .inl (8, 0)),
  (51, .getfield 66, 3, .inl (5, 0)),
  (54, .invokestatic 158, 3, .inr (.inl g_Perm_order)),
  (57, .ireturn, 1, .inl (0, 0))]
set_option maxRecDepth 100000 in
set_option maxHeartbeats 4000000 in
theorem ok_TV_unrank : xOK g_TV_unrank k_TV_unrank := ⟨by decide +kernel, by decide +kernel, List.forall_mem_cons.mpr ⟨trivial, List.forall_mem_cons.mpr ⟨⟨ml_TV_116, xms_TV_isRegister⟩, List.forall_mem_cons.mpr ⟨trivial, List.forall_mem_cons.mpr ⟨trivial, List.forall_mem_cons.mpr ⟨trivial, List.forall_mem_cons.mpr ⟨trivial, List.forall_mem_cons.mpr ⟨trivial, List.forall_mem_cons.mpr ⟨fl_TV_12, List.forall_mem_cons.mpr ⟨fl_TV_66, List.forall_mem_cons.mpr ⟨⟨ml_TV_153, xms_Perm_count⟩, List.forall_mem_cons.mpr ⟨trivial, List.forall_mem_cons.mpr ⟨trivial, List.forall_mem_cons.mpr ⟨trivial, List.forall_mem_cons.mpr ⟨trivial, List.forall_mem_cons.mpr ⟨trivial, List.forall_mem_cons.mpr ⟨fl_TV_12, List.forall_mem_cons.mpr ⟨fl_TV_66, List.forall_mem_cons.mpr ⟨⟨ml_TV_155, xms_Perm_numbered⟩, List.forall_mem_cons.mpr ⟨trivial, List.forall_mem_cons.mpr ⟨trivial, List.forall_mem_cons.mpr ⟨trivial, List.forall_mem_cons.mpr ⟨trivial, List.forall_mem_cons.mpr ⟨⟨ml_TV_125, xmv_TV_store⟩, List.forall_mem_cons.mpr ⟨trivial, List.forall_mem_cons.mpr ⟨trivial, List.forall_mem_cons.mpr ⟨trivial, List.forall_mem_cons.mpr ⟨fl_TV_12, List.forall_mem_cons.mpr ⟨fl_TV_66, List.forall_mem_cons.mpr ⟨⟨ml_TV_158, xms_Perm_order⟩, List.forall_mem_cons.mpr ⟨trivial, fun _ h => absurd h List.not_mem_nil⟩⟩⟩⟩⟩⟩⟩⟩⟩⟩⟩⟩⟩⟩⟩⟩⟩⟩⟩⟩⟩⟩⟩⟩⟩⟩⟩⟩⟩⟩⟩
def k_TV_root : xCd := [
  (0, .iload_n 1, 1, .inl (0, 0)),
  (1, .invokestatic 116, 3, .inr (.inl g_TV_isRegister)),
  (4, .ifCond .eq 21, 3, .inl (25, 0)),
  (7, .iload_n 2, 1, .inl (0, 0)),
  (8, .iconst 1, 1, .inr (.inr (.inl (nI 1)))),
  (9, .if_icmp .lt 16, 3, .inl (25, 0)),
  (12, .iload_n 2, 1, .inl (0, 0)),
  (13, .bipush 12, 2, .inr (.inr (.inl (nI 12)))),
  (15, .if_icmp .gt 10, 3, .inl (25, 0)),
  (18, .iload_n 3, 1, .inl (0, 0)),
  (19, .invokestatic 116, 3, .inr (.inl g_TV_isRegister)),
  (22, .ifCond .ne 5, 3, .inl (27, 0)),
  (25, .iconst (-1), 1, .inr (.inr (.inl (-1)))),
  (26, .ireturn, 1, .inl (0, 0)),
  (27, .aload_n 0, 1, .inl (0, 0)),
  (28, .getfield 12, 3, .inl (8, 0)),
  (31, .getfield 133, 3, .inl (5, 2)),
  (34, .iload_n 1, 1, .inl (0, 0)),
  (35, .iaload, 1, .inl (0, 0)),
  (36, .iload_n 2, 1, .inl (0, 0)),
  (37, .aload_n 0, 1, .inl (0, 0)),
  (38, .getfield 12, 3, .inl (8, 0)),
  (41, .getfield 66, 3, .inl (5, 0)),
  (44, .invokestatic 161, 3, .inr (.inl g_Perm_firstRoot)),
  (47, .istore 4, 2, .inl (0, 0)),
  (49, .iload 4, 2, .inl (0, 0)),
  (51, .iconst (-1), 1, .inr (.inr (.inl (-1)))),
  (52, .if_icmp .ne 17, 3, .inl (69, 0)),
  (55, .aload_n 0, 1, .inl (0, 0)),
  (56, .getfield 19, 3, .inl (8, 1)),
  (59, .aload_n 0, 1, .inl (0, 0)),
  (60, .getfield 12, 3, .inl (8, 0)),
  (63, .invokevirtual 62, 3, .inr (.inl g_Hist_remember)),
  (66, .bipush (-9), 2, .inr (.inr (.inl (-9)))),
  (68, .ireturn, 1, .inl (0, 0)),
  (69, .aload_n 0, 1, .inl (0, 0)),
  (70, .iload_n 3, 1, .inl (0, 0)),
  (71, .iload 4, 2, .inl (0, 0)),
  (73, .invokevirtual 125, 3, .inr (.inl g_TV_store)),
  (76, .ireturn, 1, .inl (0, 0))]
set_option maxRecDepth 100000 in
set_option maxHeartbeats 4000000 in
theorem ok_TV_root : xOK g_TV_root k_TV_root := ⟨by decide +kernel, by decide +kernel, List.forall_mem_cons.mpr ⟨trivial, List.forall_mem_cons.mpr ⟨⟨ml_TV_116, xms_TV_isRegister⟩, List.forall_mem_cons.mpr ⟨trivial, List.forall_mem_cons.mpr ⟨trivial, List.forall_mem_cons.mpr ⟨trivial, List.forall_mem_cons.mpr ⟨trivial, List.forall_mem_cons.mpr ⟨trivial, List.forall_mem_cons.mpr ⟨trivial, List.forall_mem_cons.mpr ⟨trivial, List.forall_mem_cons.mpr ⟨trivial, List.forall_mem_cons.mpr ⟨⟨ml_TV_116, xms_TV_isRegister⟩, List.forall_mem_cons.mpr ⟨trivial, List.forall_mem_cons.mpr ⟨trivial, List.forall_mem_cons.mpr ⟨trivial, List.forall_mem_cons.mpr ⟨trivial, List.forall_mem_cons.mpr ⟨fl_TV_12, List.forall_mem_cons.mpr ⟨fl_TV_133, List.forall_mem_cons.mpr ⟨trivial, List.forall_mem_cons.mpr ⟨trivial, List.forall_mem_cons.mpr ⟨trivial, List.forall_mem_cons.mpr ⟨trivial, List.forall_mem_cons.mpr ⟨fl_TV_12, List.forall_mem_cons.mpr ⟨fl_TV_66, List.forall_mem_cons.mpr ⟨⟨ml_TV_161, xms_Perm_firstRoot⟩, List.forall_mem_cons.mpr ⟨trivial, List.forall_mem_cons.mpr ⟨trivial, List.forall_mem_cons.mpr ⟨trivial, List.forall_mem_cons.mpr ⟨trivial, List.forall_mem_cons.mpr ⟨trivial, List.forall_mem_cons.mpr ⟨fl_TV_19, List.forall_mem_cons.mpr ⟨trivial, List.forall_mem_cons.mpr ⟨fl_TV_12, List.forall_mem_cons.mpr ⟨⟨ml_TV_62, xmv_Hist_remember⟩, List.forall_mem_cons.mpr ⟨trivial, List.forall_mem_cons.mpr ⟨trivial, List.forall_mem_cons.mpr ⟨trivial, List.forall_mem_cons.mpr ⟨trivial, List.forall_mem_cons.mpr ⟨trivial, List.forall_mem_cons.mpr ⟨⟨ml_TV_125, xmv_TV_store⟩, List.forall_mem_cons.mpr ⟨trivial, fun _ h => absurd h List.not_mem_nil⟩⟩⟩⟩⟩⟩⟩⟩⟩⟩⟩⟩⟩⟩⟩⟩⟩⟩⟩⟩⟩⟩⟩⟩⟩⟩⟩⟩⟩⟩⟩⟩⟩⟩⟩⟩⟩⟩⟩⟩⟩
def k_TV_at : xCd := [
  (0, .iload_n 1, 1, .inl (0, 0)),
  (1, .invokestatic 116, 3, .inr (.inl g_TV_isRegister)),
  (4, .ifCond .eq 11, 3, .inl (15, 0)),
  (7, .aload_n 0, 1, .inl (0, 0)),
  (8, .iload_n 2, 1, .inl (0, 0)),
  (9, .invokevirtual 74, 3, .inr (.inl g_TV_isLine)),
  (12, .ifCond .ne 5, 3, .inl (17, 0)),
  (15, .iconst (-1), 1, .inr (.inr (.inl (-1)))),
  (16, .ireturn, 1, .inl (0, 0)),
  (17, .aload_n 0, 1, .inl (0, 0)),
  (18, .getfield 12, 3, .inl (8, 0)),
  (21, .getfield 133, 3, .inl (5, 2)),
  (24, .iload_n 1, 1, .inl (0, 0)),
  (25, .iaload, 1, .inl (0, 0)),
  (26, .iload_n 2, 1, .inl (0, 0)),
  (27, .invokestatic 81, 3, .inr (.inl g_Row_entry)),
  (30, .ireturn, 1, .inl (0, 0))]
set_option maxRecDepth 100000 in
set_option maxHeartbeats 4000000 in
theorem ok_TV_at : xOK g_TV_at k_TV_at := ⟨by decide +kernel, by decide +kernel, List.forall_mem_cons.mpr ⟨trivial, List.forall_mem_cons.mpr ⟨⟨ml_TV_116, xms_TV_isRegister⟩, List.forall_mem_cons.mpr ⟨trivial, List.forall_mem_cons.mpr ⟨trivial, List.forall_mem_cons.mpr ⟨trivial, List.forall_mem_cons.mpr ⟨⟨ml_TV_74, xmv_TV_isLine⟩, List.forall_mem_cons.mpr ⟨trivial, List.forall_mem_cons.mpr ⟨trivial, List.forall_mem_cons.mpr ⟨trivial, List.forall_mem_cons.mpr ⟨trivial, List.forall_mem_cons.mpr ⟨fl_TV_12, List.forall_mem_cons.mpr ⟨fl_TV_133, List.forall_mem_cons.mpr ⟨trivial, List.forall_mem_cons.mpr ⟨trivial, List.forall_mem_cons.mpr ⟨trivial, List.forall_mem_cons.mpr ⟨⟨ml_TV_81, xms_Row_entry⟩, List.forall_mem_cons.mpr ⟨trivial, fun _ h => absurd h List.not_mem_nil⟩⟩⟩⟩⟩⟩⟩⟩⟩⟩⟩⟩⟩⟩⟩⟩⟩⟩
def k_TV_turn : xCd := [
  (0, .iload_n 1, 1, .inl (0, 0)),
  (1, .invokestatic 116, 3, .inr (.inl g_TV_isRegister)),
  (4, .ifCond .eq 13, 3, .inl (17, 0)),
  (7, .iload_n 2, 1, .inl (0, 0)),
  (8, .ifCond .lt 9, 3, .inl (17, 0)),
  (11, .iload_n 2, 1, .inl (0, 0)),
  (12, .bipush 7, 2, .inr (.inr (.inl (nI 7)))),
  (14, .if_icmp .lt 5, 3, .inl (19, 0)),
  (17, .iconst (-1), 1, .inr (.inr (.inl (-1)))),
  (18, .ireturn, 1, .inl (0, 0)),
  (19, .aload_n 0, 1, .inl (0, 0)),
  (20, .getfield 12, 3, .inl (8, 0)),
  (23, .getfield 133, 3, .inl (5, 2)),
  (26, .iload_n 1, 1, .inl (0, 0)),
  (27, .iaload, 1, .inl (0, 0)),
  (28, .iload_n 2, 1, .inl (0, 0)),
  (29, .aload_n 0, 1, .inl (0, 0)),
  (30, .getfield 12, 3, .inl (8, 0)),
  (33, .getfield 66, 3, .inl (5, 0)),
  (36, .invokestatic 164, 3, .inr (.inl g_Perm_property)),
  (39, .ireturn, 1, .inl (0, 0))]
set_option maxRecDepth 100000 in
set_option maxHeartbeats 4000000 in
theorem ok_TV_turn : xOK g_TV_turn k_TV_turn := ⟨by decide +kernel, by decide +kernel, List.forall_mem_cons.mpr ⟨trivial, List.forall_mem_cons.mpr ⟨⟨ml_TV_116, xms_TV_isRegister⟩, List.forall_mem_cons.mpr ⟨trivial, List.forall_mem_cons.mpr ⟨trivial, List.forall_mem_cons.mpr ⟨trivial, List.forall_mem_cons.mpr ⟨trivial, List.forall_mem_cons.mpr ⟨trivial, List.forall_mem_cons.mpr ⟨trivial, List.forall_mem_cons.mpr ⟨trivial, List.forall_mem_cons.mpr ⟨trivial, List.forall_mem_cons.mpr ⟨trivial, List.forall_mem_cons.mpr ⟨fl_TV_12, List.forall_mem_cons.mpr ⟨fl_TV_133, List.forall_mem_cons.mpr ⟨trivial, List.forall_mem_cons.mpr ⟨trivial, List.forall_mem_cons.mpr ⟨trivial, List.forall_mem_cons.mpr ⟨trivial, List.forall_mem_cons.mpr ⟨fl_TV_12, List.forall_mem_cons.mpr ⟨fl_TV_66, List.forall_mem_cons.mpr ⟨⟨ml_TV_164, xms_Perm_property⟩, List.forall_mem_cons.mpr ⟨trivial, fun _ h => absurd h List.not_mem_nil⟩⟩⟩⟩⟩⟩⟩⟩⟩⟩⟩⟩⟩⟩⟩⟩⟩⟩⟩⟩⟩⟩
def k_TV_places : xCd := [
  (0, .iload_n 1, 1, .inl (0, 0)),
  (1, .invokestatic 116, 3, .inr (.inl g_TV_isRegister)),
  (4, .ifCond .eq 21, 3, .inl (25, 0)),
  (7, .aload_n 0, 1, .inl (0, 0)),
  (8, .iload_n 2, 1, .inl (0, 0)),
  (9, .invokevirtual 74, 3, .inr (.inl g_TV_isLine)),
  (12, .ifCond .eq 13, 3, .inl (25, 0)),
  (15, .iload_n 3, 1, .inl (0, 0)),
  (16, .ifCond .lt 9, 3, .inl (25, 0)),
  (19, .iload_n 3, 1, .inl (0, 0)),
  (20, .bipush 100, 2, .inr (.inr (.inl (nI 100)))),
  (22, .if_icmp .le 5, 3, .inl (27, 0)),
  (25, .iconst (-1), 1, .inr (.inr (.inl (-1)))),
  (26, .ireturn, 1, .inl (0, 0)),
  (27, .aload_n 0, 1, .inl (0, 0)),
  (28, .getfield 12, 3, .inl (8, 0)),
  (31, .getfield 133, 3, .inl (5, 2)),
  (34, .iload_n 1, 1, .inl (0, 0)),
  (35, .iaload, 1, .inl (0, 0)),
  (36, .aload_n 0, 1, .inl (0, 0)),
  (37, .getfield 12, 3, .inl (8, 0)),
  (40, .getfield 66, 3, .inl (5, 0)),
  (43, .invokestatic 141, 3, .inr (.inl g_Perm_inverse)),
  (46, .istore 4, 2, .inl (0, 0)),
  (48, .iload_n 2, 1, .inl (0, 0)),
  (49, .istore 5, 2, .inl (0, 0)),
  (51, .iconst 1, 1, .inr (.inr (.inl (nI 1)))),
  (52, .iload 5, 2, .inl (0, 0)),
  (54, .ishl, 1, .inl (0, 0)),
  (55, .istore 6, 2, .inl (0, 0)),
  (57, .iconst 0, 1, .inr (.inr (.inl (nI 0)))),
  (58, .istore 7, 2, .inl (0, 0)),
  (60, .iload 7, 2, .inl (0, 0)),
  (62, .iload_n 3, 1, .inl (0, 0)),
  (63, .if_icmp .ge 27, 3, .inl (90, 0)),
  (66, .iload 4, 2, .inl (0, 0)),
  (68, .iload 5, 2, .inl (0, 0)),
  (70, .invokestatic 81, 3, .inr (.inl g_Row_entry)),
  (73, .istore 5, 2, .inl (0, 0)),
  (75, .iload 6, 2, .inl (0, 0)),
  (77, .iconst 1, 1, .inr (.inr (.inl (nI 1)))),
  (78, .iload 5, 2, .inl (0, 0)),
  (80, .ishl, 1, .inl (0, 0)),
  (81, .ior, 1, .inl (0, 0)),
  (82, .istore 6, 2, .inl (0, 0)),
  (84, .iinc 7 1, 3, .inr (.inr (.inl (nI 1)))),
  (87, .goto (-27), 3, .inl (60, 0)),
  (90, .iload 6, 2, .inl (0, 0)),
  (92, .ireturn, 1, .inl (0, 0))]
set_option maxRecDepth 100000 in
set_option maxHeartbeats 4000000 in
theorem ok_TV_places : xOK g_TV_places k_TV_places := ⟨by decide +kernel, by decide +kernel, List.forall_mem_cons.mpr ⟨trivial, List.forall_mem_cons.mpr ⟨⟨ml_TV_116, xms_TV_isRegister⟩, List.forall_mem_cons.mpr ⟨trivial, List.forall_mem_cons.mpr ⟨trivial, List.forall_mem_cons.mpr ⟨trivial, List.forall_mem_cons.mpr ⟨⟨ml_TV_74, xmv_TV_isLine⟩, List.forall_mem_cons.mpr ⟨trivial, List.forall_mem_cons.mpr ⟨trivial, List.forall_mem_cons.mpr ⟨trivial, List.forall_mem_cons.mpr ⟨trivial, List.forall_mem_cons.mpr ⟨trivial, List.forall_mem_cons.mpr ⟨trivial, List.forall_mem_cons.mpr ⟨trivial, List.forall_mem_cons.mpr ⟨trivial, List.forall_mem_cons.mpr ⟨trivial, List.forall_mem_cons.mpr ⟨fl_TV_12, List.forall_mem_cons.mpr ⟨fl_TV_133, List.forall_mem_cons.mpr ⟨trivial, List.forall_mem_cons.mpr ⟨trivial, List.forall_mem_cons.mpr ⟨trivial, List.forall_mem_cons.mpr ⟨fl_TV_12, List.forall_mem_cons.mpr ⟨fl_TV_66, List.forall_mem_cons.mpr ⟨⟨ml_TV_141, xms_Perm_inverse⟩, List.forall_mem_cons.mpr ⟨trivial, List.forall_mem_cons.mpr ⟨trivial, List.forall_mem_cons.mpr ⟨trivial, List.forall_mem_cons.mpr ⟨trivial, List.forall_mem_cons.mpr ⟨trivial, List.forall_mem_cons.mpr ⟨trivial, List.forall_mem_cons.mpr ⟨trivial, List.forall_mem_cons.mpr ⟨trivial, List.forall_mem_cons.mpr ⟨trivial, List.forall_mem_cons.mpr ⟨trivial, List.forall_mem_cons.mpr ⟨trivial, List.forall_mem_cons.mpr ⟨trivial, List.forall_mem_cons.mpr ⟨trivial, List.forall_mem_cons.mpr ⟨trivial, List.forall_mem_cons.mpr ⟨⟨ml_TV_81, xms_Row_entry⟩, List.forall_mem_cons.mpr ⟨trivial, List.forall_mem_cons.mpr ⟨trivial, List.forall_mem_cons.mpr ⟨trivial, List.forall_mem_cons.mpr ⟨trivial, List.forall_mem_cons.mpr ⟨trivial, List.forall_mem_cons.mpr ⟨trivial, List.forall_mem_cons.mpr ⟨trivial, List.forall_mem_cons.mpr ⟨trivial, List.forall_mem_cons.mpr ⟨trivial, List.forall_mem_cons.mpr ⟨trivial, List.forall_mem_cons.mpr ⟨trivial, fun _ h => absurd h List.not_mem_nil⟩⟩⟩⟩⟩⟩⟩⟩⟩⟩⟩⟩⟩⟩⟩⟩⟩⟩⟩⟩⟩⟩⟩⟩⟩⟩⟩⟩⟩⟩⟩⟩⟩⟩⟩⟩⟩⟩⟩⟩⟩⟩⟩⟩⟩⟩⟩⟩⟩⟩
def k_TV_isSetOfRegisters : xCd := [
  (0, .iload_n 0, 1, .inl (0, 0)),
  (1, .ifCond .lt 13, 3, .inl (14, 0)),
  (4, .iload_n 0, 1, .inl (0, 0)),
  (5, .bipush 64, 2, .inr (.inr (.inl (nI 64)))),
  (7, .if_icmp .ge 7, 3, .inl (14, 0)),
  (10, .iconst 1, 1, .inr (.inr (.inl (nI 1)))),
  (11, .goto 4, 3, .inl (15, 0)),
  (14, .iconst 0, 1, .inr (.inr (.inl (nI 0)))),
  (15, .ireturn, 1, .inl (0, 0))]
set_option maxRecDepth 100000 in
set_option maxHeartbeats 4000000 in
theorem ok_TV_isSetOfRegisters : xOK g_TV_isSetOfRegisters k_TV_isSetOfRegisters := ⟨by decide +kernel, by decide +kernel, List.forall_mem_cons.mpr ⟨trivial, List.forall_mem_cons.mpr ⟨trivial, List.forall_mem_cons.mpr ⟨trivial, List.forall_mem_cons.mpr ⟨trivial, List.forall_mem_cons.mpr ⟨trivial, List.forall_mem_cons.mpr ⟨trivial, List.forall_mem_cons.mpr ⟨trivial, List.forall_mem_cons.mpr ⟨trivial, List.forall_mem_cons.mpr ⟨trivial, fun _ h => absurd h List.not_mem_nil⟩⟩⟩⟩⟩⟩⟩⟩⟩⟩
def k_TV_generated : xCd := [
  (0, .iload_n 1, 1, .inl (0, 0)),
  (1, .invokestatic 167, 3, .inr (.inl g_TV_isSetOfRegisters)),
  (4, .ifCond .ne 5, 3, .inl (9, 0)),
  (7, .iconst (-1), 1, .inr (.inr (.inl (-1)))),
  (8, .ireturn, 1, .inl (0, 0)),
  (9, .aload_n 0, 1, .inl (0, 0)),
  (10, .getfield 47, 3, .inl (8, 5)),
  (13, .aload_n 0, 1, .inl (0, 0)),
  (14, .getfield 12, 3, .inl (8, 0)),
  (17, .iload_n 1, 1, .inl (0, 0)),
  (18, .invokevirtual 170, 3, .inr (.inl g_Sea_spread)),
  (21, .aload_n 0, 1, .inl (0, 0)),
  (22, .getfield 47, 3, .inl (8, 5)),
  (25, .getfield 174, 3, .inl (4, 0)),
  (28, .ireturn, 1, .inl (0, 0))]
set_option maxRecDepth 100000 in
set_option maxHeartbeats 4000000 in
theorem ok_TV_generated : xOK g_TV_generated k_TV_generated := ⟨by decide +kernel, by decide +kernel, List.forall_mem_cons.mpr ⟨trivial, List.forall_mem_cons.mpr ⟨⟨ml_TV_167, xms_TV_isSetOfRegisters⟩, List.forall_mem_cons.mpr ⟨trivial, List.forall_mem_cons.mpr ⟨trivial, List.forall_mem_cons.mpr ⟨trivial, List.forall_mem_cons.mpr ⟨trivial, List.forall_mem_cons.mpr ⟨fl_TV_47, List.forall_mem_cons.mpr ⟨trivial, List.forall_mem_cons.mpr ⟨fl_TV_12, List.forall_mem_cons.mpr ⟨trivial, List.forall_mem_cons.mpr ⟨⟨ml_TV_170, xmv_Sea_spread⟩, List.forall_mem_cons.mpr ⟨trivial, List.forall_mem_cons.mpr ⟨fl_TV_47, List.forall_mem_cons.mpr ⟨fl_TV_174, List.forall_mem_cons.mpr ⟨trivial, fun _ h => absurd h List.not_mem_nil⟩⟩⟩⟩⟩⟩⟩⟩⟩⟩⟩⟩⟩⟩⟩⟩
def k_TV_reach : xCd := [
  (0, .iload_n 1, 1, .inl (0, 0)),
  (1, .invokestatic 167, 3, .inr (.inl g_TV_isSetOfRegisters)),
  (4, .ifCond .eq 10, 3, .inl (14, 0)),
  (7, .iload_n 2, 1, .inl (0, 0)),
  (8, .invokestatic 116, 3, .inr (.inl g_TV_isRegister)),
  (11, .ifCond .ne 5, 3, .inl (16, 0)),
  (14, .iconst (-1), 1, .inr (.inr (.inl (-1)))),
  (15, .ireturn, 1, .inl (0, 0)),
  (16, .aload_n 0, 1, .inl (0, 0)),
  (17, .getfield 47, 3, .inl (8, 5)),
  (20, .aload_n 0, 1, .inl (0, 0)),
  (21, .getfield 12, 3, .inl (8, 0)),
  (24, .iload_n 1, 1, .inl (0, 0)),
  (25, .invokevirtual 170, 3, .inr (.inl g_Sea_spread)),
  (28, .aload_n 0, 1, .inl (0, 0)),
  (29, .getfield 47, 3, .inl (8, 5)),
  (32, .aload_n 0, 1, .inl (0, 0)),
  (33, .getfield 12, 3, .inl (8, 0)),
  (36, .getfield 133, 3, .inl (5, 2)),
  (39, .iload_n 2, 1, .inl (0, 0)),
  (40, .iaload, 1, .inl (0, 0)),
  (41, .invokevirtual 175, 3, .inr (.inl g_Sea_depthOf)),
  (44, .istore_n 3, 1, .inl (0, 0)),
  (45, .iload_n 3, 1, .inl (0, 0)),
  (46, .iconst (-1), 1, .inr (.inr (.inl (-1)))),
  (47, .if_icmp .ne 8, 3, .inl (55, 0)),
  (50, .bipush (-9), 2, .inr (.inr (.inl (-9)))),
  (52, .goto 4, 3, .inl (56, 0)),
  (55, .iload_n 3, 1, .inl (0, 0)),
  (56, .ireturn, 1, .inl (0, 0))]
set_option maxRecDepth 100000 in
set_option maxHeartbeats 4000000 in
theorem ok_TV_reach : xOK g_TV_reach k_TV_reach := ⟨by decide +kernel, by decide +kernel, List.forall_mem_cons.mpr ⟨trivial, List.forall_mem_cons.mpr ⟨⟨ml_TV_167, xms_TV_isSetOfRegisters⟩, List.forall_mem_cons.mpr ⟨trivial, List.forall_mem_cons.mpr ⟨trivial, List.forall_mem_cons.mpr ⟨⟨ml_TV_116, xms_TV_isRegister⟩, List.forall_mem_cons.mpr ⟨trivial, List.forall_mem_cons.mpr ⟨trivial, List.forall_mem_cons.mpr ⟨trivial, List.forall_mem_cons.mpr ⟨trivial, List.forall_mem_cons.mpr ⟨fl_TV_47, List.forall_mem_cons.mpr ⟨trivial, List.forall_mem_cons.mpr ⟨fl_TV_12, List.forall_mem_cons.mpr ⟨trivial, List.forall_mem_cons.mpr ⟨⟨ml_TV_170, xmv_Sea_spread⟩, List.forall_mem_cons.mpr ⟨trivial, List.forall_mem_cons.mpr ⟨fl_TV_47, List.forall_mem_cons.mpr ⟨trivial, List.forall_mem_cons.mpr ⟨fl_TV_12, List.forall_mem_cons.mpr ⟨fl_TV_133, List.forall_mem_cons.mpr ⟨trivial, List.forall_mem_cons.mpr ⟨trivial, List.forall_mem_cons.mpr ⟨⟨ml_TV_175, xmv_Sea_depthOf⟩, List.forall_mem_cons.mpr ⟨trivial, List.forall_mem_cons.mpr ⟨trivial, List.forall_mem_cons.mpr ⟨trivial, List.forall_mem_cons.mpr ⟨trivial, List.forall_mem_cons.mpr ⟨trivial, List.forall_mem_cons.mpr ⟨trivial, List.forall_mem_cons.mpr ⟨trivial, List.forall_mem_cons.mpr ⟨trivial, fun _ h => absurd h List.not_mem_nil⟩⟩⟩⟩⟩⟩⟩⟩⟩⟩⟩⟩⟩⟩⟩⟩⟩⟩⟩⟩⟩⟩⟩⟩⟩⟩⟩⟩⟩⟩⟩
def k_TV_factor : xCd := [
  (0, .iload_n 1, 1, .inl (0, 0)),
  (1, .invokestatic 167, 3, .inr (.inl g_TV_isSetOfRegisters)),
  (4, .ifCond .eq 14, 3, .inl (18, 0)),
  (7, .iload_n 2, 1, .inl (0, 0)),
  (8, .invokestatic 116, 3, .inr (.inl g_TV_isRegister)),
  (11, .ifCond .eq 7, 3, .inl (18, 0)),
  (14, .iload_n 3, 1, .inl (0, 0)),
  (15, .ifCond .ge 5, 3, .inl (20, 0)),
  (18, .iconst (-1), 1, .inr (.inr (.inl (-1)))),
  (19, .ireturn, 1, .inl (0, 0)),
  (20, .aload_n 0, 1, .inl (0, 0)),
  (21, .getfield 47, 3, .inl (8, 5)),
  (24, .aload_n 0, 1, .inl (0, 0)),
  (25, .getfield 12, 3, .inl (8, 0)),
  (28, .iload_n 1, 1, .inl (0, 0)),
  (29, .invokevirtual 170, 3, .inr (.inl g_Sea_spread)),
  (32, .aload_n 0, 1, .inl (0, 0)),
  (33, .getfield 12, 3, .inl (8, 0)),
  (36, .getfield 133, 3, .inl (5, 2)),
  (39, .iload_n 2, 1, .inl (0, 0)),
  (40, .iaload, 1, .inl (0, 0)),
  (41, .istore 4, 2, .inl (0, 0)),
  (43, .iload_n 3, 1, .inl (0, 0)),
  (44, .aload_n 0, 1, .inl (0, 0)),
  (45, .getfield 47, 3, .inl (8, 5)),
  (48, .iload 4, 2, .inl (0, 0)),
  (50, .invokevirtual 175, 3, .inr (.inl g_Sea_depthOf)),
  (53, .if_icmp .ge 16, 3, .inl (69, 0)),
  (56, .aload_n 0, 1, .inl (0, 0)),
  (57, .getfield 47, 3, .inl (8, 5)),
  (60, .iload 4, 2, .inl (0, 0)),
  (62, .iload_n 3, 1, .inl (0, 0)),
  (63, .invokevirtual 178, 3, .inr (.inl g_Sea_factorAt)),
  (66, .goto 5, 3, .inl (71, 0)),
  (69, .bipush (-9), 2, .inr (.inr (.inl (-9)))),
  (71, .ireturn, 1, .inl (0, 0))]
set_option maxRecDepth 100000 in
set_option maxHeartbeats 4000000 in
theorem ok_TV_factor : xOK g_TV_factor k_TV_factor := ⟨by decide +kernel, by decide +kernel, List.forall_mem_cons.mpr ⟨trivial, List.forall_mem_cons.mpr ⟨⟨ml_TV_167, xms_TV_isSetOfRegisters⟩, List.forall_mem_cons.mpr ⟨trivial, List.forall_mem_cons.mpr ⟨trivial, List.forall_mem_cons.mpr ⟨⟨ml_TV_116, xms_TV_isRegister⟩, List.forall_mem_cons.mpr ⟨trivial, List.forall_mem_cons.mpr ⟨trivial, List.forall_mem_cons.mpr ⟨trivial, List.forall_mem_cons.mpr ⟨trivial, List.forall_mem_cons.mpr ⟨trivial, List.forall_mem_cons.mpr ⟨trivial, List.forall_mem_cons.mpr ⟨fl_TV_47, List.forall_mem_cons.mpr ⟨trivial, List.forall_mem_cons.mpr ⟨fl_TV_12, List.forall_mem_cons.mpr ⟨trivial, List.forall_mem_cons.mpr ⟨⟨ml_TV_170, xmv_Sea_spread⟩, List.forall_mem_cons.mpr ⟨trivial, List.forall_mem_cons.mpr ⟨fl_TV_12, List.forall_mem_cons.mpr ⟨fl_TV_133, List.forall_mem_cons.mpr ⟨trivial, List.forall_mem_cons.mpr ⟨trivial, List.forall_mem_cons.mpr ⟨trivial, List.forall_mem_cons.mpr ⟨trivial, List.forall_mem_cons.mpr ⟨trivial, List.forall_mem_cons.mpr ⟨fl_TV_47, List.forall_mem_cons.mpr ⟨trivial, List.forall_mem_cons.mpr ⟨⟨ml_TV_175, xmv_Sea_depthOf⟩, List.forall_mem_cons.mpr ⟨trivial, List.forall_mem_cons.mpr ⟨trivial, List.forall_mem_cons.mpr ⟨fl_TV_47, List.forall_mem_cons.mpr ⟨trivial, List.forall_mem_cons.mpr ⟨trivial, List.forall_mem_cons.mpr ⟨⟨ml_TV_178, xmv_Sea_factorAt⟩, List.forall_mem_cons.mpr ⟨trivial, List.forall_mem_cons.mpr ⟨trivial, List.forall_mem_cons.mpr ⟨trivial, fun _ h => absurd h List.not_mem_nil⟩⟩⟩⟩⟩⟩⟩⟩⟩⟩⟩⟩⟩⟩⟩⟩⟩⟩⟩⟩⟩⟩⟩⟩⟩⟩⟩⟩⟩⟩⟩⟩⟩⟩⟩⟩⟩
def k_TV_add : xCd := [
  (0, .iload_n 1, 1, .inl (0, 0)),
  (1, .invokestatic 116, 3, .inr (.inl g_TV_isRegister)),
  (4, .ifCond .ne 5, 3, .inl (9, 0)),
  (7, .iconst (-1), 1, .inr (.inr (.inl (-1)))),
  (8, .ireturn, 1, .inl (0, 0)),
  (9, .aload_n 0, 1, .inl (0, 0)),
  (10, .getfield 12, 3, .inl (8, 0)),
  (13, .getfield 102, 3, .inl (5, 3)),
  (16, .astore_n 2, 1, .inl (0, 0)),
  (17, .aload_n 2, 1, .inl (0, 0)),
  (18, .getfield 113, 3, .inl (2, 0)),
  (21, .bipush 8, 2, .inr (.inr (.inl (nI 8)))),
  (23, .if_icmp .lt 6, 3, .inl (29, 0)),
  (26, .bipush (-3), 2, .inr (.inr (.inl (-3)))),
  (28, .ireturn, 1, .inl (0, 0)),
  (29, .aload_n 0, 1, .inl (0, 0)),
  (30, .getfield 19, 3, .inl (8, 1)),
  (33, .aload_n 0, 1, .inl (0, 0)),
  (34, .getfield 12, 3, .inl (8, 0)),
  (37, .invokevirtual 62, 3, .inr (.inl g_Hist_remember)),
  (40, .aload_n 2, 1, .inl (0, 0)),
  (41, .getfield 113, 3, .inl (2, 0)),
  (44, .ifCond .ne 20, 3, .inl (64, 0)),
  (47, .aload_n 2, 1, .inl (0, 0)),
  (48, .aload_n 0, 1, .inl (0, 0)),
  (49, .getfield 12, 3, .inl (8, 0)),
  (52, .getfield 66, 3, .inl (5, 0)),
  (55, .invokestatic 181, 3, .inr (.inl g_Row_ascending)),
  (58, .invokevirtual 184, 3, .inr (.inl g_Poem_append)),
  (61, .goto 37, 3, .inl (98, 0)),
  (64, .aload_n 2, 1, .inl (0, 0)),
  (65, .aload_n 2, 1, .inl (0, 0)),
  (66, .getfield 185, 3, .inl (2, 2)),
  (69, .aload_n 2, 1, .inl (0, 0)),
  (70, .getfield 113, 3, .inl (2, 0)),
  (73, .iconst 1, 1, .inr (.inr (.inl (nI 1)))),
  (74, .isub, 1, .inl (0, 0)),
  (75, .iaload, 1, .inl (0, 0)),
  (76, .aload_n 0, 1, .inl (0, 0)),
  (77, .getfield 12, 3, .inl (8, 0)),
  (80, .getfield 133, 3, .inl (5, 2)),
  (83, .iload_n 1, 1, .inl (0, 0)),
  (84, .iaload, 1, .inl (0, 0)),
  (85, .aload_n 0, 1, .inl (0, 0)),
  (86, .getfield 12, 3, .inl (8, 0)),
  (89, .getfield 66, 3, .inl (5, 0)),
  (92, .invokestatic 136, 3, .inr (.inl g_Row_turned)),
  (95, .invokevirtual 184, 3, .inr (.inl g_Poem_append)),
  (98, .aload_n 2, 1, .inl (0, 0)),
  (99, .getfield 113, 3, .inl (2, 0)),
  (102, .ireturn, 1, .inl (0, 0))]
set_option maxRecDepth 100000 in
set_option maxHeartbeats 4000000 in
theorem ok_TV_add : xOK g_TV_add k_TV_add := ⟨by decide +kernel, by decide +kernel, List.forall_mem_cons.mpr ⟨trivial, List.forall_mem_cons.mpr ⟨⟨ml_TV_116, xms_TV_isRegister⟩, List.forall_mem_cons.mpr ⟨trivial, List.forall_mem_cons.mpr ⟨trivial, List.forall_mem_cons.mpr ⟨trivial, List.forall_mem_cons.mpr ⟨trivial, List.forall_mem_cons.mpr ⟨fl_TV_12, List.forall_mem_cons.mpr ⟨fl_TV_102, List.forall_mem_cons.mpr ⟨trivial, List.forall_mem_cons.mpr ⟨trivial, List.forall_mem_cons.mpr ⟨fl_TV_113, List.forall_mem_cons.mpr ⟨trivial, List.forall_mem_cons.mpr ⟨trivial, List.forall_mem_cons.mpr ⟨trivial, List.forall_mem_cons.mpr ⟨trivial, List.forall_mem_cons.mpr ⟨trivial, List.forall_mem_cons.mpr ⟨fl_TV_19, List.forall_mem_cons.mpr ⟨trivial, List.forall_mem_cons.mpr ⟨fl_TV_12, List.forall_mem_cons.mpr ⟨⟨ml_TV_62, xmv_Hist_remember⟩, List.forall_mem_cons.mpr ⟨trivial, List.forall_mem_cons.mpr ⟨fl_TV_113, List.forall_mem_cons.mpr ⟨trivial, List.forall_mem_cons.mpr ⟨trivial, List.forall_mem_cons.mpr ⟨trivial, List.forall_mem_cons.mpr ⟨fl_TV_12, List.forall_mem_cons.mpr ⟨fl_TV_66, List.forall_mem_cons.mpr ⟨⟨ml_TV_181, xms_Row_ascending⟩, List.forall_mem_cons.mpr ⟨⟨ml_TV_184, xmv_Poem_append⟩, List.forall_mem_cons.mpr ⟨trivial, List.forall_mem_cons.mpr ⟨trivial, List.forall_mem_cons.mpr ⟨trivial, List.forall_mem_cons.mpr ⟨fl_TV_185, List.forall_mem_cons.mpr ⟨trivial, List.forall_mem_cons.mpr ⟨fl_TV_113, List.forall_mem_cons.mpr ⟨trivial, List.forall_mem_cons.mpr ⟨trivial, List.forall_mem_cons.mpr ⟨trivial, List.forall_mem_cons.mpr ⟨trivial, List.forall_mem_cons.mpr ⟨fl_TV_12, List.forall_mem_cons.mpr ⟨fl_TV_133, List.forall_mem_cons.mpr ⟨trivial, List.forall_mem_cons.mpr ⟨trivial, List.forall_mem_cons.mpr ⟨trivial, List.forall_mem_cons.mpr ⟨fl_TV_12, List.forall_mem_cons.mpr ⟨fl_TV_66, List.forall_mem_cons.mpr ⟨⟨ml_TV_136, xms_Row_turned⟩, List.forall_mem_cons.mpr ⟨⟨ml_TV_184, xmv_Poem_append⟩, List.forall_mem_cons.mpr ⟨trivial, List.forall_mem_cons.mpr ⟨fl_TV_113, List.forall_mem_cons.mpr ⟨trivial, fun _ h => absurd h List.not_mem_nil⟩⟩⟩⟩⟩⟩⟩⟩⟩⟩⟩⟩⟩⟩⟩⟩⟩⟩⟩⟩⟩⟩⟩⟩⟩⟩⟩⟩⟩⟩⟩⟩⟩⟩⟩⟩⟩⟩⟩⟩⟩⟩⟩⟩⟩⟩⟩⟩⟩⟩⟩⟩
def k_TV_drop : xCd := [
  (0, .aload_n 0, 1, .inl (0, 0)),
  (1, .getfield 12, 3, .inl (8, 0)),
  (4, .getfield 102, 3, .inl (5, 3)),
  (7, .getfield 113, 3, .inl (2, 0)),
  (10, .ifCond .ne 6, 3, .inl (16, 0)),
  (13, .bipush (-2), 2, .inr (.inr (.inl (-2)))),
  (15, .ireturn, 1, .inl (0, 0)),
  (16, .aload_n 0, 1, .inl (0, 0)),
  (17, .getfield 19, 3, .inl (8, 1)),
  (20, .aload_n 0, 1, .inl (0, 0)),
  (21, .getfield 12, 3, .inl (8, 0)),
  (24, .invokevirtual 62, 3, .inr (.inl g_Hist_remember)),
  (27, .aload_n 0, 1, .inl (0, 0)),
  (28, .getfield 12, 3, .inl (8, 0)),
  (31, .getfield 102, 3, .inl (5, 3)),
  (34, .dup, 1, .inl (0, 0)),
  (35, .getfield 113, 3, .inl (2, 0)),
  (38, .iconst 1, 1, .inr (.inr (.inl (nI 1)))),
  (39, .isub, 1, .inl (0, 0)),
  (40, .putfield 113, 3, .inl (2, 0)),
  (43, .aload_n 0, 1, .inl (0, 0)),
  (44, .getfield 12, 3, .inl (8, 0)),
  (47, .getfield 102, 3, .inl (5, 3)),
  (50, .getfield 113, 3, .inl (2, 0)),
  (53, .ireturn, 1, .inl (0, 0))]
set_option maxRecDepth 100000 in
set_option maxHeartbeats 4000000 in
theorem ok_TV_drop : xOK g_TV_drop k_TV_drop := ⟨by decide +kernel, by decide +kernel, List.forall_mem_cons.mpr ⟨trivial, List.forall_mem_cons.mpr ⟨fl_TV_12, List.forall_mem_cons.mpr ⟨fl_TV_102, List.forall_mem_cons.mpr ⟨fl_TV_113, List.forall_mem_cons.mpr ⟨trivial, List.forall_mem_cons.mpr ⟨trivial, List.forall_mem_cons.mpr ⟨trivial, List.forall_mem_cons.mpr ⟨trivial, List.forall_mem_cons.mpr ⟨fl_TV_19, List.forall_mem_cons.mpr ⟨trivial, List.forall_mem_cons.mpr ⟨fl_TV_12, List.forall_mem_cons.mpr ⟨⟨ml_TV_62, xmv_Hist_remember⟩, List.forall_mem_cons.mpr ⟨trivial, List.forall_mem_cons.mpr ⟨fl_TV_12, List.forall_mem_cons.mpr ⟨fl_TV_102, List.forall_mem_cons.mpr ⟨trivial, List.forall_mem_cons.mpr ⟨fl_TV_113, List.forall_mem_cons.mpr ⟨trivial, List.forall_mem_cons.mpr ⟨trivial, List.forall_mem_cons.mpr ⟨⟨fl_TV_113, nf_2_0 _⟩, List.forall_mem_cons.mpr ⟨trivial, List.forall_mem_cons.mpr ⟨fl_TV_12, List.forall_mem_cons.mpr ⟨fl_TV_102, List.forall_mem_cons.mpr ⟨fl_TV_113, List.forall_mem_cons.mpr ⟨trivial, fun _ h => absurd h List.not_mem_nil⟩⟩⟩⟩⟩⟩⟩⟩⟩⟩⟩⟩⟩⟩⟩⟩⟩⟩⟩⟩⟩⟩⟩⟩⟩⟩
def k_TV_isStanza : xCd := [
  (0, .iload_n 1, 1, .inl (0, 0)),
  (1, .ifCond .lt 21, 3, .inl (22, 0)),
  (4, .iload_n 1, 1, .inl (0, 0)),
  (5, .aload_n 0, 1, .inl (0, 0)),
  (6, .getfield 12, 3, .inl (8, 0)),
  (9, .getfield 102, 3, .inl (5, 3)),
  (12, .getfield 113, 3, .inl (2, 0)),
  (15, .if_icmp .ge 7, 3, .inl (22, 0)),
  (18, .iconst 1, 1, .inr (.inr (.inl (nI 1)))),
  (19, .goto 4, 3, .inl (23, 0)),
  (22, .iconst 0, 1, .inr (.inr (.inl (nI 0)))),
  (23, .ireturn, 1, .inl (0, 0))]
set_option maxRecDepth 100000 in
set_option maxHeartbeats 4000000 in
theorem ok_TV_isStanza : xOK g_TV_isStanza k_TV_isStanza := ⟨by decide +kernel, by decide +kernel, List.forall_mem_cons.mpr ⟨trivial, List.forall_mem_cons.mpr ⟨trivial, List.forall_mem_cons.mpr ⟨trivial, List.forall_mem_cons.mpr ⟨trivial, List.forall_mem_cons.mpr ⟨fl_TV_12, List.forall_mem_cons.mpr ⟨fl_TV_102, List.forall_mem_cons.mpr ⟨fl_TV_113, List.forall_mem_cons.mpr ⟨trivial, List.forall_mem_cons.mpr ⟨trivial, List.forall_mem_cons.mpr ⟨trivial, List.forall_mem_cons.mpr ⟨trivial, List.forall_mem_cons.mpr ⟨trivial, fun _ h => absurd h List.not_mem_nil⟩⟩⟩⟩⟩⟩⟩⟩⟩⟩⟩⟩⟩
def k_TV_put : xCd := [
  (0, .aload_n 0, 1, .inl (0, 0)),
  (1, .iload_n 1, 1, .inl (0, 0)),
  (2, .invokevirtual 188, 3, .inr (.inl g_TV_isStanza)),
  (5, .ifCond .eq 19, 3, .inl (24, 0)),
  (8, .aload_n 0, 1, .inl (0, 0)),
  (9, .iload_n 2, 1, .inl (0, 0)),
  (10, .invokevirtual 74, 3, .inr (.inl g_TV_isLine)),
  (13, .ifCond .eq 11, 3, .inl (24, 0)),
  (16, .aload_n 0, 1, .inl (0, 0)),
  (17, .iload_n 3, 1, .inl (0, 0)),
  (18, .invokevirtual 74, 3, .inr (.inl g_TV_isLine)),
  (21, .ifCond .ne 5, 3, .inl (26, 0)),
  (24, .iconst (-1), 1, .inr (.inr (.inl (-1)))),
  (25, .ireturn, 1, .inl (0, 0)),
  (26, .aload_n 0, 1, .inl (0, 0)),
  (27, .getfield 19, 3, .inl (8, 1)),
  (30, .aload_n 0, 1, .inl (0, 0)),
  (31, .getfield 12, 3, .inl (8, 0)),
  (34, .invokevirtual 62, 3, .inr (.inl g_Hist_remember)),
  (37, .aload_n 0, 1, .inl (0, 0)),
  (38, .getfield 12, 3, .inl (8, 0)),
  (41, .getfield 102, 3, .inl (5, 3)),
  (44, .getfield 185, 3, .inl (2, 2)),
  (47, .iload_n 1, 1, .inl (0, 0)),
  (48, .iaload, 1, .inl (0, 0)),
  (49, .istore 4, 2, .inl (0, 0)),
  (51, .aload_n 0, 1, .inl (0, 0)),
  (52, .getfield 12, 3, .inl (8, 0)),
  (55, .getfield 102, 3, .inl (5, 3)),
  (58, .getfield 185, 3, .inl (2, 2)),
  (61, .iload_n 1, 1, .inl (0, 0)),
  (62, .iload 4, 2, .inl (0, 0)),
  (64, .iload_n 2, 1, .inl (0, 0)),
  (65, .iload_n 3, 1, .inl (0, 0)),
  (66, .invokestatic 87, 3, .inr (.inl g_Row_with)),
  (69, .iastore, 1, .inl (0, 0)),
  (70, .iload 4, 2, .inl (0, 0)),
  (72, .iload_n 2, 1, .inl (0, 0)),
  (73, .invokestatic 81, 3, .inr (.inl g_Row_entry)),
  (76, .ireturn, 1, .inl (0, 0))]
set_option maxRecDepth 100000 in
set_option maxHeartbeats 4000000 in
theorem ok_TV_put : xOK g_TV_put k_TV_put := ⟨by decide +kernel, by decide +kernel, List.forall_mem_cons.mpr ⟨trivial, List.forall_mem_cons.mpr ⟨trivial, List.forall_mem_cons.mpr ⟨⟨ml_TV_188, xmv_TV_isStanza⟩, List.forall_mem_cons.mpr ⟨trivial, List.forall_mem_cons.mpr ⟨trivial, List.forall_mem_cons.mpr ⟨trivial, List.forall_mem_cons.mpr ⟨⟨ml_TV_74, xmv_TV_isLine⟩, List.forall_mem_cons.mpr ⟨trivial, List.forall_mem_cons.mpr ⟨trivial, List.forall_mem_cons.mpr ⟨trivial, List.forall_mem_cons.mpr ⟨⟨ml_TV_74, xmv_TV_isLine⟩, List.forall_mem_cons.mpr ⟨trivial, List.forall_mem_cons.mpr ⟨trivial, List.forall_mem_cons.mpr ⟨trivial, List.forall_mem_cons.mpr ⟨trivial, List.forall_mem_cons.mpr ⟨fl_TV_19, List.forall_mem_cons.mpr ⟨trivial, List.forall_mem_cons.mpr ⟨fl_TV_12, List.forall_mem_cons.mpr ⟨⟨ml_TV_62, xmv_Hist_remember⟩, List.forall_mem_cons.mpr ⟨trivial, List.forall_mem_cons.mpr ⟨fl_TV_12, List.forall_mem_cons.mpr ⟨fl_TV_102, List.forall_mem_cons.mpr ⟨fl_TV_185, List.forall_mem_cons.mpr ⟨trivial, List.forall_mem_cons.mpr ⟨trivial, List.forall_mem_cons.mpr ⟨trivial, List.forall_mem_cons.mpr ⟨trivial, List.forall_mem_cons.mpr ⟨fl_TV_12, List.forall_mem_cons.mpr ⟨fl_TV_102, List.forall_mem_cons.mpr ⟨fl_TV_185, List.forall_mem_cons.mpr ⟨trivial, List.forall_mem_cons.mpr ⟨trivial, List.forall_mem_cons.mpr ⟨trivial, List.forall_mem_cons.mpr ⟨trivial, List.forall_mem_cons.mpr ⟨⟨ml_TV_87, xms_Row_with⟩, List.forall_mem_cons.mpr ⟨trivial, List.forall_mem_cons.mpr ⟨trivial, List.forall_mem_cons.mpr ⟨trivial, List.forall_mem_cons.mpr ⟨⟨ml_TV_81, xms_Row_entry⟩, List.forall_mem_cons.mpr ⟨trivial, fun _ h => absurd h List.not_mem_nil⟩⟩⟩⟩⟩⟩⟩⟩⟩⟩⟩⟩⟩⟩⟩⟩⟩⟩⟩⟩⟩⟩⟩⟩⟩⟩⟩⟩⟩⟩⟩⟩⟩⟩⟩⟩⟩⟩⟩⟩⟩
def k_TV_lock : xCd := [
  (0, .aload_n 0, 1, .inl (0, 0)),
  (1, .iload_n 1, 1, .inl (0, 0)),
  (2, .invokevirtual 188, 3, .inr (.inl g_TV_isStanza)),
  (5, .ifCond .eq 11, 3, .inl (16, 0)),
  (8, .aload_n 0, 1, .inl (0, 0)),
  (9, .iload_n 2, 1, .inl (0, 0)),
  (10, .invokevirtual 74, 3, .inr (.inl g_TV_isLine)),
  (13, .ifCond .ne 5, 3, .inl (18, 0)),
  (16, .iconst (-1), 1, .inr (.inr (.inl (-1)))),
  (17, .ireturn, 1, .inl (0, 0)),
  (18, .aload_n 0, 1, .inl (0, 0)),
  (19, .getfield 19, 3, .inl (8, 1)),
  (22, .aload_n 0, 1, .inl (0, 0)),
  (23, .getfield 12, 3, .inl (8, 0)),
  (26, .invokevirtual 62, 3, .inr (.inl g_Hist_remember)),
  (29, .aload_n 0, 1, .inl (0, 0)),
  (30, .getfield 12, 3, .inl (8, 0)),
  (33, .getfield 102, 3, .inl (5, 3)),
  (36, .getfield 191, 3, .inl (2, 3)),
  (39, .iload_n 1, 1, .inl (0, 0)),
  (40, .iaload, 1, .inl (0, 0)),
  (41, .istore 4, 2, .inl (0, 0)),
  (43, .iconst 1, 1, .inr (.inr (.inl (nI 1)))),
  (44, .iload_n 2, 1, .inl (0, 0)),
  (45, .ishl, 1, .inl (0, 0)),
  (46, .istore 5, 2, .inl (0, 0)),
  (48, .aload_n 0, 1, .inl (0, 0)),
  (49, .getfield 12, 3, .inl (8, 0)),
  (52, .getfield 102, 3, .inl (5, 3)),
  (55, .getfield 191, 3, .inl (2, 3)),
  (58, .iload_n 1, 1, .inl (0, 0)),
  (59, .iload_n 3, 1, .inl (0, 0)),
  (60, .ifCond .eq 11, 3, .inl (71, 0)),
  (63, .iload 4, 2, .inl (0, 0)),
  (65, .iload 5, 2, .inl (0, 0)),
  (67, .ior, 1, .inl (0, 0)),
  (68, .goto 10, 3, .inl (78, 0)),
  (71, .iload 4, 2, .inl (0, 0)),
  (73, .iload 5, 2, .inl (0, 0)),
  (75, .iconst (-1), 1, .inr (.inr (.inl (-1)))),
  (76, .ixor, 1, .inl (0, 0)),
  (77, .iand, 1, .inl (0, 0)),
  (78, .iastore, 1, .inl (0, 0)),
  (79, .iload 4, 2, .inl (0, 0)),
  (81, .iload_n 2, 1, .inl (0, 0)),
  (82, .ishr, 1, .inl (0, 0)),
  (83, .iconst 1, 1, .inr (.inr (.inl (nI 1)))),
  (84, .iand, 1, .inl (0, 0)),
  (85, .ireturn, 1, .inl (0, 0))]
set_option maxRecDepth 100000 in
set_option maxHeartbeats 4000000 in
theorem ok_TV_lock : xOK g_TV_lock k_TV_lock := ⟨by decide +kernel, by decide +kernel, List.forall_mem_cons.mpr ⟨trivial, List.forall_mem_cons.mpr ⟨trivial, List.forall_mem_cons.mpr ⟨⟨ml_TV_188, xmv_TV_isStanza⟩, List.forall_mem_cons.mpr ⟨trivial, List.forall_mem_cons.mpr ⟨trivial, List.forall_mem_cons.mpr ⟨trivial, List.forall_mem_cons.mpr ⟨⟨ml_TV_74, xmv_TV_isLine⟩, List.forall_mem_cons.mpr ⟨trivial, List.forall_mem_cons.mpr ⟨trivial, List.forall_mem_cons.mpr ⟨trivial, List.forall_mem_cons.mpr ⟨trivial, List.forall_mem_cons.mpr ⟨fl_TV_19, List.forall_mem_cons.mpr ⟨trivial, List.forall_mem_cons.mpr ⟨fl_TV_12, List.forall_mem_cons.mpr ⟨⟨ml_TV_62, xmv_Hist_remember⟩, List.forall_mem_cons.mpr ⟨trivial, List.forall_mem_cons.mpr ⟨fl_TV_12, List.forall_mem_cons.mpr ⟨fl_TV_102, List.forall_mem_cons.mpr ⟨fl_TV_191, List.forall_mem_cons.mpr ⟨trivial, List.forall_mem_cons.mpr ⟨trivial, List.forall_mem_cons.mpr ⟨trivial, List.forall_mem_cons.mpr ⟨trivial, List.forall_mem_cons.mpr ⟨trivial, List.forall_mem_cons.mpr ⟨trivial, List.forall_mem_cons.mpr ⟨trivial, List.forall_mem_cons.mpr ⟨trivial, List.forall_mem_cons.mpr ⟨fl_TV_12, List.forall_mem_cons.mpr ⟨fl_TV_102, List.forall_mem_cons.mpr ⟨fl_TV_191, List.forall_mem_cons.mpr ⟨trivial, List.forall_mem_cons.mpr ⟨trivial, List.forall_mem_cons.mpr ⟨trivial, List.forall_mem_cons.mpr ⟨trivial, List.forall_mem_cons.mpr ⟨trivial, List.forall_mem_cons.mpr ⟨trivial, List.forall_mem_cons.mpr ⟨trivial, List.forall_mem_cons.mpr ⟨trivial, List.forall_mem_cons.mpr ⟨trivial, List.forall_mem_cons.mpr ⟨trivial, List.forall_mem_cons.mpr ⟨trivial, List.forall_mem_cons.mpr ⟨trivial, List.forall_mem_cons.mpr ⟨trivial, List.forall_mem_cons.mpr ⟨trivial, List.forall_mem_cons.mpr ⟨trivial, List.forall_mem_cons.mpr ⟨trivial, List.forall_mem_cons.mpr ⟨trivial, List.forall_mem_cons.mpr ⟨trivial, List.forall_mem_cons.mpr ⟨trivial, fun _ h => absurd h List.not_mem_nil⟩⟩⟩⟩⟩⟩⟩⟩⟩⟩⟩⟩⟩⟩⟩⟩⟩⟩⟩⟩⟩⟩⟩⟩⟩⟩⟩⟩⟩⟩⟩⟩⟩⟩⟩⟩⟩⟩⟩⟩⟩⟩⟩⟩⟩⟩⟩⟩⟩⟩
def k_TV_word : xCd := [
  (0, .aload_n 0, 1, .inl (0, 0)),
  (1, .iload_n 1, 1, .inl (0, 0)),
  (2, .invokevirtual 188, 3, .inr (.inl g_TV_isStanza)),
  (5, .ifCond .eq 11, 3, .inl (16, 0)),
  (8, .aload_n 0, 1, .inl (0, 0)),
  (9, .iload_n 2, 1, .inl (0, 0)),
  (10, .invokevirtual 74, 3, .inr (.inl g_TV_isLine)),
  (13, .ifCond .ne 5, 3, .inl (18, 0)),
  (16, .iconst (-1), 1, .inr (.inr (.inl (-1)))),
  (17, .ireturn, 1, .inl (0, 0)),
  (18, .aload_n 0, 1, .inl (0, 0)),
  (19, .getfield 12, 3, .inl (8, 0)),
  (22, .getfield 102, 3, .inl (5, 3)),
  (25, .getfield 185, 3, .inl (2, 2)),
  (28, .iload_n 1, 1, .inl (0, 0)),
  (29, .iaload, 1, .inl (0, 0)),
  (30, .iload_n 2, 1, .inl (0, 0)),
  (31, .invokestatic 81, 3, .inr (.inl g_Row_entry)),
  (34, .ireturn, 1, .inl (0, 0))]
set_option maxRecDepth 100000 in
set_option maxHeartbeats 4000000 in
theorem ok_TV_word : xOK g_TV_word k_TV_word := ⟨by decide +kernel, by decide +kernel, List.forall_mem_cons.mpr ⟨trivial, List.forall_mem_cons.mpr ⟨trivial, List.forall_mem_cons.mpr ⟨⟨ml_TV_188, xmv_TV_isStanza⟩, List.forall_mem_cons.mpr ⟨trivial, List.forall_mem_cons.mpr ⟨trivial, List.forall_mem_cons.mpr ⟨trivial, List.forall_mem_cons.mpr ⟨⟨ml_TV_74, xmv_TV_isLine⟩, List.forall_mem_cons.mpr ⟨trivial, List.forall_mem_cons.mpr ⟨trivial, List.forall_mem_cons.mpr ⟨trivial, List.forall_mem_cons.mpr ⟨trivial, List.forall_mem_cons.mpr ⟨fl_TV_12, List.forall_mem_cons.mpr ⟨fl_TV_102, List.forall_mem_cons.mpr ⟨fl_TV_185, List.forall_mem_cons.mpr ⟨trivial, List.forall_mem_cons.mpr ⟨trivial, List.forall_mem_cons.mpr ⟨trivial, List.forall_mem_cons.mpr ⟨⟨ml_TV_81, xms_Row_entry⟩, List.forall_mem_cons.mpr ⟨trivial, fun _ h => absurd h List.not_mem_nil⟩⟩⟩⟩⟩⟩⟩⟩⟩⟩⟩⟩⟩⟩⟩⟩⟩⟩⟩⟩
def k_TV_proper : xCd := [
  (0, .aload_n 0, 1, .inl (0, 0)),
  (1, .iload_n 1, 1, .inl (0, 0)),
  (2, .invokevirtual 188, 3, .inr (.inl g_TV_isStanza)),
  (5, .ifCond .ne 5, 3, .inl (10, 0)),
  (8, .iconst (-1), 1, .inr (.inr (.inl (-1)))),
  (9, .ireturn, 1, .inl (0, 0)),
  (10, .aload_n 0, 1, .inl (0, 0)),
  (11, .getfield 12, 3, .inl (8, 0)),
  (14, .getfield 102, 3, .inl (5, 3)),
  (17, .getfield 185, 3, .inl (2, 2)),
  (20, .iload_n 1, 1, .inl (0, 0)),
  (21, .iaload, 1, .inl (0, 0)),
  (22, .aload_n 0, 1, .inl (0, 0)),
  (23, .getfield 12, 3, .inl (8, 0)),
  (26, .getfield 66, 3, .inl (5, 0)),
  (29, .invokestatic 194, 3, .inr (.inl g_Row_hasEach)),
  (32, .ifCond .eq 7, 3, .inl (39, 0)),
  (35, .iconst 1, 1, .inr (.inr (.inl (nI 1)))),
  (36, .goto 4, 3, .inl (40, 0)),
  (39, .iconst 0, 1, .inr (.inr (.inl (nI 0)))),
  (40, .ireturn, 1, .inl (0, 0))]
set_option maxRecDepth 100000 in
set_option maxHeartbeats 4000000 in
theorem ok_TV_proper : xOK g_TV_proper k_TV_proper := ⟨by decide +kernel, by decide +kernel, List.forall_mem_cons.mpr ⟨trivial, List.forall_mem_cons.mpr ⟨trivial, List.forall_mem_cons.mpr ⟨⟨ml_TV_188, xmv_TV_isStanza⟩, List.forall_mem_cons.mpr ⟨trivial, List.forall_mem_cons.mpr ⟨trivial, List.forall_mem_cons.mpr ⟨trivial, List.forall_mem_cons.mpr ⟨trivial, List.forall_mem_cons.mpr ⟨fl_TV_12, List.forall_mem_cons.mpr ⟨fl_TV_102, List.forall_mem_cons.mpr ⟨fl_TV_185, List.forall_mem_cons.mpr ⟨trivial, List.forall_mem_cons.mpr ⟨trivial, List.forall_mem_cons.mpr ⟨trivial, List.forall_mem_cons.mpr ⟨fl_TV_12, List.forall_mem_cons.mpr ⟨fl_TV_66, List.forall_mem_cons.mpr ⟨⟨ml_TV_194, xms_Row_hasEach⟩, List.forall_mem_cons.mpr ⟨trivial, List.forall_mem_cons.mpr ⟨trivial, List.forall_mem_cons.mpr ⟨trivial, List.forall_mem_cons.mpr ⟨trivial, List.forall_mem_cons.mpr ⟨trivial, fun _ h => absurd h List.not_mem_nil⟩⟩⟩⟩⟩⟩⟩⟩⟩⟩⟩⟩⟩⟩⟩⟩⟩⟩⟩⟩⟩⟩
def k_TV_turning : xCd := [
  (0, .aload_n 0, 1, .inl (0, 0)),
  (1, .iload_n 1, 1, .inl (0, 0)),
  (2, .invokevirtual 188, 3, .inr (.inl g_TV_isStanza)),
  (5, .ifCond .ne 5, 3, .inl (10, 0)),
  (8, .iconst (-1), 1, .inr (.inr (.inl (-1)))),
  (9, .ireturn, 1, .inl (0, 0)),
  (10, .aload_n 0, 1, .inl (0, 0)),
  (11, .getfield 12, 3, .inl (8, 0)),
  (14, .getfield 102, 3, .inl (5, 3)),
  (17, .iload_n 1, 1, .inl (0, 0)),
  (18, .aload_n 0, 1, .inl (0, 0)),
  (19, .getfield 12, 3, .inl (8, 0)),
  (22, .getfield 66, 3, .inl (5, 0)),
  (25, .invokevirtual 198, 3, .inr (.inl g_Poem_turnBehind)),
  (28, .istore_n 2, 1, .inl (0, 0)),
  (29, .iload_n 2, 1, .inl (0, 0)),
  (30, .iconst (-1), 1, .inr (.inr (.inl (-1)))),
  (31, .if_icmp .ne 8, 3, .inl (39, 0)),
  (34, .bipush (-9), 2, .inr (.inr (.inl (-9)))),
  (36, .goto 14, 3, .inl (50, 0)),
  (39, .iload_n 2, 1, .inl (0, 0)),
  (40, .aload_n 0, 1, .inl (0, 0)),
  (41, .getfield 12, 3, .inl (8, 0)),
  (44, .getfield 66, 3, .inl (5, 0)),
  (47, .invokestatic 201, 3, .inr (.inl g_Perm_number)),
  (50, .ireturn, 1, .inl (0, 0))]
set_option maxRecDepth 100000 in
set_option maxHeartbeats 4000000 in
theorem ok_TV_turning : xOK g_TV_turning k_TV_turning := ⟨by decide +kernel, by decide +kernel, List.forall_mem_cons.mpr ⟨trivial, List.forall_mem_cons.mpr ⟨trivial, List.forall_mem_cons.mpr ⟨⟨ml_TV_188, xmv_TV_isStanza⟩, List.forall_mem_cons.mpr ⟨trivial, List.forall_mem_cons.mpr ⟨trivial, List.forall_mem_cons.mpr ⟨trivial, List.forall_mem_cons.mpr ⟨trivial, List.forall_mem_cons.mpr ⟨fl_TV_12, List.forall_mem_cons.mpr ⟨fl_TV_102, List.forall_mem_cons.mpr ⟨trivial, List.forall_mem_cons.mpr ⟨trivial, List.forall_mem_cons.mpr ⟨fl_TV_12, List.forall_mem_cons.mpr ⟨fl_TV_66, List.forall_mem_cons.mpr ⟨⟨ml_TV_198, xmv_Poem_turnBehind⟩, List.forall_mem_cons.mpr ⟨trivial, List.forall_mem_cons.mpr ⟨trivial, List.forall_mem_cons.mpr ⟨trivial, List.forall_mem_cons.mpr ⟨trivial, List.forall_mem_cons.mpr ⟨trivial, List.forall_mem_cons.mpr ⟨trivial, List.forall_mem_cons.mpr ⟨trivial, List.forall_mem_cons.mpr ⟨trivial, List.forall_mem_cons.mpr ⟨fl_TV_12, List.forall_mem_cons.mpr ⟨fl_TV_66, List.forall_mem_cons.mpr ⟨⟨ml_TV_201, xms_Perm_number⟩, List.forall_mem_cons.mpr ⟨trivial, fun _ h => absurd h List.not_mem_nil⟩⟩⟩⟩⟩⟩⟩⟩⟩⟩⟩⟩⟩⟩⟩⟩⟩⟩⟩⟩⟩⟩⟩⟩⟩⟩⟩
def k_TV_common : xCd := [
  (0, .iload_n 1, 1, .inl (0, 0)),
  (1, .invokestatic 116, 3, .inr (.inl g_TV_isRegister)),
  (4, .ifCond .ne 5, 3, .inl (9, 0)),
  (7, .iconst (-1), 1, .inr (.inr (.inl (-1)))),
  (8, .ireturn, 1, .inl (0, 0)),
  (9, .aload_n 0, 1, .inl (0, 0)),
  (10, .getfield 12, 3, .inl (8, 0)),
  (13, .getfield 102, 3, .inl (5, 3)),
  (16, .iconst 0, 1, .inr (.inr (.inl (nI 0)))),
  (17, .aload_n 0, 1, .inl (0, 0)),
  (18, .getfield 12, 3, .inl (8, 0)),
  (21, .getfield 66, 3, .inl (5, 0)),
  (24, .invokevirtual 198, 3, .inr (.inl g_Poem_turnBehind)),
  (27, .istore_n 2, 1, .inl (0, 0)),
  (28, .iload_n 2, 1, .inl (0, 0)),
  (29, .iconst (-1), 1, .inr (.inr (.inl (-1)))),
  (30, .if_icmp .eq 24, 3, .inl (54, 0)),
  (33, .aload_n 0, 1, .inl (0, 0)),
  (34, .getfield 12, 3, .inl (8, 0)),
  (37, .getfield 102, 3, .inl (5, 3)),
  (40, .iload_n 2, 1, .inl (0, 0)),
  (41, .aload_n 0, 1, .inl (0, 0)),
  (42, .getfield 12, 3, .inl (8, 0)),
  (45, .getfield 66, 3, .inl (5, 0)),
  (48, .invokevirtual 204, 3, .inr (.inl g_Poem_turnsBy)),
  (51, .ifCond .ne 17, 3, .inl (68, 0)),
  (54, .aload_n 0, 1, .inl (0, 0)),
  (55, .getfield 19, 3, .inl (8, 1)),
  (58, .aload_n 0, 1, .inl (0, 0)),
  (59, .getfield 12, 3, .inl (8, 0)),
  (62, .invokevirtual 62, 3, .inr (.inl g_Hist_remember)),
  (65, .bipush (-9), 2, .inr (.inr (.inl (-9)))),
  (67, .ireturn, 1, .inl (0, 0)),
  (68, .aload_n 0, 1, .inl (0, 0)),
  (69, .iload_n 1, 1, .inl (0, 0)),
  (70, .iload_n 2, 1, .inl (0, 0)),
  (71, .invokevirtual 125, 3, .inr (.inl g_TV_store)),
  (74, .ireturn, 1, .inl (0, 0))]
set_option maxRecDepth 100000 in
set_option maxHeartbeats 4000000 in
theorem ok_TV_common : xOK g_TV_common k_TV_common := ⟨by decide +kernel, by decide +kernel, List.forall_mem_cons.mpr ⟨trivial, List.forall_mem_cons.mpr ⟨⟨ml_TV_116, xms_TV_isRegister⟩, List.forall_mem_cons.mpr ⟨trivial, List.forall_mem_cons.mpr ⟨trivial, List.forall_mem_cons.mpr ⟨trivial, List.forall_mem_cons.mpr ⟨trivial, List.forall_mem_cons.mpr ⟨fl_TV_12, List.forall_mem_cons.mpr ⟨fl_TV_102, List.forall_mem_cons.mpr ⟨trivial, List.forall_mem_cons.mpr ⟨trivial, List.forall_mem_cons.mpr ⟨fl_TV_12, List.forall_mem_cons.mpr ⟨fl_TV_66, List.forall_mem_cons.mpr ⟨⟨ml_TV_198, xmv_Poem_turnBehind⟩, List.forall_mem_cons.mpr ⟨trivial, List.forall_mem_cons.mpr ⟨trivial, List.forall_mem_cons.mpr ⟨trivial, List.forall_mem_cons.mpr ⟨trivial, List.forall_mem_cons.mpr ⟨trivial, List.forall_mem_cons.mpr ⟨fl_TV_12, List.forall_mem_cons.mpr ⟨fl_TV_102, List.forall_mem_cons.mpr ⟨trivial, List.forall_mem_cons.mpr ⟨trivial, List.forall_mem_cons.mpr ⟨fl_TV_12, List.forall_mem_cons.mpr ⟨fl_TV_66, List.forall_mem_cons.mpr ⟨⟨ml_TV_204, xmv_Poem_turnsBy⟩, List.forall_mem_cons.mpr ⟨trivial, List.forall_mem_cons.mpr ⟨trivial, List.forall_mem_cons.mpr ⟨fl_TV_19, List.forall_mem_cons.mpr ⟨trivial, List.forall_mem_cons.mpr ⟨fl_TV_12, List.forall_mem_cons.mpr ⟨⟨ml_TV_62, xmv_Hist_remember⟩, List.forall_mem_cons.mpr ⟨trivial, List.forall_mem_cons.mpr ⟨trivial, List.forall_mem_cons.mpr ⟨trivial, List.forall_mem_cons.mpr ⟨trivial, List.forall_mem_cons.mpr ⟨trivial, List.forall_mem_cons.mpr ⟨⟨ml_TV_125, xmv_TV_store⟩, List.forall_mem_cons.mpr ⟨trivial, fun _ h => absurd h List.not_mem_nil⟩⟩⟩⟩⟩⟩⟩⟩⟩⟩⟩⟩⟩⟩⟩⟩⟩⟩⟩⟩⟩⟩⟩⟩⟩⟩⟩⟩⟩⟩⟩⟩⟩⟩⟩⟩⟩⟩⟩
def k_TV_follows : xCd := [
  (0, .iload_n 1, 1, .inl (0, 0)),
  (1, .invokestatic 116, 3, .inr (.inl g_TV_isRegister)),
  (4, .ifCond .ne 5, 3, .inl (9, 0)),
  (7, .iconst (-1), 1, .inr (.inr (.inl (-1)))),
  (8, .ireturn, 1, .inl (0, 0)),
  (9, .aload_n 0, 1, .inl (0, 0)),
  (10, .getfield 12, 3, .inl (8, 0)),
  (13, .getfield 102, 3, .inl (5, 3)),
  (16, .aload_n 0, 1, .inl (0, 0)),
  (17, .getfield 12, 3, .inl (8, 0)),
  (20, .getfield 133, 3, .inl (5, 2)),
  (23, .iload_n 1, 1, .inl (0, 0)),
  (24, .iaload, 1, .inl (0, 0)),
  (25, .aload_n 0, 1, .inl (0, 0)),
  (26, .getfield 12, 3, .inl (8, 0)),
  (29, .getfield 66, 3, .inl (5, 0)),
  (32, .invokevirtual 204, 3, .inr (.inl g_Poem_turnsBy)),
  (35, .ifCond .eq 7, 3, .inl (42, 0)),
  (38, .iconst 1, 1, .inr (.inr (.inl (nI 1)))),
  (39, .goto 4, 3, .inl (43, 0)),
  (42, .iconst 0, 1, .inr (.inr (.inl (nI 0)))),
  (43, .ireturn, 1, .inl (0, 0))]
set_option maxRecDepth 100000 in
set_option maxHeartbeats 4000000 in
theorem ok_TV_follows : xOK g_TV_follows k_TV_follows := ⟨by decide +kernel, by decide +kernel, List.forall_mem_cons.mpr ⟨trivial, List.forall_mem_cons.mpr ⟨⟨ml_TV_116, xms_TV_isRegister⟩, List.forall_mem_cons.mpr ⟨trivial, List.forall_mem_cons.mpr ⟨trivial, List.forall_mem_cons.mpr ⟨trivial, List.forall_mem_cons.mpr ⟨trivial, List.forall_mem_cons.mpr ⟨fl_TV_12, List.forall_mem_cons.mpr ⟨fl_TV_102, List.forall_mem_cons.mpr ⟨trivial, List.forall_mem_cons.mpr ⟨fl_TV_12, List.forall_mem_cons.mpr ⟨fl_TV_133, List.forall_mem_cons.mpr ⟨trivial, List.forall_mem_cons.mpr ⟨trivial, List.forall_mem_cons.mpr ⟨trivial, List.forall_mem_cons.mpr ⟨fl_TV_12, List.forall_mem_cons.mpr ⟨fl_TV_66, List.forall_mem_cons.mpr ⟨⟨ml_TV_204, xmv_Poem_turnsBy⟩, List.forall_mem_cons.mpr ⟨trivial, List.forall_mem_cons.mpr ⟨trivial, List.forall_mem_cons.mpr ⟨trivial, List.forall_mem_cons.mpr ⟨trivial, List.forall_mem_cons.mpr ⟨trivial, fun _ h => absurd h List.not_mem_nil⟩⟩⟩⟩⟩⟩⟩⟩⟩⟩⟩⟩⟩⟩⟩⟩⟩⟩⟩⟩⟩⟩⟩
def k_TV_cost : xCd := [
  (0, .iload_n 1, 1, .inl (0, 0)),
  (1, .invokestatic 116, 3, .inr (.inl g_TV_isRegister)),
  (4, .ifCond .ne 5, 3, .inl (9, 0)),
  (7, .iconst (-1), 1, .inr (.inr (.inl (-1)))),
  (8, .ireturn, 1, .inl (0, 0)),
  (9, .aload_n 0, 1, .inl (0, 0)),
  (10, .getfield 12, 3, .inl (8, 0)),
  (13, .getfield 102, 3, .inl (5, 3)),
  (16, .getfield 113, 3, .inl (2, 0)),
  (19, .ifCond .ne 6, 3, .inl (25, 0)),
  (22, .bipush (-2), 2, .inr (.inr (.inl (-2)))),
  (24, .ireturn, 1, .inl (0, 0)),
  (25, .aload_n 0, 1, .inl (0, 0)),
  (26, .getfield 54, 3, .inl (8, 6)),
  (29, .aload_n 0, 1, .inl (0, 0)),
  (30, .getfield 12, 3, .inl (8, 0)),
  (33, .getfield 102, 3, .inl (5, 3)),
  (36, .aload_n 0, 1, .inl (0, 0)),
  (37, .getfield 12, 3, .inl (8, 0)),
  (40, .getfield 133, 3, .inl (5, 2)),
  (43, .iload_n 1, 1, .inl (0, 0)),
  (44, .iaload, 1, .inl (0, 0)),
  (45, .aload_n 0, 1, .inl (0, 0)),
  (46, .getfield 12, 3, .inl (8, 0)),
  (49, .getfield 66, 3, .inl (5, 0)),
  (52, .invokevirtual 207, 3, .inr (.inl g_Fit_changes)),
  (55, .ireturn, 1, .inl (0, 0))]
set_option maxRecDepth 100000 in
set_option maxHeartbeats 4000000 in
theorem ok_TV_cost : xOK g_TV_cost k_TV_cost := ⟨by decide +kernel, by decide +kernel, List.forall_mem_cons.mpr ⟨trivial, List.forall_mem_cons.mpr ⟨⟨ml_TV_116, xms_TV_isRegister⟩, List.forall_mem_cons.mpr ⟨trivial, List.forall_mem_cons.mpr ⟨trivial, List.forall_mem_cons.mpr ⟨trivial, List.forall_mem_cons.mpr ⟨trivial, List.forall_mem_cons.mpr ⟨fl_TV_12, List.forall_mem_cons.mpr ⟨fl_TV_102, List.forall_mem_cons.mpr ⟨fl_TV_113, List.forall_mem_cons.mpr ⟨trivial, List.forall_mem_cons.mpr ⟨trivial, List.forall_mem_cons.mpr ⟨trivial, List.forall_mem_cons.mpr ⟨trivial, List.forall_mem_cons.mpr ⟨fl_TV_54, List.forall_mem_cons.mpr ⟨trivial, List.forall_mem_cons.mpr ⟨fl_TV_12, List.forall_mem_cons.mpr ⟨fl_TV_102, List.forall_mem_cons.mpr ⟨trivial, List.forall_mem_cons.mpr ⟨fl_TV_12, List.forall_mem_cons.mpr ⟨fl_TV_133, List.forall_mem_cons.mpr ⟨trivial, List.forall_mem_cons.mpr ⟨trivial, List.forall_mem_cons.mpr ⟨trivial, List.forall_mem_cons.mpr ⟨fl_TV_12, List.forall_mem_cons.mpr ⟨fl_TV_66, List.forall_mem_cons.mpr ⟨⟨ml_TV_207, xmv_Fit_changes⟩, List.forall_mem_cons.mpr ⟨trivial, fun _ h => absurd h List.not_mem_nil⟩⟩⟩⟩⟩⟩⟩⟩⟩⟩⟩⟩⟩⟩⟩⟩⟩⟩⟩⟩⟩⟩⟩⟩⟩⟩⟩⟩
def k_TV_mend : xCd := [
  (0, .iload_n 1, 1, .inl (0, 0)),
  (1, .invokestatic 116, 3, .inr (.inl g_TV_isRegister)),
  (4, .ifCond .ne 5, 3, .inl (9, 0)),
  (7, .iconst (-1), 1, .inr (.inr (.inl (-1)))),
  (8, .ireturn, 1, .inl (0, 0)),
  (9, .aload_n 0, 1, .inl (0, 0)),
  (10, .getfield 12, 3, .inl (8, 0)),
  (13, .getfield 102, 3, .inl (5, 3)),
  (16, .getfield 113, 3, .inl (2, 0)),
  (19, .ifCond .ne 6, 3, .inl (25, 0)),
  (22, .bipush (-2), 2, .inr (.inr (.inl (-2)))),
  (24, .ireturn, 1, .inl (0, 0)),
  (25, .aload_n 0, 1, .inl (0, 0)),
  (26, .getfield 19, 3, .inl (8, 1)),
  (29, .aload_n 0, 1, .inl (0, 0)),
  (30, .getfield 12, 3, .inl (8, 0)),
  (33, .invokevirtual 62, 3, .inr (.inl g_Hist_remember)),
  (36, .aload_n 0, 1, .inl (0, 0)),
  (37, .getfield 12, 3, .inl (8, 0)),
  (40, .getfield 133, 3, .inl (5, 2)),
  (43, .iload_n 1, 1, .inl (0, 0)),
  (44, .iaload, 1, .inl (0, 0)),
  (45, .istore_n 2, 1, .inl (0, 0)),
  (46, .aload_n 0, 1, .inl (0, 0)),
  (47, .getfield 54, 3, .inl (8, 6)),
  (50, .aload_n 0, 1, .inl (0, 0)),
  (51, .getfield 12, 3, .inl (8, 0)),
  (54, .getfield 102, 3, .inl (5, 3)),
  (57, .iload_n 2, 1, .inl (0, 0)),
  (58, .aload_n 0, 1, .inl (0, 0)),
  (59, .getfield 12, 3, .inl (8, 0)),
  (62, .getfield 66, 3, .inl (5, 0)),
  (65, .invokevirtual 207, 3, .inr (.inl g_Fit_changes)),
  (68, .istore_n 3, 1, .inl (0, 0)),
  (69, .iload_n 3, 1, .inl (0, 0)),
  (70, .bipush (-9), 2, .inr (.inr (.inl (-9)))),
  (72, .if_icmp .eq 28, 3, .inl (100, 0)),
  (75, .aload_n 0, 1, .inl (0, 0)),
  (76, .getfield 12, 3, .inl (8, 0)),
  (79, .getfield 102, 3, .inl (5, 3)),
  (82, .aload_n 0, 1, .inl (0, 0)),
  (83, .getfield 54, 3, .inl (8, 6)),
  (86, .invokevirtual 211, 3, .inr (.inl g_Fit_firstRow)),
  (89, .iload_n 2, 1, .inl (0, 0)),
  (90, .aload_n 0, 1, .inl (0, 0)),
  (91, .getfield 12, 3, .inl (8, 0)),
  (94, .getfield 66, 3, .inl (5, 0)),
  (97, .invokevirtual 215, 3, .inr (.inl g_Poem_rewrite)),
  (100, .iload_n 3, 1, .inl (0, 0)),
  (101, .ireturn, 1, .inl (0, 0))]
set_option maxRecDepth 100000 in
set_option maxHeartbeats 4000000 in
theorem ok_TV_mend : xOK g_TV_mend k_TV_mend := ⟨by decide +kernel, by decide +kernel, List.forall_mem_cons.mpr ⟨trivial, List.forall_mem_cons.mpr ⟨⟨ml_TV_116, xms_TV_isRegister⟩, List.forall_mem_cons.mpr ⟨trivial, List.forall_mem_cons.mpr ⟨trivial, List.forall_mem_cons.mpr ⟨trivial, List.forall_mem_cons.mpr ⟨trivial, List.forall_mem_cons.mpr ⟨fl_TV_12, List.forall_mem_cons.mpr ⟨fl_TV_102, List.forall_mem_cons.mpr ⟨fl_TV_113, List.forall_mem_cons.mpr ⟨trivial, List.forall_mem_cons.mpr ⟨trivial, List.forall_mem_cons.mpr ⟨trivial, List.forall_mem_cons.mpr ⟨trivial, List.forall_mem_cons.mpr ⟨fl_TV_19, List.forall_mem_cons.mpr ⟨trivial, List.forall_mem_cons.mpr ⟨fl_TV_12, List.forall_mem_cons.mpr ⟨⟨ml_TV_62, xmv_Hist_remember⟩, List.forall_mem_cons.mpr ⟨trivial, List.forall_mem_cons.mpr ⟨fl_TV_12, List.forall_mem_cons.mpr ⟨fl_TV_133, List.forall_mem_cons.mpr ⟨trivial, List.forall_mem_cons.mpr ⟨trivial, List.forall_mem_cons.mpr ⟨trivial, List.forall_mem_cons.mpr ⟨trivial, List.forall_mem_cons.mpr ⟨fl_TV_54, List.forall_mem_cons.mpr ⟨trivial, List.forall_mem_cons.mpr ⟨fl_TV_12, List.forall_mem_cons.mpr ⟨fl_TV_102, List.forall_mem_cons.mpr ⟨trivial, List.forall_mem_cons.mpr ⟨trivial, List.forall_mem_cons.mpr ⟨fl_TV_12, List.forall_mem_cons.mpr ⟨fl_TV_66, List.forall_mem_cons.mpr ⟨⟨ml_TV_207, xmv_Fit_changes⟩, List.forall_mem_cons.mpr ⟨trivial, List.forall_mem_cons.mpr ⟨trivial, List.forall_mem_cons.mpr ⟨trivial, List.forall_mem_cons.mpr ⟨trivial, List.forall_mem_cons.mpr ⟨trivial, List.forall_mem_cons.mpr ⟨fl_TV_12, List.forall_mem_cons.mpr ⟨fl_TV_102, List.forall_mem_cons.mpr ⟨trivial, List.forall_mem_cons.mpr ⟨fl_TV_54, List.forall_mem_cons.mpr ⟨⟨ml_TV_211, xmv_Fit_firstRow⟩, List.forall_mem_cons.mpr ⟨trivial, List.forall_mem_cons.mpr ⟨trivial, List.forall_mem_cons.mpr ⟨fl_TV_12, List.forall_mem_cons.mpr ⟨fl_TV_66, List.forall_mem_cons.mpr ⟨⟨ml_TV_215, xmv_Poem_rewrite⟩, List.forall_mem_cons.mpr ⟨trivial, List.forall_mem_cons.mpr ⟨trivial, fun _ h => absurd h List.not_mem_nil⟩⟩⟩⟩⟩⟩⟩⟩⟩⟩⟩⟩⟩⟩⟩⟩⟩⟩⟩⟩⟩⟩⟩⟩⟩⟩⟩⟩⟩⟩⟩⟩⟩⟩⟩⟩⟩⟩⟩⟩⟩⟩⟩⟩⟩⟩⟩⟩⟩⟩⟩
def k_TV_best : xCd := [
  (0, .iload_n 1, 1, .inl (0, 0)),
  (1, .invokestatic 116, 3, .inr (.inl g_TV_isRegister)),
  (4, .ifCond .ne 5, 3, .inl (9, 0)),
  (7, .iconst (-1), 1, .inr (.inr (.inl (-1)))),
  (8, .ireturn, 1, .inl (0, 0)),
  (9, .aload_n 0, 1, .inl (0, 0)),
  (10, .getfield 12, 3, .inl (8, 0)),
  (13, .getfield 102, 3, .inl (5, 3)),
  (16, .getfield 113, 3, .inl (2, 0)),
  (19, .ifCond .ne 6, 3, .inl (25, 0)),
  (22, .bipush (-2), 2, .inr (.inr (.inl (-2)))),
  (24, .ireturn, 1, .inl (0, 0)),
  (25, .aload_n 0, 1, .inl (0, 0)),
  (26, .getfield 19, 3, .inl (8, 1)),
  (29, .aload_n 0, 1, .inl (0, 0)),
  (30, .getfield 12, 3, .inl (8, 0)),
  (33, .invokevirtual 62, 3, .inr (.inl g_Hist_remember)),
  (36, .aload_n 0, 1, .inl (0, 0)),
  (37, .getfield 54, 3, .inl (8, 6)),
  (40, .aload_n 0, 1, .inl (0, 0)),
  (41, .getfield 12, 3, .inl (8, 0)),
  (44, .getfield 102, 3, .inl (5, 3)),
  (47, .aload_n 0, 1, .inl (0, 0)),
  (48, .getfield 12, 3, .inl (8, 0)),
  (51, .getfield 66, 3, .inl (5, 0)),
  (54, .invokevirtual 219, 3, .inr (.inl g_Fit_bestPermutation)),
  (57, .istore_n 2, 1, .inl (0, 0)),
  (58, .iload_n 2, 1, .inl (0, 0)),
  (59, .iconst (-1), 1, .inr (.inr (.inl (-1)))),
  (60, .if_icmp .ne 6, 3, .inl (66, 0)),
  (63, .bipush (-9), 2, .inr (.inr (.inl (-9)))),
  (65, .ireturn, 1, .inl (0, 0)),
  (66, .aload_n 0, 1, .inl (0, 0)),
  (67, .getfield 12, 3, .inl (8, 0)),
  (70, .getfield 133, 3, .inl (5, 2)),
  (73, .iload_n 1, 1, .inl (0, 0)),
  (74, .iload_n 2, 1, .inl (0, 0)),
  (75, .iastore, 1, .inl (0, 0)),
  (76, .aload_n 0, 1, .inl (0, 0)),
  (77, .getfield 54, 3, .inl (8, 6)),
  (80, .aload_n 0, 1, .inl (0, 0)),
  (81, .getfield 12, 3, .inl (8, 0)),
  (84, .getfield 102, 3, .inl (5, 3)),
  (87, .iload_n 2, 1, .inl (0, 0)),
  (88, .aload_n 0, 1, .inl (0, 0)),
  (89, .getfield 12, 3, .inl (8, 0)),
  (92, .getfield 66, 3, .inl (5, 0)),
  (95, .invokevirtual 207, 3, .inr (.inl g_Fit_changes)),
  (98, .ireturn, 1, .inl (0, 0))]
set_option maxRecDepth 100000 in
set_option maxHeartbeats 4000000 in
theorem ok_TV_best : xOK g_TV_best k_TV_best := ⟨by decide +kernel, by decide +kernel, List.forall_mem_cons.mpr ⟨trivial, List.forall_mem_cons.mpr ⟨⟨ml_TV_116, xms_TV_isRegister⟩, List.forall_mem_cons.mpr ⟨trivial, List.forall_mem_cons.mpr ⟨trivial, List.forall_mem_cons.mpr ⟨trivial, List.forall_mem_cons.mpr ⟨trivial, List.forall_mem_cons.mpr ⟨fl_TV_12, List.forall_mem_cons.mpr ⟨fl_TV_102, List.forall_mem_cons.mpr ⟨fl_TV_113, List.forall_mem_cons.mpr ⟨trivial, List.forall_mem_cons.mpr ⟨trivial, List.forall_mem_cons.mpr ⟨trivial, List.forall_mem_cons.mpr ⟨trivial, List.forall_mem_cons.mpr ⟨fl_TV_19, List.forall_mem_cons.mpr ⟨trivial, List.forall_mem_cons.mpr ⟨fl_TV_12, List.forall_mem_cons.mpr ⟨⟨ml_TV_62, xmv_Hist_remember⟩, List.forall_mem_cons.mpr ⟨trivial, List.forall_mem_cons.mpr ⟨fl_TV_54, List.forall_mem_cons.mpr ⟨trivial, List.forall_mem_cons.mpr ⟨fl_TV_12, List.forall_mem_cons.mpr ⟨fl_TV_102, List.forall_mem_cons.mpr ⟨trivial, List.forall_mem_cons.mpr ⟨fl_TV_12, List.forall_mem_cons.mpr ⟨fl_TV_66, List.forall_mem_cons.mpr ⟨⟨ml_TV_219, xmv_Fit_bestPermutation⟩, List.forall_mem_cons.mpr ⟨trivial, List.forall_mem_cons.mpr ⟨trivial, List.forall_mem_cons.mpr ⟨trivial, List.forall_mem_cons.mpr ⟨trivial, List.forall_mem_cons.mpr ⟨trivial, List.forall_mem_cons.mpr ⟨trivial, List.forall_mem_cons.mpr ⟨trivial, List.forall_mem_cons.mpr ⟨fl_TV_12, List.forall_mem_cons.mpr ⟨fl_TV_133, List.forall_mem_cons.mpr ⟨trivial, List.forall_mem_cons.mpr ⟨trivial, List.forall_mem_cons.mpr ⟨trivial, List.forall_mem_cons.mpr ⟨trivial, List.forall_mem_cons.mpr ⟨fl_TV_54, List.forall_mem_cons.mpr ⟨trivial, List.forall_mem_cons.mpr ⟨fl_TV_12, List.forall_mem_cons.mpr ⟨fl_TV_102, List.forall_mem_cons.mpr ⟨trivial, List.forall_mem_cons.mpr ⟨trivial, List.forall_mem_cons.mpr ⟨fl_TV_12, List.forall_mem_cons.mpr ⟨fl_TV_66, List.forall_mem_cons.mpr ⟨⟨ml_TV_207, xmv_Fit_changes⟩, List.forall_mem_cons.mpr ⟨trivial, fun _ h => absurd h List.not_mem_nil⟩⟩⟩⟩⟩⟩⟩⟩⟩⟩⟩⟩⟩⟩⟩⟩⟩⟩⟩⟩⟩⟩⟩⟩⟩⟩⟩⟩⟩⟩⟩⟩⟩⟩⟩⟩⟩⟩⟩⟩⟩⟩⟩⟩⟩⟩⟩⟩⟩⟩
def k_TV_tail : xCd := [
  (0, .iload_n 1, 1, .inl (0, 0)),
  (1, .ifCond .lt 8, 3, .inl (9, 0)),
  (4, .iload_n 1, 1, .inl (0, 0)),
  (5, .iconst 4, 1, .inr (.inr (.inl (nI 4)))),
  (6, .if_icmp .lt 5, 3, .inl (11, 0)),
  (9, .iconst (-1), 1, .inr (.inr (.inl (-1)))),
  (10, .ireturn, 1, .inl (0, 0)),
  (11, .aload_n 0, 1, .inl (0, 0)),
  (12, .getfield 12, 3, .inl (8, 0)),
  (15, .getfield 102, 3, .inl (5, 3)),
  (18, .astore_n 2, 1, .inl (0, 0)),
  (19, .iconst 1, 1, .inr (.inr (.inl (nI 1)))),
  (20, .aload_n 0, 1, .inl (0, 0)),
  (21, .getfield 12, 3, .inl (8, 0)),
  (24, .getfield 66, 3, .inl (5, 0)),
  (27, .ishl, 1, .inl (0, 0)),
  (28, .iconst 1, 1, .inr (.inr (.inl (nI 1)))),
  (29, .isub, 1, .inl (0, 0)),
  (30, .aload_n 2, 1, .inl (0, 0)),
  (31, .invokevirtual 223, 3, .inr (.inl g_Poem_wordsOfTail)),
  (34, .iconst (-1), 1, .inr (.inr (.inl (-1)))),
  (35, .ixor, 1, .inl (0, 0)),
  (36, .iand, 1, .inl (0, 0)),
  (37, .istore_n 3, 1, .inl (0, 0)),
  (38, .iload_n 1, 1, .inl (0, 0)),
  (39, .tableswitch 37 0 2 #[25, 30, 35], 25, .inr (.inr (.inr (.inr (76, [(nI 0, 64), (nI 1, 69), (nI 2, 74)]))))),
  (64, .aload_n 2, 1, .inl (0, 0)),
  (65, .getfield 226, 3, .inl (2, 1)),
  (68, .ireturn, 1, .inl (0, 0)),
  (69, .aload_n 2, 1, .inl (0, 0)),
  (70, .invokevirtual 229, 3, .inr (.inl g_Poem_lengthOfTail)),
  (73, .ireturn, 1, .inl (0, 0)),
  (74, .iload_n 3, 1, .inl (0, 0)),
  (75, .ireturn, 1, .inl (0, 0)),
  (76, .aload_n 2, 1, .inl (0, 0)),
  (77, .invokevirtual 229, 3, .inr (.inl g_Poem_lengthOfTail)),
  (80, .aload_n 0, 1, .inl (0, 0)),
  (81, .getfield 12, 3, .inl (8, 0)),
  (84, .getfield 66, 3, .inl (5, 0)),
  (87, .if_icmp .ge 8, 3, .inl (95, 0)),
  (90, .bipush (-9), 2, .inr (.inr (.inl (-9)))),
  (92, .goto 7, 3, .inl (99, 0)),
  (95, .iload_n 3, 1, .inl (0, 0)),
  (96, .invokestatic 232, 3, .inr (.inl g_JI_bitCount)),
  (99, .ireturn, 1, .inl (0, 0))]
set_option maxRecDepth 100000 in
set_option maxHeartbeats 4000000 in
theorem ok_TV_tail : xOK g_TV_tail k_TV_tail := ⟨by decide +kernel, by decide +kernel, List.forall_mem_cons.mpr ⟨trivial, List.forall_mem_cons.mpr ⟨trivial, List.forall_mem_cons.mpr ⟨trivial, List.forall_mem_cons.mpr ⟨trivial, List.forall_mem_cons.mpr ⟨trivial, List.forall_mem_cons.mpr ⟨trivial, List.forall_mem_cons.mpr ⟨trivial, List.forall_mem_cons.mpr ⟨trivial, List.forall_mem_cons.mpr ⟨fl_TV_12, List.forall_mem_cons.mpr ⟨fl_TV_102, List.forall_mem_cons.mpr ⟨trivial, List.forall_mem_cons.mpr ⟨trivial, List.forall_mem_cons.mpr ⟨trivial, List.forall_mem_cons.mpr ⟨fl_TV_12, List.forall_mem_cons.mpr ⟨fl_TV_66, List.forall_mem_cons.mpr ⟨trivial, List.forall_mem_cons.mpr ⟨trivial, List.forall_mem_cons.mpr ⟨trivial, List.forall_mem_cons.mpr ⟨trivial, List.forall_mem_cons.mpr ⟨⟨ml_TV_223, xmv_Poem_wordsOfTail⟩, List.forall_mem_cons.mpr ⟨trivial, List.forall_mem_cons.mpr ⟨trivial, List.forall_mem_cons.mpr ⟨trivial, List.forall_mem_cons.mpr ⟨trivial, List.forall_mem_cons.mpr ⟨trivial, List.forall_mem_cons.mpr ⟨trivial, List.forall_mem_cons.mpr ⟨trivial, List.forall_mem_cons.mpr ⟨fl_TV_226, List.forall_mem_cons.mpr ⟨trivial, List.forall_mem_cons.mpr ⟨trivial, List.forall_mem_cons.mpr ⟨⟨ml_TV_229, xmv_Poem_lengthOfTail⟩, List.forall_mem_cons.mpr ⟨trivial, List.forall_mem_cons.mpr ⟨trivial, List.forall_mem_cons.mpr ⟨trivial, List.forall_mem_cons.mpr ⟨trivial, List.forall_mem_cons.mpr ⟨⟨ml_TV_229, xmv_Poem_lengthOfTail⟩, List.forall_mem_cons.mpr ⟨trivial, List.forall_mem_cons.mpr ⟨fl_TV_12, List.forall_mem_cons.mpr ⟨fl_TV_66, List.forall_mem_cons.mpr ⟨trivial, List.forall_mem_cons.mpr ⟨trivial, List.forall_mem_cons.mpr ⟨trivial, List.forall_mem_cons.mpr ⟨trivial, List.forall_mem_cons.mpr ⟨⟨ml_TV_232, xms_JI_bitCount⟩, List.forall_mem_cons.mpr ⟨trivial, fun _ h => absurd h List.not_mem_nil⟩⟩⟩⟩⟩⟩⟩⟩⟩⟩⟩⟩⟩⟩⟩⟩⟩⟩⟩⟩⟩⟩⟩⟩⟩⟩⟩⟩⟩⟩⟩⟩⟩⟩⟩⟩⟩⟩⟩⟩⟩⟩⟩⟩⟩⟩
def k_TV_tailWord : xCd := [
  (0, .iload_n 1, 1, .inl (0, 0)),
  (1, .ifCond .lt 21, 3, .inl (22, 0)),
  (4, .iload_n 1, 1, .inl (0, 0)),
  (5, .aload_n 0, 1, .inl (0, 0)),
  (6, .getfield 12, 3, .inl (8, 0)),
  (9, .getfield 102, 3, .inl (5, 3)),
  (12, .getfield 226, 3, .inl (2, 1)),
  (15, .if_icmp .ge 7, 3, .inl (22, 0)),
  (18, .iload_n 2, 1, .inl (0, 0)),
  (19, .ifCond .ge 5, 3, .inl (24, 0)),
  (22, .iconst (-1), 1, .inr (.inr (.inl (-1)))),
  (23, .ireturn, 1, .inl (0, 0)),
  (24, .iload_n 2, 1, .inl (0, 0)),
  (25, .aload_n 0, 1, .inl (0, 0)),
  (26, .getfield 12, 3, .inl (8, 0)),
  (29, .getfield 102, 3, .inl (5, 3)),
  (32, .getfield 237, 3, .inl (2, 5)),
  (35, .iload_n 1, 1, .inl (0, 0)),
  (36, .iaload, 1, .inl (0, 0)),
  (37, .if_icmp .lt 6, 3, .inl (43, 0)),
  (40, .bipush (-9), 2, .inr (.inr (.inl (-9)))),
  (42, .ireturn, 1, .inl (0, 0)),
  (43, .aload_n 0, 1, .inl (0, 0)),
  (44, .getfield 12, 3, .inl (8, 0)),
  (47, .getfield 102, 3, .inl (5, 3)),
  (50, .getfield 240, 3, .inl (2, 4)),
  (53, .iload_n 1, 1, .inl (0, 0)),
  (54, .iaload, 1, .inl (0, 0)),
  (55, .iload_n 2, 1, .inl (0, 0)),
  (56, .invokestatic 81, 3, .inr (.inl g_Row_entry)),
  (59, .ireturn, 1, .inl (0, 0))]
set_option maxRecDepth 100000 in
set_option maxHeartbeats 4000000 in
theorem ok_TV_tailWord : xOK g_TV_tailWord k_TV_tailWord := ⟨by decide +kernel, by decide +kernel, List.forall_mem_cons.mpr ⟨trivial, List.forall_mem_cons.mpr ⟨trivial, List.forall_mem_cons.mpr ⟨trivial, List.forall_mem_cons.mpr ⟨trivial, List.forall_mem_cons.mpr ⟨fl_TV_12, List.forall_mem_cons.mpr ⟨fl_TV_102, List.forall_mem_cons.mpr ⟨fl_TV_226, List.forall_mem_cons.mpr ⟨trivial, List.forall_mem_cons.mpr ⟨trivial, List.forall_mem_cons.mpr ⟨trivial, List.forall_mem_cons.mpr ⟨trivial, List.forall_mem_cons.mpr ⟨trivial, List.forall_mem_cons.mpr ⟨trivial, List.forall_mem_cons.mpr ⟨trivial, List.forall_mem_cons.mpr ⟨fl_TV_12, List.forall_mem_cons.mpr ⟨fl_TV_102, List.forall_mem_cons.mpr ⟨fl_TV_237, List.forall_mem_cons.mpr ⟨trivial, List.forall_mem_cons.mpr ⟨trivial, List.forall_mem_cons.mpr ⟨trivial, List.forall_mem_cons.mpr ⟨trivial, List.forall_mem_cons.mpr ⟨trivial, List.forall_mem_cons.mpr ⟨trivial, List.forall_mem_cons.mpr ⟨fl_TV_12, List.forall_mem_cons.mpr ⟨fl_TV_102, List.forall_mem_cons.mpr ⟨fl_TV_240, List.forall_mem_cons.mpr ⟨trivial, List.forall_mem_cons.mpr ⟨trivial, List.forall_mem_cons.mpr ⟨trivial, List.forall_mem_cons.mpr ⟨⟨ml_TV_81, xms_Row_entry⟩, List.forall_mem_cons.mpr ⟨trivial, fun _ h => absurd h List.not_mem_nil⟩⟩⟩⟩⟩⟩⟩⟩⟩⟩⟩⟩⟩⟩⟩⟩⟩⟩⟩⟩⟩⟩⟩⟩⟩⟩⟩⟩⟩⟩⟩⟩
def k_TV_soundsOf : xCd := [
  (0, .aload_n 0, 1, .inl (0, 0)),
  (1, .getfield 12, 3, .inl (8, 0)),
  (4, .getfield 78, 3, .inl (5, 1)),
  (7, .aload_n 0, 1, .inl (0, 0)),
  (8, .getfield 12, 3, .inl (8, 0)),
  (11, .getfield 102, 3, .inl (5, 3)),
  (14, .getfield 185, 3, .inl (2, 2)),
  (17, .iload_n 1, 1, .inl (0, 0)),
  (18, .iaload, 1, .inl (0, 0)),
  (19, .aload_n 0, 1, .inl (0, 0)),
  (20, .getfield 12, 3, .inl (8, 0)),
  (23, .getfield 66, 3, .inl (5, 0)),
  (26, .invokestatic 136, 3, .inr (.inl g_Row_turned)),
  (29, .ireturn, 1, .inl (0, 0))]
set_option maxRecDepth 100000 in
set_option maxHeartbeats 4000000 in
theorem ok_TV_soundsOf : xOK g_TV_soundsOf k_TV_soundsOf := ⟨by decide +kernel, by decide +kernel, List.forall_mem_cons.mpr ⟨trivial, List.forall_mem_cons.mpr ⟨fl_TV_12, List.forall_mem_cons.mpr ⟨fl_TV_78, List.forall_mem_cons.mpr ⟨trivial, List.forall_mem_cons.mpr ⟨fl_TV_12, List.forall_mem_cons.mpr ⟨fl_TV_102, List.forall_mem_cons.mpr ⟨fl_TV_185, List.forall_mem_cons.mpr ⟨trivial, List.forall_mem_cons.mpr ⟨trivial, List.forall_mem_cons.mpr ⟨trivial, List.forall_mem_cons.mpr ⟨fl_TV_12, List.forall_mem_cons.mpr ⟨fl_TV_66, List.forall_mem_cons.mpr ⟨⟨ml_TV_136, xms_Row_turned⟩, List.forall_mem_cons.mpr ⟨trivial, fun _ h => absurd h List.not_mem_nil⟩⟩⟩⟩⟩⟩⟩⟩⟩⟩⟩⟩⟩⟩⟩
def k_TV_scheme : xCd := [
  (0, .aload_n 0, 1, .inl (0, 0)),
  (1, .iload_n 1, 1, .inl (0, 0)),
  (2, .invokevirtual 188, 3, .inr (.inl g_TV_isStanza)),
  (5, .ifCond .ne 5, 3, .inl (10, 0)),
  (8, .iconst (-1), 1, .inr (.inr (.inl (-1)))),
  (9, .ireturn, 1, .inl (0, 0)),
  (10, .aload_n 0, 1, .inl (0, 0)),
  (11, .iload_n 1, 1, .inl (0, 0)),
  (12, .invokevirtual 243, 3, .inr (.inl g_TV_soundsOf)),
  (15, .aload_n 0, 1, .inl (0, 0)),
  (16, .getfield 12, 3, .inl (8, 0)),
  (19, .getfield 66, 3, .inl (5, 0)),
  (22, .invokestatic 246, 3, .inr (.inl g_Rhy_pattern)),
  (25, .ireturn, 1, .inl (0, 0))]
set_option maxRecDepth 100000 in
set_option maxHeartbeats 4000000 in
theorem ok_TV_scheme : xOK g_TV_scheme k_TV_scheme := ⟨by decide +kernel, by decide +kernel, List.forall_mem_cons.mpr ⟨trivial, List.forall_mem_cons.mpr ⟨trivial, List.forall_mem_cons.mpr ⟨⟨ml_TV_188, xmv_TV_isStanza⟩, List.forall_mem_cons.mpr ⟨trivial, List.forall_mem_cons.mpr ⟨trivial, List.forall_mem_cons.mpr ⟨trivial, List.forall_mem_cons.mpr ⟨trivial, List.forall_mem_cons.mpr ⟨trivial, List.forall_mem_cons.mpr ⟨⟨ml_TV_243, xmv_TV_soundsOf⟩, List.forall_mem_cons.mpr ⟨trivial, List.forall_mem_cons.mpr ⟨fl_TV_12, List.forall_mem_cons.mpr ⟨fl_TV_66, List.forall_mem_cons.mpr ⟨⟨ml_TV_246, xms_Rhy_pattern⟩, List.forall_mem_cons.mpr ⟨trivial, fun _ h => absurd h List.not_mem_nil⟩⟩⟩⟩⟩⟩⟩⟩⟩⟩⟩⟩⟩⟩⟩
def k_TV_schemes : xCd := [
  (0, .aload_n 0, 1, .inl (0, 0)),
  (1, .iload_n 1, 1, .inl (0, 0)),
  (2, .invokevirtual 188, 3, .inr (.inl g_TV_isStanza)),
  (5, .ifCond .eq 10, 3, .inl (15, 0)),
  (8, .iload_n 2, 1, .inl (0, 0)),
  (9, .invokestatic 116, 3, .inr (.inl g_TV_isRegister)),
  (12, .ifCond .ne 5, 3, .inl (17, 0)),
  (15, .iconst (-1), 1, .inr (.inr (.inl (-1)))),
  (16, .ireturn, 1, .inl (0, 0)),
  (17, .aload_n 0, 1, .inl (0, 0)),
  (18, .getfield 12, 3, .inl (8, 0)),
  (21, .getfield 133, 3, .inl (5, 2)),
  (24, .iload_n 2, 1, .inl (0, 0)),
  (25, .iaload, 1, .inl (0, 0)),
  (26, .istore_n 3, 1, .inl (0, 0)),
  (27, .aload_n 0, 1, .inl (0, 0)),
  (28, .iload_n 1, 1, .inl (0, 0)),
  (29, .invokevirtual 243, 3, .inr (.inl g_TV_soundsOf)),
  (32, .iload_n 3, 1, .inl (0, 0)),
  (33, .aload_n 0, 1, .inl (0, 0)),
  (34, .getfield 12, 3, .inl (8, 0)),
  (37, .getfield 66, 3, .inl (5, 0)),
  (40, .aload_n 0, 1, .inl (0, 0)),
  (41, .getfield 58, 3, .inl (8, 7)),
  (44, .invokestatic 251, 3, .inr (.inl g_Rhy_differentPatterns)),
  (47, .ireturn, 1, .inl (0, 0))]
set_option maxRecDepth 100000 in
set_option maxHeartbeats 4000000 in
theorem ok_TV_schemes : xOK g_TV_schemes k_TV_schemes := ⟨by decide +kernel, by decide +kernel, List.forall_mem_cons.mpr ⟨trivial, List.forall_mem_cons.mpr ⟨trivial, List.forall_mem_cons.mpr ⟨⟨ml_TV_188, xmv_TV_isStanza⟩, List.forall_mem_cons.mpr ⟨trivial, List.forall_mem_cons.mpr ⟨trivial, List.forall_mem_cons.mpr ⟨⟨ml_TV_116, xms_TV_isRegister⟩, List.forall_mem_cons.mpr ⟨trivial, List.forall_mem_cons.mpr ⟨trivial, List.forall_mem_cons.mpr ⟨trivial, List.forall_mem_cons.mpr ⟨trivial, List.forall_mem_cons.mpr ⟨fl_TV_12, List.forall_mem_cons.mpr ⟨fl_TV_133, List.forall_mem_cons.mpr ⟨trivial, List.forall_mem_cons.mpr ⟨trivial, List.forall_mem_cons.mpr ⟨trivial, List.forall_mem_cons.mpr ⟨trivial, List.forall_mem_cons.mpr ⟨trivial, List.forall_mem_cons.mpr ⟨⟨ml_TV_243, xmv_TV_soundsOf⟩, List.forall_mem_cons.mpr ⟨trivial, List.forall_mem_cons.mpr ⟨trivial, List.forall_mem_cons.mpr ⟨fl_TV_12, List.forall_mem_cons.mpr ⟨fl_TV_66, List.forall_mem_cons.mpr ⟨trivial, List.forall_mem_cons.mpr ⟨fl_TV_58, List.forall_mem_cons.mpr ⟨⟨ml_TV_251, xms_Rhy_differentPatterns⟩, List.forall_mem_cons.mpr ⟨trivial, fun _ h => absurd h List.not_mem_nil⟩⟩⟩⟩⟩⟩⟩⟩⟩⟩⟩⟩⟩⟩⟩⟩⟩⟩⟩⟩⟩⟩⟩⟩⟩⟩⟩
def k_TV_coupled : xCd := [
  (0, .aload_n 0, 1, .inl (0, 0)),
  (1, .iload_n 1, 1, .inl (0, 0)),
  (2, .invokevirtual 188, 3, .inr (.inl g_TV_isStanza)),
  (5, .ifCond .ne 5, 3, .inl (10, 0)),
  (8, .iconst (-1), 1, .inr (.inr (.inl (-1)))),
  (9, .ireturn, 1, .inl (0, 0)),
  (10, .aload_n 0, 1, .inl (0, 0)),
  (11, .iload_n 1, 1, .inl (0, 0)),
  (12, .invokevirtual 243, 3, .inr (.inl g_TV_soundsOf)),
  (15, .aload_n 0, 1, .inl (0, 0)),
  (16, .getfield 12, 3, .inl (8, 0)),
  (19, .getfield 66, 3, .inl (5, 0)),
  (22, .invokestatic 255, 3, .inr (.inl g_Rhy_mostNeighborly)),
  (25, .ireturn, 1, .inl (0, 0))]
set_option maxRecDepth 100000 in
set_option maxHeartbeats 4000000 in
theorem ok_TV_coupled : xOK g_TV_coupled k_TV_coupled := ⟨by decide +kernel, by decide +kernel, List.forall_mem_cons.mpr ⟨trivial, List.forall_mem_cons.mpr ⟨trivial, List.forall_mem_cons.mpr ⟨⟨ml_TV_188, xmv_TV_isStanza⟩, List.forall_mem_cons.mpr ⟨trivial, List.forall_mem_cons.mpr ⟨trivial, List.forall_mem_cons.mpr ⟨trivial, List.forall_mem_cons.mpr ⟨trivial, List.forall_mem_cons.mpr ⟨trivial, List.forall_mem_cons.mpr ⟨⟨ml_TV_243, xmv_TV_soundsOf⟩, List.forall_mem_cons.mpr ⟨trivial, List.forall_mem_cons.mpr ⟨fl_TV_12, List.forall_mem_cons.mpr ⟨fl_TV_66, List.forall_mem_cons.mpr ⟨⟨ml_TV_255, xms_Rhy_mostNeighborly⟩, List.forall_mem_cons.mpr ⟨trivial, fun _ h => absurd h List.not_mem_nil⟩⟩⟩⟩⟩⟩⟩⟩⟩⟩⟩⟩⟩⟩⟩
def k_TV_told : xCd := [
  (0, .iload_n 1, 1, .inl (0, 0)),
  (1, .ifCond .lt 9, 3, .inl (10, 0)),
  (4, .iload_n 1, 1, .inl (0, 0)),
  (5, .bipush 6, 2, .inr (.inr (.inl (nI 6)))),
  (7, .if_icmp .lt 5, 3, .inl (12, 0)),
  (10, .iconst (-1), 1, .inr (.inr (.inl (-1)))),
  (11, .ireturn, 1, .inl (0, 0)),
  (12, .iload_n 1, 1, .inl (0, 0)),
  (13, .tableswitch 91 0 4 #[35, 43, 54, 72, 83], 35, .inr (.inr (.inr (.inr (104, [(nI 0, 48), (nI 1, 56), (nI 2, 67), (nI 3, 85), (nI 4, 96)]))))),
  (48, .aload_n 0, 1, .inl (0, 0)),
  (49, .getfield 12, 3, .inl (8, 0)),
  (52, .getfield 66, 3, .inl (5, 0)),
  (55, .ireturn, 1, .inl (0, 0)),
  (56, .aload_n 0, 1, .inl (0, 0)),
  (57, .getfield 12, 3, .inl (8, 0)),
  (60, .getfield 102, 3, .inl (5, 3)),
  (63, .getfield 113, 3, .inl (2, 0)),
  (66, .ireturn, 1, .inl (0, 0)),
  (67, .aload_n 0, 1, .inl (0, 0)),
  (68, .getfield 12, 3, .inl (8, 0)),
  (71, .getfield 102, 3, .inl (5, 3)),
  (74, .aload_n 0, 1, .inl (0, 0)),
  (75, .getfield 12, 3, .inl (8, 0)),
  (78, .getfield 66, 3, .inl (5, 0)),
  (81, .invokevirtual 258, 3, .inr (.inl g_Poem_properStanzas)),
  (84, .ireturn, 1, .inl (0, 0)),
  (85, .aload_n 0, 1, .inl (0, 0)),
  (86, .getfield 12, 3, .inl (8, 0)),
  (89, .getfield 102, 3, .inl (5, 3)),
  (92, .invokevirtual 261, 3, .inr (.inl g_Poem_lockedPlaces)),
  (95, .ireturn, 1, .inl (0, 0)),
  (96, .aload_n 0, 1, .inl (0, 0)),
  (97, .getfield 26, 3, .inl (8, 2)),
  (100, .getfield 91, 3, .inl (6, 0)),
  (103, .ireturn, 1, .inl (0, 0)),
  (104, .aload_n 0, 1, .inl (0, 0)),
  (105, .getfield 19, 3, .inl (8, 1)),
  (108, .getfield 264, 3, .inl (1, 0)),
  (111, .ireturn, 1, .inl (0, 0))]
set_option maxRecDepth 100000 in
set_option maxHeartbeats 4000000 in
theorem ok_TV_told : xOK g_TV_told k_TV_told := ⟨by decide +kernel, by decide +kernel, List.forall_mem_cons.mpr ⟨trivial, List.forall_mem_cons.mpr ⟨trivial, List.forall_mem_cons.mpr ⟨trivial, List.forall_mem_cons.mpr ⟨trivial, List.forall_mem_cons.mpr ⟨trivial, List.forall_mem_cons.mpr ⟨trivial, List.forall_mem_cons.mpr ⟨trivial, List.forall_mem_cons.mpr ⟨trivial, List.forall_mem_cons.mpr ⟨trivial, List.forall_mem_cons.mpr ⟨trivial, List.forall_mem_cons.mpr ⟨fl_TV_12, List.forall_mem_cons.mpr ⟨fl_TV_66, List.forall_mem_cons.mpr ⟨trivial, List.forall_mem_cons.mpr ⟨trivial, List.forall_mem_cons.mpr ⟨fl_TV_12, List.forall_mem_cons.mpr ⟨fl_TV_102, List.forall_mem_cons.mpr ⟨fl_TV_113, List.forall_mem_cons.mpr ⟨trivial, List.forall_mem_cons.mpr ⟨trivial, List.forall_mem_cons.mpr ⟨fl_TV_12, List.forall_mem_cons.mpr ⟨fl_TV_102, List.forall_mem_cons.mpr ⟨trivial, List.forall_mem_cons.mpr ⟨fl_TV_12, List.forall_mem_cons.mpr ⟨fl_TV_66, List.forall_mem_cons.mpr ⟨⟨ml_TV_258, xmv_Poem_properStanzas⟩, List.forall_mem_cons.mpr ⟨trivial, List.forall_mem_cons.mpr ⟨trivial, List.forall_mem_cons.mpr ⟨fl_TV_12, List.forall_mem_cons.mpr ⟨fl_TV_102, List.forall_mem_cons.mpr ⟨⟨ml_TV_261, xmv_Poem_lockedPlaces⟩, List.forall_mem_cons.mpr ⟨trivial, List.forall_mem_cons.mpr ⟨trivial, List.forall_mem_cons.mpr ⟨fl_TV_26, List.forall_mem_cons.mpr ⟨fl_TV_91, List.forall_mem_cons.mpr ⟨trivial, List.forall_mem_cons.mpr ⟨trivial, List.forall_mem_cons.mpr ⟨fl_TV_19, List.forall_mem_cons.mpr ⟨fl_TV_264, List.forall_mem_cons.mpr ⟨trivial, fun _ h => absurd h List.not_mem_nil⟩⟩⟩⟩⟩⟩⟩⟩⟩⟩⟩⟩⟩⟩⟩⟩⟩⟩⟩⟩⟩⟩⟩⟩⟩⟩⟩⟩⟩⟩⟩⟩⟩⟩⟩⟩⟩⟩⟩⟩
def k_TV_undo : xCd := [
  (0, .aload_n 0, 1, .inl (0, 0)),
  (1, .getfield 19, 3, .inl (8, 1)),
  (4, .getfield 264, 3, .inl (1, 0)),
  (7, .ifCond .ne 6, 3, .inl (13, 0)),
  (10, .bipush (-2), 2, .inr (.inr (.inl (-2)))),
  (12, .ireturn, 1, .inl (0, 0)),
  (13, .aload_n 0, 1, .inl (0, 0)),
  (14, .getfield 19, 3, .inl (8, 1)),
  (17, .aload_n 0, 1, .inl (0, 0)),
  (18, .getfield 12, 3, .inl (8, 0)),
  (21, .invokevirtual 265, 3, .inr (.inl g_Hist_restore)),
  (24, .aload_n 0, 1, .inl (0, 0)),
  (25, .getfield 19, 3, .inl (8, 1)),
  (28, .getfield 264, 3, .inl (1, 0)),
  (31, .ireturn, 1, .inl (0, 0))]
set_option maxRecDepth 100000 in
set_option maxHeartbeats 4000000 in
theorem ok_TV_undo : xOK g_TV_undo k_TV_undo := ⟨by decide +kernel, by decide +kernel, List.forall_mem_cons.mpr ⟨trivial, List.forall_mem_cons.mpr ⟨fl_TV_19, List.forall_mem_cons.mpr ⟨fl_TV_264, List.forall_mem_cons.mpr ⟨trivial, List.forall_mem_cons.mpr ⟨trivial, List.forall_mem_cons.mpr ⟨trivial, List.forall_mem_cons.mpr ⟨trivial, List.forall_mem_cons.mpr ⟨fl_TV_19, List.forall_mem_cons.mpr ⟨trivial, List.forall_mem_cons.mpr ⟨fl_TV_12, List.forall_mem_cons.mpr ⟨⟨ml_TV_265, xmv_Hist_restore⟩, List.forall_mem_cons.mpr ⟨trivial, List.forall_mem_cons.mpr ⟨fl_TV_19, List.forall_mem_cons.mpr ⟨fl_TV_264, List.forall_mem_cons.mpr ⟨trivial, fun _ h => absurd h List.not_mem_nil⟩⟩⟩⟩⟩⟩⟩⟩⟩⟩⟩⟩⟩⟩⟩⟩
def k_TV_mixed : xCd := [
  (0, .ldc2_w 306, 3, .inr (.inr (.inr (.inl 31)))),
  (3, .lload_n 0, 1, .inl (0, 0)),
  (4, .lmul, 1, .inl (0, 0)),
  (5, .lload_n 2, 1, .inl (0, 0)),
  (6, .ladd, 1, .inl (0, 0)),
  (7, .lreturn, 1, .inl (0, 0))]
set_option maxRecDepth 100000 in
set_option maxHeartbeats 4000000 in
theorem ok_TV_mixed : xOK g_TV_mixed k_TV_mixed := ⟨by decide +kernel, by decide +kernel, List.forall_mem_cons.mpr ⟨lw_gm 794 rfl rfl, List.forall_mem_cons.mpr ⟨trivial, List.forall_mem_cons.mpr ⟨trivial, List.forall_mem_cons.mpr ⟨trivial, List.forall_mem_cons.mpr ⟨trivial, List.forall_mem_cons.mpr ⟨trivial, fun _ h => absurd h List.not_mem_nil⟩⟩⟩⟩⟩⟩⟩
def k_TV_withStanza : xCd := [
  (0, .lload_n 1, 1, .inl (0, 0)),
  (1, .lstore 4, 2, .inl (0, 0)),
  (3, .iconst 0, 1, .inr (.inr (.inl (nI 0)))),
  (4, .istore 6, 2, .inl (0, 0)),
  (6, .iload 6, 2, .inl (0, 0)),
  (8, .aload_n 0, 1, .inl (0, 0)),
  (9, .getfield 12, 3, .inl (8, 0)),
  (12, .getfield 66, 3, .inl (5, 0)),
  (15, .if_icmp .ge 24, 3, .inl (39, 0)),
  (18, .lload 4, 2, .inl (0, 0)),
  (20, .aload_n 0, 1, .inl (0, 0)),
  (21, .iload_n 3, 1, .inl (0, 0)),
  (22, .iload 6, 2, .inl (0, 0)),
  (24, .invokevirtual 291, 3, .inr (.inl g_TV_word)),
  (27, .i2l, 1, .inl (0, 0)),
  (28, .invokestatic 273, 3, .inr (.inl g_TV_mixed)),
  (31, .lstore 4, 2, .inl (0, 0)),
  (33, .iinc 6 1, 3, .inr (.inr (.inl (nI 1)))),
  (36, .goto (-30), 3, .inl (6, 0)),
  (39, .iconst 0, 1, .inr (.inr (.inl (nI 0)))),
  (40, .istore 6, 2, .inl (0, 0)),
  (42, .iload 6, 2, .inl (0, 0)),
  (44, .aload_n 0, 1, .inl (0, 0)),
  (45, .getfield 12, 3, .inl (8, 0)),
  (48, .getfield 66, 3, .inl (5, 0)),
  (51, .if_icmp .ge 34, 3, .inl (85, 0)),
  (54, .lload 4, 2, .inl (0, 0)),
  (56, .aload_n 0, 1, .inl (0, 0)),
  (57, .getfield 12, 3, .inl (8, 0)),
  (60, .getfield 102, 3, .inl (5, 3)),
  (63, .getfield 191, 3, .inl (2, 3)),
  (66, .iload_n 3, 1, .inl (0, 0)),
  (67, .iaload, 1, .inl (0, 0)),
  (68, .iload 6, 2, .inl (0, 0)),
  (70, .ishr, 1, .inl (0, 0)),
  (71, .iconst 1, 1, .inr (.inr (.inl (nI 1)))),
  (72, .iand, 1, .inl (0, 0)),
  (73, .i2l, 1, .inl (0, 0)),
  (74, .invokestatic 273, 3, .inr (.inl g_TV_mixed)),
  (77, .lstore 4, 2, .inl (0, 0)),
  (79, .iinc 6 1, 3, .inr (.inr (.inl (nI 1)))),
  (82, .goto (-40), 3, .inl (42, 0)),
  (85, .lload 4, 2, .inl (0, 0)),
  (87, .aload_n 0, 1, .inl (0, 0)),
  (88, .iload_n 3, 1, .inl (0, 0)),
  (89, .invokevirtual 294, 3, .inr (.inl g_TV_turning)),
  (92, .i2l, 1, .inl (0, 0)),
  (93, .invokestatic 273, 3, .inr (.inl g_TV_mixed)),
  (96, .lstore 4, 2, .inl (0, 0)),
  (98, .lload 4, 2, .inl (0, 0)),
  (100, .aload_n 0, 1, .inl (0, 0)),
  (101, .iload_n 3, 1, .inl (0, 0)),
  (102, .invokevirtual 297, 3, .inr (.inl g_TV_scheme)),
  (105, .i2l, 1, .inl (0, 0)),
  (106, .invokestatic 273, 3, .inr (.inl g_TV_mixed)),
  (109, .lreturn, 1, .inl (0, 0))]
set_option maxRecDepth 100000 in
set_option maxHeartbeats 4000000 in
theorem ok_TV_withStanza : xOK g_TV_withStanza k_TV_withStanza := ⟨by decide +kernel, by decide +kernel, List.forall_mem_cons.mpr ⟨trivial, List.forall_mem_cons.mpr ⟨trivial, List.forall_mem_cons.mpr ⟨trivial, List.forall_mem_cons.mpr ⟨trivial, List.forall_mem_cons.mpr ⟨trivial, List.forall_mem_cons.mpr ⟨trivial, List.forall_mem_cons.mpr ⟨fl_TV_12, List.forall_mem_cons.mpr ⟨fl_TV_66, List.forall_mem_cons.mpr ⟨trivial, List.forall_mem_cons.mpr ⟨trivial, List.forall_mem_cons.mpr ⟨trivial, List.forall_mem_cons.mpr ⟨trivial, List.forall_mem_cons.mpr ⟨trivial, List.forall_mem_cons.mpr ⟨⟨ml_TV_291, xmv_TV_word⟩, List.forall_mem_cons.mpr ⟨trivial, List.forall_mem_cons.mpr ⟨⟨ml_TV_273, xms_TV_mixed⟩, List.forall_mem_cons.mpr ⟨trivial, List.forall_mem_cons.mpr ⟨trivial, List.forall_mem_cons.mpr ⟨trivial, List.forall_mem_cons.mpr ⟨trivial, List.forall_mem_cons.mpr ⟨trivial, List.forall_mem_cons.mpr ⟨trivial, List.forall_mem_cons.mpr ⟨trivial, List.forall_mem_cons.mpr ⟨fl_TV_12, List.forall_mem_cons.mpr ⟨fl_TV_66, List.forall_mem_cons.mpr ⟨trivial, List.forall_mem_cons.mpr ⟨trivial, List.forall_mem_cons.mpr ⟨trivial, List.forall_mem_cons.mpr ⟨fl_TV_12, List.forall_mem_cons.mpr ⟨fl_TV_102, List.forall_mem_cons.mpr ⟨fl_TV_191, List.forall_mem_cons.mpr ⟨trivial, List.forall_mem_cons.mpr ⟨trivial, List.forall_mem_cons.mpr ⟨trivial, List.forall_mem_cons.mpr ⟨trivial, List.forall_mem_cons.mpr ⟨trivial, List.forall_mem_cons.mpr ⟨trivial, List.forall_mem_cons.mpr ⟨trivial, List.forall_mem_cons.mpr ⟨⟨ml_TV_273, xms_TV_mixed⟩, List.forall_mem_cons.mpr ⟨trivial, List.forall_mem_cons.mpr ⟨trivial, List.forall_mem_cons.mpr ⟨trivial, List.forall_mem_cons.mpr ⟨trivial, List.forall_mem_cons.mpr ⟨trivial, List.forall_mem_cons.mpr ⟨trivial, List.forall_mem_cons.mpr ⟨⟨ml_TV_294, xmv_TV_turning⟩, List.forall_mem_cons.mpr ⟨trivial, List.forall_mem_cons.mpr ⟨⟨ml_TV_273, xms_TV_mixed⟩, List.forall_mem_cons.mpr ⟨trivial, List.forall_mem_cons.mpr ⟨trivial, List.forall_mem_cons.mpr ⟨trivial, List.forall_mem_cons.mpr ⟨trivial, List.forall_mem_cons.mpr ⟨⟨ml_TV_297, xmv_TV_scheme⟩, List.forall_mem_cons.mpr ⟨trivial, List.forall_mem_cons.mpr ⟨⟨ml_TV_273, xms_TV_mixed⟩, List.forall_mem_cons.mpr ⟨trivial, fun _ h => absurd h List.not_mem_nil⟩⟩⟩⟩⟩⟩⟩⟩⟩⟩⟩⟩⟩⟩⟩⟩⟩⟩⟩⟩⟩⟩⟩⟩⟩⟩⟩⟩⟩⟩⟩⟩⟩⟩⟩⟩⟩⟩⟩⟩⟩⟩⟩⟩⟩⟩⟩⟩⟩⟩⟩⟩⟩⟩⟩⟩⟩
def k_TV_withTail : xCd := [
  (0, .lload_n 1, 1, .inl (0, 0)),
  (1, .lstore_n 3, 1, .inl (0, 0)),
  (2, .iconst 0, 1, .inr (.inr (.inl (nI 0)))),
  (3, .istore 5, 2, .inl (0, 0)),
  (5, .iload 5, 2, .inl (0, 0)),
  (7, .iconst 4, 1, .inr (.inr (.inl (nI 4)))),
  (8, .if_icmp .ge 21, 3, .inl (29, 0)),
  (11, .lload_n 3, 1, .inl (0, 0)),
  (12, .aload_n 0, 1, .inl (0, 0)),
  (13, .iload 5, 2, .inl (0, 0)),
  (15, .invokevirtual 300, 3, .inr (.inl g_TV_tail)),
  (18, .i2l, 1, .inl (0, 0)),
  (19, .invokestatic 273, 3, .inr (.inl g_TV_mixed)),
  (22, .lstore_n 3, 1, .inl (0, 0)),
  (23, .iinc 5 1, 3, .inr (.inr (.inl (nI 1)))),
  (26, .goto (-21), 3, .inl (5, 0)),
  (29, .iconst 0, 1, .inr (.inr (.inl (nI 0)))),
  (30, .istore 5, 2, .inl (0, 0)),
  (32, .iload 5, 2, .inl (0, 0)),
  (34, .aload_n 0, 1, .inl (0, 0)),
  (35, .getfield 12, 3, .inl (8, 0)),
  (38, .getfield 102, 3, .inl (5, 3)),
  (41, .getfield 226, 3, .inl (2, 1)),
  (44, .if_icmp .ge 50, 3, .inl (94, 0)),
  (47, .iconst 0, 1, .inr (.inr (.inl (nI 0)))),
  (48, .istore 6, 2, .inl (0, 0)),
  (50, .iload 6, 2, .inl (0, 0)),
  (52, .aload_n 0, 1, .inl (0, 0)),
  (53, .getfield 12, 3, .inl (8, 0)),
  (56, .getfield 102, 3, .inl (5, 3)),
  (59, .getfield 237, 3, .inl (2, 5)),
  (62, .iload 5, 2, .inl (0, 0)),
  (64, .iaload, 1, .inl (0, 0)),
  (65, .if_icmp .ge 23, 3, .inl (88, 0)),
  (68, .lload_n 3, 1, .inl (0, 0)),
  (69, .aload_n 0, 1, .inl (0, 0)),
  (70, .iload 5, 2, .inl (0, 0)),
  (72, .iload 6, 2, .inl (0, 0)),
  (74, .invokevirtual 303, 3, .inr (.inl g_TV_tailWord)),
  (77, .i2l, 1, .inl (0, 0)),
  (78, .invokestatic 273, 3, .inr (.inl g_TV_mixed)),
  (81, .lstore_n 3, 1, .inl (0, 0)),
  (82, .iinc 6 1, 3, .inr (.inr (.inl (nI 1)))),
  (85, .goto (-35), 3, .inl (50, 0)),
  (88, .iinc 5 1, 3, .inr (.inr (.inl (nI 1)))),
  (91, .goto (-59), 3, .inl (32, 0)),
  (94, .lload_n 3, 1, .inl (0, 0)),
  (95, .lreturn, 1, .inl (0, 0))]
set_option maxRecDepth 100000 in
set_option maxHeartbeats 4000000 in
theorem ok_TV_withTail : xOK g_TV_withTail k_TV_withTail := ⟨by decide +kernel, by decide +kernel, List.forall_mem_cons.mpr ⟨trivial, List.forall_mem_cons.mpr ⟨trivial, List.forall_mem_cons.mpr ⟨trivial, List.forall_mem_cons.mpr ⟨trivial, List.forall_mem_cons.mpr ⟨trivial, List.forall_mem_cons.mpr ⟨trivial, List.forall_mem_cons.mpr ⟨trivial, List.forall_mem_cons.mpr ⟨trivial, List.forall_mem_cons.mpr ⟨trivial, List.forall_mem_cons.mpr ⟨trivial, List.forall_mem_cons.mpr ⟨⟨ml_TV_300, xmv_TV_tail⟩, List.forall_mem_cons.mpr ⟨trivial, List.forall_mem_cons.mpr ⟨⟨ml_TV_273, xms_TV_mixed⟩, List.forall_mem_cons.mpr ⟨trivial, List.forall_mem_cons.mpr ⟨trivial, List.forall_mem_cons.mpr ⟨trivial, List.forall_mem_cons.mpr ⟨trivial, List.forall_mem_cons.mpr ⟨trivial, List.forall_mem_cons.mpr ⟨trivial, List.forall_mem_cons.mpr ⟨trivial, List.forall_mem_cons.mpr ⟨fl_TV_12, List.forall_mem_cons.mpr ⟨fl_TV_102, List.forall_mem_cons.mpr ⟨fl_TV_226, List.forall_mem_cons.mpr ⟨trivial, List.forall_mem_cons.mpr ⟨trivial, List.forall_mem_cons.mpr ⟨trivial, List.forall_mem_cons.mpr ⟨trivial, List.forall_mem_cons.mpr ⟨trivial, List.forall_mem_cons.mpr ⟨fl_TV_12, List.forall_mem_cons.mpr ⟨fl_TV_102, List.forall_mem_cons.mpr ⟨fl_TV_237, List.forall_mem_cons.mpr ⟨trivial, List.forall_mem_cons.mpr ⟨trivial, List.forall_mem_cons.mpr ⟨trivial, List.forall_mem_cons.mpr ⟨trivial, List.forall_mem_cons.mpr ⟨trivial, List.forall_mem_cons.mpr ⟨trivial, List.forall_mem_cons.mpr ⟨trivial, List.forall_mem_cons.mpr ⟨⟨ml_TV_303, xmv_TV_tailWord⟩, List.forall_mem_cons.mpr ⟨trivial, List.forall_mem_cons.mpr ⟨⟨ml_TV_273, xms_TV_mixed⟩, List.forall_mem_cons.mpr ⟨trivial, List.forall_mem_cons.mpr ⟨trivial, List.forall_mem_cons.mpr ⟨trivial, List.forall_mem_cons.mpr ⟨trivial, List.forall_mem_cons.mpr ⟨trivial, List.forall_mem_cons.mpr ⟨trivial, List.forall_mem_cons.mpr ⟨trivial, fun _ h => absurd h List.not_mem_nil⟩⟩⟩⟩⟩⟩⟩⟩⟩⟩⟩⟩⟩⟩⟩⟩⟩⟩⟩⟩⟩⟩⟩⟩⟩⟩⟩⟩⟩⟩⟩⟩⟩⟩⟩⟩⟩⟩⟩⟩⟩⟩⟩⟩⟩⟩⟩⟩⟩
def k_TV_digest : xCd := [
  (0, .ldc2_w 268, 3, .inr (.inr (.inr (.inl 12674)))),
  (3, .lstore_n 1, 1, .inl (0, 0)),
  (4, .iconst 0, 1, .inr (.inr (.inl (nI 0)))),
  (5, .istore_n 3, 1, .inl (0, 0)),
  (6, .iload_n 3, 1, .inl (0, 0)),
  (7, .bipush 6, 2, .inr (.inr (.inl (nI 6)))),
  (9, .if_icmp .ge 20, 3, .inl (29, 0)),
  (12, .lload_n 1, 1, .inl (0, 0)),
  (13, .aload_n 0, 1, .inl (0, 0)),
  (14, .iload_n 3, 1, .inl (0, 0)),
  (15, .invokevirtual 270, 3, .inr (.inl g_TV_told)),
  (18, .i2l, 1, .inl (0, 0)),
  (19, .invokestatic 273, 3, .inr (.inl g_TV_mixed)),
  (22, .lstore_n 1, 1, .inl (0, 0)),
  (23, .iinc 3 1, 3, .inr (.inr (.inl (nI 1)))),
  (26, .goto (-20), 3, .inl (6, 0)),
  (29, .iconst 0, 1, .inr (.inr (.inl (nI 0)))),
  (30, .istore_n 3, 1, .inl (0, 0)),
  (31, .iload_n 3, 1, .inl (0, 0)),
  (32, .aload_n 0, 1, .inl (0, 0)),
  (33, .getfield 12, 3, .inl (8, 0)),
  (36, .getfield 66, 3, .inl (5, 0)),
  (39, .if_icmp .ge 26, 3, .inl (65, 0)),
  (42, .lload_n 1, 1, .inl (0, 0)),
  (43, .aload_n 0, 1, .inl (0, 0)),
  (44, .getfield 12, 3, .inl (8, 0)),
  (47, .getfield 78, 3, .inl (5, 1)),
  (50, .iload_n 3, 1, .inl (0, 0)),
  (51, .invokestatic 81, 3, .inr (.inl g_Row_entry)),
  (54, .i2l, 1, .inl (0, 0)),
  (55, .invokestatic 273, 3, .inr (.inl g_TV_mixed)),
  (58, .lstore_n 1, 1, .inl (0, 0)),
  (59, .iinc 3 1, 3, .inr (.inr (.inl (nI 1)))),
  (62, .goto (-31), 3, .inl (31, 0)),
  (65, .iconst 0, 1, .inr (.inr (.inl (nI 0)))),
  (66, .istore_n 3, 1, .inl (0, 0)),
  (67, .iload_n 3, 1, .inl (0, 0)),
  (68, .bipush 6, 2, .inr (.inr (.inl (nI 6)))),
  (70, .if_icmp .ge 38, 3, .inl (108, 0)),
  (73, .iconst 0, 1, .inr (.inr (.inl (nI 0)))),
  (74, .istore 4, 2, .inl (0, 0)),
  (76, .iload 4, 2, .inl (0, 0)),
  (78, .bipush 7, 2, .inr (.inr (.inl (nI 7)))),
  (80, .if_icmp .ge 22, 3, .inl (102, 0)),
  (83, .lload_n 1, 1, .inl (0, 0)),
  (84, .aload_n 0, 1, .inl (0, 0)),
  (85, .iload_n 3, 1, .inl (0, 0)),
  (86, .iload 4, 2, .inl (0, 0)),
  (88, .invokevirtual 277, 3, .inr (.inl g_TV_turn)),
  (91, .i2l, 1, .inl (0, 0)),
  (92, .invokestatic 273, 3, .inr (.inl g_TV_mixed)),
  (95, .lstore_n 1, 1, .inl (0, 0)),
  (96, .iinc 4 1, 3, .inr (.inr (.inl (nI 1)))),
  (99, .goto (-23), 3, .inl (76, 0)),
  (102, .iinc 3 1, 3, .inr (.inr (.inl (nI 1)))),
  (105, .goto (-38), 3, .inl (67, 0)),
  (108, .iconst 0, 1, .inr (.inr (.inl (nI 0)))),
  (109, .istore_n 3, 1, .inl (0, 0)),
  (110, .iload_n 3, 1, .inl (0, 0)),
  (111, .aload_n 0, 1, .inl (0, 0)),
  (112, .getfield 12, 3, .inl (8, 0)),
  (115, .getfield 102, 3, .inl (5, 3)),
  (118, .getfield 113, 3, .inl (2, 0)),
  (121, .if_icmp .ge 16, 3, .inl (137, 0)),
  (124, .aload_n 0, 1, .inl (0, 0)),
  (125, .lload_n 1, 1, .inl (0, 0)),
  (126, .iload_n 3, 1, .inl (0, 0)),
  (127, .invokevirtual 280, 3, .inr (.inl g_TV_withStanza)),
  (130, .lstore_n 1, 1, .inl (0, 0)),
  (131, .iinc 3 1, 3, .inr (.inr (.inl (nI 1)))),
  (134, .goto (-24), 3, .inl (110, 0)),
  (137, .iconst 0, 1, .inr (.inr (.inl (nI 0)))),
  (138, .istore_n 3, 1, .inl (0, 0)),
  (139, .iload_n 3, 1, .inl (0, 0)),
  (140, .bipush 6, 2, .inr (.inr (.inl (nI 6)))),
  (142, .if_icmp .ge 20, 3, .inl (162, 0)),
  (145, .lload_n 1, 1, .inl (0, 0)),
  (146, .aload_n 0, 1, .inl (0, 0)),
  (147, .iload_n 3, 1, .inl (0, 0)),
  (148, .invokevirtual 284, 3, .inr (.inl g_TV_follows)),
  (151, .i2l, 1, .inl (0, 0)),
  (152, .invokestatic 273, 3, .inr (.inl g_TV_mixed)),
  (155, .lstore_n 1, 1, .inl (0, 0)),
  (156, .iinc 3 1, 3, .inr (.inr (.inl (nI 1)))),
  (159, .goto (-20), 3, .inl (139, 0)),
  (162, .aload_n 0, 1, .inl (0, 0)),
  (163, .lload_n 1, 1, .inl (0, 0)),
  (164, .invokevirtual 287, 3, .inr (.inl g_TV_withTail)),
  (167, .lreturn, 1, .inl (0, 0))]
set_option maxRecDepth 100000 in
set_option maxHeartbeats 4000000 in
theorem ok_TV_digest : xOK g_TV_digest k_TV_digest := ⟨by decide +kernel, by decide +kernel, List.forall_mem_cons.mpr ⟨lw_gm 789 rfl rfl, List.forall_mem_cons.mpr ⟨trivial, List.forall_mem_cons.mpr ⟨trivial, List.forall_mem_cons.mpr ⟨trivial, List.forall_mem_cons.mpr ⟨trivial, List.forall_mem_cons.mpr ⟨trivial, List.forall_mem_cons.mpr ⟨trivial, List.forall_mem_cons.mpr ⟨trivial, List.forall_mem_cons.mpr ⟨trivial, List.forall_mem_cons.mpr ⟨trivial, List.forall_mem_cons.mpr ⟨⟨ml_TV_270, xmv_TV_told⟩, List.forall_mem_cons.mpr ⟨trivial, List.forall_mem_cons.mpr ⟨⟨ml_TV_273, xms_TV_mixed⟩, List.forall_mem_cons.mpr ⟨trivial, List.forall_mem_cons.mpr ⟨trivial, List.forall_mem_cons.mpr ⟨trivial, List.forall_mem_cons.mpr ⟨trivial, List.forall_mem_cons.mpr ⟨trivial, List.forall_mem_cons.mpr ⟨trivial, List.forall_mem_cons.mpr ⟨trivial, List.forall_mem_cons.mpr ⟨fl_TV_12, List.forall_mem_cons.mpr ⟨fl_TV_66, List.forall_mem_cons.mpr ⟨trivial, List.forall_mem_cons.mpr ⟨trivial, List.forall_mem_cons.mpr ⟨trivial, List.forall_mem_cons.mpr ⟨fl_TV_12, List.forall_mem_cons.mpr ⟨fl_TV_78, List.forall_mem_cons.mpr ⟨trivial, List.forall_mem_cons.mpr ⟨⟨ml_TV_81, xms_Row_entry⟩, List.forall_mem_cons.mpr ⟨trivial, List.forall_mem_cons.mpr ⟨⟨ml_TV_273, xms_TV_mixed⟩, List.forall_mem_cons.mpr ⟨trivial, List.forall_mem_cons.mpr ⟨trivial, List.forall_mem_cons.mpr ⟨trivial, List.forall_mem_cons.mpr ⟨trivial, List.forall_mem_cons.mpr ⟨trivial, List.forall_mem_cons.mpr ⟨trivial, List.forall_mem_cons.mpr ⟨trivial, List.forall_mem_cons.mpr ⟨trivial, List.forall_mem_cons.mpr ⟨trivial, List.forall_mem_cons.mpr ⟨trivial, List.forall_mem_cons.mpr ⟨trivial, List.forall_mem_cons.mpr ⟨trivial, List.forall_mem_cons.mpr ⟨trivial, List.forall_mem_cons.mpr ⟨trivial, List.forall_mem_cons.mpr ⟨trivial, List.forall_mem_cons.mpr ⟨trivial, List.forall_mem_cons.mpr ⟨trivial, List.forall_mem_cons.mpr ⟨⟨ml_TV_277, xmv_TV_turn⟩, List.forall_mem_cons.mpr ⟨trivial, List.forall_mem_cons.mpr ⟨⟨ml_TV_273, xms_TV_mixed⟩, List.forall_mem_cons.mpr ⟨trivial, List.forall_mem_cons.mpr ⟨trivial, List.forall_mem_cons.mpr ⟨trivial, List.forall_mem_cons.mpr ⟨trivial, List.forall_mem_cons.mpr ⟨trivial, List.forall_mem_cons.mpr ⟨trivial, List.forall_mem_cons.mpr ⟨trivial, List.forall_mem_cons.mpr ⟨trivial, List.forall_mem_cons.mpr ⟨trivial, List.forall_mem_cons.mpr ⟨fl_TV_12, List.forall_mem_cons.mpr ⟨fl_TV_102, List.forall_mem_cons.mpr ⟨fl_TV_113, List.forall_mem_cons.mpr ⟨trivial, List.forall_mem_cons.mpr ⟨trivial, List.forall_mem_cons.mpr ⟨trivial, List.forall_mem_cons.mpr ⟨trivial, List.forall_mem_cons.mpr ⟨⟨ml_TV_280, xmv_TV_withStanza⟩, List.forall_mem_cons.mpr ⟨trivial, List.forall_mem_cons.mpr ⟨trivial, List.forall_mem_cons.mpr ⟨trivial, List.forall_mem_cons.mpr ⟨trivial, List.forall_mem_cons.mpr ⟨trivial, List.forall_mem_cons.mpr ⟨trivial, List.forall_mem_cons.mpr ⟨trivial, List.forall_mem_cons.mpr ⟨trivial, List.forall_mem_cons.mpr ⟨trivial, List.forall_mem_cons.mpr ⟨trivial, List.forall_mem_cons.mpr ⟨trivial, List.forall_mem_cons.mpr ⟨⟨ml_TV_284, xmv_TV_follows⟩, List.forall_mem_cons.mpr ⟨trivial, List.forall_mem_cons.mpr ⟨⟨ml_TV_273, xms_TV_mixed⟩, List.forall_mem_cons.mpr ⟨trivial, List.forall_mem_cons.mpr ⟨trivial, List.forall_mem_cons.mpr ⟨trivial, List.forall_mem_cons.mpr ⟨trivial, List.forall_mem_cons.mpr ⟨trivial, List.forall_mem_cons.mpr ⟨⟨ml_TV_287, xmv_TV_withTail⟩, List.forall_mem_cons.mpr ⟨trivial, fun _ h => absurd h List.not_mem_nil⟩⟩⟩⟩⟩⟩⟩⟩⟩⟩⟩⟩⟩⟩⟩⟩⟩⟩⟩⟩⟩⟩⟩⟩⟩⟩⟩⟩⟩⟩⟩⟩⟩⟩⟩⟩⟩⟩⟩⟩⟩⟩⟩⟩⟩⟩⟩⟩⟩⟩⟩⟩⟩⟩⟩⟩⟩⟩⟩⟩⟩⟩⟩⟩⟩⟩⟩⟩⟩⟩⟩⟩⟩⟩⟩⟩⟩⟩⟩⟩⟩⟩⟩⟩⟩⟩⟩⟩⟩⟩
end
section
/-! CODE, decoded, with its links; checked once -/
def k_Mo_resets : xCd := [
  (0, .aload_n 0, 1, .inl (0, 0)),
  (1, .getfield 7, 3, .inl (9, 0)),
  (4, .iconst 0, 1, .inr (.inr (.inl (nI 0)))),
  (5, .iload_n 1, 1, .inl (0, 0)),
  (6, .iastore, 1, .inl (0, 0)),
  (7, .iconst 0, 1, .inr (.inr (.inl (nI 0)))),
  (8, .istore_n 2, 1, .inl (0, 0)),
  (9, .iload_n 2, 1, .inl (0, 0)),
  (10, .bipush 7, 2, .inr (.inr (.inl (nI 7)))),
  (12, .if_icmp .ge 20, 3, .inl (32, 0)),
  (15, .aload_n 0, 1, .inl (0, 0)),
  (16, .getfield 7, 3, .inl (9, 0)),
  (19, .iconst 1, 1, .inr (.inr (.inl (nI 1)))),
  (20, .iload_n 2, 1, .inl (0, 0)),
  (21, .iadd, 1, .inl (0, 0)),
  (22, .iload_n 2, 1, .inl (0, 0)),
  (23, .iconst 4, 1, .inr (.inr (.inl (nI 4)))),
  (24, .irem, 1, .inl (0, 0)),
  (25, .iastore, 1, .inl (0, 0)),
  (26, .iinc 2 1, 3, .inr (.inr (.inl (nI 1)))),
  (29, .goto (-20), 3, .inl (9, 0)),
  (32, .iconst 0, 1, .inr (.inr (.inl (nI 0)))),
  (33, .istore_n 2, 1, .inl (0, 0)),
  (34, .iload_n 2, 1, .inl (0, 0)),
  (35, .bipush 42, 2, .inr (.inr (.inl (nI 42)))),
  (37, .if_icmp .ge 22, 3, .inl (59, 0)),
  (40, .aload_n 0, 1, .inl (0, 0)),
  (41, .getfield 7, 3, .inl (9, 0)),
  (44, .bipush 8, 2, .inr (.inr (.inl (nI 8)))),
  (46, .iload_n 2, 1, .inl (0, 0)),
  (47, .iadd, 1, .inl (0, 0)),
  (48, .iload_n 2, 1, .inl (0, 0)),
  (49, .bipush 7, 2, .inr (.inr (.inl (nI 7)))),
  (51, .irem, 1, .inl (0, 0)),
  (52, .iastore, 1, .inl (0, 0)),
  (53, .iinc 2 1, 3, .inr (.inr (.inl (nI 1)))),
  (56, .goto (-22), 3, .inl (34, 0)),
  (59, .return_, 1, .inl (0, 0))]
set_option maxRecDepth 100000 in
set_option maxHeartbeats 4000000 in
theorem ok_Mo_resets : xOK g_Mo_resets k_Mo_resets := ⟨by decide +kernel, by decide +kernel, List.forall_mem_cons.mpr ⟨trivial, List.forall_mem_cons.mpr ⟨fl_Mo_7, List.forall_mem_cons.mpr ⟨trivial, List.forall_mem_cons.mpr ⟨trivial, List.forall_mem_cons.mpr ⟨trivial, List.forall_mem_cons.mpr ⟨trivial, List.forall_mem_cons.mpr ⟨trivial, List.forall_mem_cons.mpr ⟨trivial, List.forall_mem_cons.mpr ⟨trivial, List.forall_mem_cons.mpr ⟨trivial, List.forall_mem_cons.mpr ⟨trivial, List.forall_mem_cons.mpr ⟨fl_Mo_7, List.forall_mem_cons.mpr ⟨trivial, List.forall_mem_cons.mpr ⟨trivial, List.forall_mem_cons.mpr ⟨trivial, List.forall_mem_cons.mpr ⟨trivial, List.forall_mem_cons.mpr ⟨trivial, List.forall_mem_cons.mpr ⟨trivial, List.forall_mem_cons.mpr ⟨trivial, List.forall_mem_cons.mpr ⟨trivial, List.forall_mem_cons.mpr ⟨trivial, List.forall_mem_cons.mpr ⟨trivial, List.forall_mem_cons.mpr ⟨trivial, List.forall_mem_cons.mpr ⟨trivial, List.forall_mem_cons.mpr ⟨trivial, List.forall_mem_cons.mpr ⟨trivial, List.forall_mem_cons.mpr ⟨trivial, List.forall_mem_cons.mpr ⟨fl_Mo_7, List.forall_mem_cons.mpr ⟨trivial, List.forall_mem_cons.mpr ⟨trivial, List.forall_mem_cons.mpr ⟨trivial, List.forall_mem_cons.mpr ⟨trivial, List.forall_mem_cons.mpr ⟨trivial, List.forall_mem_cons.mpr ⟨trivial, List.forall_mem_cons.mpr ⟨trivial, List.forall_mem_cons.mpr ⟨trivial, List.forall_mem_cons.mpr ⟨trivial, List.forall_mem_cons.mpr ⟨trivial, fun _ h => absurd h List.not_mem_nil⟩⟩⟩⟩⟩⟩⟩⟩⟩⟩⟩⟩⟩⟩⟩⟩⟩⟩⟩⟩⟩⟩⟩⟩⟩⟩⟩⟩⟩⟩⟩⟩⟩⟩⟩⟩⟩⟩⟩
def k_Mo_init : xCd := [
  (0, .aload_n 0, 1, .inl (0, 0)),
  (1, .invokespecial 1, 3, .inl (0, 0)),
  (4, .aload_n 0, 1, .inl (0, 0)),
  (5, .sipush 1620, 3, .inr (.inr (.inl (nI 1620)))),
  (8, .newarray .int, 2, .inl (0, 0)),
  (10, .putfield 7, 3, .inl (9, 0)),
  (13, .aload_n 0, 1, .inl (0, 0)),
  (14, .bipush 80, 2, .inr (.inr (.inl (nI 80)))),
  (16, .newarray .int, 2, .inl (0, 0)),
  (18, .putfield 13, 3, .inl (9, 2)),
  (21, .aload_n 0, 1, .inl (0, 0)),
  (22, .bipush 7, 2, .inr (.inr (.inl (nI 7)))),
  (24, .newarray .int, 2, .inl (0, 0)),
  (26, .putfield 16, 3, .inl (9, 4)),
  (29, .aload_n 0, 1, .inl (0, 0)),
  (30, .bipush 7, 2, .inr (.inr (.inl (nI 7)))),
  (32, .newarray .int, 2, .inl (0, 0)),
  (34, .putfield 19, 3, .inl (9, 5)),
  (37, .aload_n 0, 1, .inl (0, 0)),
  (38, .bipush 7, 2, .inr (.inr (.inl (nI 7)))),
  (40, .newarray .int, 2, .inl (0, 0)),
  (42, .putfield 22, 3, .inl (9, 6)),
  (45, .aload_n 0, 1, .inl (0, 0)),
  (46, .sipush 5040, 3, .inr (.inr (.inl (nI 5040)))),
  (49, .newarray .int, 2, .inl (0, 0)),
  (51, .putfield 25, 3, .inl (9, 7)),
  (54, .aload_n 0, 1, .inl (0, 0)),
  (55, .sipush 5040, 3, .inr (.inr (.inl (nI 5040)))),
  (58, .newarray .int, 2, .inl (0, 0)),
  (60, .putfield 28, 3, .inl (9, 8)),
  (63, .aload_n 0, 1, .inl (0, 0)),
  (64, .sipush 130, 3, .inr (.inr (.inl (nI 130)))),
  (67, .newarray .int, 2, .inl (0, 0)),
  (69, .putfield 31, 3, .inl (9, 10)),
  (72, .aload_n 0, 1, .inl (0, 0)),
  (73, .bipush 49, 2, .inr (.inr (.inl (nI 49)))),
  (75, .newarray .int, 2, .inl (0, 0)),
  (77, .putfield 34, 3, .inl (9, 13)),
  (80, .aload_n 0, 1, .inl (0, 0)),
  (81, .sipush 128, 3, .inr (.inr (.inl (nI 128)))),
  (84, .newarray .int, 2, .inl (0, 0)),
  (86, .putfield 37, 3, .inl (9, 14)),
  (89, .aload_n 0, 1, .inl (0, 0)),
  (90, .bipush 7, 2, .inr (.inr (.inl (nI 7)))),
  (92, .newarray .int, 2, .inl (0, 0)),
  (94, .putfield 40, 3, .inl (9, 15)),
  (97, .aload_n 0, 1, .inl (0, 0)),
  (98, .bipush 7, 2, .inr (.inr (.inl (nI 7)))),
  (100, .newarray .int, 2, .inl (0, 0)),
  (102, .putfield 43, 3, .inl (9, 16)),
  (105, .aload_n 0, 1, .inl (0, 0)),
  (106, .bipush 12, 2, .inr (.inr (.inl (nI 12)))),
  (108, .newarray .int, 2, .inl (0, 0)),
  (110, .putfield 46, 3, .inl (9, 17)),
  (113, .aload_n 0, 1, .inl (0, 0)),
  (114, .bipush 6, 2, .inr (.inr (.inl (nI 6)))),
  (116, .invokevirtual 49, 3, .inr (.inl g_Mo_resets)),
  (119, .return_, 1, .inl (0, 0))]
set_option maxRecDepth 100000 in
set_option maxHeartbeats 4000000 in
theorem ok_Mo_init : xOK g_Mo_init k_Mo_init := ⟨by decide +kernel, by decide +kernel, List.forall_mem_cons.mpr ⟨trivial, List.forall_mem_cons.mpr ⟨⟨lw_gm 815 rfl rfl, lw_gm 92 rfl rfl, lw_gm 93 rfl rfl⟩, List.forall_mem_cons.mpr ⟨trivial, List.forall_mem_cons.mpr ⟨trivial, List.forall_mem_cons.mpr ⟨lw_gm 134 rfl rfl, List.forall_mem_cons.mpr ⟨⟨fl_Mo_7, fun r hr _ => by cases hr; exact ⟨rfl, rfl⟩⟩, List.forall_mem_cons.mpr ⟨trivial, List.forall_mem_cons.mpr ⟨trivial, List.forall_mem_cons.mpr ⟨lw_gm 134 rfl rfl, List.forall_mem_cons.mpr ⟨⟨fl_Mo_13, fun r hr _ => by cases hr; exact ⟨rfl, rfl⟩⟩, List.forall_mem_cons.mpr ⟨trivial, List.forall_mem_cons.mpr ⟨trivial, List.forall_mem_cons.mpr ⟨lw_gm 134 rfl rfl, List.forall_mem_cons.mpr ⟨⟨fl_Mo_16, fun r hr _ => by cases hr; exact ⟨rfl, rfl⟩⟩, List.forall_mem_cons.mpr ⟨trivial, List.forall_mem_cons.mpr ⟨trivial, List.forall_mem_cons.mpr ⟨lw_gm 134 rfl rfl, List.forall_mem_cons.mpr ⟨⟨fl_Mo_19, fun r hr _ => by cases hr; exact ⟨rfl, rfl⟩⟩, List.forall_mem_cons.mpr ⟨trivial, List.forall_mem_cons.mpr ⟨trivial, List.forall_mem_cons.mpr ⟨lw_gm 134 rfl rfl, List.forall_mem_cons.mpr ⟨⟨fl_Mo_22, fun r hr _ => by cases hr; exact ⟨rfl, rfl⟩⟩, List.forall_mem_cons.mpr ⟨trivial, List.forall_mem_cons.mpr ⟨trivial, List.forall_mem_cons.mpr ⟨lw_gm 134 rfl rfl, List.forall_mem_cons.mpr ⟨⟨fl_Mo_25, fun r hr _ => by cases hr; exact ⟨rfl, rfl⟩⟩, List.forall_mem_cons.mpr ⟨trivial, List.forall_mem_cons.mpr ⟨trivial, List.forall_mem_cons.mpr ⟨lw_gm 134 rfl rfl, List.forall_mem_cons.mpr ⟨⟨fl_Mo_28, fun r hr _ => by cases hr; exact ⟨rfl, rfl⟩⟩, List.forall_mem_cons.mpr ⟨trivial, List.forall_mem_cons.mpr ⟨trivial, List.forall_mem_cons.mpr ⟨lw_gm 134 rfl rfl, List.forall_mem_cons.mpr ⟨⟨fl_Mo_31, fun r hr _ => by cases hr; exact ⟨rfl, rfl⟩⟩, List.forall_mem_cons.mpr ⟨trivial, List.forall_mem_cons.mpr ⟨trivial, List.forall_mem_cons.mpr ⟨lw_gm 134 rfl rfl, List.forall_mem_cons.mpr ⟨⟨fl_Mo_34, fun r hr _ => by cases hr; exact ⟨rfl, rfl⟩⟩, List.forall_mem_cons.mpr ⟨trivial, List.forall_mem_cons.mpr ⟨trivial, List.forall_mem_cons.mpr ⟨lw_gm 134 rfl rfl, List.forall_mem_cons.mpr ⟨⟨fl_Mo_37, fun r hr _ => by cases hr; exact ⟨rfl, rfl⟩⟩, List.forall_mem_cons.mpr ⟨trivial, List.forall_mem_cons.mpr ⟨trivial, List.forall_mem_cons.mpr ⟨lw_gm 134 rfl rfl, List.forall_mem_cons.mpr ⟨⟨fl_Mo_40, fun r hr _ => by cases hr; exact ⟨rfl, rfl⟩⟩, List.forall_mem_cons.mpr ⟨trivial, List.forall_mem_cons.mpr ⟨trivial, List.forall_mem_cons.mpr ⟨lw_gm 134 rfl rfl, List.forall_mem_cons.mpr ⟨⟨fl_Mo_43, fun r hr _ => by cases hr; exact ⟨rfl, rfl⟩⟩, List.forall_mem_cons.mpr ⟨trivial, List.forall_mem_cons.mpr ⟨trivial, List.forall_mem_cons.mpr ⟨lw_gm 134 rfl rfl, List.forall_mem_cons.mpr ⟨⟨fl_Mo_46, fun r hr _ => by cases hr; exact ⟨rfl, rfl⟩⟩, List.forall_mem_cons.mpr ⟨trivial, List.forall_mem_cons.mpr ⟨trivial, List.forall_mem_cons.mpr ⟨⟨ml_Mo_49, xmv_Mo_resets⟩, List.forall_mem_cons.mpr ⟨trivial, fun _ h => absurd h List.not_mem_nil⟩⟩⟩⟩⟩⟩⟩⟩⟩⟩⟩⟩⟩⟩⟩⟩⟩⟩⟩⟩⟩⟩⟩⟩⟩⟩⟩⟩⟩⟩⟩⟩⟩⟩⟩⟩⟩⟩⟩⟩⟩⟩⟩⟩⟩⟩⟩⟩⟩⟩⟩⟩⟩⟩⟩⟩⟩⟩⟩
def k_Mo_in : xCd := [
  (0, .iload_n 0, 1, .inl (0, 0)),
  (1, .iload_n 1, 1, .inl (0, 0)),
  (2, .if_icmp .lt 12, 3, .inl (14, 0)),
  (5, .iload_n 0, 1, .inl (0, 0)),
  (6, .iload_n 2, 1, .inl (0, 0)),
  (7, .if_icmp .gt 7, 3, .inl (14, 0)),
  (10, .iconst 1, 1, .inr (.inr (.inl (nI 1)))),
  (11, .goto 4, 3, .inl (15, 0)),
  (14, .iconst 0, 1, .inr (.inr (.inl (nI 0)))),
  (15, .ireturn, 1, .inl (0, 0))]
set_option maxRecDepth 100000 in
set_option maxHeartbeats 4000000 in
theorem ok_Mo_in : xOK g_Mo_in k_Mo_in := ⟨by decide +kernel, by decide +kernel, List.forall_mem_cons.mpr ⟨trivial, List.forall_mem_cons.mpr ⟨trivial, List.forall_mem_cons.mpr ⟨trivial, List.forall_mem_cons.mpr ⟨trivial, List.forall_mem_cons.mpr ⟨trivial, List.forall_mem_cons.mpr ⟨trivial, List.forall_mem_cons.mpr ⟨trivial, List.forall_mem_cons.mpr ⟨trivial, List.forall_mem_cons.mpr ⟨trivial, List.forall_mem_cons.mpr ⟨trivial, fun _ h => absurd h List.not_mem_nil⟩⟩⟩⟩⟩⟩⟩⟩⟩⟩⟩
def k_Mo_size : xCd := [
  (0, .aload_n 0, 1, .inl (0, 0)),
  (1, .getfield 7, 3, .inl (9, 0)),
  (4, .iconst 0, 1, .inr (.inr (.inl (nI 0)))),
  (5, .iaload, 1, .inl (0, 0)),
  (6, .ireturn, 1, .inl (0, 0))]
set_option maxRecDepth 100000 in
set_option maxHeartbeats 4000000 in
theorem ok_Mo_size : xOK g_Mo_size k_Mo_size := ⟨by decide +kernel, by decide +kernel, List.forall_mem_cons.mpr ⟨trivial, List.forall_mem_cons.mpr ⟨fl_Mo_7, List.forall_mem_cons.mpr ⟨trivial, List.forall_mem_cons.mpr ⟨trivial, List.forall_mem_cons.mpr ⟨trivial, fun _ h => absurd h List.not_mem_nil⟩⟩⟩⟩⟩⟩
def k_Mo_records : xCd := [
  (0, .aload_n 0, 1, .inl (0, 0)),
  (1, .getfield 53, 3, .inl (9, 1)),
  (4, .bipush 8, 2, .inr (.inr (.inl (nI 8)))),
  (6, .if_icmp .ne 46, 3, .inl (52, 0)),
  (9, .sipush 180, 3, .inr (.inr (.inl (nI 180)))),
  (12, .istore_n 1, 1, .inl (0, 0)),
  (13, .iload_n 1, 1, .inl (0, 0)),
  (14, .sipush 1440, 3, .inr (.inr (.inl (nI 1440)))),
  (17, .if_icmp .ge 25, 3, .inl (42, 0)),
  (20, .aload_n 0, 1, .inl (0, 0)),
  (21, .getfield 7, 3, .inl (9, 0)),
  (24, .iload_n 1, 1, .inl (0, 0)),
  (25, .aload_n 0, 1, .inl (0, 0)),
  (26, .getfield 7, 3, .inl (9, 0)),
  (29, .iload_n 1, 1, .inl (0, 0)),
  (30, .sipush 180, 3, .inr (.inr (.inl (nI 180)))),
  (33, .iadd, 1, .inl (0, 0)),
  (34, .iaload, 1, .inl (0, 0)),
  (35, .iastore, 1, .inl (0, 0)),
  (36, .iinc 1 1, 3, .inr (.inr (.inl (nI 1)))),
  (39, .goto (-26), 3, .inl (13, 0)),
  (42, .aload_n 0, 1, .inl (0, 0)),
  (43, .dup, 1, .inl (0, 0)),
  (44, .getfield 53, 3, .inl (9, 1)),
  (47, .iconst 1, 1, .inr (.inr (.inl (nI 1)))),
  (48, .isub, 1, .inl (0, 0)),
  (49, .putfield 53, 3, .inl (9, 1)),
  (52, .aload_n 0, 1, .inl (0, 0)),
  (53, .dup, 1, .inl (0, 0)),
  (54, .getfield 53, 3, .inl (9, 1)),
  (57, .iconst 1, 1, .inr (.inr (.inl (nI 1)))),
  (58, .iadd, 1, .inl (0, 0)),
  (59, .putfield 53, 3, .inl (9, 1)),
  (62, .iconst 0, 1, .inr (.inr (.inl (nI 0)))),
  (63, .istore_n 1, 1, .inl (0, 0)),
  (64, .iload_n 1, 1, .inl (0, 0)),
  (65, .sipush 180, 3, .inr (.inr (.inl (nI 180)))),
  (68, .if_icmp .ge 30, 3, .inl (98, 0)),
  (71, .aload_n 0, 1, .inl (0, 0)),
  (72, .getfield 7, 3, .inl (9, 0)),
  (75, .sipush 180, 3, .inr (.inr (.inl (nI 180)))),
  (78, .aload_n 0, 1, .inl (0, 0)),
  (79, .getfield 53, 3, .inl (9, 1)),
  (82, .imul, 1, .inl (0, 0)),
  (83, .iload_n 1, 1, .inl (0, 0)),
  (84, .iadd, 1, .inl (0, 0)),
  (85, .aload_n 0, 1, .inl (0, 0)),
  (86, .getfield 7, 3, .inl (9, 0)),
  (89, .iload_n 1, 1, .inl (0, 0)),
  (90, .iaload, 1, .inl (0, 0)),
  (91, .iastore, 1, .inl (0, 0)),
  (92, .iinc 1 1, 3, .inr (.inr (.inl (nI 1)))),
  (95, .goto (-31), 3, .inl (64, 0)),
  (98, .return_, 1, .inl (0, 0))]
set_option maxRecDepth 100000 in
set_option maxHeartbeats 4000000 in
theorem ok_Mo_records : xOK g_Mo_records k_Mo_records := ⟨by decide +kernel, by decide +kernel, List.forall_mem_cons.mpr ⟨trivial, List.forall_mem_cons.mpr ⟨fl_Mo_53, List.forall_mem_cons.mpr ⟨trivial, List.forall_mem_cons.mpr ⟨trivial, List.forall_mem_cons.mpr ⟨trivial, List.forall_mem_cons.mpr ⟨trivial, List.forall_mem_cons.mpr ⟨trivial, List.forall_mem_cons.mpr ⟨trivial, List.forall_mem_cons.mpr ⟨trivial, List.forall_mem_cons.mpr ⟨trivial, List.forall_mem_cons.mpr ⟨fl_Mo_7, List.forall_mem_cons.mpr ⟨trivial, List.forall_mem_cons.mpr ⟨trivial, List.forall_mem_cons.mpr ⟨fl_Mo_7, List.forall_mem_cons.mpr ⟨trivial, List.forall_mem_cons.mpr ⟨trivial, List.forall_mem_cons.mpr ⟨trivial, List.forall_mem_cons.mpr ⟨trivial, List.forall_mem_cons.mpr ⟨trivial, List.forall_mem_cons.mpr ⟨trivial, List.forall_mem_cons.mpr ⟨trivial, List.forall_mem_cons.mpr ⟨trivial, List.forall_mem_cons.mpr ⟨trivial, List.forall_mem_cons.mpr ⟨fl_Mo_53, List.forall_mem_cons.mpr ⟨trivial, List.forall_mem_cons.mpr ⟨trivial, List.forall_mem_cons.mpr ⟨⟨fl_Mo_53, nf_9_1 _⟩, List.forall_mem_cons.mpr ⟨trivial, List.forall_mem_cons.mpr ⟨trivial, List.forall_mem_cons.mpr ⟨fl_Mo_53, List.forall_mem_cons.mpr ⟨trivial, List.forall_mem_cons.mpr ⟨trivial, List.forall_mem_cons.mpr ⟨⟨fl_Mo_53, nf_9_1 _⟩, List.forall_mem_cons.mpr ⟨trivial, List.forall_mem_cons.mpr ⟨trivial, List.forall_mem_cons.mpr ⟨trivial, List.forall_mem_cons.mpr ⟨trivial, List.forall_mem_cons.mpr ⟨trivial, List.forall_mem_cons.mpr ⟨trivial, List.forall_mem_cons.mpr ⟨fl_Mo_7, List.forall_mem_cons.mpr ⟨trivial, List.forall_mem_cons.mpr ⟨trivial, List.forall_mem_cons.mpr ⟨fl_Mo_53, List.forall_mem_cons.mpr ⟨trivial, List.forall_mem_cons.mpr ⟨trivial, List.forall_mem_cons.mpr ⟨trivial, List.forall_mem_cons.mpr ⟨trivial, List.forall_mem_cons.mpr ⟨fl_Mo_7, List.forall_mem_cons.mpr ⟨trivial, List.forall_mem_cons.mpr ⟨trivial, List.forall_mem_cons.mpr ⟨trivial, List.forall_mem_cons.mpr ⟨trivial, List.forall_mem_cons.mpr ⟨trivial, List.forall_mem_cons.mpr ⟨trivial, fun _ h => absurd h List.not_mem_nil⟩⟩⟩⟩⟩⟩⟩⟩⟩⟩⟩⟩⟩⟩⟩⟩⟩⟩⟩⟩⟩⟩⟩⟩⟩⟩⟩⟩⟩⟩⟩⟩⟩⟩⟩⟩⟩⟩⟩⟩⟩⟩⟩⟩⟩⟩⟩⟩⟩⟩⟩⟩⟩⟩⟩
def k_Mo_empties : xCd := [
  (0, .bipush 50, 2, .inr (.inr (.inl (nI 50)))),
  (2, .istore_n 1, 1, .inl (0, 0)),
  (3, .iload_n 1, 1, .inl (0, 0)),
  (4, .sipush 180, 3, .inr (.inr (.inl (nI 180)))),
  (7, .if_icmp .ge 16, 3, .inl (23, 0)),
  (10, .aload_n 0, 1, .inl (0, 0)),
  (11, .getfield 7, 3, .inl (9, 0)),
  (14, .iload_n 1, 1, .inl (0, 0)),
  (15, .iconst 0, 1, .inr (.inr (.inl (nI 0)))),
  (16, .iastore, 1, .inl (0, 0)),
  (17, .iinc 1 1, 3, .inr (.inr (.inl (nI 1)))),
  (20, .goto (-17), 3, .inl (3, 0)),
  (23, .return_, 1, .inl (0, 0))]
set_option maxRecDepth 100000 in
set_option maxHeartbeats 4000000 in
theorem ok_Mo_empties : xOK g_Mo_empties k_Mo_empties := ⟨by decide +kernel, by decide +kernel, List.forall_mem_cons.mpr ⟨trivial, List.forall_mem_cons.mpr ⟨trivial, List.forall_mem_cons.mpr ⟨trivial, List.forall_mem_cons.mpr ⟨trivial, List.forall_mem_cons.mpr ⟨trivial, List.forall_mem_cons.mpr ⟨trivial, List.forall_mem_cons.mpr ⟨fl_Mo_7, List.forall_mem_cons.mpr ⟨trivial, List.forall_mem_cons.mpr ⟨trivial, List.forall_mem_cons.mpr ⟨trivial, List.forall_mem_cons.mpr ⟨trivial, List.forall_mem_cons.mpr ⟨trivial, List.forall_mem_cons.mpr ⟨trivial, fun _ h => absurd h List.not_mem_nil⟩⟩⟩⟩⟩⟩⟩⟩⟩⟩⟩⟩⟩⟩
def k_Mo_setWords : xCd := [
  (0, .iload_n 1, 1, .inl (0, 0)),
  (1, .iconst 2, 1, .inr (.inr (.inl (nI 2)))),
  (2, .bipush 7, 2, .inr (.inr (.inl (nI 7)))),
  (4, .invokestatic 57, 3, .inr (.inl g_Mo_in)),
  (7, .ifCond .ne 5, 3, .inl (12, 0)),
  (10, .iconst (-1), 1, .inr (.inr (.inl (-1)))),
  (11, .ireturn, 1, .inl (0, 0)),
  (12, .aload_n 0, 1, .inl (0, 0)),
  (13, .invokevirtual 61, 3, .inr (.inl g_Mo_records)),
  (16, .aload_n 0, 1, .inl (0, 0)),
  (17, .invokevirtual 64, 3, .inr (.inl g_Mo_size)),
  (20, .istore_n 2, 1, .inl (0, 0)),
  (21, .aload_n 0, 1, .inl (0, 0)),
  (22, .iload_n 1, 1, .inl (0, 0)),
  (23, .invokevirtual 49, 3, .inr (.inl g_Mo_resets)),
  (26, .aload_n 0, 1, .inl (0, 0)),
  (27, .invokevirtual 68, 3, .inr (.inl g_Mo_empties)),
  (30, .iload_n 2, 1, .inl (0, 0)),
  (31, .ireturn, 1, .inl (0, 0))]
set_option maxRecDepth 100000 in
set_option maxHeartbeats 4000000 in
theorem ok_Mo_setWords : xOK g_Mo_setWords k_Mo_setWords := ⟨by decide +kernel, by decide +kernel, List.forall_mem_cons.mpr ⟨trivial, List.forall_mem_cons.mpr ⟨trivial, List.forall_mem_cons.mpr ⟨trivial, List.forall_mem_cons.mpr ⟨⟨ml_Mo_57, xms_Mo_in⟩, List.forall_mem_cons.mpr ⟨trivial, List.forall_mem_cons.mpr ⟨trivial, List.forall_mem_cons.mpr ⟨trivial, List.forall_mem_cons.mpr ⟨trivial, List.forall_mem_cons.mpr ⟨⟨ml_Mo_61, xmv_Mo_records⟩, List.forall_mem_cons.mpr ⟨trivial, List.forall_mem_cons.mpr ⟨⟨ml_Mo_64, xmv_Mo_size⟩, List.forall_mem_cons.mpr ⟨trivial, List.forall_mem_cons.mpr ⟨trivial, List.forall_mem_cons.mpr ⟨trivial, List.forall_mem_cons.mpr ⟨⟨ml_Mo_49, xmv_Mo_resets⟩, List.forall_mem_cons.mpr ⟨trivial, List.forall_mem_cons.mpr ⟨⟨ml_Mo_68, xmv_Mo_empties⟩, List.forall_mem_cons.mpr ⟨trivial, List.forall_mem_cons.mpr ⟨trivial, fun _ h => absurd h List.not_mem_nil⟩⟩⟩⟩⟩⟩⟩⟩⟩⟩⟩⟩⟩⟩⟩⟩⟩⟩⟩⟩
def k_Mo_isLine : xCd := [
  (0, .iload_n 1, 1, .inl (0, 0)),
  (1, .iconst 0, 1, .inr (.inr (.inl (nI 0)))),
  (2, .aload_n 0, 1, .inl (0, 0)),
  (3, .invokevirtual 64, 3, .inr (.inl g_Mo_size)),
  (6, .iconst 1, 1, .inr (.inr (.inl (nI 1)))),
  (7, .isub, 1, .inl (0, 0)),
  (8, .invokestatic 57, 3, .inr (.inl g_Mo_in)),
  (11, .ireturn, 1, .inl (0, 0))]
set_option maxRecDepth 100000 in
set_option maxHeartbeats 4000000 in
theorem ok_Mo_isLine : xOK g_Mo_isLine k_Mo_isLine := ⟨by decide +kernel, by decide +kernel, List.forall_mem_cons.mpr ⟨trivial, List.forall_mem_cons.mpr ⟨trivial, List.forall_mem_cons.mpr ⟨trivial, List.forall_mem_cons.mpr ⟨⟨ml_Mo_64, xmv_Mo_size⟩, List.forall_mem_cons.mpr ⟨trivial, List.forall_mem_cons.mpr ⟨trivial, List.forall_mem_cons.mpr ⟨⟨ml_Mo_57, xms_Mo_in⟩, List.forall_mem_cons.mpr ⟨trivial, fun _ h => absurd h List.not_mem_nil⟩⟩⟩⟩⟩⟩⟩⟩⟩
def k_Mo_setSound : xCd := [
  (0, .aload_n 0, 1, .inl (0, 0)),
  (1, .iload_n 1, 1, .inl (0, 0)),
  (2, .invokevirtual 71, 3, .inr (.inl g_Mo_isLine)),
  (5, .ifCond .eq 12, 3, .inl (17, 0)),
  (8, .iload_n 2, 1, .inl (0, 0)),
  (9, .iconst 0, 1, .inr (.inr (.inl (nI 0)))),
  (10, .iconst 3, 1, .inr (.inr (.inl (nI 3)))),
  (11, .invokestatic 57, 3, .inr (.inl g_Mo_in)),
  (14, .ifCond .ne 5, 3, .inl (19, 0)),
  (17, .iconst (-1), 1, .inr (.inr (.inl (-1)))),
  (18, .ireturn, 1, .inl (0, 0)),
  (19, .aload_n 0, 1, .inl (0, 0)),
  (20, .invokevirtual 61, 3, .inr (.inl g_Mo_records)),
  (23, .aload_n 0, 1, .inl (0, 0)),
  (24, .getfield 7, 3, .inl (9, 0)),
  (27, .iconst 1, 1, .inr (.inr (.inl (nI 1)))),
  (28, .iload_n 1, 1, .inl (0, 0)),
  (29, .iadd, 1, .inl (0, 0)),
  (30, .iaload, 1, .inl (0, 0)),
  (31, .istore_n 3, 1, .inl (0, 0)),
  (32, .aload_n 0, 1, .inl (0, 0)),
  (33, .getfield 7, 3, .inl (9, 0)),
  (36, .iconst 1, 1, .inr (.inr (.inl (nI 1)))),
  (37, .iload_n 1, 1, .inl (0, 0)),
  (38, .iadd, 1, .inl (0, 0)),
  (39, .iload_n 2, 1, .inl (0, 0)),
  (40, .iastore, 1, .inl (0, 0)),
  (41, .iload_n 3, 1, .inl (0, 0)),
  (42, .ireturn, 1, .inl (0, 0))]
set_option maxRecDepth 100000 in
set_option maxHeartbeats 4000000 in
theorem ok_Mo_setSound : xOK g_Mo_setSound k_Mo_setSound := ⟨by decide +kernel, by decide +kernel, List.forall_mem_cons.mpr ⟨trivial, List.forall_mem_cons.mpr ⟨trivial, List.forall_mem_cons.mpr ⟨⟨ml_Mo_71, xmv_Mo_isLine⟩, List.forall_mem_cons.mpr ⟨trivial, List.forall_mem_cons.mpr ⟨trivial, List.forall_mem_cons.mpr ⟨trivial, List.forall_mem_cons.mpr ⟨trivial, List.forall_mem_cons.mpr ⟨⟨ml_Mo_57, xms_Mo_in⟩, List.forall_mem_cons.mpr ⟨trivial, List.forall_mem_cons.mpr ⟨trivial, List.forall_mem_cons.mpr ⟨trivial, List.forall_mem_cons.mpr ⟨trivial, List.forall_mem_cons.mpr ⟨⟨ml_Mo_61, xmv_Mo_records⟩, List.forall_mem_cons.mpr ⟨trivial, List.forall_mem_cons.mpr ⟨fl_Mo_7, List.forall_mem_cons.mpr ⟨trivial, List.forall_mem_cons.mpr ⟨trivial, List.forall_mem_cons.mpr ⟨trivial, List.forall_mem_cons.mpr ⟨trivial, List.forall_mem_cons.mpr ⟨trivial, List.forall_mem_cons.mpr ⟨trivial, List.forall_mem_cons.mpr ⟨fl_Mo_7, List.forall_mem_cons.mpr ⟨trivial, List.forall_mem_cons.mpr ⟨trivial, List.forall_mem_cons.mpr ⟨trivial, List.forall_mem_cons.mpr ⟨trivial, List.forall_mem_cons.mpr ⟨trivial, List.forall_mem_cons.mpr ⟨trivial, List.forall_mem_cons.mpr ⟨trivial, fun _ h => absurd h List.not_mem_nil⟩⟩⟩⟩⟩⟩⟩⟩⟩⟩⟩⟩⟩⟩⟩⟩⟩⟩⟩⟩⟩⟩⟩⟩⟩⟩⟩⟩⟩⟩
def k_Mo_isRegister : xCd := [
  (0, .iload_n 0, 1, .inl (0, 0)),
  (1, .iconst 0, 1, .inr (.inr (.inl (nI 0)))),
  (2, .iconst 5, 1, .inr (.inr (.inl (nI 5)))),
  (3, .invokestatic 57, 3, .inr (.inl g_Mo_in)),
  (6, .ireturn, 1, .inl (0, 0))]
set_option maxRecDepth 100000 in
set_option maxHeartbeats 4000000 in
theorem ok_Mo_isRegister : xOK g_Mo_isRegister k_Mo_isRegister := ⟨by decide +kernel, by decide +kernel, List.forall_mem_cons.mpr ⟨trivial, List.forall_mem_cons.mpr ⟨trivial, List.forall_mem_cons.mpr ⟨trivial, List.forall_mem_cons.mpr ⟨⟨ml_Mo_57, xms_Mo_in⟩, List.forall_mem_cons.mpr ⟨trivial, fun _ h => absurd h List.not_mem_nil⟩⟩⟩⟩⟩⟩
def k_Mo_takes : xCd := [
  (0, .iconst 0, 1, .inr (.inr (.inl (nI 0)))),
  (1, .istore_n 3, 1, .inl (0, 0)),
  (2, .iload_n 3, 1, .inl (0, 0)),
  (3, .aload_n 0, 1, .inl (0, 0)),
  (4, .invokevirtual 64, 3, .inr (.inl g_Mo_size)),
  (7, .if_icmp .ge 26, 3, .inl (33, 0)),
  (10, .aload_n 2, 1, .inl (0, 0)),
  (11, .iload_n 3, 1, .inl (0, 0)),
  (12, .aload_n 0, 1, .inl (0, 0)),
  (13, .getfield 7, 3, .inl (9, 0)),
  (16, .bipush 8, 2, .inr (.inr (.inl (nI 8)))),
  (18, .bipush 7, 2, .inr (.inr (.inl (nI 7)))),
  (20, .iload_n 1, 1, .inl (0, 0)),
  (21, .imul, 1, .inl (0, 0)),
  (22, .iadd, 1, .inl (0, 0)),
  (23, .iload_n 3, 1, .inl (0, 0)),
  (24, .iadd, 1, .inl (0, 0)),
  (25, .iaload, 1, .inl (0, 0)),
  (26, .iastore, 1, .inl (0, 0)),
  (27, .iinc 3 1, 3, .inr (.inr (.inl (nI 1)))),
  (30, .goto (-28), 3, .inl (2, 0)),
  (33, .return_, 1, .inl (0, 0))]
set_option maxRecDepth 100000 in
set_option maxHeartbeats 4000000 in
theorem ok_Mo_takes : xOK g_Mo_takes k_Mo_takes := ⟨by decide +kernel, by decide +kernel, List.forall_mem_cons.mpr ⟨trivial, List.forall_mem_cons.mpr ⟨trivial, List.forall_mem_cons.mpr ⟨trivial, List.forall_mem_cons.mpr ⟨trivial, List.forall_mem_cons.mpr ⟨⟨ml_Mo_64, xmv_Mo_size⟩, List.forall_mem_cons.mpr ⟨trivial, List.forall_mem_cons.mpr ⟨trivial, List.forall_mem_cons.mpr ⟨trivial, List.forall_mem_cons.mpr ⟨trivial, List.forall_mem_cons.mpr ⟨fl_Mo_7, List.forall_mem_cons.mpr ⟨trivial, List.forall_mem_cons.mpr ⟨trivial, List.forall_mem_cons.mpr ⟨trivial, List.forall_mem_cons.mpr ⟨trivial, List.forall_mem_cons.mpr ⟨trivial, List.forall_mem_cons.mpr ⟨trivial, List.forall_mem_cons.mpr ⟨trivial, List.forall_mem_cons.mpr ⟨trivial, List.forall_mem_cons.mpr ⟨trivial, List.forall_mem_cons.mpr ⟨trivial, List.forall_mem_cons.mpr ⟨trivial, List.forall_mem_cons.mpr ⟨trivial, fun _ h => absurd h List.not_mem_nil⟩⟩⟩⟩⟩⟩⟩⟩⟩⟩⟩⟩⟩⟩⟩⟩⟩⟩⟩⟩⟩⟩⟩
def k_Mo_puts : xCd := [
  (0, .iconst 0, 1, .inr (.inr (.inl (nI 0)))),
  (1, .istore_n 3, 1, .inl (0, 0)),
  (2, .iload_n 3, 1, .inl (0, 0)),
  (3, .aload_n 0, 1, .inl (0, 0)),
  (4, .invokevirtual 64, 3, .inr (.inl g_Mo_size)),
  (7, .if_icmp .ge 26, 3, .inl (33, 0)),
  (10, .aload_n 0, 1, .inl (0, 0)),
  (11, .getfield 7, 3, .inl (9, 0)),
  (14, .bipush 8, 2, .inr (.inr (.inl (nI 8)))),
  (16, .bipush 7, 2, .inr (.inr (.inl (nI 7)))),
  (18, .iload_n 2, 1, .inl (0, 0)),
  (19, .imul, 1, .inl (0, 0)),
  (20, .iadd, 1, .inl (0, 0)),
  (21, .iload_n 3, 1, .inl (0, 0)),
  (22, .iadd, 1, .inl (0, 0)),
  (23, .aload_n 1, 1, .inl (0, 0)),
  (24, .iload_n 3, 1, .inl (0, 0)),
  (25, .iaload, 1, .inl (0, 0)),
  (26, .iastore, 1, .inl (0, 0)),
  (27, .iinc 3 1, 3, .inr (.inr (.inl (nI 1)))),
  (30, .goto (-28), 3, .inl (2, 0)),
  (33, .return_, 1, .inl (0, 0))]
set_option maxRecDepth 100000 in
set_option maxHeartbeats 4000000 in
theorem ok_Mo_puts : xOK g_Mo_puts k_Mo_puts := ⟨by decide +kernel, by decide +kernel, List.forall_mem_cons.mpr ⟨trivial, List.forall_mem_cons.mpr ⟨trivial, List.forall_mem_cons.mpr ⟨trivial, List.forall_mem_cons.mpr ⟨trivial, List.forall_mem_cons.mpr ⟨⟨ml_Mo_64, xmv_Mo_size⟩, List.forall_mem_cons.mpr ⟨trivial, List.forall_mem_cons.mpr ⟨trivial, List.forall_mem_cons.mpr ⟨fl_Mo_7, List.forall_mem_cons.mpr ⟨trivial, List.forall_mem_cons.mpr ⟨trivial, List.forall_mem_cons.mpr ⟨trivial, List.forall_mem_cons.mpr ⟨trivial, List.forall_mem_cons.mpr ⟨trivial, List.forall_mem_cons.mpr ⟨trivial, List.forall_mem_cons.mpr ⟨trivial, List.forall_mem_cons.mpr ⟨trivial, List.forall_mem_cons.mpr ⟨trivial, List.forall_mem_cons.mpr ⟨trivial, List.forall_mem_cons.mpr ⟨trivial, List.forall_mem_cons.mpr ⟨trivial, List.forall_mem_cons.mpr ⟨trivial, List.forall_mem_cons.mpr ⟨trivial, fun _ h => absurd h List.not_mem_nil⟩⟩⟩⟩⟩⟩⟩⟩⟩⟩⟩⟩⟩⟩⟩⟩⟩⟩⟩⟩⟩⟩⟩
def k_Mo_factorial : xCd := [
  (0, .iconst 1, 1, .inr (.inr (.inl (nI 1)))),
  (1, .istore_n 1, 1, .inl (0, 0)),
  (2, .iconst 2, 1, .inr (.inr (.inl (nI 2)))),
  (3, .istore_n 2, 1, .inl (0, 0)),
  (4, .iload_n 2, 1, .inl (0, 0)),
  (5, .aload_n 0, 1, .inl (0, 0)),
  (6, .invokevirtual 64, 3, .inr (.inl g_Mo_size)),
  (9, .if_icmp .gt 13, 3, .inl (22, 0)),
  (12, .iload_n 1, 1, .inl (0, 0)),
  (13, .iload_n 2, 1, .inl (0, 0)),
  (14, .imul, 1, .inl (0, 0)),
  (15, .istore_n 1, 1, .inl (0, 0)),
  (16, .iinc 2 1, 3, .inr (.inr (.inl (nI 1)))),
  (19, .goto (-15), 3, .inl (4, 0)),
  (22, .iload_n 1, 1, .inl (0, 0)),
  (23, .ireturn, 1, .inl (0, 0))]
set_option maxRecDepth 100000 in
set_option maxHeartbeats 4000000 in
theorem ok_Mo_factorial : xOK g_Mo_factorial k_Mo_factorial := ⟨by decide +kernel, by decide +kernel, List.forall_mem_cons.mpr ⟨trivial, List.forall_mem_cons.mpr ⟨trivial, List.forall_mem_cons.mpr ⟨trivial, List.forall_mem_cons.mpr ⟨trivial, List.forall_mem_cons.mpr ⟨trivial, List.forall_mem_cons.mpr ⟨trivial, List.forall_mem_cons.mpr ⟨⟨ml_Mo_64, xmv_Mo_size⟩, List.forall_mem_cons.mpr ⟨trivial, List.forall_mem_cons.mpr ⟨trivial, List.forall_mem_cons.mpr ⟨trivial, List.forall_mem_cons.mpr ⟨trivial, List.forall_mem_cons.mpr ⟨trivial, List.forall_mem_cons.mpr ⟨trivial, List.forall_mem_cons.mpr ⟨trivial, List.forall_mem_cons.mpr ⟨trivial, List.forall_mem_cons.mpr ⟨trivial, fun _ h => absurd h List.not_mem_nil⟩⟩⟩⟩⟩⟩⟩⟩⟩⟩⟩⟩⟩⟩⟩⟩⟩
def k_Mo_rank : xCd := [
  (0, .iconst 0, 1, .inr (.inr (.inl (nI 0)))),
  (1, .istore_n 2, 1, .inl (0, 0)),
  (2, .iconst 0, 1, .inr (.inr (.inl (nI 0)))),
  (3, .istore_n 3, 1, .inl (0, 0)),
  (4, .iload_n 3, 1, .inl (0, 0)),
  (5, .aload_n 0, 1, .inl (0, 0)),
  (6, .invokevirtual 64, 3, .inr (.inl g_Mo_size)),
  (9, .if_icmp .ge 64, 3, .inl (73, 0)),
  (12, .iconst 0, 1, .inr (.inr (.inl (nI 0)))),
  (13, .istore 4, 2, .inl (0, 0)),
  (15, .iload_n 3, 1, .inl (0, 0)),
  (16, .iconst 1, 1, .inr (.inr (.inl (nI 1)))),
  (17, .iadd, 1, .inl (0, 0)),
  (18, .istore 5, 2, .inl (0, 0)),
  (20, .iload 5, 2, .inl (0, 0)),
  (22, .aload_n 0, 1, .inl (0, 0)),
  (23, .invokevirtual 64, 3, .inr (.inl g_Mo_size)),
  (26, .if_icmp .ge 29, 3, .inl (55, 0)),
  (29, .iload 4, 2, .inl (0, 0)),
  (31, .aload_n 1, 1, .inl (0, 0)),
  (32, .iload 5, 2, .inl (0, 0)),
  (34, .iaload, 1, .inl (0, 0)),
  (35, .aload_n 1, 1, .inl (0, 0)),
  (36, .iload_n 3, 1, .inl (0, 0)),
  (37, .iaload, 1, .inl (0, 0)),
  (38, .if_icmp .ge 7, 3, .inl (45, 0)),
  (41, .iconst 1, 1, .inr (.inr (.inl (nI 1)))),
  (42, .goto 4, 3, .inl (46, 0)),
  (45, .iconst 0, 1, .inr (.inr (.inl (nI 0)))),
  (46, .iadd, 1, .inl (0, 0)),
  (47, .istore 4, 2, .inl (0, 0)),
  (49, .iinc 5 1, 3, .inr (.inr (.inl (nI 1)))),
  (52, .goto (-32), 3, .inl (20, 0)),
  (55, .iload_n 2, 1, .inl (0, 0)),
  (56, .aload_n 0, 1, .inl (0, 0)),
  (57, .invokevirtual 64, 3, .inr (.inl g_Mo_size)),
  (60, .iload_n 3, 1, .inl (0, 0)),
  (61, .isub, 1, .inl (0, 0)),
  (62, .imul, 1, .inl (0, 0)),
  (63, .iload 4, 2, .inl (0, 0)),
  (65, .iadd, 1, .inl (0, 0)),
  (66, .istore_n 2, 1, .inl (0, 0)),
  (67, .iinc 3 1, 3, .inr (.inr (.inl (nI 1)))),
  (70, .goto (-66), 3, .inl (4, 0)),
  (73, .iload_n 2, 1, .inl (0, 0)),
  (74, .ireturn, 1, .inl (0, 0))]
set_option maxRecDepth 100000 in
set_option maxHeartbeats 4000000 in
theorem ok_Mo_rank : xOK g_Mo_rank k_Mo_rank := ⟨by decide +kernel, by decide +kernel, List.forall_mem_cons.mpr ⟨trivial, List.forall_mem_cons.mpr ⟨trivial, List.forall_mem_cons.mpr ⟨trivial, List.forall_mem_cons.mpr ⟨trivial, List.forall_mem_cons.mpr ⟨trivial, List.forall_mem_cons.mpr ⟨trivial, List.forall_mem_cons.mpr ⟨⟨ml_Mo_64, xmv_Mo_size⟩, List.forall_mem_cons.mpr ⟨trivial, List.forall_mem_cons.mpr ⟨trivial, List.forall_mem_cons.mpr ⟨trivial, List.forall_mem_cons.mpr ⟨trivial, List.forall_mem_cons.mpr ⟨trivial, List.forall_mem_cons.mpr ⟨trivial, List.forall_mem_cons.mpr ⟨trivial, List.forall_mem_cons.mpr ⟨trivial, List.forall_mem_cons.mpr ⟨trivial, List.forall_mem_cons.mpr ⟨⟨ml_Mo_64, xmv_Mo_size⟩, List.forall_mem_cons.mpr ⟨trivial, List.forall_mem_cons.mpr ⟨trivial, List.forall_mem_cons.mpr ⟨trivial, List.forall_mem_cons.mpr ⟨trivial, List.forall_mem_cons.mpr ⟨trivial, List.forall_mem_cons.mpr ⟨trivial, List.forall_mem_cons.mpr ⟨trivial, List.forall_mem_cons.mpr ⟨trivial, List.forall_mem_cons.mpr ⟨trivial, List.forall_mem_cons.mpr ⟨trivial, List.forall_mem_cons.mpr ⟨trivial, List.forall_mem_cons.mpr ⟨trivial, List.forall_mem_cons.mpr ⟨trivial, List.forall_mem_cons.mpr ⟨trivial, List.forall_mem_cons.mpr ⟨trivial, List.forall_mem_cons.mpr ⟨trivial, List.forall_mem_cons.mpr ⟨trivial, List.forall_mem_cons.mpr ⟨trivial, List.forall_mem_cons.mpr ⟨⟨ml_Mo_64, xmv_Mo_size⟩, List.forall_mem_cons.mpr ⟨trivial, List.forall_mem_cons.mpr ⟨trivial, List.forall_mem_cons.mpr ⟨trivial, List.forall_mem_cons.mpr ⟨trivial, List.forall_mem_cons.mpr ⟨trivial, List.forall_mem_cons.mpr ⟨trivial, List.forall_mem_cons.mpr ⟨trivial, List.forall_mem_cons.mpr ⟨trivial, List.forall_mem_cons.mpr ⟨trivial, List.forall_mem_cons.mpr ⟨trivial, fun _ h => absurd h List.not_mem_nil⟩⟩⟩⟩⟩⟩⟩⟩⟩⟩⟩⟩⟩⟩⟩⟩⟩⟩⟩⟩⟩⟩⟩⟩⟩⟩⟩⟩⟩⟩⟩⟩⟩⟩⟩⟩⟩⟩⟩⟩⟩⟩⟩⟩⟩⟩⟩
def k_Mo_unranks : xCd := [
  (0, .iload_n 1, 1, .inl (0, 0)),
  (1, .istore_n 3, 1, .inl (0, 0)),
  (2, .aload_n 0, 1, .inl (0, 0)),
  (3, .invokevirtual 64, 3, .inr (.inl g_Mo_size)),
  (6, .iconst 1, 1, .inr (.inr (.inl (nI 1)))),
  (7, .isub, 1, .inl (0, 0)),
  (8, .istore 4, 2, .inl (0, 0)),
  (10, .iload 4, 2, .inl (0, 0)),
  (12, .ifCond .lt 76, 3, .inl (88, 0)),
  (15, .aload_n 2, 1, .inl (0, 0)),
  (16, .iload 4, 2, .inl (0, 0)),
  (18, .iload_n 3, 1, .inl (0, 0)),
  (19, .aload_n 0, 1, .inl (0, 0)),
  (20, .invokevirtual 64, 3, .inr (.inl g_Mo_size)),
  (23, .iload 4, 2, .inl (0, 0)),
  (25, .isub, 1, .inl (0, 0)),
  (26, .irem, 1, .inl (0, 0)),
  (27, .iastore, 1, .inl (0, 0)),
  (28, .iload_n 3, 1, .inl (0, 0)),
  (29, .aload_n 0, 1, .inl (0, 0)),
  (30, .invokevirtual 64, 3, .inr (.inl g_Mo_size)),
  (33, .iload 4, 2, .inl (0, 0)),
  (35, .isub, 1, .inl (0, 0)),
  (36, .idiv, 1, .inl (0, 0)),
  (37, .istore_n 3, 1, .inl (0, 0)),
  (38, .iload 4, 2, .inl (0, 0)),
  (40, .iconst 1, 1, .inr (.inr (.inl (nI 1)))),
  (41, .iadd, 1, .inl (0, 0)),
  (42, .istore 5, 2, .inl (0, 0)),
  (44, .iload 5, 2, .inl (0, 0)),
  (46, .aload_n 0, 1, .inl (0, 0)),
  (47, .invokevirtual 64, 3, .inr (.inl g_Mo_size)),
  (50, .if_icmp .ge 32, 3, .inl (82, 0)),
  (53, .aload_n 2, 1, .inl (0, 0)),
  (54, .iload 5, 2, .inl (0, 0)),
  (56, .dup2, 1, .inl (0, 0)),
  (57, .iaload, 1, .inl (0, 0)),
  (58, .aload_n 2, 1, .inl (0, 0)),
  (59, .iload 5, 2, .inl (0, 0)),
  (61, .iaload, 1, .inl (0, 0)),
  (62, .aload_n 2, 1, .inl (0, 0)),
  (63, .iload 4, 2, .inl (0, 0)),
  (65, .iaload, 1, .inl (0, 0)),
  (66, .if_icmp .lt 7, 3, .inl (73, 0)),
  (69, .iconst 1, 1, .inr (.inr (.inl (nI 1)))),
  (70, .goto 4, 3, .inl (74, 0)),
  (73, .iconst 0, 1, .inr (.inr (.inl (nI 0)))),
  (74, .iadd, 1, .inl (0, 0)),
  (75, .iastore, 1, .inl (0, 0)),
  (76, .iinc 5 1, 3, .inr (.inr (.inl (nI 1)))),
  (79, .goto (-35), 3, .inl (44, 0)),
  (82, .iinc 4 (-1), 3, .inr (.inr (.inl (-1)))),
  (85, .goto (-75), 3, .inl (10, 0)),
  (88, .return_, 1, .inl (0, 0))]
set_option maxRecDepth 100000 in
set_option maxHeartbeats 4000000 in
theorem ok_Mo_unranks : xOK g_Mo_unranks k_Mo_unranks := ⟨by decide +kernel, by decide +kernel, List.forall_mem_cons.mpr ⟨trivial, List.forall_mem_cons.mpr ⟨trivial, List.forall_mem_cons.mpr ⟨trivial, List.forall_mem_cons.mpr ⟨⟨ml_Mo_64, xmv_Mo_size⟩, List.forall_mem_cons.mpr ⟨trivial, List.forall_mem_cons.mpr ⟨trivial, List.forall_mem_cons.mpr ⟨trivial, List.forall_mem_cons.mpr ⟨trivial, List.forall_mem_cons.mpr ⟨trivial, List.forall_mem_cons.mpr ⟨trivial, List.forall_mem_cons.mpr ⟨trivial, List.forall_mem_cons.mpr ⟨trivial, List.forall_mem_cons.mpr ⟨trivial, List.forall_mem_cons.mpr ⟨⟨ml_Mo_64, xmv_Mo_size⟩, List.forall_mem_cons.mpr ⟨trivial, List.forall_mem_cons.mpr ⟨trivial, List.forall_mem_cons.mpr ⟨trivial, List.forall_mem_cons.mpr ⟨trivial, List.forall_mem_cons.mpr ⟨trivial, List.forall_mem_cons.mpr ⟨trivial, List.forall_mem_cons.mpr ⟨⟨ml_Mo_64, xmv_Mo_size⟩, List.forall_mem_cons.mpr ⟨trivial, List.forall_mem_cons.mpr ⟨trivial, List.forall_mem_cons.mpr ⟨trivial, List.forall_mem_cons.mpr ⟨trivial, List.forall_mem_cons.mpr ⟨trivial, List.forall_mem_cons.mpr ⟨trivial, List.forall_mem_cons.mpr ⟨trivial, List.forall_mem_cons.mpr ⟨trivial, List.forall_mem_cons.mpr ⟨trivial, List.forall_mem_cons.mpr ⟨trivial, List.forall_mem_cons.mpr ⟨⟨ml_Mo_64, xmv_Mo_size⟩, List.forall_mem_cons.mpr ⟨trivial, List.forall_mem_cons.mpr ⟨trivial, List.forall_mem_cons.mpr ⟨trivial, List.forall_mem_cons.mpr ⟨trivial, List.forall_mem_cons.mpr ⟨trivial, List.forall_mem_cons.mpr ⟨trivial, List.forall_mem_cons.mpr ⟨trivial, List.forall_mem_cons.mpr ⟨trivial, List.forall_mem_cons.mpr ⟨trivial, List.forall_mem_cons.mpr ⟨trivial, List.forall_mem_cons.mpr ⟨trivial, List.forall_mem_cons.mpr ⟨trivial, List.forall_mem_cons.mpr ⟨trivial, List.forall_mem_cons.mpr ⟨trivial, List.forall_mem_cons.mpr ⟨trivial, List.forall_mem_cons.mpr ⟨trivial, List.forall_mem_cons.mpr ⟨trivial, List.forall_mem_cons.mpr ⟨trivial, List.forall_mem_cons.mpr ⟨trivial, List.forall_mem_cons.mpr ⟨trivial, List.forall_mem_cons.mpr ⟨trivial, List.forall_mem_cons.mpr ⟨trivial, fun _ h => absurd h List.not_mem_nil⟩⟩⟩⟩⟩⟩⟩⟩⟩⟩⟩⟩⟩⟩⟩⟩⟩⟩⟩⟩⟩⟩⟩⟩⟩⟩⟩⟩⟩⟩⟩⟩⟩⟩⟩⟩⟩⟩⟩⟩⟩⟩⟩⟩⟩⟩⟩⟩⟩⟩⟩⟩⟩⟩⟩
def k_Mo_multiplies : xCd := [
  (0, .iconst 0, 1, .inr (.inr (.inl (nI 0)))),
  (1, .istore 4, 2, .inl (0, 0)),
  (3, .iload 4, 2, .inl (0, 0)),
  (5, .aload_n 0, 1, .inl (0, 0)),
  (6, .invokevirtual 64, 3, .inr (.inl g_Mo_size)),
  (9, .if_icmp .ge 19, 3, .inl (28, 0)),
  (12, .aload_n 3, 1, .inl (0, 0)),
  (13, .iload 4, 2, .inl (0, 0)),
  (15, .aload_n 1, 1, .inl (0, 0)),
  (16, .aload_n 2, 1, .inl (0, 0)),
  (17, .iload 4, 2, .inl (0, 0)),
  (19, .iaload, 1, .inl (0, 0)),
  (20, .iaload, 1, .inl (0, 0)),
  (21, .iastore, 1, .inl (0, 0)),
  (22, .iinc 4 1, 3, .inr (.inr (.inl (nI 1)))),
  (25, .goto (-22), 3, .inl (3, 0)),
  (28, .return_, 1, .inl (0, 0))]
set_option maxRecDepth 100000 in
set_option maxHeartbeats 4000000 in
theorem ok_Mo_multiplies : xOK g_Mo_multiplies k_Mo_multiplies := ⟨by decide +kernel, by decide +kernel, List.forall_mem_cons.mpr ⟨trivial, List.forall_mem_cons.mpr ⟨trivial, List.forall_mem_cons.mpr ⟨trivial, List.forall_mem_cons.mpr ⟨trivial, List.forall_mem_cons.mpr ⟨⟨ml_Mo_64, xmv_Mo_size⟩, List.forall_mem_cons.mpr ⟨trivial, List.forall_mem_cons.mpr ⟨trivial, List.forall_mem_cons.mpr ⟨trivial, List.forall_mem_cons.mpr ⟨trivial, List.forall_mem_cons.mpr ⟨trivial, List.forall_mem_cons.mpr ⟨trivial, List.forall_mem_cons.mpr ⟨trivial, List.forall_mem_cons.mpr ⟨trivial, List.forall_mem_cons.mpr ⟨trivial, List.forall_mem_cons.mpr ⟨trivial, List.forall_mem_cons.mpr ⟨trivial, List.forall_mem_cons.mpr ⟨trivial, fun _ h => absurd h List.not_mem_nil⟩⟩⟩⟩⟩⟩⟩⟩⟩⟩⟩⟩⟩⟩⟩⟩⟩⟩
def k_Mo_identity : xCd := [
  (0, .iconst 0, 1, .inr (.inr (.inl (nI 0)))),
  (1, .istore_n 2, 1, .inl (0, 0)),
  (2, .iload_n 2, 1, .inl (0, 0)),
  (3, .bipush 7, 2, .inr (.inr (.inl (nI 7)))),
  (5, .if_icmp .ge 13, 3, .inl (18, 0)),
  (8, .aload_n 1, 1, .inl (0, 0)),
  (9, .iload_n 2, 1, .inl (0, 0)),
  (10, .iload_n 2, 1, .inl (0, 0)),
  (11, .iastore, 1, .inl (0, 0)),
  (12, .iinc 2 1, 3, .inr (.inr (.inl (nI 1)))),
  (15, .goto (-13), 3, .inl (2, 0)),
  (18, .return_, 1, .inl (0, 0))]
set_option maxRecDepth 100000 in
set_option maxHeartbeats 4000000 in
theorem ok_Mo_identity : xOK g_Mo_identity k_Mo_identity := ⟨by decide +kernel, by decide +kernel, List.forall_mem_cons.mpr ⟨trivial, List.forall_mem_cons.mpr ⟨trivial, List.forall_mem_cons.mpr ⟨trivial, List.forall_mem_cons.mpr ⟨trivial, List.forall_mem_cons.mpr ⟨trivial, List.forall_mem_cons.mpr ⟨trivial, List.forall_mem_cons.mpr ⟨trivial, List.forall_mem_cons.mpr ⟨trivial, List.forall_mem_cons.mpr ⟨trivial, List.forall_mem_cons.mpr ⟨trivial, List.forall_mem_cons.mpr ⟨trivial, List.forall_mem_cons.mpr ⟨trivial, fun _ h => absurd h List.not_mem_nil⟩⟩⟩⟩⟩⟩⟩⟩⟩⟩⟩⟩⟩
def k_Mo_cycleOf : xCd := [
  (0, .iconst 1, 1, .inr (.inr (.inl (nI 1)))),
  (1, .istore_n 3, 1, .inl (0, 0)),
  (2, .aload_n 1, 1, .inl (0, 0)),
  (3, .iload_n 2, 1, .inl (0, 0)),
  (4, .iaload, 1, .inl (0, 0)),
  (5, .istore 4, 2, .inl (0, 0)),
  (7, .iload 4, 2, .inl (0, 0)),
  (9, .iload_n 2, 1, .inl (0, 0)),
  (10, .if_icmp .eq 15, 3, .inl (25, 0)),
  (13, .iinc 3 1, 3, .inr (.inr (.inl (nI 1)))),
  (16, .aload_n 1, 1, .inl (0, 0)),
  (17, .iload 4, 2, .inl (0, 0)),
  (19, .iaload, 1, .inl (0, 0)),
  (20, .istore 4, 2, .inl (0, 0)),
  (22, .goto (-15), 3, .inl (7, 0)),
  (25, .iload_n 3, 1, .inl (0, 0)),
  (26, .ireturn, 1, .inl (0, 0))]
set_option maxRecDepth 100000 in
set_option maxHeartbeats 4000000 in
theorem ok_Mo_cycleOf : xOK g_Mo_cycleOf k_Mo_cycleOf := ⟨by decide +kernel, by decide +kernel, List.forall_mem_cons.mpr ⟨trivial, List.forall_mem_cons.mpr ⟨trivial, List.forall_mem_cons.mpr ⟨trivial, List.forall_mem_cons.mpr ⟨trivial, List.forall_mem_cons.mpr ⟨trivial, List.forall_mem_cons.mpr ⟨trivial, List.forall_mem_cons.mpr ⟨trivial, List.forall_mem_cons.mpr ⟨trivial, List.forall_mem_cons.mpr ⟨trivial, List.forall_mem_cons.mpr ⟨trivial, List.forall_mem_cons.mpr ⟨trivial, List.forall_mem_cons.mpr ⟨trivial, List.forall_mem_cons.mpr ⟨trivial, List.forall_mem_cons.mpr ⟨trivial, List.forall_mem_cons.mpr ⟨trivial, List.forall_mem_cons.mpr ⟨trivial, List.forall_mem_cons.mpr ⟨trivial, fun _ h => absurd h List.not_mem_nil⟩⟩⟩⟩⟩⟩⟩⟩⟩⟩⟩⟩⟩⟩⟩⟩⟩⟩
def k_Mo_isFirst : xCd := [
  (0, .iconst 1, 1, .inr (.inr (.inl (nI 1)))),
  (1, .istore_n 3, 1, .inl (0, 0)),
  (2, .aload_n 1, 1, .inl (0, 0)),
  (3, .iload_n 2, 1, .inl (0, 0)),
  (4, .iaload, 1, .inl (0, 0)),
  (5, .istore 4, 2, .inl (0, 0)),
  (7, .iload 4, 2, .inl (0, 0)),
  (9, .iload_n 2, 1, .inl (0, 0)),
  (10, .if_icmp .eq 28, 3, .inl (38, 0)),
  (13, .iload_n 3, 1, .inl (0, 0)),
  (14, .ifCond .eq 13, 3, .inl (27, 0)),
  (17, .iload 4, 2, .inl (0, 0)),
  (19, .iload_n 2, 1, .inl (0, 0)),
  (20, .if_icmp .le 7, 3, .inl (27, 0)),
  (23, .iconst 1, 1, .inr (.inr (.inl (nI 1)))),
  (24, .goto 4, 3, .inl (28, 0)),
  (27, .iconst 0, 1, .inr (.inr (.inl (nI 0)))),
  (28, .istore_n 3, 1, .inl (0, 0)),
  (29, .aload_n 1, 1, .inl (0, 0)),
  (30, .iload 4, 2, .inl (0, 0)),
  (32, .iaload, 1, .inl (0, 0)),
  (33, .istore 4, 2, .inl (0, 0)),
  (35, .goto (-28), 3, .inl (7, 0)),
  (38, .iload_n 3, 1, .inl (0, 0)),
  (39, .ireturn, 1, .inl (0, 0))]
set_option maxRecDepth 100000 in
set_option maxHeartbeats 4000000 in
theorem ok_Mo_isFirst : xOK g_Mo_isFirst k_Mo_isFirst := ⟨by decide +kernel, by decide +kernel, List.forall_mem_cons.mpr ⟨trivial, List.forall_mem_cons.mpr ⟨trivial, List.forall_mem_cons.mpr ⟨trivial, List.forall_mem_cons.mpr ⟨trivial, List.forall_mem_cons.mpr ⟨trivial, List.forall_mem_cons.mpr ⟨trivial, List.forall_mem_cons.mpr ⟨trivial, List.forall_mem_cons.mpr ⟨trivial, List.forall_mem_cons.mpr ⟨trivial, List.forall_mem_cons.mpr ⟨trivial, List.forall_mem_cons.mpr ⟨trivial, List.forall_mem_cons.mpr ⟨trivial, List.forall_mem_cons.mpr ⟨trivial, List.forall_mem_cons.mpr ⟨trivial, List.forall_mem_cons.mpr ⟨trivial, List.forall_mem_cons.mpr ⟨trivial, List.forall_mem_cons.mpr ⟨trivial, List.forall_mem_cons.mpr ⟨trivial, List.forall_mem_cons.mpr ⟨trivial, List.forall_mem_cons.mpr ⟨trivial, List.forall_mem_cons.mpr ⟨trivial, List.forall_mem_cons.mpr ⟨trivial, List.forall_mem_cons.mpr ⟨trivial, List.forall_mem_cons.mpr ⟨trivial, List.forall_mem_cons.mpr ⟨trivial, fun _ h => absurd h List.not_mem_nil⟩⟩⟩⟩⟩⟩⟩⟩⟩⟩⟩⟩⟩⟩⟩⟩⟩⟩⟩⟩⟩⟩⟩⟩⟩⟩
def k_Mo_orderOf : xCd := [
  (0, .iconst 1, 1, .inr (.inr (.inl (nI 1)))),
  (1, .istore_n 2, 1, .inl (0, 0)),
  (2, .iconst 0, 1, .inr (.inr (.inl (nI 0)))),
  (3, .istore_n 3, 1, .inl (0, 0)),
  (4, .iload_n 3, 1, .inl (0, 0)),
  (5, .ifCond .ne 60, 3, .inl (65, 0)),
  (8, .iconst 1, 1, .inr (.inr (.inl (nI 1)))),
  (9, .istore_n 3, 1, .inl (0, 0)),
  (10, .iconst 0, 1, .inr (.inr (.inl (nI 0)))),
  (11, .istore 4, 2, .inl (0, 0)),
  (13, .iload 4, 2, .inl (0, 0)),
  (15, .aload_n 0, 1, .inl (0, 0)),
  (16, .invokevirtual 64, 3, .inr (.inl g_Mo_size)),
  (19, .if_icmp .ge 31, 3, .inl (50, 0)),
  (22, .iload_n 3, 1, .inl (0, 0)),
  (23, .ifCond .eq 19, 3, .inl (42, 0)),
  (26, .iload_n 2, 1, .inl (0, 0)),
  (27, .aload_n 0, 1, .inl (0, 0)),
  (28, .aload_n 1, 1, .inl (0, 0)),
  (29, .iload 4, 2, .inl (0, 0)),
  (31, .invokevirtual 75, 3, .inr (.inl g_Mo_cycleOf)),
  (34, .irem, 1, .inl (0, 0)),
  (35, .ifCond .ne 7, 3, .inl (42, 0)),
  (38, .iconst 1, 1, .inr (.inr (.inl (nI 1)))),
  (39, .goto 4, 3, .inl (43, 0)),
  (42, .iconst 0, 1, .inr (.inr (.inl (nI 0)))),
  (43, .istore_n 3, 1, .inl (0, 0)),
  (44, .iinc 4 1, 3, .inr (.inr (.inl (nI 1)))),
  (47, .goto (-34), 3, .inl (13, 0)),
  (50, .iload_n 2, 1, .inl (0, 0)),
  (51, .iload_n 3, 1, .inl (0, 0)),
  (52, .ifCond .eq 7, 3, .inl (59, 0)),
  (55, .iconst 0, 1, .inr (.inr (.inl (nI 0)))),
  (56, .goto 4, 3, .inl (60, 0)),
  (59, .iconst 1, 1, .inr (.inr (.inl (nI 1)))),
  (60, .iadd, 1, .inl (0, 0)),
  (61, .istore_n 2, 1, .inl (0, 0)),
  (62, .goto (-58), 3, .inl (4, 0)),
  (65, .iload_n 2, 1, .inl (0, 0)),
  (66, .ireturn, 1, .inl (0, 0))]
set_option maxRecDepth 100000 in
set_option maxHeartbeats 4000000 in
theorem ok_Mo_orderOf : xOK g_Mo_orderOf k_Mo_orderOf := ⟨by decide +kernel, by decide +kernel, List.forall_mem_cons.mpr ⟨trivial, List.forall_mem_cons.mpr ⟨trivial, List.forall_mem_cons.mpr ⟨trivial, List.forall_mem_cons.mpr ⟨trivial, List.forall_mem_cons.mpr ⟨trivial, List.forall_mem_cons.mpr ⟨trivial, List.forall_mem_cons.mpr ⟨trivial, List.forall_mem_cons.mpr ⟨trivial, List.forall_mem_cons.mpr ⟨trivial, List.forall_mem_cons.mpr ⟨trivial, List.forall_mem_cons.mpr ⟨trivial, List.forall_mem_cons.mpr ⟨trivial, List.forall_mem_cons.mpr ⟨⟨ml_Mo_64, xmv_Mo_size⟩, List.forall_mem_cons.mpr ⟨trivial, List.forall_mem_cons.mpr ⟨trivial, List.forall_mem_cons.mpr ⟨trivial, List.forall_mem_cons.mpr ⟨trivial, List.forall_mem_cons.mpr ⟨trivial, List.forall_mem_cons.mpr ⟨trivial, List.forall_mem_cons.mpr ⟨trivial, List.forall_mem_cons.mpr ⟨⟨ml_Mo_75, xmv_Mo_cycleOf⟩, List.forall_mem_cons.mpr ⟨trivial, List.forall_mem_cons.mpr ⟨trivial, List.forall_mem_cons.mpr ⟨trivial, List.forall_mem_cons.mpr ⟨trivial, List.forall_mem_cons.mpr ⟨trivial, List.forall_mem_cons.mpr ⟨trivial, List.forall_mem_cons.mpr ⟨trivial, List.forall_mem_cons.mpr ⟨trivial, List.forall_mem_cons.mpr ⟨trivial, List.forall_mem_cons.mpr ⟨trivial, List.forall_mem_cons.mpr ⟨trivial, List.forall_mem_cons.mpr ⟨trivial, List.forall_mem_cons.mpr ⟨trivial, List.forall_mem_cons.mpr ⟨trivial, List.forall_mem_cons.mpr ⟨trivial, List.forall_mem_cons.mpr ⟨trivial, List.forall_mem_cons.mpr ⟨trivial, List.forall_mem_cons.mpr ⟨trivial, List.forall_mem_cons.mpr ⟨trivial, fun _ h => absurd h List.not_mem_nil⟩⟩⟩⟩⟩⟩⟩⟩⟩⟩⟩⟩⟩⟩⟩⟩⟩⟩⟩⟩⟩⟩⟩⟩⟩⟩⟩⟩⟩⟩⟩⟩⟩⟩⟩⟩⟩⟩⟩⟩⟩
def k_Mo_raises : xCd := [
  (0, .iconst 0, 1, .inr (.inr (.inl (nI 0)))),
  (1, .istore 4, 2, .inl (0, 0)),
  (3, .iload 4, 2, .inl (0, 0)),
  (5, .aload_n 0, 1, .inl (0, 0)),
  (6, .invokevirtual 64, 3, .inr (.inl g_Mo_size)),
  (9, .if_icmp .ge 40, 3, .inl (49, 0)),
  (12, .iload 4, 2, .inl (0, 0)),
  (14, .istore 5, 2, .inl (0, 0)),
  (16, .iconst 0, 1, .inr (.inr (.inl (nI 0)))),
  (17, .istore 6, 2, .inl (0, 0)),
  (19, .iload 6, 2, .inl (0, 0)),
  (21, .iload_n 2, 1, .inl (0, 0)),
  (22, .if_icmp .ge 15, 3, .inl (37, 0)),
  (25, .aload_n 1, 1, .inl (0, 0)),
  (26, .iload 5, 2, .inl (0, 0)),
  (28, .iaload, 1, .inl (0, 0)),
  (29, .istore 5, 2, .inl (0, 0)),
  (31, .iinc 6 1, 3, .inr (.inr (.inl (nI 1)))),
  (34, .goto (-15), 3, .inl (19, 0)),
  (37, .aload_n 3, 1, .inl (0, 0)),
  (38, .iload 4, 2, .inl (0, 0)),
  (40, .iload 5, 2, .inl (0, 0)),
  (42, .iastore, 1, .inl (0, 0)),
  (43, .iinc 4 1, 3, .inr (.inr (.inl (nI 1)))),
  (46, .goto (-43), 3, .inl (3, 0)),
  (49, .return_, 1, .inl (0, 0))]
set_option maxRecDepth 100000 in
set_option maxHeartbeats 4000000 in
theorem ok_Mo_raises : xOK g_Mo_raises k_Mo_raises := ⟨by decide +kernel, by decide +kernel, List.forall_mem_cons.mpr ⟨trivial, List.forall_mem_cons.mpr ⟨trivial, List.forall_mem_cons.mpr ⟨trivial, List.forall_mem_cons.mpr ⟨trivial, List.forall_mem_cons.mpr ⟨⟨ml_Mo_64, xmv_Mo_size⟩, List.forall_mem_cons.mpr ⟨trivial, List.forall_mem_cons.mpr ⟨trivial, List.forall_mem_cons.mpr ⟨trivial, List.forall_mem_cons.mpr ⟨trivial, List.forall_mem_cons.mpr ⟨trivial, List.forall_mem_cons.mpr ⟨trivial, List.forall_mem_cons.mpr ⟨trivial, List.forall_mem_cons.mpr ⟨trivial, List.forall_mem_cons.mpr ⟨trivial, List.forall_mem_cons.mpr ⟨trivial, List.forall_mem_cons.mpr ⟨trivial, List.forall_mem_cons.mpr ⟨trivial, List.forall_mem_cons.mpr ⟨trivial, List.forall_mem_cons.mpr ⟨trivial, List.forall_mem_cons.mpr ⟨trivial, List.forall_mem_cons.mpr ⟨trivial, List.forall_mem_cons.mpr ⟨trivial, List.forall_mem_cons.mpr ⟨trivial, List.forall_mem_cons.mpr ⟨trivial, List.forall_mem_cons.mpr ⟨trivial, List.forall_mem_cons.mpr ⟨trivial, fun _ h => absurd h List.not_mem_nil⟩⟩⟩⟩⟩⟩⟩⟩⟩⟩⟩⟩⟩⟩⟩⟩⟩⟩⟩⟩⟩⟩⟩⟩⟩⟩⟩
def k_Mo_isSame : xCd := [
  (0, .iconst 1, 1, .inr (.inr (.inl (nI 1)))),
  (1, .istore_n 3, 1, .inl (0, 0)),
  (2, .iconst 0, 1, .inr (.inr (.inl (nI 0)))),
  (3, .istore 4, 2, .inl (0, 0)),
  (5, .iload 4, 2, .inl (0, 0)),
  (7, .aload_n 0, 1, .inl (0, 0)),
  (8, .invokevirtual 64, 3, .inr (.inl g_Mo_size)),
  (11, .if_icmp .ge 30, 3, .inl (41, 0)),
  (14, .iload_n 3, 1, .inl (0, 0)),
  (15, .ifCond .eq 18, 3, .inl (33, 0)),
  (18, .aload_n 1, 1, .inl (0, 0)),
  (19, .iload 4, 2, .inl (0, 0)),
  (21, .iaload, 1, .inl (0, 0)),
  (22, .aload_n 2, 1, .inl (0, 0)),
  (23, .iload 4, 2, .inl (0, 0)),
  (25, .iaload, 1, .inl (0, 0)),
  (26, .if_icmp .ne 7, 3, .inl (33, 0)),
  (29, .iconst 1, 1, .inr (.inr (.inl (nI 1)))),
  (30, .goto 4, 3, .inl (34, 0)),
  (33, .iconst 0, 1, .inr (.inr (.inl (nI 0)))),
  (34, .istore_n 3, 1, .inl (0, 0)),
  (35, .iinc 4 1, 3, .inr (.inr (.inl (nI 1)))),
  (38, .goto (-33), 3, .inl (5, 0)),
  (41, .iload_n 3, 1, .inl (0, 0)),
  (42, .ireturn, 1, .inl (0, 0))]
set_option maxRecDepth 100000 in
set_option maxHeartbeats 4000000 in
theorem ok_Mo_isSame : xOK g_Mo_isSame k_Mo_isSame := ⟨by decide +kernel, by decide +kernel, List.forall_mem_cons.mpr ⟨trivial, List.forall_mem_cons.mpr ⟨trivial, List.forall_mem_cons.mpr ⟨trivial, List.forall_mem_cons.mpr ⟨trivial, List.forall_mem_cons.mpr ⟨trivial, List.forall_mem_cons.mpr ⟨trivial, List.forall_mem_cons.mpr ⟨⟨ml_Mo_64, xmv_Mo_size⟩, List.forall_mem_cons.mpr ⟨trivial, List.forall_mem_cons.mpr ⟨trivial, List.forall_mem_cons.mpr ⟨trivial, List.forall_mem_cons.mpr ⟨trivial, List.forall_mem_cons.mpr ⟨trivial, List.forall_mem_cons.mpr ⟨trivial, List.forall_mem_cons.mpr ⟨trivial, List.forall_mem_cons.mpr ⟨trivial, List.forall_mem_cons.mpr ⟨trivial, List.forall_mem_cons.mpr ⟨trivial, List.forall_mem_cons.mpr ⟨trivial, List.forall_mem_cons.mpr ⟨trivial, List.forall_mem_cons.mpr ⟨trivial, List.forall_mem_cons.mpr ⟨trivial, List.forall_mem_cons.mpr ⟨trivial, List.forall_mem_cons.mpr ⟨trivial, List.forall_mem_cons.mpr ⟨trivial, List.forall_mem_cons.mpr ⟨trivial, fun _ h => absurd h List.not_mem_nil⟩⟩⟩⟩⟩⟩⟩⟩⟩⟩⟩⟩⟩⟩⟩⟩⟩⟩⟩⟩⟩⟩⟩⟩⟩⟩
def k_Mo_make : xCd := [
  (0, .iload_n 1, 1, .inl (0, 0)),
  (1, .invokestatic 79, 3, .inr (.inl g_Mo_isRegister)),
  (4, .ifCond .eq 20, 3, .inl (24, 0)),
  (7, .iload_n 2, 1, .inl (0, 0)),
  (8, .iconst 0, 1, .inr (.inr (.inl (nI 0)))),
  (9, .iconst 5, 1, .inr (.inr (.inl (nI 5)))),
  (10, .invokestatic 57, 3, .inr (.inl g_Mo_in)),
  (13, .ifCond .eq 11, 3, .inl (24, 0)),
  (16, .aload_n 0, 1, .inl (0, 0)),
  (17, .iload_n 3, 1, .inl (0, 0)),
  (18, .invokevirtual 71, 3, .inr (.inl g_Mo_isLine)),
  (21, .ifCond .ne 5, 3, .inl (26, 0)),
  (24, .iconst (-1), 1, .inr (.inr (.inl (-1)))),
  (25, .ireturn, 1, .inl (0, 0)),
  (26, .aload_n 0, 1, .inl (0, 0)),
  (27, .invokevirtual 64, 3, .inr (.inl g_Mo_size)),
  (30, .istore 4, 2, .inl (0, 0)),
  (32, .aload_n 0, 1, .inl (0, 0)),
  (33, .invokevirtual 61, 3, .inr (.inl g_Mo_records)),
  (36, .aload_n 0, 1, .inl (0, 0)),
  (37, .aload_n 0, 1, .inl (0, 0)),
  (38, .getfield 16, 3, .inl (9, 4)),
  (41, .invokevirtual 82, 3, .inr (.inl g_Mo_identity)),
  (44, .iconst 0, 1, .inr (.inr (.inl (nI 0)))),
  (45, .istore 5, 2, .inl (0, 0)),
  (47, .iload 5, 2, .inl (0, 0)),
  (49, .iload 4, 2, .inl (0, 0)),
  (51, .if_icmp .ge 182, 3, .inl (233, 0)),
  (54, .iload_n 2, 1, .inl (0, 0)),
  (55, .tableswitch 172 1 5 #[33, 66, 83, 100, 131], 33, .inr (.inr (.inr (.inr (227, [(nI 1, 88), (nI 2, 121), (nI 3, 138), (nI 4, 155), (nI 5, 186)]))))),
  (88, .aload_n 0, 1, .inl (0, 0)),
  (89, .getfield 16, 3, .inl (9, 4)),
  (92, .iload 5, 2, .inl (0, 0)),
  (94, .iload 5, 2, .inl (0, 0)),
  (96, .iconst 2, 1, .inr (.inr (.inl (nI 2)))),
  (97, .irem, 1, .inl (0, 0)),
  (98, .ifCond .ne 15, 3, .inl (113, 0)),
  (101, .iload 4, 2, .inl (0, 0)),
  (103, .iconst 1, 1, .inr (.inr (.inl (nI 1)))),
  (104, .isub, 1, .inl (0, 0)),
  (105, .iload 5, 2, .inl (0, 0)),
  (107, .iconst 2, 1, .inr (.inr (.inl (nI 2)))),
  (108, .idiv, 1, .inl (0, 0)),
  (109, .isub, 1, .inl (0, 0)),
  (110, .goto 7, 3, .inl (117, 0)),
  (113, .iload 5, 2, .inl (0, 0)),
  (115, .iconst 2, 1, .inr (.inr (.inl (nI 2)))),
  (116, .idiv, 1, .inl (0, 0)),
  (117, .iastore, 1, .inl (0, 0)),
  (118, .goto 109, 3, .inl (227, 0)),
  (121, .aload_n 0, 1, .inl (0, 0)),
  (122, .getfield 16, 3, .inl (9, 4)),
  (125, .iload 5, 2, .inl (0, 0)),
  (127, .iload 4, 2, .inl (0, 0)),
  (129, .iconst 1, 1, .inr (.inr (.inl (nI 1)))),
  (130, .isub, 1, .inl (0, 0)),
  (131, .iload 5, 2, .inl (0, 0)),
  (133, .isub, 1, .inl (0, 0)),
  (134, .iastore, 1, .inl (0, 0)),
  (135, .goto 92, 3, .inl (227, 0)),
  (138, .aload_n 0, 1, .inl (0, 0)),
  (139, .getfield 16, 3, .inl (9, 4)),
  (142, .iload 5, 2, .inl (0, 0)),
  (144, .iload 5, 2, .inl (0, 0)),
  (146, .iload_n 3, 1, .inl (0, 0)),
  (147, .iadd, 1, .inl (0, 0)),
  (148, .iload 4, 2, .inl (0, 0)),
  (150, .irem, 1, .inl (0, 0)),
  (151, .iastore, 1, .inl (0, 0)),
  (152, .goto 75, 3, .inl (227, 0)),
  (155, .aload_n 0, 1, .inl (0, 0)),
  (156, .getfield 16, 3, .inl (9, 4)),
  (159, .iload 5, 2, .inl (0, 0)),
  (161, .iload 5, 2, .inl (0, 0)),
  (163, .ifCond .ne 7, 3, .inl (170, 0)),
  (166, .iload_n 3, 1, .inl (0, 0)),
  (167, .goto 15, 3, .inl (182, 0)),
  (170, .iload 5, 2, .inl (0, 0)),
  (172, .iload_n 3, 1, .inl (0, 0)),
  (173, .if_icmp .ne 7, 3, .inl (180, 0)),
  (176, .iconst 0, 1, .inr (.inr (.inl (nI 0)))),
  (177, .goto 5, 3, .inl (182, 0)),
  (180, .iload 5, 2, .inl (0, 0)),
  (182, .iastore, 1, .inl (0, 0)),
  (183, .goto 44, 3, .inl (227, 0)),
  (186, .aload_n 0, 1, .inl (0, 0)),
  (187, .getfield 16, 3, .inl (9, 4)),
  (190, .iload 5, 2, .inl (0, 0)),
  (192, .iload 5, 2, .inl (0, 0)),
  (194, .iload 4, 2, .inl (0, 0)),
  (196, .iconst 1, 1, .inr (.inr (.inl (nI 1)))),
  (197, .iadd, 1, .inl (0, 0)),
  (198, .iconst 2, 1, .inr (.inr (.inl (nI 2)))),
  (199, .idiv, 1, .inl (0, 0)),
  (200, .if_icmp .ge 10, 3, .inl (210, 0)),
  (203, .iconst 2, 1, .inr (.inr (.inl (nI 2)))),
  (204, .iload 5, 2, .inl (0, 0)),
  (206, .imul, 1, .inl (0, 0)),
  (207, .goto 16, 3, .inl (223, 0)),
  (210, .iconst 2, 1, .inr (.inr (.inl (nI 2)))),
  (211, .iload 5, 2, .inl (0, 0)),
  (213, .iload 4, 2, .inl (0, 0)),
  (215, .iconst 1, 1, .inr (.inr (.inl (nI 1)))),
  (216, .iadd, 1, .inl (0, 0)),
  (217, .iconst 2, 1, .inr (.inr (.inl (nI 2)))),
  (218, .idiv, 1, .inl (0, 0)),
  (219, .isub, 1, .inl (0, 0)),
  (220, .imul, 1, .inl (0, 0)),
  (221, .iconst 1, 1, .inr (.inr (.inl (nI 1)))),
  (222, .iadd, 1, .inl (0, 0)),
  (223, .iastore, 1, .inl (0, 0)),
  (224, .goto 3, 3, .inl (227, 0)),
  (227, .iinc 5 1, 3, .inr (.inr (.inl (nI 1)))),
  (230, .goto (-183), 3, .inl (47, 0)),
  (233, .aload_n 0, 1, .inl (0, 0)),
  (234, .aload_n 0, 1, .inl (0, 0)),
  (235, .getfield 16, 3, .inl (9, 4)),
  (238, .iload_n 1, 1, .inl (0, 0)),
  (239, .invokevirtual 86, 3, .inr (.inl g_Mo_puts)),
  (242, .aload_n 0, 1, .inl (0, 0)),
  (243, .aload_n 0, 1, .inl (0, 0)),
  (244, .getfield 16, 3, .inl (9, 4)),
  (247, .invokevirtual 90, 3, .inr (.inl g_Mo_rank)),
  (250, .ireturn, 1, .inl (0, 0))]
set_option maxRecDepth 100000 in
set_option maxHeartbeats 4000000 in
theorem ok_Mo_make : xOK g_Mo_make k_Mo_make := ⟨by decide +kernel, by decide +kernel, List.forall_mem_cons.mpr ⟨trivial, List.forall_mem_cons.mpr ⟨⟨ml_Mo_79, xms_Mo_isRegister⟩, List.forall_mem_cons.mpr ⟨trivial, List.forall_mem_cons.mpr ⟨trivial, List.forall_mem_cons.mpr ⟨trivial, List.forall_mem_cons.mpr ⟨trivial, List.forall_mem_cons.mpr ⟨⟨ml_Mo_57, xms_Mo_in⟩, List.forall_mem_cons.mpr ⟨trivial, List.forall_mem_cons.mpr ⟨trivial, List.forall_mem_cons.mpr ⟨trivial, List.forall_mem_cons.mpr ⟨⟨ml_Mo_71, xmv_Mo_isLine⟩, List.forall_mem_cons.mpr ⟨trivial, List.forall_mem_cons.mpr ⟨trivial, List.forall_mem_cons.mpr ⟨trivial, List.forall_mem_cons.mpr ⟨trivial, List.forall_mem_cons.mpr ⟨⟨ml_Mo_64, xmv_Mo_size⟩, List.forall_mem_cons.mpr ⟨trivial, List.forall_mem_cons.mpr ⟨trivial, List.forall_mem_cons.mpr ⟨⟨ml_Mo_61, xmv_Mo_records⟩, List.forall_mem_cons.mpr ⟨trivial, List.forall_mem_cons.mpr ⟨trivial, List.forall_mem_cons.mpr ⟨fl_Mo_16, List.forall_mem_cons.mpr ⟨⟨ml_Mo_82, xmv_Mo_identity⟩, List.forall_mem_cons.mpr ⟨trivial, List.forall_mem_cons.mpr ⟨trivial, List.forall_mem_cons.mpr ⟨trivial, List.forall_mem_cons.mpr ⟨trivial, List.forall_mem_cons.mpr ⟨trivial, List.forall_mem_cons.mpr ⟨trivial, List.forall_mem_cons.mpr ⟨trivial, List.forall_mem_cons.mpr ⟨trivial, List.forall_mem_cons.mpr ⟨fl_Mo_16, List.forall_mem_cons.mpr ⟨trivial, List.forall_mem_cons.mpr ⟨trivial, List.forall_mem_cons.mpr ⟨trivial, List.forall_mem_cons.mpr ⟨trivial, List.forall_mem_cons.mpr ⟨trivial, List.forall_mem_cons.mpr ⟨trivial, List.forall_mem_cons.mpr ⟨trivial, List.forall_mem_cons.mpr ⟨trivial, List.forall_mem_cons.mpr ⟨trivial, List.forall_mem_cons.mpr ⟨trivial, List.forall_mem_cons.mpr ⟨trivial, List.forall_mem_cons.mpr ⟨trivial, List.forall_mem_cons.mpr ⟨trivial, List.forall_mem_cons.mpr ⟨trivial, List.forall_mem_cons.mpr ⟨trivial, List.forall_mem_cons.mpr ⟨trivial, List.forall_mem_cons.mpr ⟨trivial, List.forall_mem_cons.mpr ⟨trivial, List.forall_mem_cons.mpr ⟨trivial, List.forall_mem_cons.mpr ⟨fl_Mo_16, List.forall_mem_cons.mpr ⟨trivial, List.forall_mem_cons.mpr ⟨trivial, List.forall_mem_cons.mpr ⟨trivial, List.forall_mem_cons.mpr ⟨trivial, List.forall_mem_cons.mpr ⟨trivial, List.forall_mem_cons.mpr ⟨trivial, List.forall_mem_cons.mpr ⟨trivial, List.forall_mem_cons.mpr ⟨trivial, List.forall_mem_cons.mpr ⟨trivial, List.forall_mem_cons.mpr ⟨fl_Mo_16, List.forall_mem_cons.mpr ⟨trivial, List.forall_mem_cons.mpr ⟨trivial, List.forall_mem_cons.mpr ⟨trivial, List.forall_mem_cons.mpr ⟨trivial, List.forall_mem_cons.mpr ⟨trivial, List.forall_mem_cons.mpr ⟨trivial, List.forall_mem_cons.mpr ⟨trivial, List.forall_mem_cons.mpr ⟨trivial, List.forall_mem_cons.mpr ⟨trivial, List.forall_mem_cons.mpr ⟨fl_Mo_16, List.forall_mem_cons.mpr ⟨trivial, List.forall_mem_cons.mpr ⟨trivial, List.forall_mem_cons.mpr ⟨trivial, List.forall_mem_cons.mpr ⟨trivial, List.forall_mem_cons.mpr ⟨trivial, List.forall_mem_cons.mpr ⟨trivial, List.forall_mem_cons.mpr ⟨trivial, List.forall_mem_cons.mpr ⟨trivial, List.forall_mem_cons.mpr ⟨trivial, List.forall_mem_cons.mpr ⟨trivial, List.forall_mem_cons.mpr ⟨trivial, List.forall_mem_cons.mpr ⟨trivial, List.forall_mem_cons.mpr ⟨trivial, List.forall_mem_cons.mpr ⟨trivial, List.forall_mem_cons.mpr ⟨fl_Mo_16, List.forall_mem_cons.mpr ⟨trivial, List.forall_mem_cons.mpr ⟨trivial, List.forall_mem_cons.mpr ⟨trivial, List.forall_mem_cons.mpr ⟨trivial, List.forall_mem_cons.mpr ⟨trivial, List.forall_mem_cons.mpr ⟨trivial, List.forall_mem_cons.mpr ⟨trivial, List.forall_mem_cons.mpr ⟨trivial, List.forall_mem_cons.mpr ⟨trivial, List.forall_mem_cons.mpr ⟨trivial, List.forall_mem_cons.mpr ⟨trivial, List.forall_mem_cons.mpr ⟨trivial, List.forall_mem_cons.mpr ⟨trivial, List.forall_mem_cons.mpr ⟨trivial, List.forall_mem_cons.mpr ⟨trivial, List.forall_mem_cons.mpr ⟨trivial, List.forall_mem_cons.mpr ⟨trivial, List.forall_mem_cons.mpr ⟨trivial, List.forall_mem_cons.mpr ⟨trivial, List.forall_mem_cons.mpr ⟨trivial, List.forall_mem_cons.mpr ⟨trivial, List.forall_mem_cons.mpr ⟨trivial, List.forall_mem_cons.mpr ⟨trivial, List.forall_mem_cons.mpr ⟨trivial, List.forall_mem_cons.mpr ⟨trivial, List.forall_mem_cons.mpr ⟨trivial, List.forall_mem_cons.mpr ⟨trivial, List.forall_mem_cons.mpr ⟨trivial, List.forall_mem_cons.mpr ⟨trivial, List.forall_mem_cons.mpr ⟨fl_Mo_16, List.forall_mem_cons.mpr ⟨trivial, List.forall_mem_cons.mpr ⟨⟨ml_Mo_86, xmv_Mo_puts⟩, List.forall_mem_cons.mpr ⟨trivial, List.forall_mem_cons.mpr ⟨trivial, List.forall_mem_cons.mpr ⟨fl_Mo_16, List.forall_mem_cons.mpr ⟨⟨ml_Mo_90, xmv_Mo_rank⟩, List.forall_mem_cons.mpr ⟨trivial, fun _ h => absurd h List.not_mem_nil⟩⟩⟩⟩⟩⟩⟩⟩⟩⟩⟩⟩⟩⟩⟩⟩⟩⟩⟩⟩⟩⟩⟩⟩⟩⟩⟩⟩⟩⟩⟩⟩⟩⟩⟩⟩⟩⟩⟩⟩⟩⟩⟩⟩⟩⟩⟩⟩⟩⟩⟩⟩⟩⟩⟩⟩⟩⟩⟩⟩⟩⟩⟩⟩⟩⟩⟩⟩⟩⟩⟩⟩⟩⟩⟩⟩⟩⟩⟩⟩⟩⟩⟩⟩⟩⟩⟩⟩⟩⟩⟩⟩⟩⟩⟩⟩⟩⟩⟩⟩⟩⟩⟩⟩⟩⟩⟩⟩⟩⟩⟩⟩⟩⟩⟩⟩⟩⟩⟩⟩⟩⟩⟩⟩⟩
def k_Mo_product : xCd := [
  (0, .iload_n 1, 1, .inl (0, 0)),
  (1, .invokestatic 79, 3, .inr (.inl g_Mo_isRegister)),
  (4, .ifCond .eq 17, 3, .inl (21, 0)),
  (7, .iload_n 2, 1, .inl (0, 0)),
  (8, .invokestatic 79, 3, .inr (.inl g_Mo_isRegister)),
  (11, .ifCond .eq 10, 3, .inl (21, 0)),
  (14, .iload_n 3, 1, .inl (0, 0)),
  (15, .invokestatic 79, 3, .inr (.inl g_Mo_isRegister)),
  (18, .ifCond .ne 5, 3, .inl (23, 0)),
  (21, .iconst (-1), 1, .inr (.inr (.inl (-1)))),
  (22, .ireturn, 1, .inl (0, 0)),
  (23, .aload_n 0, 1, .inl (0, 0)),
  (24, .invokevirtual 61, 3, .inr (.inl g_Mo_records)),
  (27, .aload_n 0, 1, .inl (0, 0)),
  (28, .iload_n 1, 1, .inl (0, 0)),
  (29, .aload_n 0, 1, .inl (0, 0)),
  (30, .getfield 16, 3, .inl (9, 4)),
  (33, .invokevirtual 94, 3, .inr (.inl g_Mo_takes)),
  (36, .aload_n 0, 1, .inl (0, 0)),
  (37, .iload_n 2, 1, .inl (0, 0)),
  (38, .aload_n 0, 1, .inl (0, 0)),
  (39, .getfield 19, 3, .inl (9, 5)),
  (42, .invokevirtual 94, 3, .inr (.inl g_Mo_takes)),
  (45, .aload_n 0, 1, .inl (0, 0)),
  (46, .aload_n 0, 1, .inl (0, 0)),
  (47, .getfield 16, 3, .inl (9, 4)),
  (50, .aload_n 0, 1, .inl (0, 0)),
  (51, .getfield 19, 3, .inl (9, 5)),
  (54, .aload_n 0, 1, .inl (0, 0)),
  (55, .getfield 22, 3, .inl (9, 6)),
  (58, .invokevirtual 98, 3, .inr (.inl g_Mo_multiplies)),
  (61, .aload_n 0, 1, .inl (0, 0)),
  (62, .aload_n 0, 1, .inl (0, 0)),
  (63, .getfield 22, 3, .inl (9, 6)),
  (66, .iload_n 3, 1, .inl (0, 0)),
  (67, .invokevirtual 86, 3, .inr (.inl g_Mo_puts)),
  (70, .aload_n 0, 1, .inl (0, 0)),
  (71, .aload_n 0, 1, .inl (0, 0)),
  (72, .getfield 22, 3, .inl (9, 6)),
  (75, .invokevirtual 90, 3, .inr (.inl g_Mo_rank)),
  (78, .ireturn, 1, .inl (0, 0))]
set_option maxRecDepth 100000 in
set_option maxHeartbeats 4000000 in
theorem ok_Mo_product : xOK g_Mo_product k_Mo_product := ⟨by decide +kernel, by decide +kernel, List.forall_mem_cons.mpr ⟨trivial, List.forall_mem_cons.mpr ⟨⟨ml_Mo_79, xms_Mo_isRegister⟩, List.forall_mem_cons.mpr ⟨trivial, List.forall_mem_cons.mpr ⟨trivial, List.forall_mem_cons.mpr ⟨⟨ml_Mo_79, xms_Mo_isRegister⟩, List.forall_mem_cons.mpr ⟨trivial, List.forall_mem_cons.mpr ⟨trivial, List.forall_mem_cons.mpr ⟨⟨ml_Mo_79, xms_Mo_isRegister⟩, List.forall_mem_cons.mpr ⟨trivial, List.forall_mem_cons.mpr ⟨trivial, List.forall_mem_cons.mpr ⟨trivial, List.forall_mem_cons.mpr ⟨trivial, List.forall_mem_cons.mpr ⟨⟨ml_Mo_61, xmv_Mo_records⟩, List.forall_mem_cons.mpr ⟨trivial, List.forall_mem_cons.mpr ⟨trivial, List.forall_mem_cons.mpr ⟨trivial, List.forall_mem_cons.mpr ⟨fl_Mo_16, List.forall_mem_cons.mpr ⟨⟨ml_Mo_94, xmv_Mo_takes⟩, List.forall_mem_cons.mpr ⟨trivial, List.forall_mem_cons.mpr ⟨trivial, List.forall_mem_cons.mpr ⟨trivial, List.forall_mem_cons.mpr ⟨fl_Mo_19, List.forall_mem_cons.mpr ⟨⟨ml_Mo_94, xmv_Mo_takes⟩, List.forall_mem_cons.mpr ⟨trivial, List.forall_mem_cons.mpr ⟨trivial, List.forall_mem_cons.mpr ⟨fl_Mo_16, List.forall_mem_cons.mpr ⟨trivial, List.forall_mem_cons.mpr ⟨fl_Mo_19, List.forall_mem_cons.mpr ⟨trivial, List.forall_mem_cons.mpr ⟨fl_Mo_22, List.forall_mem_cons.mpr ⟨⟨ml_Mo_98, xmv_Mo_multiplies⟩, List.forall_mem_cons.mpr ⟨trivial, List.forall_mem_cons.mpr ⟨trivial, List.forall_mem_cons.mpr ⟨fl_Mo_22, List.forall_mem_cons.mpr ⟨trivial, List.forall_mem_cons.mpr ⟨⟨ml_Mo_86, xmv_Mo_puts⟩, List.forall_mem_cons.mpr ⟨trivial, List.forall_mem_cons.mpr ⟨trivial, List.forall_mem_cons.mpr ⟨fl_Mo_22, List.forall_mem_cons.mpr ⟨⟨ml_Mo_90, xmv_Mo_rank⟩, List.forall_mem_cons.mpr ⟨trivial, fun _ h => absurd h List.not_mem_nil⟩⟩⟩⟩⟩⟩⟩⟩⟩⟩⟩⟩⟩⟩⟩⟩⟩⟩⟩⟩⟩⟩⟩⟩⟩⟩⟩⟩⟩⟩⟩⟩⟩⟩⟩⟩⟩⟩⟩⟩⟩⟩
def k_Mo_power : xCd := [
  (0, .iload_n 1, 1, .inl (0, 0)),
  (1, .invokestatic 79, 3, .inr (.inl g_Mo_isRegister)),
  (4, .ifCond .eq 21, 3, .inl (25, 0)),
  (7, .iload_n 2, 1, .inl (0, 0)),
  (8, .ldc 102, 2, .inr (.inr (.inl (-1000000)))),
  (10, .ldc 103, 2, .inr (.inr (.inl (nI 1000000)))),
  (12, .invokestatic 57, 3, .inr (.inl g_Mo_in)),
  (15, .ifCond .eq 10, 3, .inl (25, 0)),
  (18, .iload_n 3, 1, .inl (0, 0)),
  (19, .invokestatic 79, 3, .inr (.inl g_Mo_isRegister)),
  (22, .ifCond .ne 5, 3, .inl (27, 0)),
  (25, .iconst (-1), 1, .inr (.inr (.inl (-1)))),
  (26, .ireturn, 1, .inl (0, 0)),
  (27, .aload_n 0, 1, .inl (0, 0)),
  (28, .invokevirtual 61, 3, .inr (.inl g_Mo_records)),
  (31, .aload_n 0, 1, .inl (0, 0)),
  (32, .iload_n 1, 1, .inl (0, 0)),
  (33, .aload_n 0, 1, .inl (0, 0)),
  (34, .getfield 16, 3, .inl (9, 4)),
  (37, .invokevirtual 94, 3, .inr (.inl g_Mo_takes)),
  (40, .aload_n 0, 1, .inl (0, 0)),
  (41, .aload_n 0, 1, .inl (0, 0)),
  (42, .getfield 16, 3, .inl (9, 4)),
  (45, .invokevirtual 104, 3, .inr (.inl g_Mo_orderOf)),
  (48, .istore 4, 2, .inl (0, 0)),
  (50, .aload_n 0, 1, .inl (0, 0)),
  (51, .aload_n 0, 1, .inl (0, 0)),
  (52, .getfield 16, 3, .inl (9, 4)),
  (55, .iload_n 2, 1, .inl (0, 0)),
  (56, .iload 4, 2, .inl (0, 0)),
  (58, .irem, 1, .inl (0, 0)),
  (59, .iload 4, 2, .inl (0, 0)),
  (61, .iadd, 1, .inl (0, 0)),
  (62, .iload 4, 2, .inl (0, 0)),
  (64, .irem, 1, .inl (0, 0)),
  (65, .aload_n 0, 1, .inl (0, 0)),
  (66, .getfield 19, 3, .inl (9, 5)),
  (69, .invokevirtual 107, 3, .inr (.inl g_Mo_raises)),
  (72, .aload_n 0, 1, .inl (0, 0)),
  (73, .aload_n 0, 1, .inl (0, 0)),
  (74, .getfield 19, 3, .inl (9, 5)),
  (77, .iload_n 3, 1, .inl (0, 0)),
  (78, .invokevirtual 86, 3, .inr (.inl g_Mo_puts)),
  (81, .aload_n 0, 1, .inl (0, 0)),
  (82, .aload_n 0, 1, .inl (0, 0)),
  (83, .getfield 19, 3, .inl (9, 5)),
  (86, .invokevirtual 90, 3, .inr (.inl g_Mo_rank)),
  (89, .ireturn, 1, .inl (0, 0))]
set_option maxRecDepth 100000 in
set_option maxHeartbeats 4000000 in
theorem ok_Mo_power : xOK g_Mo_power k_Mo_power := ⟨by decide +kernel, by decide +kernel, List.forall_mem_cons.mpr ⟨trivial, List.forall_mem_cons.mpr ⟨⟨ml_Mo_79, xms_Mo_isRegister⟩, List.forall_mem_cons.mpr ⟨trivial, List.forall_mem_cons.mpr ⟨trivial, List.forall_mem_cons.mpr ⟨lw_gm 937 rfl rfl, List.forall_mem_cons.mpr ⟨lw_gm 938 rfl rfl, List.forall_mem_cons.mpr ⟨⟨ml_Mo_57, xms_Mo_in⟩, List.forall_mem_cons.mpr ⟨trivial, List.forall_mem_cons.mpr ⟨trivial, List.forall_mem_cons.mpr ⟨⟨ml_Mo_79, xms_Mo_isRegister⟩, List.forall_mem_cons.mpr ⟨trivial, List.forall_mem_cons.mpr ⟨trivial, List.forall_mem_cons.mpr ⟨trivial, List.forall_mem_cons.mpr ⟨trivial, List.forall_mem_cons.mpr ⟨⟨ml_Mo_61, xmv_Mo_records⟩, List.forall_mem_cons.mpr ⟨trivial, List.forall_mem_cons.mpr ⟨trivial, List.forall_mem_cons.mpr ⟨trivial, List.forall_mem_cons.mpr ⟨fl_Mo_16, List.forall_mem_cons.mpr ⟨⟨ml_Mo_94, xmv_Mo_takes⟩, List.forall_mem_cons.mpr ⟨trivial, List.forall_mem_cons.mpr ⟨trivial, List.forall_mem_cons.mpr ⟨fl_Mo_16, List.forall_mem_cons.mpr ⟨⟨ml_Mo_104, xmv_Mo_orderOf⟩, List.forall_mem_cons.mpr ⟨trivial, List.forall_mem_cons.mpr ⟨trivial, List.forall_mem_cons.mpr ⟨trivial, List.forall_mem_cons.mpr ⟨fl_Mo_16, List.forall_mem_cons.mpr ⟨trivial, List.forall_mem_cons.mpr ⟨trivial, List.forall_mem_cons.mpr ⟨trivial, List.forall_mem_cons.mpr ⟨trivial, List.forall_mem_cons.mpr ⟨trivial, List.forall_mem_cons.mpr ⟨trivial, List.forall_mem_cons.mpr ⟨trivial, List.forall_mem_cons.mpr ⟨trivial, List.forall_mem_cons.mpr ⟨fl_Mo_19, List.forall_mem_cons.mpr ⟨⟨ml_Mo_107, xmv_Mo_raises⟩, List.forall_mem_cons.mpr ⟨trivial, List.forall_mem_cons.mpr ⟨trivial, List.forall_mem_cons.mpr ⟨fl_Mo_19, List.forall_mem_cons.mpr ⟨trivial, List.forall_mem_cons.mpr ⟨⟨ml_Mo_86, xmv_Mo_puts⟩, List.forall_mem_cons.mpr ⟨trivial, List.forall_mem_cons.mpr ⟨trivial, List.forall_mem_cons.mpr ⟨fl_Mo_19, List.forall_mem_cons.mpr ⟨⟨ml_Mo_90, xmv_Mo_rank⟩, List.forall_mem_cons.mpr ⟨trivial, fun _ h => absurd h List.not_mem_nil⟩⟩⟩⟩⟩⟩⟩⟩⟩⟩⟩⟩⟩⟩⟩⟩⟩⟩⟩⟩⟩⟩⟩⟩⟩⟩⟩⟩⟩⟩⟩⟩⟩⟩⟩⟩⟩⟩⟩⟩⟩⟩⟩⟩⟩⟩⟩⟩⟩
def k_Mo_unrank : xCd := [
  (0, .iload_n 1, 1, .inl (0, 0)),
  (1, .invokestatic 79, 3, .inr (.inl g_Mo_isRegister)),
  (4, .ifCond .eq 17, 3, .inl (21, 0)),
  (7, .iload_n 2, 1, .inl (0, 0)),
  (8, .iconst 0, 1, .inr (.inr (.inl (nI 0)))),
  (9, .aload_n 0, 1, .inl (0, 0)),
  (10, .invokevirtual 111, 3, .inr (.inl g_Mo_factorial)),
  (13, .iconst 1, 1, .inr (.inr (.inl (nI 1)))),
  (14, .isub, 1, .inl (0, 0)),
  (15, .invokestatic 57, 3, .inr (.inl g_Mo_in)),
  (18, .ifCond .ne 5, 3, .inl (23, 0)),
  (21, .iconst (-1), 1, .inr (.inr (.inl (-1)))),
  (22, .ireturn, 1, .inl (0, 0)),
  (23, .aload_n 0, 1, .inl (0, 0)),
  (24, .invokevirtual 61, 3, .inr (.inl g_Mo_records)),
  (27, .aload_n 0, 1, .inl (0, 0)),
  (28, .iload_n 2, 1, .inl (0, 0)),
  (29, .aload_n 0, 1, .inl (0, 0)),
  (30, .getfield 16, 3, .inl (9, 4)),
  (33, .invokevirtual 114, 3, .inr (.inl g_Mo_unranks)),
  (36, .aload_n 0, 1, .inl (0, 0)),
  (37, .aload_n 0, 1, .inl (0, 0)),
  (38, .getfield 16, 3, .inl (9, 4)),
  (41, .iload_n 1, 1, .inl (0, 0)),
  (42, .invokevirtual 86, 3, .inr (.inl g_Mo_puts)),
  (45, .aload_n 0, 1, .inl (0, 0)),
  (46, .aload_n 0, 1, .inl (0, 0)),
  (47, .getfield 16, 3, .inl (9, 4)),
  (50, .invokevirtual 104, 3, .inr (.inl g_Mo_orderOf)),
  (53, .ireturn, 1, .inl (0, 0))]
set_option maxRecDepth 100000 in
set_option maxHeartbeats 4000000 in
theorem ok_Mo_unrank : xOK g_Mo_unrank k_Mo_unrank := ⟨by decide +kernel, by decide +kernel, List.forall_mem_cons.mpr ⟨trivial, List.forall_mem_cons.mpr ⟨⟨ml_Mo_79, xms_Mo_isRegister⟩, List.forall_mem_cons.mpr ⟨trivial, List.forall_mem_cons.mpr ⟨trivial, List.forall_mem_cons.mpr ⟨trivial, List.forall_mem_cons.mpr ⟨trivial, List.forall_mem_cons.mpr ⟨⟨ml_Mo_111, xmv_Mo_factorial⟩, List.forall_mem_cons.mpr ⟨trivial, List.forall_mem_cons.mpr ⟨trivial, List.forall_mem_cons.mpr ⟨⟨ml_Mo_57, xms_Mo_in⟩, List.forall_mem_cons.mpr ⟨trivial, List.forall_mem_cons.mpr ⟨trivial, List.forall_mem_cons.mpr ⟨trivial, List.forall_mem_cons.mpr ⟨trivial, List.forall_mem_cons.mpr ⟨⟨ml_Mo_61, xmv_Mo_records⟩, List.forall_mem_cons.mpr ⟨trivial, List.forall_mem_cons.mpr ⟨trivial, List.forall_mem_cons.mpr ⟨trivial, List.forall_mem_cons.mpr ⟨fl_Mo_16, List.forall_mem_cons.mpr ⟨⟨ml_Mo_114, xmv_Mo_unranks⟩, List.forall_mem_cons.mpr ⟨trivial, List.forall_mem_cons.mpr ⟨trivial, List.forall_mem_cons.mpr ⟨fl_Mo_16, List.forall_mem_cons.mpr ⟨trivial, List.forall_mem_cons.mpr ⟨⟨ml_Mo_86, xmv_Mo_puts⟩, List.forall_mem_cons.mpr ⟨trivial, List.forall_mem_cons.mpr ⟨trivial, List.forall_mem_cons.mpr ⟨fl_Mo_16, List.forall_mem_cons.mpr ⟨⟨ml_Mo_104, xmv_Mo_orderOf⟩, List.forall_mem_cons.mpr ⟨trivial, fun _ h => absurd h List.not_mem_nil⟩⟩⟩⟩⟩⟩⟩⟩⟩⟩⟩⟩⟩⟩⟩⟩⟩⟩⟩⟩⟩⟩⟩⟩⟩⟩⟩⟩⟩⟩⟩
def k_Mo_root : xCd := [
  (0, .iload_n 1, 1, .inl (0, 0)),
  (1, .invokestatic 79, 3, .inr (.inl g_Mo_isRegister)),
  (4, .ifCond .eq 20, 3, .inl (24, 0)),
  (7, .iload_n 2, 1, .inl (0, 0)),
  (8, .iconst 1, 1, .inr (.inr (.inl (nI 1)))),
  (9, .bipush 12, 2, .inr (.inr (.inl (nI 12)))),
  (11, .invokestatic 57, 3, .inr (.inl g_Mo_in)),
  (14, .ifCond .eq 10, 3, .inl (24, 0)),
  (17, .iload_n 3, 1, .inl (0, 0)),
  (18, .invokestatic 79, 3, .inr (.inl g_Mo_isRegister)),
  (21, .ifCond .ne 5, 3, .inl (26, 0)),
  (24, .iconst (-1), 1, .inr (.inr (.inl (-1)))),
  (25, .ireturn, 1, .inl (0, 0)),
  (26, .aload_n 0, 1, .inl (0, 0)),
  (27, .invokevirtual 61, 3, .inr (.inl g_Mo_records)),
  (30, .aload_n 0, 1, .inl (0, 0)),
  (31, .iload_n 1, 1, .inl (0, 0)),
  (32, .aload_n 0, 1, .inl (0, 0)),
  (33, .getfield 16, 3, .inl (9, 4)),
  (36, .invokevirtual 94, 3, .inr (.inl g_Mo_takes)),
  (39, .iconst 0, 1, .inr (.inr (.inl (nI 0)))),
  (40, .istore 4, 2, .inl (0, 0)),
  (42, .iload 4, 2, .inl (0, 0)),
  (44, .aload_n 0, 1, .inl (0, 0)),
  (45, .invokevirtual 111, 3, .inr (.inl g_Mo_factorial)),
  (48, .if_icmp .ge 59, 3, .inl (107, 0)),
  (51, .aload_n 0, 1, .inl (0, 0)),
  (52, .iload 4, 2, .inl (0, 0)),
  (54, .aload_n 0, 1, .inl (0, 0)),
  (55, .getfield 19, 3, .inl (9, 5)),
  (58, .invokevirtual 114, 3, .inr (.inl g_Mo_unranks)),
  (61, .aload_n 0, 1, .inl (0, 0)),
  (62, .aload_n 0, 1, .inl (0, 0)),
  (63, .getfield 19, 3, .inl (9, 5)),
  (66, .iload_n 2, 1, .inl (0, 0)),
  (67, .aload_n 0, 1, .inl (0, 0)),
  (68, .getfield 22, 3, .inl (9, 6)),
  (71, .invokevirtual 107, 3, .inr (.inl g_Mo_raises)),
  (74, .aload_n 0, 1, .inl (0, 0)),
  (75, .aload_n 0, 1, .inl (0, 0)),
  (76, .getfield 22, 3, .inl (9, 6)),
  (79, .aload_n 0, 1, .inl (0, 0)),
  (80, .getfield 16, 3, .inl (9, 4)),
  (83, .invokevirtual 117, 3, .inr (.inl g_Mo_isSame)),
  (86, .ifCond .eq 15, 3, .inl (101, 0)),
  (89, .aload_n 0, 1, .inl (0, 0)),
  (90, .aload_n 0, 1, .inl (0, 0)),
  (91, .getfield 19, 3, .inl (9, 5)),
  (94, .iload_n 3, 1, .inl (0, 0)),
  (95, .invokevirtual 86, 3, .inr (.inl g_Mo_puts)),
  (98, .iload 4, 2, .inl (0, 0)),
  (100, .ireturn, 1, .inl (0, 0)),
  (101, .iinc 4 1, 3, .inr (.inr (.inl (nI 1)))),
  (104, .goto (-62), 3, .inl (42, 0)),
  (107, .bipush (-9), 2, .inr (.inr (.inl (-9)))),
  (109, .ireturn, 1, .inl (0, 0))]
set_option maxRecDepth 100000 in
set_option maxHeartbeats 4000000 in
theorem ok_Mo_root : xOK g_Mo_root k_Mo_root := ⟨by decide +kernel, by decide +kernel, List.forall_mem_cons.mpr ⟨trivial, List.forall_mem_cons.mpr ⟨⟨ml_Mo_79, xms_Mo_isRegister⟩, List.forall_mem_cons.mpr ⟨trivial, List.forall_mem_cons.mpr ⟨trivial, List.forall_mem_cons.mpr ⟨trivial, List.forall_mem_cons.mpr ⟨trivial, List.forall_mem_cons.mpr ⟨⟨ml_Mo_57, xms_Mo_in⟩, List.forall_mem_cons.mpr ⟨trivial, List.forall_mem_cons.mpr ⟨trivial, List.forall_mem_cons.mpr ⟨⟨ml_Mo_79, xms_Mo_isRegister⟩, List.forall_mem_cons.mpr ⟨trivial, List.forall_mem_cons.mpr ⟨trivial, List.forall_mem_cons.mpr ⟨trivial, List.forall_mem_cons.mpr ⟨trivial, List.forall_mem_cons.mpr ⟨⟨ml_Mo_61, xmv_Mo_records⟩, List.forall_mem_cons.mpr ⟨trivial, List.forall_mem_cons.mpr ⟨trivial, List.forall_mem_cons.mpr ⟨trivial, List.forall_mem_cons.mpr ⟨fl_Mo_16, List.forall_mem_cons.mpr ⟨⟨ml_Mo_94, xmv_Mo_takes⟩, List.forall_mem_cons.mpr ⟨trivial, List.forall_mem_cons.mpr ⟨trivial, List.forall_mem_cons.mpr ⟨trivial, List.forall_mem_cons.mpr ⟨trivial, List.forall_mem_cons.mpr ⟨⟨ml_Mo_111, xmv_Mo_factorial⟩, List.forall_mem_cons.mpr ⟨trivial, List.forall_mem_cons.mpr ⟨trivial, List.forall_mem_cons.mpr ⟨trivial, List.forall_mem_cons.mpr ⟨trivial, List.forall_mem_cons.mpr ⟨fl_Mo_19, List.forall_mem_cons.mpr ⟨⟨ml_Mo_114, xmv_Mo_unranks⟩, List.forall_mem_cons.mpr ⟨trivial, List.forall_mem_cons.mpr ⟨trivial, List.forall_mem_cons.mpr ⟨fl_Mo_19, List.forall_mem_cons.mpr ⟨trivial, List.forall_mem_cons.mpr ⟨trivial, List.forall_mem_cons.mpr ⟨fl_Mo_22, List.forall_mem_cons.mpr ⟨⟨ml_Mo_107, xmv_Mo_raises⟩, List.forall_mem_cons.mpr ⟨trivial, List.forall_mem_cons.mpr ⟨trivial, List.forall_mem_cons.mpr ⟨fl_Mo_22, List.forall_mem_cons.mpr ⟨trivial, List.forall_mem_cons.mpr ⟨fl_Mo_16, List.forall_mem_cons.mpr ⟨⟨ml_Mo_117, xmv_Mo_isSame⟩, List.forall_mem_cons.mpr ⟨trivial, List.forall_mem_cons.mpr ⟨trivial, List.forall_mem_cons.mpr ⟨trivial, List.forall_mem_cons.mpr ⟨fl_Mo_19, List.forall_mem_cons.mpr ⟨trivial, List.forall_mem_cons.mpr ⟨⟨ml_Mo_86, xmv_Mo_puts⟩, List.forall_mem_cons.mpr ⟨trivial, List.forall_mem_cons.mpr ⟨trivial, List.forall_mem_cons.mpr ⟨trivial, List.forall_mem_cons.mpr ⟨trivial, List.forall_mem_cons.mpr ⟨trivial, List.forall_mem_cons.mpr ⟨trivial, fun _ h => absurd h List.not_mem_nil⟩⟩⟩⟩⟩⟩⟩⟩⟩⟩⟩⟩⟩⟩⟩⟩⟩⟩⟩⟩⟩⟩⟩⟩⟩⟩⟩⟩⟩⟩⟩⟩⟩⟩⟩⟩⟩⟩⟩⟩⟩⟩⟩⟩⟩⟩⟩⟩⟩⟩⟩⟩⟩⟩⟩⟩⟩
def k_Mo_at : xCd := [
  (0, .iload_n 1, 1, .inl (0, 0)),
  (1, .invokestatic 79, 3, .inr (.inl g_Mo_isRegister)),
  (4, .ifCond .eq 28, 3, .inl (32, 0)),
  (7, .aload_n 0, 1, .inl (0, 0)),
  (8, .iload_n 2, 1, .inl (0, 0)),
  (9, .invokevirtual 71, 3, .inr (.inl g_Mo_isLine)),
  (12, .ifCond .eq 20, 3, .inl (32, 0)),
  (15, .aload_n 0, 1, .inl (0, 0)),
  (16, .getfield 7, 3, .inl (9, 0)),
  (19, .bipush 8, 2, .inr (.inr (.inl (nI 8)))),
  (21, .bipush 7, 2, .inr (.inr (.inl (nI 7)))),
  (23, .iload_n 1, 1, .inl (0, 0)),
  (24, .imul, 1, .inl (0, 0)),
  (25, .iadd, 1, .inl (0, 0)),
  (26, .iload_n 2, 1, .inl (0, 0)),
  (27, .iadd, 1, .inl (0, 0)),
  (28, .iaload, 1, .inl (0, 0)),
  (29, .goto 4, 3, .inl (33, 0)),
  (32, .iconst (-1), 1, .inr (.inr (.inl (-1)))),
  (33, .ireturn, 1, .inl (0, 0))]
set_option maxRecDepth 100000 in
set_option maxHeartbeats 4000000 in
theorem ok_Mo_at : xOK g_Mo_at k_Mo_at := ⟨by decide +kernel, by decide +kernel, List.forall_mem_cons.mpr ⟨trivial, List.forall_mem_cons.mpr ⟨⟨ml_Mo_79, xms_Mo_isRegister⟩, List.forall_mem_cons.mpr ⟨trivial, List.forall_mem_cons.mpr ⟨trivial, List.forall_mem_cons.mpr ⟨trivial, List.forall_mem_cons.mpr ⟨⟨ml_Mo_71, xmv_Mo_isLine⟩, List.forall_mem_cons.mpr ⟨trivial, List.forall_mem_cons.mpr ⟨trivial, List.forall_mem_cons.mpr ⟨fl_Mo_7, List.forall_mem_cons.mpr ⟨trivial, List.forall_mem_cons.mpr ⟨trivial, List.forall_mem_cons.mpr ⟨trivial, List.forall_mem_cons.mpr ⟨trivial, List.forall_mem_cons.mpr ⟨trivial, List.forall_mem_cons.mpr ⟨trivial, List.forall_mem_cons.mpr ⟨trivial, List.forall_mem_cons.mpr ⟨trivial, List.forall_mem_cons.mpr ⟨trivial, List.forall_mem_cons.mpr ⟨trivial, List.forall_mem_cons.mpr ⟨trivial, fun _ h => absurd h List.not_mem_nil⟩⟩⟩⟩⟩⟩⟩⟩⟩⟩⟩⟩⟩⟩⟩⟩⟩⟩⟩⟩⟩
def k_Mo_turnOf : xCd := [
  (0, .aload_n 0, 1, .inl (0, 0)),
  (1, .iload_n 1, 1, .inl (0, 0)),
  (2, .aload_n 0, 1, .inl (0, 0)),
  (3, .getfield 16, 3, .inl (9, 4)),
  (6, .invokevirtual 94, 3, .inr (.inl g_Mo_takes)),
  (9, .iconst 0, 1, .inr (.inr (.inl (nI 0)))),
  (10, .istore_n 3, 1, .inl (0, 0)),
  (11, .iconst 0, 1, .inr (.inr (.inl (nI 0)))),
  (12, .istore 4, 2, .inl (0, 0)),
  (14, .iconst 0, 1, .inr (.inr (.inl (nI 0)))),
  (15, .istore 5, 2, .inl (0, 0)),
  (17, .iconst 0, 1, .inr (.inr (.inl (nI 0)))),
  (18, .istore 6, 2, .inl (0, 0)),
  (20, .iconst 0, 1, .inr (.inr (.inl (nI 0)))),
  (21, .istore 7, 2, .inl (0, 0)),
  (23, .iconst 0, 1, .inr (.inr (.inl (nI 0)))),
  (24, .istore 8, 2, .inl (0, 0)),
  (26, .iload 8, 2, .inl (0, 0)),
  (28, .aload_n 0, 1, .inl (0, 0)),
  (29, .invokevirtual 64, 3, .inr (.inl g_Mo_size)),
  (32, .if_icmp .ge 147, 3, .inl (179, 0)),
  (35, .aload_n 0, 1, .inl (0, 0)),
  (36, .aload_n 0, 1, .inl (0, 0)),
  (37, .getfield 16, 3, .inl (9, 4)),
  (40, .iload 8, 2, .inl (0, 0)),
  (42, .invokevirtual 75, 3, .inr (.inl g_Mo_cycleOf)),
  (45, .istore 9, 2, .inl (0, 0)),
  (47, .iload 4, 2, .inl (0, 0)),
  (49, .iload 9, 2, .inl (0, 0)),
  (51, .iconst 1, 1, .inr (.inr (.inl (nI 1)))),
  (52, .if_icmp .ne 7, 3, .inl (59, 0)),
  (55, .iconst 1, 1, .inr (.inr (.inl (nI 1)))),
  (56, .goto 4, 3, .inl (60, 0)),
  (59, .iconst 0, 1, .inr (.inr (.inl (nI 0)))),
  (60, .iadd, 1, .inl (0, 0)),
  (61, .istore 4, 2, .inl (0, 0)),
  (63, .iload 9, 2, .inl (0, 0)),
  (65, .iload 5, 2, .inl (0, 0)),
  (67, .if_icmp .le 8, 3, .inl (75, 0)),
  (70, .iload 9, 2, .inl (0, 0)),
  (72, .goto 5, 3, .inl (77, 0)),
  (75, .iload 5, 2, .inl (0, 0)),
  (77, .istore 5, 2, .inl (0, 0)),
  (79, .iload_n 3, 1, .inl (0, 0)),
  (80, .aload_n 0, 1, .inl (0, 0)),
  (81, .aload_n 0, 1, .inl (0, 0)),
  (82, .getfield 16, 3, .inl (9, 4)),
  (85, .iload 8, 2, .inl (0, 0)),
  (87, .invokevirtual 121, 3, .inr (.inl g_Mo_isFirst)),
  (90, .ifCond .eq 7, 3, .inl (97, 0)),
  (93, .iconst 1, 1, .inr (.inr (.inl (nI 1)))),
  (94, .goto 4, 3, .inl (98, 0)),
  (97, .iconst 0, 1, .inr (.inr (.inl (nI 0)))),
  (98, .iadd, 1, .inl (0, 0)),
  (99, .istore_n 3, 1, .inl (0, 0)),
  (100, .iload 6, 2, .inl (0, 0)),
  (102, .aload_n 0, 1, .inl (0, 0)),
  (103, .aload_n 0, 1, .inl (0, 0)),
  (104, .getfield 16, 3, .inl (9, 4)),
  (107, .iload 8, 2, .inl (0, 0)),
  (109, .invokevirtual 121, 3, .inr (.inl g_Mo_isFirst)),
  (112, .ifCond .eq 14, 3, .inl (126, 0)),
  (115, .iconst 1, 1, .inr (.inr (.inl (nI 1)))),
  (116, .iconst 3, 1, .inr (.inr (.inl (nI 3)))),
  (117, .iload 9, 2, .inl (0, 0)),
  (119, .iconst 1, 1, .inr (.inr (.inl (nI 1)))),
  (120, .isub, 1, .inl (0, 0)),
  (121, .imul, 1, .inl (0, 0)),
  (122, .ishl, 1, .inl (0, 0)),
  (123, .goto 4, 3, .inl (127, 0)),
  (126, .iconst 0, 1, .inr (.inr (.inl (nI 0)))),
  (127, .iadd, 1, .inl (0, 0)),
  (128, .istore 6, 2, .inl (0, 0)),
  (130, .iconst 0, 1, .inr (.inr (.inl (nI 0)))),
  (131, .istore 10, 2, .inl (0, 0)),
  (133, .iload 10, 2, .inl (0, 0)),
  (135, .iload 8, 2, .inl (0, 0)),
  (137, .if_icmp .ge 36, 3, .inl (173, 0)),
  (140, .iload 7, 2, .inl (0, 0)),
  (142, .aload_n 0, 1, .inl (0, 0)),
  (143, .getfield 16, 3, .inl (9, 4)),
  (146, .iload 10, 2, .inl (0, 0)),
  (148, .iaload, 1, .inl (0, 0)),
  (149, .aload_n 0, 1, .inl (0, 0)),
  (150, .getfield 16, 3, .inl (9, 4)),
  (153, .iload 8, 2, .inl (0, 0)),
  (155, .iaload, 1, .inl (0, 0)),
  (156, .if_icmp .le 7, 3, .inl (163, 0)),
  (159, .iconst 1, 1, .inr (.inr (.inl (nI 1)))),
  (160, .goto 4, 3, .inl (164, 0)),
  (163, .iconst 0, 1, .inr (.inr (.inl (nI 0)))),
  (164, .iadd, 1, .inl (0, 0)),
  (165, .istore 7, 2, .inl (0, 0)),
  (167, .iinc 10 1, 3, .inr (.inr (.inl (nI 1)))),
  (170, .goto (-37), 3, .inl (133, 0)),
  (173, .iinc 8 1, 3, .inr (.inr (.inl (nI 1)))),
  (176, .goto (-150), 3, .inl (26, 0)),
  (179, .iload_n 2, 1, .inl (0, 0)),
  (180, .tableswitch 71 0 5 #[40, 49, 58, 60, 63, 66], 40, .inr (.inr (.inr (.inr (251, [(nI 0, 220), (nI 1, 229), (nI 2, 238), (nI 3, 240), (nI 4, 243), (nI 5, 246)]))))),
  (220, .aload_n 0, 1, .inl (0, 0)),
  (221, .aload_n 0, 1, .inl (0, 0)),
  (222, .getfield 16, 3, .inl (9, 4)),
  (225, .invokevirtual 90, 3, .inr (.inl g_Mo_rank)),
  (228, .ireturn, 1, .inl (0, 0)),
  (229, .aload_n 0, 1, .inl (0, 0)),
  (230, .aload_n 0, 1, .inl (0, 0)),
  (231, .getfield 16, 3, .inl (9, 4)),
  (234, .invokevirtual 104, 3, .inr (.inl g_Mo_orderOf)),
  (237, .ireturn, 1, .inl (0, 0)),
  (238, .iload_n 3, 1, .inl (0, 0)),
  (239, .ireturn, 1, .inl (0, 0)),
  (240, .iload 4, 2, .inl (0, 0)),
  (242, .ireturn, 1, .inl (0, 0)),
  (243, .iload 5, 2, .inl (0, 0)),
  (245, .ireturn, 1, .inl (0, 0)),
  (246, .iload 7, 2, .inl (0, 0)),
  (248, .iconst 2, 1, .inr (.inr (.inl (nI 2)))),
  (249, .irem, 1, .inl (0, 0)),
  (250, .ireturn, 1, .inl (0, 0)),
  (251, .iload 6, 2, .inl (0, 0)),
  (253, .ireturn, 1, .inl (0, 0))]
set_option maxRecDepth 100000 in
set_option maxHeartbeats 4000000 in
theorem ok_Mo_turnOf : xOK g_Mo_turnOf k_Mo_turnOf := ⟨by decide +kernel, by decide +kernel, List.forall_mem_cons.mpr ⟨trivial, List.forall_mem_cons.mpr ⟨trivial, List.forall_mem_cons.mpr ⟨trivial, List.forall_mem_cons.mpr ⟨fl_Mo_16, List.forall_mem_cons.mpr ⟨⟨ml_Mo_94, xmv_Mo_takes⟩, List.forall_mem_cons.mpr ⟨trivial, List.forall_mem_cons.mpr ⟨trivial, List.forall_mem_cons.mpr ⟨trivial, List.forall_mem_cons.mpr ⟨trivial, List.forall_mem_cons.mpr ⟨trivial, List.forall_mem_cons.mpr ⟨trivial, List.forall_mem_cons.mpr ⟨trivial, List.forall_mem_cons.mpr ⟨trivial, List.forall_mem_cons.mpr ⟨trivial, List.forall_mem_cons.mpr ⟨trivial, List.forall_mem_cons.mpr ⟨trivial, List.forall_mem_cons.mpr ⟨trivial, List.forall_mem_cons.mpr ⟨trivial, List.forall_mem_cons.mpr ⟨trivial, List.forall_mem_cons.mpr ⟨⟨ml_Mo_64, xmv_Mo_size⟩, List.forall_mem_cons.mpr ⟨trivial, List.forall_mem_cons.mpr ⟨trivial, List.forall_mem_cons.mpr ⟨trivial, List.forall_mem_cons.mpr ⟨fl_Mo_16, List.forall_mem_cons.mpr ⟨trivial, List.forall_mem_cons.mpr ⟨⟨ml_Mo_75, xmv_Mo_cycleOf⟩, List.forall_mem_cons.mpr ⟨trivial, List.forall_mem_cons.mpr ⟨trivial, List.forall_mem_cons.mpr ⟨trivial, List.forall_mem_cons.mpr ⟨trivial, List.forall_mem_cons.mpr ⟨trivial, List.forall_mem_cons.mpr ⟨trivial, List.forall_mem_cons.mpr ⟨trivial, List.forall_mem_cons.mpr ⟨trivial, List.forall_mem_cons.mpr ⟨trivial, List.forall_mem_cons.mpr ⟨trivial, List.forall_mem_cons.mpr ⟨trivial, List.forall_mem_cons.mpr ⟨trivial, List.forall_mem_cons.mpr ⟨trivial, List.forall_mem_cons.mpr ⟨trivial, List.forall_mem_cons.mpr ⟨trivial, List.forall_mem_cons.mpr ⟨trivial, List.forall_mem_cons.mpr ⟨trivial, List.forall_mem_cons.mpr ⟨trivial, List.forall_mem_cons.mpr ⟨trivial, List.forall_mem_cons.mpr ⟨trivial, List.forall_mem_cons.mpr ⟨fl_Mo_16, List.forall_mem_cons.mpr ⟨trivial, List.forall_mem_cons.mpr ⟨⟨ml_Mo_121, xmv_Mo_isFirst⟩, List.forall_mem_cons.mpr ⟨trivial, List.forall_mem_cons.mpr ⟨trivial, List.forall_mem_cons.mpr ⟨trivial, List.forall_mem_cons.mpr ⟨trivial, List.forall_mem_cons.mpr ⟨trivial, List.forall_mem_cons.mpr ⟨trivial, List.forall_mem_cons.mpr ⟨trivial, List.forall_mem_cons.mpr ⟨trivial, List.forall_mem_cons.mpr ⟨trivial, List.forall_mem_cons.mpr ⟨fl_Mo_16, List.forall_mem_cons.mpr ⟨trivial, List.forall_mem_cons.mpr ⟨⟨ml_Mo_121, xmv_Mo_isFirst⟩, List.forall_mem_cons.mpr ⟨trivial, List.forall_mem_cons.mpr ⟨trivial, List.forall_mem_cons.mpr ⟨trivial, List.forall_mem_cons.mpr ⟨trivial, List.forall_mem_cons.mpr ⟨trivial, List.forall_mem_cons.mpr ⟨trivial, List.forall_mem_cons.mpr ⟨trivial, List.forall_mem_cons.mpr ⟨trivial, List.forall_mem_cons.mpr ⟨trivial, List.forall_mem_cons.mpr ⟨trivial, List.forall_mem_cons.mpr ⟨trivial, List.forall_mem_cons.mpr ⟨trivial, List.forall_mem_cons.mpr ⟨trivial, List.forall_mem_cons.mpr ⟨trivial, List.forall_mem_cons.mpr ⟨trivial, List.forall_mem_cons.mpr ⟨trivial, List.forall_mem_cons.mpr ⟨trivial, List.forall_mem_cons.mpr ⟨trivial, List.forall_mem_cons.mpr ⟨trivial, List.forall_mem_cons.mpr ⟨fl_Mo_16, List.forall_mem_cons.mpr ⟨trivial, List.forall_mem_cons.mpr ⟨trivial, List.forall_mem_cons.mpr ⟨trivial, List.forall_mem_cons.mpr ⟨fl_Mo_16, List.forall_mem_cons.mpr ⟨trivial, List.forall_mem_cons.mpr ⟨trivial, List.forall_mem_cons.mpr ⟨trivial, List.forall_mem_cons.mpr ⟨trivial, List.forall_mem_cons.mpr ⟨trivial, List.forall_mem_cons.mpr ⟨trivial, List.forall_mem_cons.mpr ⟨trivial, List.forall_mem_cons.mpr ⟨trivial, List.forall_mem_cons.mpr ⟨trivial, List.forall_mem_cons.mpr ⟨trivial, List.forall_mem_cons.mpr ⟨trivial, List.forall_mem_cons.mpr ⟨trivial, List.forall_mem_cons.mpr ⟨trivial, List.forall_mem_cons.mpr ⟨trivial, List.forall_mem_cons.mpr ⟨trivial, List.forall_mem_cons.mpr ⟨trivial, List.forall_mem_cons.mpr ⟨fl_Mo_16, List.forall_mem_cons.mpr ⟨⟨ml_Mo_90, xmv_Mo_rank⟩, List.forall_mem_cons.mpr ⟨trivial, List.forall_mem_cons.mpr ⟨trivial, List.forall_mem_cons.mpr ⟨trivial, List.forall_mem_cons.mpr ⟨fl_Mo_16, List.forall_mem_cons.mpr ⟨⟨ml_Mo_104, xmv_Mo_orderOf⟩, List.forall_mem_cons.mpr ⟨trivial, List.forall_mem_cons.mpr ⟨trivial, List.forall_mem_cons.mpr ⟨trivial, List.forall_mem_cons.mpr ⟨trivial, List.forall_mem_cons.mpr ⟨trivial, List.forall_mem_cons.mpr ⟨trivial, List.forall_mem_cons.mpr ⟨trivial, List.forall_mem_cons.mpr ⟨trivial, List.forall_mem_cons.mpr ⟨trivial, List.forall_mem_cons.mpr ⟨trivial, List.forall_mem_cons.mpr ⟨trivial, List.forall_mem_cons.mpr ⟨trivial, List.forall_mem_cons.mpr ⟨trivial, fun _ h => absurd h List.not_mem_nil⟩⟩⟩⟩⟩⟩⟩⟩⟩⟩⟩⟩⟩⟩⟩⟩⟩⟩⟩⟩⟩⟩⟩⟩⟩⟩⟩⟩⟩⟩⟩⟩⟩⟩⟩⟩⟩⟩⟩⟩⟩⟩⟩⟩⟩⟩⟩⟩⟩⟩⟩⟩⟩⟩⟩⟩⟩⟩⟩⟩⟩⟩⟩⟩⟩⟩⟩⟩⟩⟩⟩⟩⟩⟩⟩⟩⟩⟩⟩⟩⟩⟩⟩⟩⟩⟩⟩⟩⟩⟩⟩⟩⟩⟩⟩⟩⟩⟩⟩⟩⟩⟩⟩⟩⟩⟩⟩⟩⟩⟩⟩⟩⟩⟩⟩⟩⟩⟩⟩⟩⟩⟩
def k_Mo_turn : xCd := [
  (0, .iload_n 1, 1, .inl (0, 0)),
  (1, .invokestatic 79, 3, .inr (.inl g_Mo_isRegister)),
  (4, .ifCond .eq 22, 3, .inl (26, 0)),
  (7, .iload_n 2, 1, .inl (0, 0)),
  (8, .iconst 0, 1, .inr (.inr (.inl (nI 0)))),
  (9, .bipush 6, 2, .inr (.inr (.inl (nI 6)))),
  (11, .invokestatic 57, 3, .inr (.inl g_Mo_in)),
  (14, .ifCond .eq 12, 3, .inl (26, 0)),
  (17, .aload_n 0, 1, .inl (0, 0)),
  (18, .iload_n 1, 1, .inl (0, 0)),
  (19, .iload_n 2, 1, .inl (0, 0)),
  (20, .invokevirtual 125, 3, .inr (.inl g_Mo_turnOf)),
  (23, .goto 4, 3, .inl (27, 0)),
  (26, .iconst (-1), 1, .inr (.inr (.inl (-1)))),
  (27, .ireturn, 1, .inl (0, 0))]
set_option maxRecDepth 100000 in
set_option maxHeartbeats 4000000 in
theorem ok_Mo_turn : xOK g_Mo_turn k_Mo_turn := ⟨by decide +kernel, by decide +kernel, List.forall_mem_cons.mpr ⟨trivial, List.forall_mem_cons.mpr ⟨⟨ml_Mo_79, xms_Mo_isRegister⟩, List.forall_mem_cons.mpr ⟨trivial, List.forall_mem_cons.mpr ⟨trivial, List.forall_mem_cons.mpr ⟨trivial, List.forall_mem_cons.mpr ⟨trivial, List.forall_mem_cons.mpr ⟨⟨ml_Mo_57, xms_Mo_in⟩, List.forall_mem_cons.mpr ⟨trivial, List.forall_mem_cons.mpr ⟨trivial, List.forall_mem_cons.mpr ⟨trivial, List.forall_mem_cons.mpr ⟨trivial, List.forall_mem_cons.mpr ⟨⟨ml_Mo_125, xmv_Mo_turnOf⟩, List.forall_mem_cons.mpr ⟨trivial, List.forall_mem_cons.mpr ⟨trivial, List.forall_mem_cons.mpr ⟨trivial, fun _ h => absurd h List.not_mem_nil⟩⟩⟩⟩⟩⟩⟩⟩⟩⟩⟩⟩⟩⟩⟩⟩
def k_Mo_places : xCd := [
  (0, .iload_n 1, 1, .inl (0, 0)),
  (1, .invokestatic 79, 3, .inr (.inl g_Mo_isRegister)),
  (4, .ifCond .eq 21, 3, .inl (25, 0)),
  (7, .aload_n 0, 1, .inl (0, 0)),
  (8, .iload_n 2, 1, .inl (0, 0)),
  (9, .invokevirtual 71, 3, .inr (.inl g_Mo_isLine)),
  (12, .ifCond .eq 13, 3, .inl (25, 0)),
  (15, .iload_n 3, 1, .inl (0, 0)),
  (16, .iconst 0, 1, .inr (.inr (.inl (nI 0)))),
  (17, .bipush 100, 2, .inr (.inr (.inl (nI 100)))),
  (19, .invokestatic 57, 3, .inr (.inl g_Mo_in)),
  (22, .ifCond .ne 5, 3, .inl (27, 0)),
  (25, .iconst (-1), 1, .inr (.inr (.inl (-1)))),
  (26, .ireturn, 1, .inl (0, 0)),
  (27, .aload_n 0, 1, .inl (0, 0)),
  (28, .iload_n 1, 1, .inl (0, 0)),
  (29, .aload_n 0, 1, .inl (0, 0)),
  (30, .getfield 16, 3, .inl (9, 4)),
  (33, .invokevirtual 94, 3, .inr (.inl g_Mo_takes)),
  (36, .iconst 1, 1, .inr (.inr (.inl (nI 1)))),
  (37, .iload_n 2, 1, .inl (0, 0)),
  (38, .ishl, 1, .inl (0, 0)),
  (39, .istore 4, 2, .inl (0, 0)),
  (41, .iload_n 2, 1, .inl (0, 0)),
  (42, .istore 5, 2, .inl (0, 0)),
  (44, .iconst 0, 1, .inr (.inr (.inl (nI 0)))),
  (45, .istore 6, 2, .inl (0, 0)),
  (47, .iload 6, 2, .inl (0, 0)),
  (49, .iload_n 3, 1, .inl (0, 0)),
  (50, .if_icmp .ge 43, 3, .inl (93, 0)),
  (53, .iconst 0, 1, .inr (.inr (.inl (nI 0)))),
  (54, .istore 7, 2, .inl (0, 0)),
  (56, .aload_n 0, 1, .inl (0, 0)),
  (57, .getfield 16, 3, .inl (9, 4)),
  (60, .iload 7, 2, .inl (0, 0)),
  (62, .iaload, 1, .inl (0, 0)),
  (63, .iload 5, 2, .inl (0, 0)),
  (65, .if_icmp .eq 9, 3, .inl (74, 0)),
  (68, .iinc 7 1, 3, .inr (.inr (.inl (nI 1)))),
  (71, .goto (-15), 3, .inl (56, 0)),
  (74, .iload 7, 2, .inl (0, 0)),
  (76, .istore 5, 2, .inl (0, 0)),
  (78, .iload 4, 2, .inl (0, 0)),
  (80, .iconst 1, 1, .inr (.inr (.inl (nI 1)))),
  (81, .iload 5, 2, .inl (0, 0)),
  (83, .ishl, 1, .inl (0, 0)),
  (84, .ior, 1, .inl (0, 0)),
  (85, .istore 4, 2, .inl (0, 0)),
  (87, .iinc 6 1, 3, .inr (.inr (.inl (nI 1)))),
  (90, .goto (-43), 3, .inl (47, 0)),
  (93, .iload 4, 2, .inl (0, 0)),
  (95, .ireturn, 1, .inl (0, 0))]
set_option maxRecDepth 100000 in
set_option maxHeartbeats 4000000 in
theorem ok_Mo_places : xOK g_Mo_places k_Mo_places := ⟨by decide +kernel, by decide +kernel, List.forall_mem_cons.mpr ⟨trivial, List.forall_mem_cons.mpr ⟨⟨ml_Mo_79, xms_Mo_isRegister⟩, List.forall_mem_cons.mpr ⟨trivial, List.forall_mem_cons.mpr ⟨trivial, List.forall_mem_cons.mpr ⟨trivial, List.forall_mem_cons.mpr ⟨⟨ml_Mo_71, xmv_Mo_isLine⟩, List.forall_mem_cons.mpr ⟨trivial, List.forall_mem_cons.mpr ⟨trivial, List.forall_mem_cons.mpr ⟨trivial, List.forall_mem_cons.mpr ⟨trivial, List.forall_mem_cons.mpr ⟨⟨ml_Mo_57, xms_Mo_in⟩, List.forall_mem_cons.mpr ⟨trivial, List.forall_mem_cons.mpr ⟨trivial, List.forall_mem_cons.mpr ⟨trivial, List.forall_mem_cons.mpr ⟨trivial, List.forall_mem_cons.mpr ⟨trivial, List.forall_mem_cons.mpr ⟨trivial, List.forall_mem_cons.mpr ⟨fl_Mo_16, List.forall_mem_cons.mpr ⟨⟨ml_Mo_94, xmv_Mo_takes⟩, List.forall_mem_cons.mpr ⟨trivial, List.forall_mem_cons.mpr ⟨trivial, List.forall_mem_cons.mpr ⟨trivial, List.forall_mem_cons.mpr ⟨trivial, List.forall_mem_cons.mpr ⟨trivial, List.forall_mem_cons.mpr ⟨trivial, List.forall_mem_cons.mpr ⟨trivial, List.forall_mem_cons.mpr ⟨trivial, List.forall_mem_cons.mpr ⟨trivial, List.forall_mem_cons.mpr ⟨trivial, List.forall_mem_cons.mpr ⟨trivial, List.forall_mem_cons.mpr ⟨trivial, List.forall_mem_cons.mpr ⟨trivial, List.forall_mem_cons.mpr ⟨trivial, List.forall_mem_cons.mpr ⟨fl_Mo_16, List.forall_mem_cons.mpr ⟨trivial, List.forall_mem_cons.mpr ⟨trivial, List.forall_mem_cons.mpr ⟨trivial, List.forall_mem_cons.mpr ⟨trivial, List.forall_mem_cons.mpr ⟨trivial, List.forall_mem_cons.mpr ⟨trivial, List.forall_mem_cons.mpr ⟨trivial, List.forall_mem_cons.mpr ⟨trivial, List.forall_mem_cons.mpr ⟨trivial, List.forall_mem_cons.mpr ⟨trivial, List.forall_mem_cons.mpr ⟨trivial, List.forall_mem_cons.mpr ⟨trivial, List.forall_mem_cons.mpr ⟨trivial, List.forall_mem_cons.mpr ⟨trivial, List.forall_mem_cons.mpr ⟨trivial, List.forall_mem_cons.mpr ⟨trivial, List.forall_mem_cons.mpr ⟨trivial, List.forall_mem_cons.mpr ⟨trivial, fun _ h => absurd h List.not_mem_nil⟩⟩⟩⟩⟩⟩⟩⟩⟩⟩⟩⟩⟩⟩⟩⟩⟩⟩⟩⟩⟩⟩⟩⟩⟩⟩⟩⟩⟩⟩⟩⟩⟩⟩⟩⟩⟩⟩⟩⟩⟩⟩⟩⟩⟩⟩⟩⟩⟩⟩⟩⟩⟩
def k_Mo_walks : xCd := [
  (0, .iconst 0, 1, .inr (.inr (.inl (nI 0)))),
  (1, .istore_n 2, 1, .inl (0, 0)),
  (2, .iload_n 2, 1, .inl (0, 0)),
  (3, .aload_n 0, 1, .inl (0, 0)),
  (4, .invokevirtual 111, 3, .inr (.inl g_Mo_factorial)),
  (7, .if_icmp .ge 17, 3, .inl (24, 0)),
  (10, .aload_n 0, 1, .inl (0, 0)),
  (11, .getfield 25, 3, .inl (9, 7)),
  (14, .iload_n 2, 1, .inl (0, 0)),
  (15, .bipush (-9), 2, .inr (.inr (.inl (-9)))),
  (17, .iastore, 1, .inl (0, 0)),
  (18, .iinc 2 1, 3, .inr (.inr (.inl (nI 1)))),
  (21, .goto (-19), 3, .inl (2, 0)),
  (24, .aload_n 0, 1, .inl (0, 0)),
  (25, .getfield 25, 3, .inl (9, 7)),
  (28, .iconst 0, 1, .inr (.inr (.inl (nI 0)))),
  (29, .iconst 0, 1, .inr (.inr (.inl (nI 0)))),
  (30, .iastore, 1, .inl (0, 0)),
  (31, .aload_n 0, 1, .inl (0, 0)),
  (32, .getfield 28, 3, .inl (9, 8)),
  (35, .iconst 0, 1, .inr (.inr (.inl (nI 0)))),
  (36, .iconst 0, 1, .inr (.inr (.inl (nI 0)))),
  (37, .iastore, 1, .inl (0, 0)),
  (38, .aload_n 0, 1, .inl (0, 0)),
  (39, .iconst 1, 1, .inr (.inr (.inl (nI 1)))),
  (40, .putfield 129, 3, .inl (9, 9)),
  (43, .iconst 0, 1, .inr (.inr (.inl (nI 0)))),
  (44, .istore_n 2, 1, .inl (0, 0)),
  (45, .iload_n 2, 1, .inl (0, 0)),
  (46, .aload_n 0, 1, .inl (0, 0)),
  (47, .getfield 129, 3, .inl (9, 9)),
  (50, .if_icmp .ge 134, 3, .inl (184, 0)),
  (53, .iconst 0, 1, .inr (.inr (.inl (nI 0)))),
  (54, .istore_n 3, 1, .inl (0, 0)),
  (55, .iload_n 3, 1, .inl (0, 0)),
  (56, .bipush 6, 2, .inr (.inr (.inl (nI 6)))),
  (58, .if_icmp .ge 120, 3, .inl (178, 0)),
  (61, .iload_n 1, 1, .inl (0, 0)),
  (62, .iload_n 3, 1, .inl (0, 0)),
  (63, .ishr, 1, .inl (0, 0)),
  (64, .iconst 1, 1, .inr (.inr (.inl (nI 1)))),
  (65, .iand, 1, .inl (0, 0)),
  (66, .iconst 1, 1, .inr (.inr (.inl (nI 1)))),
  (67, .if_icmp .ne 105, 3, .inl (172, 0)),
  (70, .aload_n 0, 1, .inl (0, 0)),
  (71, .aload_n 0, 1, .inl (0, 0)),
  (72, .getfield 28, 3, .inl (9, 8)),
  (75, .iload_n 2, 1, .inl (0, 0)),
  (76, .iaload, 1, .inl (0, 0)),
  (77, .aload_n 0, 1, .inl (0, 0)),
  (78, .getfield 16, 3, .inl (9, 4)),
  (81, .invokevirtual 114, 3, .inr (.inl g_Mo_unranks)),
  (84, .aload_n 0, 1, .inl (0, 0)),
  (85, .iload_n 3, 1, .inl (0, 0)),
  (86, .aload_n 0, 1, .inl (0, 0)),
  (87, .getfield 19, 3, .inl (9, 5)),
  (90, .invokevirtual 94, 3, .inr (.inl g_Mo_takes)),
  (93, .aload_n 0, 1, .inl (0, 0)),
  (94, .aload_n 0, 1, .inl (0, 0)),
  (95, .getfield 16, 3, .inl (9, 4)),
  (98, .aload_n 0, 1, .inl (0, 0)),
  (99, .getfield 19, 3, .inl (9, 5)),
  (102, .aload_n 0, 1, .inl (0, 0)),
  (103, .getfield 22, 3, .inl (9, 6)),
  (106, .invokevirtual 98, 3, .inr (.inl g_Mo_multiplies)),
  (109, .aload_n 0, 1, .inl (0, 0)),
  (110, .aload_n 0, 1, .inl (0, 0)),
  (111, .getfield 22, 3, .inl (9, 6)),
  (114, .invokevirtual 90, 3, .inr (.inl g_Mo_rank)),
  (117, .istore 4, 2, .inl (0, 0)),
  (119, .aload_n 0, 1, .inl (0, 0)),
  (120, .getfield 25, 3, .inl (9, 7)),
  (123, .iload 4, 2, .inl (0, 0)),
  (125, .iaload, 1, .inl (0, 0)),
  (126, .bipush (-9), 2, .inr (.inr (.inl (-9)))),
  (128, .if_icmp .ne 44, 3, .inl (172, 0)),
  (131, .aload_n 0, 1, .inl (0, 0)),
  (132, .getfield 25, 3, .inl (9, 7)),
  (135, .iload 4, 2, .inl (0, 0)),
  (137, .aload_n 0, 1, .inl (0, 0)),
  (138, .getfield 25, 3, .inl (9, 7)),
  (141, .aload_n 0, 1, .inl (0, 0)),
  (142, .getfield 28, 3, .inl (9, 8)),
  (145, .iload_n 2, 1, .inl (0, 0)),
  (146, .iaload, 1, .inl (0, 0)),
  (147, .iaload, 1, .inl (0, 0)),
  (148, .iconst 1, 1, .inr (.inr (.inl (nI 1)))),
  (149, .iadd, 1, .inl (0, 0)),
  (150, .iastore, 1, .inl (0, 0)),
  (151, .aload_n 0, 1, .inl (0, 0)),
  (152, .getfield 28, 3, .inl (9, 8)),
  (155, .aload_n 0, 1, .inl (0, 0)),
  (156, .getfield 129, 3, .inl (9, 9)),
  (159, .iload 4, 2, .inl (0, 0)),
  (161, .iastore, 1, .inl (0, 0)),
  (162, .aload_n 0, 1, .inl (0, 0)),
  (163, .dup, 1, .inl (0, 0)),
  (164, .getfield 129, 3, .inl (9, 9)),
  (167, .iconst 1, 1, .inr (.inr (.inl (nI 1)))),
  (168, .iadd, 1, .inl (0, 0)),
  (169, .putfield 129, 3, .inl (9, 9)),
  (172, .iinc 3 1, 3, .inr (.inr (.inl (nI 1)))),
  (175, .goto (-120), 3, .inl (55, 0)),
  (178, .iinc 2 1, 3, .inr (.inr (.inl (nI 1)))),
  (181, .goto (-136), 3, .inl (45, 0)),
  (184, .return_, 1, .inl (0, 0))]
set_option maxRecDepth 100000 in
set_option maxHeartbeats 4000000 in
theorem ok_Mo_walks : xOK g_Mo_walks k_Mo_walks := ⟨by decide +kernel, by decide +kernel, List.forall_mem_cons.mpr ⟨trivial, List.forall_mem_cons.mpr ⟨trivial, List.forall_mem_cons.mpr ⟨trivial, List.forall_mem_cons.mpr ⟨trivial, List.forall_mem_cons.mpr ⟨⟨ml_Mo_111, xmv_Mo_factorial⟩, List.forall_mem_cons.mpr ⟨trivial, List.forall_mem_cons.mpr ⟨trivial, List.forall_mem_cons.mpr ⟨fl_Mo_25, List.forall_mem_cons.mpr ⟨trivial, List.forall_mem_cons.mpr ⟨trivial, List.forall_mem_cons.mpr ⟨trivial, List.forall_mem_cons.mpr ⟨trivial, List.forall_mem_cons.mpr ⟨trivial, List.forall_mem_cons.mpr ⟨trivial, List.forall_mem_cons.mpr ⟨fl_Mo_25, List.forall_mem_cons.mpr ⟨trivial, List.forall_mem_cons.mpr ⟨trivial, List.forall_mem_cons.mpr ⟨trivial, List.forall_mem_cons.mpr ⟨trivial, List.forall_mem_cons.mpr ⟨fl_Mo_28, List.forall_mem_cons.mpr ⟨trivial, List.forall_mem_cons.mpr ⟨trivial, List.forall_mem_cons.mpr ⟨trivial, List.forall_mem_cons.mpr ⟨trivial, List.forall_mem_cons.mpr ⟨trivial, List.forall_mem_cons.mpr ⟨⟨fl_Mo_129, nf_9_9 _⟩, List.forall_mem_cons.mpr ⟨trivial, List.forall_mem_cons.mpr ⟨trivial, List.forall_mem_cons.mpr ⟨trivial, List.forall_mem_cons.mpr ⟨trivial, List.forall_mem_cons.mpr ⟨fl_Mo_129, List.forall_mem_cons.mpr ⟨trivial, List.forall_mem_cons.mpr ⟨trivial, List.forall_mem_cons.mpr ⟨trivial, List.forall_mem_cons.mpr ⟨trivial, List.forall_mem_cons.mpr ⟨trivial, List.forall_mem_cons.mpr ⟨trivial, List.forall_mem_cons.mpr ⟨trivial, List.forall_mem_cons.mpr ⟨trivial, List.forall_mem_cons.mpr ⟨trivial, List.forall_mem_cons.mpr ⟨trivial, List.forall_mem_cons.mpr ⟨trivial, List.forall_mem_cons.mpr ⟨trivial, List.forall_mem_cons.mpr ⟨trivial, List.forall_mem_cons.mpr ⟨trivial, List.forall_mem_cons.mpr ⟨trivial, List.forall_mem_cons.mpr ⟨fl_Mo_28, List.forall_mem_cons.mpr ⟨trivial, List.forall_mem_cons.mpr ⟨trivial, List.forall_mem_cons.mpr ⟨trivial, List.forall_mem_cons.mpr ⟨fl_Mo_16, List.forall_mem_cons.mpr ⟨⟨ml_Mo_114, xmv_Mo_unranks⟩, List.forall_mem_cons.mpr ⟨trivial, List.forall_mem_cons.mpr ⟨trivial, List.forall_mem_cons.mpr ⟨trivial, List.forall_mem_cons.mpr ⟨fl_Mo_19, List.forall_mem_cons.mpr ⟨⟨ml_Mo_94, xmv_Mo_takes⟩, List.forall_mem_cons.mpr ⟨trivial, List.forall_mem_cons.mpr ⟨trivial, List.forall_mem_cons.mpr ⟨fl_Mo_16, List.forall_mem_cons.mpr ⟨trivial, List.forall_mem_cons.mpr ⟨fl_Mo_19, List.forall_mem_cons.mpr ⟨trivial, List.forall_mem_cons.mpr ⟨fl_Mo_22, List.forall_mem_cons.mpr ⟨⟨ml_Mo_98, xmv_Mo_multiplies⟩, List.forall_mem_cons.mpr ⟨trivial, List.forall_mem_cons.mpr ⟨trivial, List.forall_mem_cons.mpr ⟨fl_Mo_22, List.forall_mem_cons.mpr ⟨⟨ml_Mo_90, xmv_Mo_rank⟩, List.forall_mem_cons.mpr ⟨trivial, List.forall_mem_cons.mpr ⟨trivial, List.forall_mem_cons.mpr ⟨fl_Mo_25, List.forall_mem_cons.mpr ⟨trivial, List.forall_mem_cons.mpr ⟨trivial, List.forall_mem_cons.mpr ⟨trivial, List.forall_mem_cons.mpr ⟨trivial, List.forall_mem_cons.mpr ⟨trivial, List.forall_mem_cons.mpr ⟨fl_Mo_25, List.forall_mem_cons.mpr ⟨trivial, List.forall_mem_cons.mpr ⟨trivial, List.forall_mem_cons.mpr ⟨fl_Mo_25, List.forall_mem_cons.mpr ⟨trivial, List.forall_mem_cons.mpr ⟨fl_Mo_28, List.forall_mem_cons.mpr ⟨trivial, List.forall_mem_cons.mpr ⟨trivial, List.forall_mem_cons.mpr ⟨trivial, List.forall_mem_cons.mpr ⟨trivial, List.forall_mem_cons.mpr ⟨trivial, List.forall_mem_cons.mpr ⟨trivial, List.forall_mem_cons.mpr ⟨trivial, List.forall_mem_cons.mpr ⟨fl_Mo_28, List.forall_mem_cons.mpr ⟨trivial, List.forall_mem_cons.mpr ⟨fl_Mo_129, List.forall_mem_cons.mpr ⟨trivial, List.forall_mem_cons.mpr ⟨trivial, List.forall_mem_cons.mpr ⟨trivial, List.forall_mem_cons.mpr ⟨trivial, List.forall_mem_cons.mpr ⟨fl_Mo_129, List.forall_mem_cons.mpr ⟨trivial, List.forall_mem_cons.mpr ⟨trivial, List.forall_mem_cons.mpr ⟨⟨fl_Mo_129, nf_9_9 _⟩, List.forall_mem_cons.mpr ⟨trivial, List.forall_mem_cons.mpr ⟨trivial, List.forall_mem_cons.mpr ⟨trivial, List.forall_mem_cons.mpr ⟨trivial, List.forall_mem_cons.mpr ⟨trivial, fun _ h => absurd h List.not_mem_nil⟩⟩⟩⟩⟩⟩⟩⟩⟩⟩⟩⟩⟩⟩⟩⟩⟩⟩⟩⟩⟩⟩⟩⟩⟩⟩⟩⟩⟩⟩⟩⟩⟩⟩⟩⟩⟩⟩⟩⟩⟩⟩⟩⟩⟩⟩⟩⟩⟩⟩⟩⟩⟩⟩⟩⟩⟩⟩⟩⟩⟩⟩⟩⟩⟩⟩⟩⟩⟩⟩⟩⟩⟩⟩⟩⟩⟩⟩⟩⟩⟩⟩⟩⟩⟩⟩⟩⟩⟩⟩⟩⟩⟩⟩⟩⟩⟩⟩⟩⟩⟩⟩⟩⟩⟩⟩⟩
def k_Mo_isSet : xCd := [
  (0, .iload_n 0, 1, .inl (0, 0)),
  (1, .iconst 0, 1, .inr (.inr (.inl (nI 0)))),
  (2, .bipush 63, 2, .inr (.inr (.inl (nI 63)))),
  (4, .invokestatic 57, 3, .inr (.inl g_Mo_in)),
  (7, .ireturn, 1, .inl (0, 0))]
set_option maxRecDepth 100000 in
set_option maxHeartbeats 4000000 in
theorem ok_Mo_isSet : xOK g_Mo_isSet k_Mo_isSet := ⟨by decide +kernel, by decide +kernel, List.forall_mem_cons.mpr ⟨trivial, List.forall_mem_cons.mpr ⟨trivial, List.forall_mem_cons.mpr ⟨trivial, List.forall_mem_cons.mpr ⟨⟨ml_Mo_57, xms_Mo_in⟩, List.forall_mem_cons.mpr ⟨trivial, fun _ h => absurd h List.not_mem_nil⟩⟩⟩⟩⟩⟩
def k_Mo_generated : xCd := [
  (0, .iload_n 1, 1, .inl (0, 0)),
  (1, .invokestatic 132, 3, .inr (.inl g_Mo_isSet)),
  (4, .ifCond .ne 5, 3, .inl (9, 0)),
  (7, .iconst (-1), 1, .inr (.inr (.inl (-1)))),
  (8, .ireturn, 1, .inl (0, 0)),
  (9, .aload_n 0, 1, .inl (0, 0)),
  (10, .iload_n 1, 1, .inl (0, 0)),
  (11, .invokevirtual 135, 3, .inr (.inl g_Mo_walks)),
  (14, .aload_n 0, 1, .inl (0, 0)),
  (15, .getfield 129, 3, .inl (9, 9)),
  (18, .ireturn, 1, .inl (0, 0))]
set_option maxRecDepth 100000 in
set_option maxHeartbeats 4000000 in
theorem ok_Mo_generated : xOK g_Mo_generated k_Mo_generated := ⟨by decide +kernel, by decide +kernel, List.forall_mem_cons.mpr ⟨trivial, List.forall_mem_cons.mpr ⟨⟨ml_Mo_132, xms_Mo_isSet⟩, List.forall_mem_cons.mpr ⟨trivial, List.forall_mem_cons.mpr ⟨trivial, List.forall_mem_cons.mpr ⟨trivial, List.forall_mem_cons.mpr ⟨trivial, List.forall_mem_cons.mpr ⟨trivial, List.forall_mem_cons.mpr ⟨⟨ml_Mo_135, xmv_Mo_walks⟩, List.forall_mem_cons.mpr ⟨trivial, List.forall_mem_cons.mpr ⟨fl_Mo_129, List.forall_mem_cons.mpr ⟨trivial, fun _ h => absurd h List.not_mem_nil⟩⟩⟩⟩⟩⟩⟩⟩⟩⟩⟩⟩
def k_Mo_reach : xCd := [
  (0, .iload_n 1, 1, .inl (0, 0)),
  (1, .invokestatic 132, 3, .inr (.inl g_Mo_isSet)),
  (4, .ifCond .eq 10, 3, .inl (14, 0)),
  (7, .iload_n 2, 1, .inl (0, 0)),
  (8, .invokestatic 79, 3, .inr (.inl g_Mo_isRegister)),
  (11, .ifCond .ne 5, 3, .inl (16, 0)),
  (14, .iconst (-1), 1, .inr (.inr (.inl (-1)))),
  (15, .ireturn, 1, .inl (0, 0)),
  (16, .aload_n 0, 1, .inl (0, 0)),
  (17, .iload_n 1, 1, .inl (0, 0)),
  (18, .invokevirtual 135, 3, .inr (.inl g_Mo_walks)),
  (21, .aload_n 0, 1, .inl (0, 0)),
  (22, .iload_n 2, 1, .inl (0, 0)),
  (23, .aload_n 0, 1, .inl (0, 0)),
  (24, .getfield 16, 3, .inl (9, 4)),
  (27, .invokevirtual 94, 3, .inr (.inl g_Mo_takes)),
  (30, .aload_n 0, 1, .inl (0, 0)),
  (31, .getfield 25, 3, .inl (9, 7)),
  (34, .aload_n 0, 1, .inl (0, 0)),
  (35, .aload_n 0, 1, .inl (0, 0)),
  (36, .getfield 16, 3, .inl (9, 4)),
  (39, .invokevirtual 90, 3, .inr (.inl g_Mo_rank)),
  (42, .iaload, 1, .inl (0, 0)),
  (43, .ireturn, 1, .inl (0, 0))]
set_option maxRecDepth 100000 in
set_option maxHeartbeats 4000000 in
theorem ok_Mo_reach : xOK g_Mo_reach k_Mo_reach := ⟨by decide +kernel, by decide +kernel, List.forall_mem_cons.mpr ⟨trivial, List.forall_mem_cons.mpr ⟨⟨ml_Mo_132, xms_Mo_isSet⟩, List.forall_mem_cons.mpr ⟨trivial, List.forall_mem_cons.mpr ⟨trivial, List.forall_mem_cons.mpr ⟨⟨ml_Mo_79, xms_Mo_isRegister⟩, List.forall_mem_cons.mpr ⟨trivial, List.forall_mem_cons.mpr ⟨trivial, List.forall_mem_cons.mpr ⟨trivial, List.forall_mem_cons.mpr ⟨trivial, List.forall_mem_cons.mpr ⟨trivial, List.forall_mem_cons.mpr ⟨⟨ml_Mo_135, xmv_Mo_walks⟩, List.forall_mem_cons.mpr ⟨trivial, List.forall_mem_cons.mpr ⟨trivial, List.forall_mem_cons.mpr ⟨trivial, List.forall_mem_cons.mpr ⟨fl_Mo_16, List.forall_mem_cons.mpr ⟨⟨ml_Mo_94, xmv_Mo_takes⟩, List.forall_mem_cons.mpr ⟨trivial, List.forall_mem_cons.mpr ⟨fl_Mo_25, List.forall_mem_cons.mpr ⟨trivial, List.forall_mem_cons.mpr ⟨trivial, List.forall_mem_cons.mpr ⟨fl_Mo_16, List.forall_mem_cons.mpr ⟨⟨ml_Mo_90, xmv_Mo_rank⟩, List.forall_mem_cons.mpr ⟨trivial, List.forall_mem_cons.mpr ⟨trivial, fun _ h => absurd h List.not_mem_nil⟩⟩⟩⟩⟩⟩⟩⟩⟩⟩⟩⟩⟩⟩⟩⟩⟩⟩⟩⟩⟩⟩⟩⟩⟩
def k_Mo_rests : xCd := [
  (0, .aload_n 0, 1, .inl (0, 0)),
  (1, .iload_n 1, 1, .inl (0, 0)),
  (2, .aload_n 0, 1, .inl (0, 0)),
  (3, .getfield 19, 3, .inl (9, 5)),
  (6, .invokevirtual 94, 3, .inr (.inl g_Mo_takes)),
  (9, .iconst 0, 1, .inr (.inr (.inl (nI 0)))),
  (10, .istore_n 2, 1, .inl (0, 0)),
  (11, .iload_n 2, 1, .inl (0, 0)),
  (12, .aload_n 0, 1, .inl (0, 0)),
  (13, .invokevirtual 64, 3, .inr (.inl g_Mo_size)),
  (16, .if_icmp .ge 56, 3, .inl (72, 0)),
  (19, .iconst 0, 1, .inr (.inr (.inl (nI 0)))),
  (20, .istore_n 3, 1, .inl (0, 0)),
  (21, .iload_n 3, 1, .inl (0, 0)),
  (22, .aload_n 0, 1, .inl (0, 0)),
  (23, .invokevirtual 64, 3, .inr (.inl g_Mo_size)),
  (26, .if_icmp .ge 40, 3, .inl (66, 0)),
  (29, .aload_n 0, 1, .inl (0, 0)),
  (30, .getfield 22, 3, .inl (9, 6)),
  (33, .iload_n 2, 1, .inl (0, 0)),
  (34, .aload_n 0, 1, .inl (0, 0)),
  (35, .getfield 19, 3, .inl (9, 5)),
  (38, .iload_n 3, 1, .inl (0, 0)),
  (39, .iaload, 1, .inl (0, 0)),
  (40, .aload_n 0, 1, .inl (0, 0)),
  (41, .getfield 16, 3, .inl (9, 4)),
  (44, .iload_n 2, 1, .inl (0, 0)),
  (45, .iaload, 1, .inl (0, 0)),
  (46, .if_icmp .ne 7, 3, .inl (53, 0)),
  (49, .iload_n 3, 1, .inl (0, 0)),
  (50, .goto 9, 3, .inl (59, 0)),
  (53, .aload_n 0, 1, .inl (0, 0)),
  (54, .getfield 22, 3, .inl (9, 6)),
  (57, .iload_n 2, 1, .inl (0, 0)),
  (58, .iaload, 1, .inl (0, 0)),
  (59, .iastore, 1, .inl (0, 0)),
  (60, .iinc 3 1, 3, .inr (.inr (.inl (nI 1)))),
  (63, .goto (-42), 3, .inl (21, 0)),
  (66, .iinc 2 1, 3, .inr (.inr (.inl (nI 1)))),
  (69, .goto (-58), 3, .inl (11, 0)),
  (72, .return_, 1, .inl (0, 0))]
set_option maxRecDepth 100000 in
set_option maxHeartbeats 4000000 in
theorem ok_Mo_rests : xOK g_Mo_rests k_Mo_rests := ⟨by decide +kernel, by decide +kernel, List.forall_mem_cons.mpr ⟨trivial, List.forall_mem_cons.mpr ⟨trivial, List.forall_mem_cons.mpr ⟨trivial, List.forall_mem_cons.mpr ⟨fl_Mo_19, List.forall_mem_cons.mpr ⟨⟨ml_Mo_94, xmv_Mo_takes⟩, List.forall_mem_cons.mpr ⟨trivial, List.forall_mem_cons.mpr ⟨trivial, List.forall_mem_cons.mpr ⟨trivial, List.forall_mem_cons.mpr ⟨trivial, List.forall_mem_cons.mpr ⟨⟨ml_Mo_64, xmv_Mo_size⟩, List.forall_mem_cons.mpr ⟨trivial, List.forall_mem_cons.mpr ⟨trivial, List.forall_mem_cons.mpr ⟨trivial, List.forall_mem_cons.mpr ⟨trivial, List.forall_mem_cons.mpr ⟨trivial, List.forall_mem_cons.mpr ⟨⟨ml_Mo_64, xmv_Mo_size⟩, List.forall_mem_cons.mpr ⟨trivial, List.forall_mem_cons.mpr ⟨trivial, List.forall_mem_cons.mpr ⟨fl_Mo_22, List.forall_mem_cons.mpr ⟨trivial, List.forall_mem_cons.mpr ⟨trivial, List.forall_mem_cons.mpr ⟨fl_Mo_19, List.forall_mem_cons.mpr ⟨trivial, List.forall_mem_cons.mpr ⟨trivial, List.forall_mem_cons.mpr ⟨trivial, List.forall_mem_cons.mpr ⟨fl_Mo_16, List.forall_mem_cons.mpr ⟨trivial, List.forall_mem_cons.mpr ⟨trivial, List.forall_mem_cons.mpr ⟨trivial, List.forall_mem_cons.mpr ⟨trivial, List.forall_mem_cons.mpr ⟨trivial, List.forall_mem_cons.mpr ⟨trivial, List.forall_mem_cons.mpr ⟨fl_Mo_22, List.forall_mem_cons.mpr ⟨trivial, List.forall_mem_cons.mpr ⟨trivial, List.forall_mem_cons.mpr ⟨trivial, List.forall_mem_cons.mpr ⟨trivial, List.forall_mem_cons.mpr ⟨trivial, List.forall_mem_cons.mpr ⟨trivial, List.forall_mem_cons.mpr ⟨trivial, List.forall_mem_cons.mpr ⟨trivial, fun _ h => absurd h List.not_mem_nil⟩⟩⟩⟩⟩⟩⟩⟩⟩⟩⟩⟩⟩⟩⟩⟩⟩⟩⟩⟩⟩⟩⟩⟩⟩⟩⟩⟩⟩⟩⟩⟩⟩⟩⟩⟩⟩⟩⟩⟩⟩⟩
def k_Mo_factor : xCd := [
  (0, .iload_n 1, 1, .inl (0, 0)),
  (1, .invokestatic 132, 3, .inr (.inl g_Mo_isSet)),
  (4, .ifCond .eq 14, 3, .inl (18, 0)),
  (7, .iload_n 2, 1, .inl (0, 0)),
  (8, .invokestatic 79, 3, .inr (.inl g_Mo_isRegister)),
  (11, .ifCond .eq 7, 3, .inl (18, 0)),
  (14, .iload_n 3, 1, .inl (0, 0)),
  (15, .ifCond .ge 5, 3, .inl (20, 0)),
  (18, .iconst (-1), 1, .inr (.inr (.inl (-1)))),
  (19, .ireturn, 1, .inl (0, 0)),
  (20, .aload_n 0, 1, .inl (0, 0)),
  (21, .iload_n 1, 1, .inl (0, 0)),
  (22, .invokevirtual 135, 3, .inr (.inl g_Mo_walks)),
  (25, .aload_n 0, 1, .inl (0, 0)),
  (26, .iload_n 2, 1, .inl (0, 0)),
  (27, .aload_n 0, 1, .inl (0, 0)),
  (28, .getfield 16, 3, .inl (9, 4)),
  (31, .invokevirtual 94, 3, .inr (.inl g_Mo_takes)),
  (34, .aload_n 0, 1, .inl (0, 0)),
  (35, .getfield 25, 3, .inl (9, 7)),
  (38, .aload_n 0, 1, .inl (0, 0)),
  (39, .aload_n 0, 1, .inl (0, 0)),
  (40, .getfield 16, 3, .inl (9, 4)),
  (43, .invokevirtual 90, 3, .inr (.inl g_Mo_rank)),
  (46, .iaload, 1, .inl (0, 0)),
  (47, .bipush (-9), 2, .inr (.inr (.inl (-9)))),
  (49, .if_icmp .eq 20, 3, .inl (69, 0)),
  (52, .iload_n 3, 1, .inl (0, 0)),
  (53, .aload_n 0, 1, .inl (0, 0)),
  (54, .getfield 25, 3, .inl (9, 7)),
  (57, .aload_n 0, 1, .inl (0, 0)),
  (58, .aload_n 0, 1, .inl (0, 0)),
  (59, .getfield 16, 3, .inl (9, 4)),
  (62, .invokevirtual 90, 3, .inr (.inl g_Mo_rank)),
  (65, .iaload, 1, .inl (0, 0)),
  (66, .if_icmp .lt 6, 3, .inl (72, 0)),
  (69, .bipush (-9), 2, .inr (.inr (.inl (-9)))),
  (71, .ireturn, 1, .inl (0, 0)),
  (72, .bipush (-9), 2, .inr (.inr (.inl (-9)))),
  (74, .istore 4, 2, .inl (0, 0)),
  (76, .iconst 0, 1, .inr (.inr (.inl (nI 0)))),
  (77, .istore 5, 2, .inl (0, 0)),
  (79, .iload 5, 2, .inl (0, 0)),
  (81, .iload_n 3, 1, .inl (0, 0)),
  (82, .if_icmp .gt 128, 3, .inl (210, 0)),
  (85, .aload_n 0, 1, .inl (0, 0)),
  (86, .getfield 25, 3, .inl (9, 7)),
  (89, .aload_n 0, 1, .inl (0, 0)),
  (90, .aload_n 0, 1, .inl (0, 0)),
  (91, .getfield 16, 3, .inl (9, 4)),
  (94, .invokevirtual 90, 3, .inr (.inl g_Mo_rank)),
  (97, .iaload, 1, .inl (0, 0)),
  (98, .istore 6, 2, .inl (0, 0)),
  (100, .bipush (-9), 2, .inr (.inr (.inl (-9)))),
  (102, .istore 4, 2, .inl (0, 0)),
  (104, .iconst 0, 1, .inr (.inr (.inl (nI 0)))),
  (105, .istore 7, 2, .inl (0, 0)),
  (107, .iload 7, 2, .inl (0, 0)),
  (109, .bipush 6, 2, .inr (.inr (.inl (nI 6)))),
  (111, .if_icmp .ge 61, 3, .inl (172, 0)),
  (114, .iload 4, 2, .inl (0, 0)),
  (116, .bipush (-9), 2, .inr (.inr (.inl (-9)))),
  (118, .if_icmp .ne 54, 3, .inl (172, 0)),
  (121, .iload_n 1, 1, .inl (0, 0)),
  (122, .iload 7, 2, .inl (0, 0)),
  (124, .ishr, 1, .inl (0, 0)),
  (125, .iconst 1, 1, .inr (.inr (.inl (nI 1)))),
  (126, .iand, 1, .inl (0, 0)),
  (127, .iconst 1, 1, .inr (.inr (.inl (nI 1)))),
  (128, .if_icmp .ne 38, 3, .inl (166, 0)),
  (131, .aload_n 0, 1, .inl (0, 0)),
  (132, .iload 7, 2, .inl (0, 0)),
  (134, .invokevirtual 138, 3, .inr (.inl g_Mo_rests)),
  (137, .aload_n 0, 1, .inl (0, 0)),
  (138, .getfield 25, 3, .inl (9, 7)),
  (141, .aload_n 0, 1, .inl (0, 0)),
  (142, .aload_n 0, 1, .inl (0, 0)),
  (143, .getfield 22, 3, .inl (9, 6)),
  (146, .invokevirtual 90, 3, .inr (.inl g_Mo_rank)),
  (149, .iaload, 1, .inl (0, 0)),
  (150, .iload 6, 2, .inl (0, 0)),
  (152, .iconst 1, 1, .inr (.inr (.inl (nI 1)))),
  (153, .isub, 1, .inl (0, 0)),
  (154, .if_icmp .ne 8, 3, .inl (162, 0)),
  (157, .iload 7, 2, .inl (0, 0)),
  (159, .goto 5, 3, .inl (164, 0)),
  (162, .bipush (-9), 2, .inr (.inr (.inl (-9)))),
  (164, .istore 4, 2, .inl (0, 0)),
  (166, .iinc 7 1, 3, .inr (.inr (.inl (nI 1)))),
  (169, .goto (-62), 3, .inl (107, 0)),
  (172, .iconst 0, 1, .inr (.inr (.inl (nI 0)))),
  (173, .istore 7, 2, .inl (0, 0)),
  (175, .iload 7, 2, .inl (0, 0)),
  (177, .aload_n 0, 1, .inl (0, 0)),
  (178, .invokevirtual 64, 3, .inr (.inl g_Mo_size)),
  (181, .if_icmp .ge 23, 3, .inl (204, 0)),
  (184, .aload_n 0, 1, .inl (0, 0)),
  (185, .getfield 16, 3, .inl (9, 4)),
  (188, .iload 7, 2, .inl (0, 0)),
  (190, .aload_n 0, 1, .inl (0, 0)),
  (191, .getfield 22, 3, .inl (9, 6)),
  (194, .iload 7, 2, .inl (0, 0)),
  (196, .iaload, 1, .inl (0, 0)),
  (197, .iastore, 1, .inl (0, 0)),
  (198, .iinc 7 1, 3, .inr (.inr (.inl (nI 1)))),
  (201, .goto (-26), 3, .inl (175, 0)),
  (204, .iinc 5 1, 3, .inr (.inr (.inl (nI 1)))),
  (207, .goto (-128), 3, .inl (79, 0)),
  (210, .iload 4, 2, .inl (0, 0)),
  (212, .ireturn, 1, .inl (0, 0))]
set_option maxRecDepth 100000 in
set_option maxHeartbeats 4000000 in
theorem ok_Mo_factor : xOK g_Mo_factor k_Mo_factor := ⟨by decide +kernel, by decide +kernel, List.forall_mem_cons.mpr ⟨trivial, List.forall_mem_cons.mpr ⟨⟨ml_Mo_132, xms_Mo_isSet⟩, List.forall_mem_cons.mpr ⟨trivial, List.forall_mem_cons.mpr ⟨trivial, List.forall_mem_cons.mpr ⟨⟨ml_Mo_79, xms_Mo_isRegister⟩, List.forall_mem_cons.mpr ⟨trivial, List.forall_mem_cons.mpr ⟨trivial, List.forall_mem_cons.mpr ⟨trivial, List.forall_mem_cons.mpr ⟨trivial, List.forall_mem_cons.mpr ⟨trivial, List.forall_mem_cons.mpr ⟨trivial, List.forall_mem_cons.mpr ⟨trivial, List.forall_mem_cons.mpr ⟨⟨ml_Mo_135, xmv_Mo_walks⟩, List.forall_mem_cons.mpr ⟨trivial, List.forall_mem_cons.mpr ⟨trivial, List.forall_mem_cons.mpr ⟨trivial, List.forall_mem_cons.mpr ⟨fl_Mo_16, List.forall_mem_cons.mpr ⟨⟨ml_Mo_94, xmv_Mo_takes⟩, List.forall_mem_cons.mpr ⟨trivial, List.forall_mem_cons.mpr ⟨fl_Mo_25, List.forall_mem_cons.mpr ⟨trivial, List.forall_mem_cons.mpr ⟨trivial, List.forall_mem_cons.mpr ⟨fl_Mo_16, List.forall_mem_cons.mpr ⟨⟨ml_Mo_90, xmv_Mo_rank⟩, List.forall_mem_cons.mpr ⟨trivial, List.forall_mem_cons.mpr ⟨trivial, List.forall_mem_cons.mpr ⟨trivial, List.forall_mem_cons.mpr ⟨trivial, List.forall_mem_cons.mpr ⟨trivial, List.forall_mem_cons.mpr ⟨fl_Mo_25, List.forall_mem_cons.mpr ⟨trivial, List.forall_mem_cons.mpr ⟨trivial, List.forall_mem_cons.mpr ⟨fl_Mo_16, List.forall_mem_cons.mpr ⟨⟨ml_Mo_90, xmv_Mo_rank⟩, List.forall_mem_cons.mpr ⟨trivial, List.forall_mem_cons.mpr ⟨trivial, List.forall_mem_cons.mpr ⟨trivial, List.forall_mem_cons.mpr ⟨trivial, List.forall_mem_cons.mpr ⟨trivial, List.forall_mem_cons.mpr ⟨trivial, List.forall_mem_cons.mpr ⟨trivial, List.forall_mem_cons.mpr ⟨trivial, List.forall_mem_cons.mpr ⟨trivial, List.forall_mem_cons.mpr ⟨trivial, List.forall_mem_cons.mpr ⟨trivial, List.forall_mem_cons.mpr ⟨trivial, List.forall_mem_cons.mpr ⟨fl_Mo_25, List.forall_mem_cons.mpr ⟨trivial, List.forall_mem_cons.mpr ⟨trivial, List.forall_mem_cons.mpr ⟨fl_Mo_16, List.forall_mem_cons.mpr ⟨⟨ml_Mo_90, xmv_Mo_rank⟩, List.forall_mem_cons.mpr ⟨trivial, List.forall_mem_cons.mpr ⟨trivial, List.forall_mem_cons.mpr ⟨trivial, List.forall_mem_cons.mpr ⟨trivial, List.forall_mem_cons.mpr ⟨trivial, List.forall_mem_cons.mpr ⟨trivial, List.forall_mem_cons.mpr ⟨trivial, List.forall_mem_cons.mpr ⟨trivial, List.forall_mem_cons.mpr ⟨trivial, List.forall_mem_cons.mpr ⟨trivial, List.forall_mem_cons.mpr ⟨trivial, List.forall_mem_cons.mpr ⟨trivial, List.forall_mem_cons.mpr ⟨trivial, List.forall_mem_cons.mpr ⟨trivial, List.forall_mem_cons.mpr ⟨trivial, List.forall_mem_cons.mpr ⟨trivial, List.forall_mem_cons.mpr ⟨trivial, List.forall_mem_cons.mpr ⟨trivial, List.forall_mem_cons.mpr ⟨trivial, List.forall_mem_cons.mpr ⟨trivial, List.forall_mem_cons.mpr ⟨trivial, List.forall_mem_cons.mpr ⟨⟨ml_Mo_138, xmv_Mo_rests⟩, List.forall_mem_cons.mpr ⟨trivial, List.forall_mem_cons.mpr ⟨fl_Mo_25, List.forall_mem_cons.mpr ⟨trivial, List.forall_mem_cons.mpr ⟨trivial, List.forall_mem_cons.mpr ⟨fl_Mo_22, List.forall_mem_cons.mpr ⟨⟨ml_Mo_90, xmv_Mo_rank⟩, List.forall_mem_cons.mpr ⟨trivial, List.forall_mem_cons.mpr ⟨trivial, List.forall_mem_cons.mpr ⟨trivial, List.forall_mem_cons.mpr ⟨trivial, List.forall_mem_cons.mpr ⟨trivial, List.forall_mem_cons.mpr ⟨trivial, List.forall_mem_cons.mpr ⟨trivial, List.forall_mem_cons.mpr ⟨trivial, List.forall_mem_cons.mpr ⟨trivial, List.forall_mem_cons.mpr ⟨trivial, List.forall_mem_cons.mpr ⟨trivial, List.forall_mem_cons.mpr ⟨trivial, List.forall_mem_cons.mpr ⟨trivial, List.forall_mem_cons.mpr ⟨trivial, List.forall_mem_cons.mpr ⟨trivial, List.forall_mem_cons.mpr ⟨⟨ml_Mo_64, xmv_Mo_size⟩, List.forall_mem_cons.mpr ⟨trivial, List.forall_mem_cons.mpr ⟨trivial, List.forall_mem_cons.mpr ⟨fl_Mo_16, List.forall_mem_cons.mpr ⟨trivial, List.forall_mem_cons.mpr ⟨trivial, List.forall_mem_cons.mpr ⟨fl_Mo_22, List.forall_mem_cons.mpr ⟨trivial, List.forall_mem_cons.mpr ⟨trivial, List.forall_mem_cons.mpr ⟨trivial, List.forall_mem_cons.mpr ⟨trivial, List.forall_mem_cons.mpr ⟨trivial, List.forall_mem_cons.mpr ⟨trivial, List.forall_mem_cons.mpr ⟨trivial, List.forall_mem_cons.mpr ⟨trivial, List.forall_mem_cons.mpr ⟨trivial, fun _ h => absurd h List.not_mem_nil⟩⟩⟩⟩⟩⟩⟩⟩⟩⟩⟩⟩⟩⟩⟩⟩⟩⟩⟩⟩⟩⟩⟩⟩⟩⟩⟩⟩⟩⟩⟩⟩⟩⟩⟩⟩⟩⟩⟩⟩⟩⟩⟩⟩⟩⟩⟩⟩⟩⟩⟩⟩⟩⟩⟩⟩⟩⟩⟩⟩⟩⟩⟩⟩⟩⟩⟩⟩⟩⟩⟩⟩⟩⟩⟩⟩⟩⟩⟩⟩⟩⟩⟩⟩⟩⟩⟩⟩⟩⟩⟩⟩⟩⟩⟩⟩⟩⟩⟩⟩⟩⟩⟩⟩⟩⟩⟩⟩⟩⟩⟩
def k_Mo_type : xCd := [
  (0, .iload_n 1, 1, .inl (0, 0)),
  (1, .bipush 33, 2, .inr (.inr (.inl (nI 33)))),
  (3, .bipush 126, 2, .inr (.inr (.inl (nI 126)))),
  (5, .invokestatic 57, 3, .inr (.inl g_Mo_in)),
  (8, .ifCond .ne 5, 3, .inl (13, 0)),
  (11, .iconst (-1), 1, .inr (.inr (.inl (-1)))),
  (12, .ireturn, 1, .inl (0, 0)),
  (13, .aload_n 0, 1, .inl (0, 0)),
  (14, .getfield 141, 3, .inl (9, 3)),
  (17, .bipush 80, 2, .inr (.inr (.inl (nI 80)))),
  (19, .if_icmp .ne 6, 3, .inl (25, 0)),
  (22, .bipush (-3), 2, .inr (.inr (.inl (-3)))),
  (24, .ireturn, 1, .inl (0, 0)),
  (25, .aload_n 0, 1, .inl (0, 0)),
  (26, .getfield 13, 3, .inl (9, 2)),
  (29, .aload_n 0, 1, .inl (0, 0)),
  (30, .getfield 141, 3, .inl (9, 3)),
  (33, .iload_n 1, 1, .inl (0, 0)),
  (34, .iastore, 1, .inl (0, 0)),
  (35, .aload_n 0, 1, .inl (0, 0)),
  (36, .dup, 1, .inl (0, 0)),
  (37, .getfield 141, 3, .inl (9, 3)),
  (40, .iconst 1, 1, .inr (.inr (.inl (nI 1)))),
  (41, .iadd, 1, .inl (0, 0)),
  (42, .putfield 141, 3, .inl (9, 3)),
  (45, .aload_n 0, 1, .inl (0, 0)),
  (46, .getfield 141, 3, .inl (9, 3)),
  (49, .ireturn, 1, .inl (0, 0))]
set_option maxRecDepth 100000 in
set_option maxHeartbeats 4000000 in
theorem ok_Mo_type : xOK g_Mo_type k_Mo_type := ⟨by decide +kernel, by decide +kernel, List.forall_mem_cons.mpr ⟨trivial, List.forall_mem_cons.mpr ⟨trivial, List.forall_mem_cons.mpr ⟨trivial, List.forall_mem_cons.mpr ⟨⟨ml_Mo_57, xms_Mo_in⟩, List.forall_mem_cons.mpr ⟨trivial, List.forall_mem_cons.mpr ⟨trivial, List.forall_mem_cons.mpr ⟨trivial, List.forall_mem_cons.mpr ⟨trivial, List.forall_mem_cons.mpr ⟨fl_Mo_141, List.forall_mem_cons.mpr ⟨trivial, List.forall_mem_cons.mpr ⟨trivial, List.forall_mem_cons.mpr ⟨trivial, List.forall_mem_cons.mpr ⟨trivial, List.forall_mem_cons.mpr ⟨trivial, List.forall_mem_cons.mpr ⟨fl_Mo_13, List.forall_mem_cons.mpr ⟨trivial, List.forall_mem_cons.mpr ⟨fl_Mo_141, List.forall_mem_cons.mpr ⟨trivial, List.forall_mem_cons.mpr ⟨trivial, List.forall_mem_cons.mpr ⟨trivial, List.forall_mem_cons.mpr ⟨trivial, List.forall_mem_cons.mpr ⟨fl_Mo_141, List.forall_mem_cons.mpr ⟨trivial, List.forall_mem_cons.mpr ⟨trivial, List.forall_mem_cons.mpr ⟨⟨fl_Mo_141, nf_9_3 _⟩, List.forall_mem_cons.mpr ⟨trivial, List.forall_mem_cons.mpr ⟨fl_Mo_141, List.forall_mem_cons.mpr ⟨trivial, fun _ h => absurd h List.not_mem_nil⟩⟩⟩⟩⟩⟩⟩⟩⟩⟩⟩⟩⟩⟩⟩⟩⟩⟩⟩⟩⟩⟩⟩⟩⟩⟩⟩⟩⟩
def k_Mo_clear : xCd := [
  (0, .aload_n 0, 1, .inl (0, 0)),
  (1, .getfield 141, 3, .inl (9, 3)),
  (4, .istore_n 1, 1, .inl (0, 0)),
  (5, .aload_n 0, 1, .inl (0, 0)),
  (6, .iconst 0, 1, .inr (.inr (.inl (nI 0)))),
  (7, .putfield 141, 3, .inl (9, 3)),
  (10, .iload_n 1, 1, .inl (0, 0)),
  (11, .ireturn, 1, .inl (0, 0))]
set_option maxRecDepth 100000 in
set_option maxHeartbeats 4000000 in
theorem ok_Mo_clear : xOK g_Mo_clear k_Mo_clear := ⟨by decide +kernel, by decide +kernel, List.forall_mem_cons.mpr ⟨trivial, List.forall_mem_cons.mpr ⟨fl_Mo_141, List.forall_mem_cons.mpr ⟨trivial, List.forall_mem_cons.mpr ⟨trivial, List.forall_mem_cons.mpr ⟨trivial, List.forall_mem_cons.mpr ⟨⟨fl_Mo_141, nf_9_3 _⟩, List.forall_mem_cons.mpr ⟨trivial, List.forall_mem_cons.mpr ⟨trivial, fun _ h => absurd h List.not_mem_nil⟩⟩⟩⟩⟩⟩⟩⟩⟩
def k_Mo_byteAt : xCd := [
  (0, .iload_n 1, 1, .inl (0, 0)),
  (1, .aload_n 0, 1, .inl (0, 0)),
  (2, .getfield 141, 3, .inl (9, 3)),
  (5, .if_icmp .ge 12, 3, .inl (17, 0)),
  (8, .aload_n 0, 1, .inl (0, 0)),
  (9, .getfield 13, 3, .inl (9, 2)),
  (12, .iload_n 1, 1, .inl (0, 0)),
  (13, .iaload, 1, .inl (0, 0)),
  (14, .goto 5, 3, .inl (19, 0)),
  (17, .bipush (-9), 2, .inr (.inr (.inl (-9)))),
  (19, .ireturn, 1, .inl (0, 0))]
set_option maxRecDepth 100000 in
set_option maxHeartbeats 4000000 in
theorem ok_Mo_byteAt : xOK g_Mo_byteAt k_Mo_byteAt := ⟨by decide +kernel, by decide +kernel, List.forall_mem_cons.mpr ⟨trivial, List.forall_mem_cons.mpr ⟨trivial, List.forall_mem_cons.mpr ⟨fl_Mo_141, List.forall_mem_cons.mpr ⟨trivial, List.forall_mem_cons.mpr ⟨trivial, List.forall_mem_cons.mpr ⟨fl_Mo_13, List.forall_mem_cons.mpr ⟨trivial, List.forall_mem_cons.mpr ⟨trivial, List.forall_mem_cons.mpr ⟨trivial, List.forall_mem_cons.mpr ⟨trivial, List.forall_mem_cons.mpr ⟨trivial, fun _ h => absurd h List.not_mem_nil⟩⟩⟩⟩⟩⟩⟩⟩⟩⟩⟩⟩
def k_Mo_isLetter : xCd := [
  (0, .aload_n 0, 1, .inl (0, 0)),
  (1, .iload_n 1, 1, .inl (0, 0)),
  (2, .invokevirtual 144, 3, .inr (.inl g_Mo_byteAt)),
  (5, .bipush 97, 2, .inr (.inr (.inl (nI 97)))),
  (7, .bipush 97, 2, .inr (.inr (.inl (nI 97)))),
  (9, .iload_n 2, 1, .inl (0, 0)),
  (10, .iadd, 1, .inl (0, 0)),
  (11, .iconst 1, 1, .inr (.inr (.inl (nI 1)))),
  (12, .isub, 1, .inl (0, 0)),
  (13, .invokestatic 57, 3, .inr (.inl g_Mo_in)),
  (16, .ireturn, 1, .inl (0, 0))]
set_option maxRecDepth 100000 in
set_option maxHeartbeats 4000000 in
theorem ok_Mo_isLetter : xOK g_Mo_isLetter k_Mo_isLetter := ⟨by decide +kernel, by decide +kernel, List.forall_mem_cons.mpr ⟨trivial, List.forall_mem_cons.mpr ⟨trivial, List.forall_mem_cons.mpr ⟨⟨ml_Mo_144, xmv_Mo_byteAt⟩, List.forall_mem_cons.mpr ⟨trivial, List.forall_mem_cons.mpr ⟨trivial, List.forall_mem_cons.mpr ⟨trivial, List.forall_mem_cons.mpr ⟨trivial, List.forall_mem_cons.mpr ⟨trivial, List.forall_mem_cons.mpr ⟨trivial, List.forall_mem_cons.mpr ⟨⟨ml_Mo_57, xms_Mo_in⟩, List.forall_mem_cons.mpr ⟨trivial, fun _ h => absurd h List.not_mem_nil⟩⟩⟩⟩⟩⟩⟩⟩⟩⟩⟩⟩
def k_Mo_readsFirst : xCd := [
  (0, .aload_n 0, 1, .inl (0, 0)),
  (1, .getfield 148, 3, .inl (9, 12)),
  (4, .bipush 7, 2, .inr (.inr (.inl (nI 7)))),
  (6, .if_icmp .ge 51, 3, .inl (57, 0)),
  (9, .aload_n 0, 1, .inl (0, 0)),
  (10, .aload_n 0, 1, .inl (0, 0)),
  (11, .getfield 148, 3, .inl (9, 12)),
  (14, .bipush 7, 2, .inr (.inr (.inl (nI 7)))),
  (16, .invokevirtual 151, 3, .inr (.inl g_Mo_isLetter)),
  (19, .ifCond .eq 38, 3, .inl (57, 0)),
  (22, .aload_n 0, 1, .inl (0, 0)),
  (23, .getfield 31, 3, .inl (9, 10)),
  (26, .iconst 1, 1, .inr (.inr (.inl (nI 1)))),
  (27, .aload_n 0, 1, .inl (0, 0)),
  (28, .getfield 148, 3, .inl (9, 12)),
  (31, .iadd, 1, .inl (0, 0)),
  (32, .aload_n 0, 1, .inl (0, 0)),
  (33, .aload_n 0, 1, .inl (0, 0)),
  (34, .getfield 148, 3, .inl (9, 12)),
  (37, .invokevirtual 144, 3, .inr (.inl g_Mo_byteAt)),
  (40, .bipush 97, 2, .inr (.inr (.inl (nI 97)))),
  (42, .isub, 1, .inl (0, 0)),
  (43, .iastore, 1, .inl (0, 0)),
  (44, .aload_n 0, 1, .inl (0, 0)),
  (45, .dup, 1, .inl (0, 0)),
  (46, .getfield 148, 3, .inl (9, 12)),
  (49, .iconst 1, 1, .inr (.inr (.inl (nI 1)))),
  (50, .iadd, 1, .inl (0, 0)),
  (51, .putfield 148, 3, .inl (9, 12)),
  (54, .goto (-54), 3, .inl (0, 0)),
  (57, .aload_n 0, 1, .inl (0, 0)),
  (58, .aload_n 0, 1, .inl (0, 0)),
  (59, .getfield 148, 3, .inl (9, 12)),
  (62, .putfield 155, 3, .inl (9, 11)),
  (65, .aload_n 0, 1, .inl (0, 0)),
  (66, .aload_n 0, 1, .inl (0, 0)),
  (67, .getfield 148, 3, .inl (9, 12)),
  (70, .invokevirtual 144, 3, .inr (.inl g_Mo_byteAt)),
  (73, .istore_n 1, 1, .inl (0, 0)),
  (74, .iload_n 1, 1, .inl (0, 0)),
  (75, .bipush (-9), 2, .inr (.inr (.inl (-9)))),
  (77, .if_icmp .eq 15, 3, .inl (92, 0)),
  (80, .iload_n 1, 1, .inl (0, 0)),
  (81, .bipush 47, 2, .inr (.inr (.inl (nI 47)))),
  (83, .if_icmp .eq 9, 3, .inl (92, 0)),
  (86, .iload_n 1, 1, .inl (0, 0)),
  (87, .bipush 59, 2, .inr (.inr (.inl (nI 59)))),
  (89, .if_icmp .ne 11, 3, .inl (100, 0)),
  (92, .aload_n 0, 1, .inl (0, 0)),
  (93, .getfield 148, 3, .inl (9, 12)),
  (96, .iconst 2, 1, .inr (.inr (.inl (nI 2)))),
  (97, .if_icmp .ge 5, 3, .inl (102, 0)),
  (100, .iconst 0, 1, .inr (.inr (.inl (nI 0)))),
  (101, .ireturn, 1, .inl (0, 0)),
  (102, .iconst 0, 1, .inr (.inr (.inl (nI 0)))),
  (103, .istore_n 2, 1, .inl (0, 0)),
  (104, .iload_n 2, 1, .inl (0, 0)),
  (105, .aload_n 0, 1, .inl (0, 0)),
  (106, .getfield 155, 3, .inl (9, 11)),
  (109, .if_icmp .ge 31, 3, .inl (140, 0)),
  (112, .aload_n 0, 1, .inl (0, 0)),
  (113, .getfield 31, 3, .inl (9, 10)),
  (116, .iconst 1, 1, .inr (.inr (.inl (nI 1)))),
  (117, .iload_n 2, 1, .inl (0, 0)),
  (118, .iadd, 1, .inl (0, 0)),
  (119, .iaload, 1, .inl (0, 0)),
  (120, .aload_n 0, 1, .inl (0, 0)),
  (121, .getfield 155, 3, .inl (9, 11)),
  (124, .if_icmp .lt 10, 3, .inl (134, 0)),
  (127, .aload_n 0, 1, .inl (0, 0)),
  (128, .iload_n 2, 1, .inl (0, 0)),
  (129, .putfield 148, 3, .inl (9, 12)),
  (132, .iconst 0, 1, .inr (.inr (.inl (nI 0)))),
  (133, .ireturn, 1, .inl (0, 0)),
  (134, .iinc 2 1, 3, .inr (.inr (.inl (nI 1)))),
  (137, .goto (-33), 3, .inl (104, 0)),
  (140, .aload_n 0, 1, .inl (0, 0)),
  (141, .getfield 31, 3, .inl (9, 10)),
  (144, .iconst 0, 1, .inr (.inr (.inl (nI 0)))),
  (145, .iconst 1, 1, .inr (.inr (.inl (nI 1)))),
  (146, .iastore, 1, .inl (0, 0)),
  (147, .iconst 1, 1, .inr (.inr (.inl (nI 1)))),
  (148, .ireturn, 1, .inl (0, 0))]
set_option maxRecDepth 100000 in
set_option maxHeartbeats 4000000 in
theorem ok_Mo_readsFirst : xOK g_Mo_readsFirst k_Mo_readsFirst := ⟨by decide +kernel, by decide +kernel, List.forall_mem_cons.mpr ⟨trivial, List.forall_mem_cons.mpr ⟨fl_Mo_148, List.forall_mem_cons.mpr ⟨trivial, List.forall_mem_cons.mpr ⟨trivial, List.forall_mem_cons.mpr ⟨trivial, List.forall_mem_cons.mpr ⟨trivial, List.forall_mem_cons.mpr ⟨fl_Mo_148, List.forall_mem_cons.mpr ⟨trivial, List.forall_mem_cons.mpr ⟨⟨ml_Mo_151, xmv_Mo_isLetter⟩, List.forall_mem_cons.mpr ⟨trivial, List.forall_mem_cons.mpr ⟨trivial, List.forall_mem_cons.mpr ⟨fl_Mo_31, List.forall_mem_cons.mpr ⟨trivial, List.forall_mem_cons.mpr ⟨trivial, List.forall_mem_cons.mpr ⟨fl_Mo_148, List.forall_mem_cons.mpr ⟨trivial, List.forall_mem_cons.mpr ⟨trivial, List.forall_mem_cons.mpr ⟨trivial, List.forall_mem_cons.mpr ⟨fl_Mo_148, List.forall_mem_cons.mpr ⟨⟨ml_Mo_144, xmv_Mo_byteAt⟩, List.forall_mem_cons.mpr ⟨trivial, List.forall_mem_cons.mpr ⟨trivial, List.forall_mem_cons.mpr ⟨trivial, List.forall_mem_cons.mpr ⟨trivial, List.forall_mem_cons.mpr ⟨trivial, List.forall_mem_cons.mpr ⟨fl_Mo_148, List.forall_mem_cons.mpr ⟨trivial, List.forall_mem_cons.mpr ⟨trivial, List.forall_mem_cons.mpr ⟨⟨fl_Mo_148, nf_9_12 _⟩, List.forall_mem_cons.mpr ⟨trivial, List.forall_mem_cons.mpr ⟨trivial, List.forall_mem_cons.mpr ⟨trivial, List.forall_mem_cons.mpr ⟨fl_Mo_148, List.forall_mem_cons.mpr ⟨⟨fl_Mo_155, nf_9_11 _⟩, List.forall_mem_cons.mpr ⟨trivial, List.forall_mem_cons.mpr ⟨trivial, List.forall_mem_cons.mpr ⟨fl_Mo_148, List.forall_mem_cons.mpr ⟨⟨ml_Mo_144, xmv_Mo_byteAt⟩, List.forall_mem_cons.mpr ⟨trivial, List.forall_mem_cons.mpr ⟨trivial, List.forall_mem_cons.mpr ⟨trivial, List.forall_mem_cons.mpr ⟨trivial, List.forall_mem_cons.mpr ⟨trivial, List.forall_mem_cons.mpr ⟨trivial, List.forall_mem_cons.mpr ⟨trivial, List.forall_mem_cons.mpr ⟨trivial, List.forall_mem_cons.mpr ⟨trivial, List.forall_mem_cons.mpr ⟨trivial, List.forall_mem_cons.mpr ⟨trivial, List.forall_mem_cons.mpr ⟨fl_Mo_148, List.forall_mem_cons.mpr ⟨trivial, List.forall_mem_cons.mpr ⟨trivial, List.forall_mem_cons.mpr ⟨trivial, List.forall_mem_cons.mpr ⟨trivial, List.forall_mem_cons.mpr ⟨trivial, List.forall_mem_cons.mpr ⟨trivial, List.forall_mem_cons.mpr ⟨trivial, List.forall_mem_cons.mpr ⟨trivial, List.forall_mem_cons.mpr ⟨fl_Mo_155, List.forall_mem_cons.mpr ⟨trivial, List.forall_mem_cons.mpr ⟨trivial, List.forall_mem_cons.mpr ⟨fl_Mo_31, List.forall_mem_cons.mpr ⟨trivial, List.forall_mem_cons.mpr ⟨trivial, List.forall_mem_cons.mpr ⟨trivial, List.forall_mem_cons.mpr ⟨trivial, List.forall_mem_cons.mpr ⟨trivial, List.forall_mem_cons.mpr ⟨fl_Mo_155, List.forall_mem_cons.mpr ⟨trivial, List.forall_mem_cons.mpr ⟨trivial, List.forall_mem_cons.mpr ⟨trivial, List.forall_mem_cons.mpr ⟨⟨fl_Mo_148, nf_9_12 _⟩, List.forall_mem_cons.mpr ⟨trivial, List.forall_mem_cons.mpr ⟨trivial, List.forall_mem_cons.mpr ⟨trivial, List.forall_mem_cons.mpr ⟨trivial, List.forall_mem_cons.mpr ⟨trivial, List.forall_mem_cons.mpr ⟨fl_Mo_31, List.forall_mem_cons.mpr ⟨trivial, List.forall_mem_cons.mpr ⟨trivial, List.forall_mem_cons.mpr ⟨trivial, List.forall_mem_cons.mpr ⟨trivial, List.forall_mem_cons.mpr ⟨trivial, fun _ h => absurd h List.not_mem_nil⟩⟩⟩⟩⟩⟩⟩⟩⟩⟩⟩⟩⟩⟩⟩⟩⟩⟩⟩⟩⟩⟩⟩⟩⟩⟩⟩⟩⟩⟩⟩⟩⟩⟩⟩⟩⟩⟩⟩⟩⟩⟩⟩⟩⟩⟩⟩⟩⟩⟩⟩⟩⟩⟩⟩⟩⟩⟩⟩⟩⟩⟩⟩⟩⟩⟩⟩⟩⟩⟩⟩⟩⟩⟩⟩⟩⟩⟩⟩⟩⟩⟩⟩⟩
def k_Mo_readsStanza : xCd := [
  (0, .aload_n 0, 1, .inl (0, 0)),
  (1, .getfield 31, 3, .inl (9, 10)),
  (4, .iconst 0, 1, .inr (.inr (.inl (nI 0)))),
  (5, .iaload, 1, .inl (0, 0)),
  (6, .bipush 8, 2, .inr (.inr (.inl (nI 8)))),
  (8, .if_icmp .ne 5, 3, .inl (13, 0)),
  (11, .iconst 0, 1, .inr (.inr (.inl (nI 0)))),
  (12, .ireturn, 1, .inl (0, 0)),
  (13, .aload_n 0, 1, .inl (0, 0)),
  (14, .dup, 1, .inl (0, 0)),
  (15, .getfield 148, 3, .inl (9, 12)),
  (18, .iconst 1, 1, .inr (.inr (.inl (nI 1)))),
  (19, .iadd, 1, .inl (0, 0)),
  (20, .putfield 148, 3, .inl (9, 12)),
  (23, .iconst 0, 1, .inr (.inr (.inl (nI 0)))),
  (24, .istore_n 1, 1, .inl (0, 0)),
  (25, .iload_n 1, 1, .inl (0, 0)),
  (26, .aload_n 0, 1, .inl (0, 0)),
  (27, .getfield 155, 3, .inl (9, 11)),
  (30, .if_icmp .ge 65, 3, .inl (95, 0)),
  (33, .aload_n 0, 1, .inl (0, 0)),
  (34, .aload_n 0, 1, .inl (0, 0)),
  (35, .getfield 148, 3, .inl (9, 12)),
  (38, .aload_n 0, 1, .inl (0, 0)),
  (39, .getfield 155, 3, .inl (9, 11)),
  (42, .invokevirtual 151, 3, .inr (.inl g_Mo_isLetter)),
  (45, .ifCond .ne 5, 3, .inl (50, 0)),
  (48, .iconst 0, 1, .inr (.inr (.inl (nI 0)))),
  (49, .ireturn, 1, .inl (0, 0)),
  (50, .aload_n 0, 1, .inl (0, 0)),
  (51, .getfield 31, 3, .inl (9, 10)),
  (54, .iconst 1, 1, .inr (.inr (.inl (nI 1)))),
  (55, .bipush 7, 2, .inr (.inr (.inl (nI 7)))),
  (57, .aload_n 0, 1, .inl (0, 0)),
  (58, .getfield 31, 3, .inl (9, 10)),
  (61, .iconst 0, 1, .inr (.inr (.inl (nI 0)))),
  (62, .iaload, 1, .inl (0, 0)),
  (63, .imul, 1, .inl (0, 0)),
  (64, .iadd, 1, .inl (0, 0)),
  (65, .iload_n 1, 1, .inl (0, 0)),
  (66, .iadd, 1, .inl (0, 0)),
  (67, .aload_n 0, 1, .inl (0, 0)),
  (68, .aload_n 0, 1, .inl (0, 0)),
  (69, .getfield 148, 3, .inl (9, 12)),
  (72, .invokevirtual 144, 3, .inr (.inl g_Mo_byteAt)),
  (75, .bipush 97, 2, .inr (.inr (.inl (nI 97)))),
  (77, .isub, 1, .inl (0, 0)),
  (78, .iastore, 1, .inl (0, 0)),
  (79, .aload_n 0, 1, .inl (0, 0)),
  (80, .dup, 1, .inl (0, 0)),
  (81, .getfield 148, 3, .inl (9, 12)),
  (84, .iconst 1, 1, .inr (.inr (.inl (nI 1)))),
  (85, .iadd, 1, .inl (0, 0)),
  (86, .putfield 148, 3, .inl (9, 12)),
  (89, .iinc 1 1, 3, .inr (.inr (.inl (nI 1)))),
  (92, .goto (-67), 3, .inl (25, 0)),
  (95, .aload_n 0, 1, .inl (0, 0)),
  (96, .getfield 31, 3, .inl (9, 10)),
  (99, .iconst 0, 1, .inr (.inr (.inl (nI 0)))),
  (100, .dup2, 1, .inl (0, 0)),
  (101, .iaload, 1, .inl (0, 0)),
  (102, .iconst 1, 1, .inr (.inr (.inl (nI 1)))),
  (103, .iadd, 1, .inl (0, 0)),
  (104, .iastore, 1, .inl (0, 0)),
  (105, .aload_n 0, 1, .inl (0, 0)),
  (106, .aload_n 0, 1, .inl (0, 0)),
  (107, .getfield 148, 3, .inl (9, 12)),
  (110, .invokevirtual 144, 3, .inr (.inl g_Mo_byteAt)),
  (113, .istore_n 1, 1, .inl (0, 0)),
  (114, .iload_n 1, 1, .inl (0, 0)),
  (115, .bipush (-9), 2, .inr (.inr (.inl (-9)))),
  (117, .if_icmp .eq 15, 3, .inl (132, 0)),
  (120, .iload_n 1, 1, .inl (0, 0)),
  (121, .bipush 47, 2, .inr (.inr (.inl (nI 47)))),
  (123, .if_icmp .eq 9, 3, .inl (132, 0)),
  (126, .iload_n 1, 1, .inl (0, 0)),
  (127, .bipush 59, 2, .inr (.inr (.inl (nI 59)))),
  (129, .if_icmp .ne 7, 3, .inl (136, 0)),
  (132, .iconst 1, 1, .inr (.inr (.inl (nI 1)))),
  (133, .goto 4, 3, .inl (137, 0)),
  (136, .iconst 0, 1, .inr (.inr (.inl (nI 0)))),
  (137, .ireturn, 1, .inl (0, 0))]
set_option maxRecDepth 100000 in
set_option maxHeartbeats 4000000 in
theorem ok_Mo_readsStanza : xOK g_Mo_readsStanza k_Mo_readsStanza := ⟨by decide +kernel, by decide +kernel, List.forall_mem_cons.mpr ⟨trivial, List.forall_mem_cons.mpr ⟨fl_Mo_31, List.forall_mem_cons.mpr ⟨trivial, List.forall_mem_cons.mpr ⟨trivial, List.forall_mem_cons.mpr ⟨trivial, List.forall_mem_cons.mpr ⟨trivial, List.forall_mem_cons.mpr ⟨trivial, List.forall_mem_cons.mpr ⟨trivial, List.forall_mem_cons.mpr ⟨trivial, List.forall_mem_cons.mpr ⟨trivial, List.forall_mem_cons.mpr ⟨fl_Mo_148, List.forall_mem_cons.mpr ⟨trivial, List.forall_mem_cons.mpr ⟨trivial, List.forall_mem_cons.mpr ⟨⟨fl_Mo_148, nf_9_12 _⟩, List.forall_mem_cons.mpr ⟨trivial, List.forall_mem_cons.mpr ⟨trivial, List.forall_mem_cons.mpr ⟨trivial, List.forall_mem_cons.mpr ⟨trivial, List.forall_mem_cons.mpr ⟨fl_Mo_155, List.forall_mem_cons.mpr ⟨trivial, List.forall_mem_cons.mpr ⟨trivial, List.forall_mem_cons.mpr ⟨trivial, List.forall_mem_cons.mpr ⟨fl_Mo_148, List.forall_mem_cons.mpr ⟨trivial, List.forall_mem_cons.mpr ⟨fl_Mo_155, List.forall_mem_cons.mpr ⟨⟨ml_Mo_151, xmv_Mo_isLetter⟩, List.forall_mem_cons.mpr ⟨trivial, List.forall_mem_cons.mpr ⟨trivial, List.forall_mem_cons.mpr ⟨trivial, List.forall_mem_cons.mpr ⟨trivial, List.forall_mem_cons.mpr ⟨fl_Mo_31, List.forall_mem_cons.mpr ⟨trivial, List.forall_mem_cons.mpr ⟨trivial, List.forall_mem_cons.mpr ⟨trivial, List.forall_mem_cons.mpr ⟨fl_Mo_31, List.forall_mem_cons.mpr ⟨trivial, List.forall_mem_cons.mpr ⟨trivial, List.forall_mem_cons.mpr ⟨trivial, List.forall_mem_cons.mpr ⟨trivial, List.forall_mem_cons.mpr ⟨trivial, List.forall_mem_cons.mpr ⟨trivial, List.forall_mem_cons.mpr ⟨trivial, List.forall_mem_cons.mpr ⟨trivial, List.forall_mem_cons.mpr ⟨fl_Mo_148, List.forall_mem_cons.mpr ⟨⟨ml_Mo_144, xmv_Mo_byteAt⟩, List.forall_mem_cons.mpr ⟨trivial, List.forall_mem_cons.mpr ⟨trivial, List.forall_mem_cons.mpr ⟨trivial, List.forall_mem_cons.mpr ⟨trivial, List.forall_mem_cons.mpr ⟨trivial, List.forall_mem_cons.mpr ⟨fl_Mo_148, List.forall_mem_cons.mpr ⟨trivial, List.forall_mem_cons.mpr ⟨trivial, List.forall_mem_cons.mpr ⟨⟨fl_Mo_148, nf_9_12 _⟩, List.forall_mem_cons.mpr ⟨trivial, List.forall_mem_cons.mpr ⟨trivial, List.forall_mem_cons.mpr ⟨trivial, List.forall_mem_cons.mpr ⟨fl_Mo_31, List.forall_mem_cons.mpr ⟨trivial, List.forall_mem_cons.mpr ⟨trivial, List.forall_mem_cons.mpr ⟨trivial, List.forall_mem_cons.mpr ⟨trivial, List.forall_mem_cons.mpr ⟨trivial, List.forall_mem_cons.mpr ⟨trivial, List.forall_mem_cons.mpr ⟨trivial, List.forall_mem_cons.mpr ⟨trivial, List.forall_mem_cons.mpr ⟨fl_Mo_148, List.forall_mem_cons.mpr ⟨⟨ml_Mo_144, xmv_Mo_byteAt⟩, List.forall_mem_cons.mpr ⟨trivial, List.forall_mem_cons.mpr ⟨trivial, List.forall_mem_cons.mpr ⟨trivial, List.forall_mem_cons.mpr ⟨trivial, List.forall_mem_cons.mpr ⟨trivial, List.forall_mem_cons.mpr ⟨trivial, List.forall_mem_cons.mpr ⟨trivial, List.forall_mem_cons.mpr ⟨trivial, List.forall_mem_cons.mpr ⟨trivial, List.forall_mem_cons.mpr ⟨trivial, List.forall_mem_cons.mpr ⟨trivial, List.forall_mem_cons.mpr ⟨trivial, List.forall_mem_cons.mpr ⟨trivial, List.forall_mem_cons.mpr ⟨trivial, fun _ h => absurd h List.not_mem_nil⟩⟩⟩⟩⟩⟩⟩⟩⟩⟩⟩⟩⟩⟩⟩⟩⟩⟩⟩⟩⟩⟩⟩⟩⟩⟩⟩⟩⟩⟩⟩⟩⟩⟩⟩⟩⟩⟩⟩⟩⟩⟩⟩⟩⟩⟩⟩⟩⟩⟩⟩⟩⟩⟩⟩⟩⟩⟩⟩⟩⟩⟩⟩⟩⟩⟩⟩⟩⟩⟩⟩⟩⟩⟩⟩⟩⟩⟩⟩⟩⟩⟩⟩
def k_Mo_readsTail : xCd := [
  (0, .bipush 113, 2, .inr (.inr (.inl (nI 113)))),
  (2, .istore_n 1, 1, .inl (0, 0)),
  (3, .aload_n 0, 1, .inl (0, 0)),
  (4, .getfield 31, 3, .inl (9, 10)),
  (7, .iload_n 1, 1, .inl (0, 0)),
  (8, .iaload, 1, .inl (0, 0)),
  (9, .iconst 4, 1, .inr (.inr (.inl (nI 4)))),
  (10, .if_icmp .ne 5, 3, .inl (15, 0)),
  (13, .iconst 0, 1, .inr (.inr (.inl (nI 0)))),
  (14, .ireturn, 1, .inl (0, 0)),
  (15, .aload_n 0, 1, .inl (0, 0)),
  (16, .dup, 1, .inl (0, 0)),
  (17, .getfield 148, 3, .inl (9, 12)),
  (20, .iconst 1, 1, .inr (.inr (.inl (nI 1)))),
  (21, .iadd, 1, .inl (0, 0)),
  (22, .putfield 148, 3, .inl (9, 12)),
  (25, .iconst 0, 1, .inr (.inr (.inl (nI 0)))),
  (26, .istore_n 2, 1, .inl (0, 0)),
  (27, .iload_n 2, 1, .inl (0, 0)),
  (28, .iconst 3, 1, .inr (.inr (.inl (nI 3)))),
  (29, .if_icmp .ge 63, 3, .inl (92, 0)),
  (32, .aload_n 0, 1, .inl (0, 0)),
  (33, .aload_n 0, 1, .inl (0, 0)),
  (34, .getfield 148, 3, .inl (9, 12)),
  (37, .aload_n 0, 1, .inl (0, 0)),
  (38, .getfield 155, 3, .inl (9, 11)),
  (41, .invokevirtual 151, 3, .inr (.inl g_Mo_isLetter)),
  (44, .ifCond .eq 48, 3, .inl (92, 0)),
  (47, .aload_n 0, 1, .inl (0, 0)),
  (48, .getfield 31, 3, .inl (9, 10)),
  (51, .bipush 118, 2, .inr (.inr (.inl (nI 118)))),
  (53, .iconst 3, 1, .inr (.inr (.inl (nI 3)))),
  (54, .aload_n 0, 1, .inl (0, 0)),
  (55, .getfield 31, 3, .inl (9, 10)),
  (58, .iload_n 1, 1, .inl (0, 0)),
  (59, .iaload, 1, .inl (0, 0)),
  (60, .imul, 1, .inl (0, 0)),
  (61, .iadd, 1, .inl (0, 0)),
  (62, .iload_n 2, 1, .inl (0, 0)),
  (63, .iadd, 1, .inl (0, 0)),
  (64, .aload_n 0, 1, .inl (0, 0)),
  (65, .aload_n 0, 1, .inl (0, 0)),
  (66, .getfield 148, 3, .inl (9, 12)),
  (69, .invokevirtual 144, 3, .inr (.inl g_Mo_byteAt)),
  (72, .bipush 97, 2, .inr (.inr (.inl (nI 97)))),
  (74, .isub, 1, .inl (0, 0)),
  (75, .iastore, 1, .inl (0, 0)),
  (76, .aload_n 0, 1, .inl (0, 0)),
  (77, .dup, 1, .inl (0, 0)),
  (78, .getfield 148, 3, .inl (9, 12)),
  (81, .iconst 1, 1, .inr (.inr (.inl (nI 1)))),
  (82, .iadd, 1, .inl (0, 0)),
  (83, .putfield 148, 3, .inl (9, 12)),
  (86, .iinc 2 1, 3, .inr (.inr (.inl (nI 1)))),
  (89, .goto (-62), 3, .inl (27, 0)),
  (92, .aload_n 0, 1, .inl (0, 0)),
  (93, .getfield 31, 3, .inl (9, 10)),
  (96, .bipush 114, 2, .inr (.inr (.inl (nI 114)))),
  (98, .aload_n 0, 1, .inl (0, 0)),
  (99, .getfield 31, 3, .inl (9, 10)),
  (102, .iload_n 1, 1, .inl (0, 0)),
  (103, .iaload, 1, .inl (0, 0)),
  (104, .iadd, 1, .inl (0, 0)),
  (105, .iload_n 2, 1, .inl (0, 0)),
  (106, .iastore, 1, .inl (0, 0)),
  (107, .aload_n 0, 1, .inl (0, 0)),
  (108, .getfield 31, 3, .inl (9, 10)),
  (111, .iload_n 1, 1, .inl (0, 0)),
  (112, .dup2, 1, .inl (0, 0)),
  (113, .iaload, 1, .inl (0, 0)),
  (114, .iconst 1, 1, .inr (.inr (.inl (nI 1)))),
  (115, .iadd, 1, .inl (0, 0)),
  (116, .iastore, 1, .inl (0, 0)),
  (117, .iload_n 2, 1, .inl (0, 0)),
  (118, .ifCond .le 33, 3, .inl (151, 0)),
  (121, .aload_n 0, 1, .inl (0, 0)),
  (122, .aload_n 0, 1, .inl (0, 0)),
  (123, .getfield 148, 3, .inl (9, 12)),
  (126, .invokevirtual 144, 3, .inr (.inl g_Mo_byteAt)),
  (129, .bipush (-9), 2, .inr (.inr (.inl (-9)))),
  (131, .if_icmp .eq 16, 3, .inl (147, 0)),
  (134, .aload_n 0, 1, .inl (0, 0)),
  (135, .aload_n 0, 1, .inl (0, 0)),
  (136, .getfield 148, 3, .inl (9, 12)),
  (139, .invokevirtual 144, 3, .inr (.inl g_Mo_byteAt)),
  (142, .bipush 44, 2, .inr (.inr (.inl (nI 44)))),
  (144, .if_icmp .ne 7, 3, .inl (151, 0)),
  (147, .iconst 1, 1, .inr (.inr (.inl (nI 1)))),
  (148, .goto 4, 3, .inl (152, 0)),
  (151, .iconst 0, 1, .inr (.inr (.inl (nI 0)))),
  (152, .ireturn, 1, .inl (0, 0))]
set_option maxRecDepth 100000 in
set_option maxHeartbeats 4000000 in
theorem ok_Mo_readsTail : xOK g_Mo_readsTail k_Mo_readsTail := ⟨by decide +kernel, by decide +kernel, List.forall_mem_cons.mpr ⟨trivial, List.forall_mem_cons.mpr ⟨trivial, List.forall_mem_cons.mpr ⟨trivial, List.forall_mem_cons.mpr ⟨fl_Mo_31, List.forall_mem_cons.mpr ⟨trivial, List.forall_mem_cons.mpr ⟨trivial, List.forall_mem_cons.mpr ⟨trivial, List.forall_mem_cons.mpr ⟨trivial, List.forall_mem_cons.mpr ⟨trivial, List.forall_mem_cons.mpr ⟨trivial, List.forall_mem_cons.mpr ⟨trivial, List.forall_mem_cons.mpr ⟨trivial, List.forall_mem_cons.mpr ⟨fl_Mo_148, List.forall_mem_cons.mpr ⟨trivial, List.forall_mem_cons.mpr ⟨trivial, List.forall_mem_cons.mpr ⟨⟨fl_Mo_148, nf_9_12 _⟩, List.forall_mem_cons.mpr ⟨trivial, List.forall_mem_cons.mpr ⟨trivial, List.forall_mem_cons.mpr ⟨trivial, List.forall_mem_cons.mpr ⟨trivial, List.forall_mem_cons.mpr ⟨trivial, List.forall_mem_cons.mpr ⟨trivial, List.forall_mem_cons.mpr ⟨trivial, List.forall_mem_cons.mpr ⟨fl_Mo_148, List.forall_mem_cons.mpr ⟨trivial, List.forall_mem_cons.mpr ⟨fl_Mo_155, List.forall_mem_cons.mpr ⟨⟨ml_Mo_151, xmv_Mo_isLetter⟩, List.forall_mem_cons.mpr ⟨trivial, List.forall_mem_cons.mpr ⟨trivial, List.forall_mem_cons.mpr ⟨fl_Mo_31, List.forall_mem_cons.mpr ⟨trivial, List.forall_mem_cons.mpr ⟨trivial, List.forall_mem_cons.mpr ⟨trivial, List.forall_mem_cons.mpr ⟨fl_Mo_31, List.forall_mem_cons.mpr ⟨trivial, List.forall_mem_cons.mpr ⟨trivial, List.forall_mem_cons.mpr ⟨trivial, List.forall_mem_cons.mpr ⟨trivial, List.forall_mem_cons.mpr ⟨trivial, List.forall_mem_cons.mpr ⟨trivial, List.forall_mem_cons.mpr ⟨trivial, List.forall_mem_cons.mpr ⟨trivial, List.forall_mem_cons.mpr ⟨fl_Mo_148, List.forall_mem_cons.mpr ⟨⟨ml_Mo_144, xmv_Mo_byteAt⟩, List.forall_mem_cons.mpr ⟨trivial, List.forall_mem_cons.mpr ⟨trivial, List.forall_mem_cons.mpr ⟨trivial, List.forall_mem_cons.mpr ⟨trivial, List.forall_mem_cons.mpr ⟨trivial, List.forall_mem_cons.mpr ⟨fl_Mo_148, List.forall_mem_cons.mpr ⟨trivial, List.forall_mem_cons.mpr ⟨trivial, List.forall_mem_cons.mpr ⟨⟨fl_Mo_148, nf_9_12 _⟩, List.forall_mem_cons.mpr ⟨trivial, List.forall_mem_cons.mpr ⟨trivial, List.forall_mem_cons.mpr ⟨trivial, List.forall_mem_cons.mpr ⟨fl_Mo_31, List.forall_mem_cons.mpr ⟨trivial, List.forall_mem_cons.mpr ⟨trivial, List.forall_mem_cons.mpr ⟨fl_Mo_31, List.forall_mem_cons.mpr ⟨trivial, List.forall_mem_cons.mpr ⟨trivial, List.forall_mem_cons.mpr ⟨trivial, List.forall_mem_cons.mpr ⟨trivial, List.forall_mem_cons.mpr ⟨trivial, List.forall_mem_cons.mpr ⟨trivial, List.forall_mem_cons.mpr ⟨fl_Mo_31, List.forall_mem_cons.mpr ⟨trivial, List.forall_mem_cons.mpr ⟨trivial, List.forall_mem_cons.mpr ⟨trivial, List.forall_mem_cons.mpr ⟨trivial, List.forall_mem_cons.mpr ⟨trivial, List.forall_mem_cons.mpr ⟨trivial, List.forall_mem_cons.mpr ⟨trivial, List.forall_mem_cons.mpr ⟨trivial, List.forall_mem_cons.mpr ⟨trivial, List.forall_mem_cons.mpr ⟨trivial, List.forall_mem_cons.mpr ⟨fl_Mo_148, List.forall_mem_cons.mpr ⟨⟨ml_Mo_144, xmv_Mo_byteAt⟩, List.forall_mem_cons.mpr ⟨trivial, List.forall_mem_cons.mpr ⟨trivial, List.forall_mem_cons.mpr ⟨trivial, List.forall_mem_cons.mpr ⟨trivial, List.forall_mem_cons.mpr ⟨fl_Mo_148, List.forall_mem_cons.mpr ⟨⟨ml_Mo_144, xmv_Mo_byteAt⟩, List.forall_mem_cons.mpr ⟨trivial, List.forall_mem_cons.mpr ⟨trivial, List.forall_mem_cons.mpr ⟨trivial, List.forall_mem_cons.mpr ⟨trivial, List.forall_mem_cons.mpr ⟨trivial, List.forall_mem_cons.mpr ⟨trivial, fun _ h => absurd h List.not_mem_nil⟩⟩⟩⟩⟩⟩⟩⟩⟩⟩⟩⟩⟩⟩⟩⟩⟩⟩⟩⟩⟩⟩⟩⟩⟩⟩⟩⟩⟩⟩⟩⟩⟩⟩⟩⟩⟩⟩⟩⟩⟩⟩⟩⟩⟩⟩⟩⟩⟩⟩⟩⟩⟩⟩⟩⟩⟩⟩⟩⟩⟩⟩⟩⟩⟩⟩⟩⟩⟩⟩⟩⟩⟩⟩⟩⟩⟩⟩⟩⟩⟩⟩⟩⟩⟩⟩⟩⟩⟩⟩⟩⟩
def k_Mo_reads : xCd := [
  (0, .iconst 0, 1, .inr (.inr (.inl (nI 0)))),
  (1, .istore_n 1, 1, .inl (0, 0)),
  (2, .iload_n 1, 1, .inl (0, 0)),
  (3, .sipush 130, 3, .inr (.inr (.inl (nI 130)))),
  (6, .if_icmp .ge 16, 3, .inl (22, 0)),
  (9, .aload_n 0, 1, .inl (0, 0)),
  (10, .getfield 31, 3, .inl (9, 10)),
  (13, .iload_n 1, 1, .inl (0, 0)),
  (14, .iconst 0, 1, .inr (.inr (.inl (nI 0)))),
  (15, .iastore, 1, .inl (0, 0)),
  (16, .iinc 1 1, 3, .inr (.inr (.inl (nI 1)))),
  (19, .goto (-17), 3, .inl (2, 0)),
  (22, .aload_n 0, 1, .inl (0, 0)),
  (23, .iconst 0, 1, .inr (.inr (.inl (nI 0)))),
  (24, .putfield 148, 3, .inl (9, 12)),
  (27, .aload_n 0, 1, .inl (0, 0)),
  (28, .invokevirtual 158, 3, .inr (.inl g_Mo_readsFirst)),
  (31, .istore_n 1, 1, .inl (0, 0)),
  (32, .iload_n 1, 1, .inl (0, 0)),
  (33, .ifCond .eq 24, 3, .inl (57, 0)),
  (36, .aload_n 0, 1, .inl (0, 0)),
  (37, .aload_n 0, 1, .inl (0, 0)),
  (38, .getfield 148, 3, .inl (9, 12)),
  (41, .invokevirtual 144, 3, .inr (.inl g_Mo_byteAt)),
  (44, .bipush 47, 2, .inr (.inr (.inl (nI 47)))),
  (46, .if_icmp .ne 11, 3, .inl (57, 0)),
  (49, .aload_n 0, 1, .inl (0, 0)),
  (50, .invokevirtual 162, 3, .inr (.inl g_Mo_readsStanza)),
  (53, .istore_n 1, 1, .inl (0, 0)),
  (54, .goto (-22), 3, .inl (32, 0)),
  (57, .iload_n 1, 1, .inl (0, 0)),
  (58, .ifCond .eq 22, 3, .inl (80, 0)),
  (61, .aload_n 0, 1, .inl (0, 0)),
  (62, .getfield 148, 3, .inl (9, 12)),
  (65, .aload_n 0, 1, .inl (0, 0)),
  (66, .getfield 141, 3, .inl (9, 3)),
  (69, .if_icmp .ge 11, 3, .inl (80, 0)),
  (72, .aload_n 0, 1, .inl (0, 0)),
  (73, .invokevirtual 165, 3, .inr (.inl g_Mo_readsTail)),
  (76, .istore_n 1, 1, .inl (0, 0)),
  (77, .goto (-20), 3, .inl (57, 0)),
  (80, .iload_n 1, 1, .inl (0, 0)),
  (81, .ireturn, 1, .inl (0, 0))]
set_option maxRecDepth 100000 in
set_option maxHeartbeats 4000000 in
theorem ok_Mo_reads : xOK g_Mo_reads k_Mo_reads := ⟨by decide +kernel, by decide +kernel, List.forall_mem_cons.mpr ⟨trivial, List.forall_mem_cons.mpr ⟨trivial, List.forall_mem_cons.mpr ⟨trivial, List.forall_mem_cons.mpr ⟨trivial, List.forall_mem_cons.mpr ⟨trivial, List.forall_mem_cons.mpr ⟨trivial, List.forall_mem_cons.mpr ⟨fl_Mo_31, List.forall_mem_cons.mpr ⟨trivial, List.forall_mem_cons.mpr ⟨trivial, List.forall_mem_cons.mpr ⟨trivial, List.forall_mem_cons.mpr ⟨trivial, List.forall_mem_cons.mpr ⟨trivial, List.forall_mem_cons.mpr ⟨trivial, List.forall_mem_cons.mpr ⟨trivial, List.forall_mem_cons.mpr ⟨⟨fl_Mo_148, nf_9_12 _⟩, List.forall_mem_cons.mpr ⟨trivial, List.forall_mem_cons.mpr ⟨⟨ml_Mo_158, xmv_Mo_readsFirst⟩, List.forall_mem_cons.mpr ⟨trivial, List.forall_mem_cons.mpr ⟨trivial, List.forall_mem_cons.mpr ⟨trivial, List.forall_mem_cons.mpr ⟨trivial, List.forall_mem_cons.mpr ⟨trivial, List.forall_mem_cons.mpr ⟨fl_Mo_148, List.forall_mem_cons.mpr ⟨⟨ml_Mo_144, xmv_Mo_byteAt⟩, List.forall_mem_cons.mpr ⟨trivial, List.forall_mem_cons.mpr ⟨trivial, List.forall_mem_cons.mpr ⟨trivial, List.forall_mem_cons.mpr ⟨⟨ml_Mo_162, xmv_Mo_readsStanza⟩, List.forall_mem_cons.mpr ⟨trivial, List.forall_mem_cons.mpr ⟨trivial, List.forall_mem_cons.mpr ⟨trivial, List.forall_mem_cons.mpr ⟨trivial, List.forall_mem_cons.mpr ⟨trivial, List.forall_mem_cons.mpr ⟨fl_Mo_148, List.forall_mem_cons.mpr ⟨trivial, List.forall_mem_cons.mpr ⟨fl_Mo_141, List.forall_mem_cons.mpr ⟨trivial, List.forall_mem_cons.mpr ⟨trivial, List.forall_mem_cons.mpr ⟨⟨ml_Mo_165, xmv_Mo_readsTail⟩, List.forall_mem_cons.mpr ⟨trivial, List.forall_mem_cons.mpr ⟨trivial, List.forall_mem_cons.mpr ⟨trivial, List.forall_mem_cons.mpr ⟨trivial, fun _ h => absurd h List.not_mem_nil⟩⟩⟩⟩⟩⟩⟩⟩⟩⟩⟩⟩⟩⟩⟩⟩⟩⟩⟩⟩⟩⟩⟩⟩⟩⟩⟩⟩⟩⟩⟩⟩⟩⟩⟩⟩⟩⟩⟩⟩⟩⟩⟩⟩
def k_Mo_loadPoem : xCd := [
  (0, .aload_n 0, 1, .inl (0, 0)),
  (1, .invokevirtual 168, 3, .inr (.inl g_Mo_reads)),
  (4, .ifCond .ne 11, 3, .inl (15, 0)),
  (7, .bipush (-10), 2, .inr (.inr (.inl (-10)))),
  (9, .aload_n 0, 1, .inl (0, 0)),
  (10, .getfield 148, 3, .inl (9, 12)),
  (13, .isub, 1, .inl (0, 0)),
  (14, .ireturn, 1, .inl (0, 0)),
  (15, .aload_n 0, 1, .inl (0, 0)),
  (16, .invokevirtual 61, 3, .inr (.inl g_Mo_records)),
  (19, .aload_n 0, 1, .inl (0, 0)),
  (20, .getfield 155, 3, .inl (9, 11)),
  (23, .aload_n 0, 1, .inl (0, 0)),
  (24, .invokevirtual 64, 3, .inr (.inl g_Mo_size)),
  (27, .if_icmp .eq 11, 3, .inl (38, 0)),
  (30, .aload_n 0, 1, .inl (0, 0)),
  (31, .aload_n 0, 1, .inl (0, 0)),
  (32, .getfield 155, 3, .inl (9, 11)),
  (35, .invokevirtual 49, 3, .inr (.inl g_Mo_resets)),
  (38, .iconst 0, 1, .inr (.inr (.inl (nI 0)))),
  (39, .istore_n 1, 1, .inl (0, 0)),
  (40, .iload_n 1, 1, .inl (0, 0)),
  (41, .sipush 130, 3, .inr (.inr (.inl (nI 130)))),
  (44, .if_icmp .ge 24, 3, .inl (68, 0)),
  (47, .aload_n 0, 1, .inl (0, 0)),
  (48, .getfield 7, 3, .inl (9, 0)),
  (51, .bipush 50, 2, .inr (.inr (.inl (nI 50)))),
  (53, .iload_n 1, 1, .inl (0, 0)),
  (54, .iadd, 1, .inl (0, 0)),
  (55, .aload_n 0, 1, .inl (0, 0)),
  (56, .getfield 31, 3, .inl (9, 10)),
  (59, .iload_n 1, 1, .inl (0, 0)),
  (60, .iaload, 1, .inl (0, 0)),
  (61, .iastore, 1, .inl (0, 0)),
  (62, .iinc 1 1, 3, .inr (.inr (.inl (nI 1)))),
  (65, .goto (-25), 3, .inl (40, 0)),
  (68, .aload_n 0, 1, .inl (0, 0)),
  (69, .getfield 7, 3, .inl (9, 0)),
  (72, .bipush 50, 2, .inr (.inr (.inl (nI 50)))),
  (74, .iaload, 1, .inl (0, 0)),
  (75, .ireturn, 1, .inl (0, 0))]
set_option maxRecDepth 100000 in
set_option maxHeartbeats 4000000 in
theorem ok_Mo_loadPoem : xOK g_Mo_loadPoem k_Mo_loadPoem := ⟨by decide +kernel, by decide +kernel, List.forall_mem_cons.mpr ⟨trivial, List.forall_mem_cons.mpr ⟨⟨ml_Mo_168, xmv_Mo_reads⟩, List.forall_mem_cons.mpr ⟨trivial, List.forall_mem_cons.mpr ⟨trivial, List.forall_mem_cons.mpr ⟨trivial, List.forall_mem_cons.mpr ⟨fl_Mo_148, List.forall_mem_cons.mpr ⟨trivial, List.forall_mem_cons.mpr ⟨trivial, List.forall_mem_cons.mpr ⟨trivial, List.forall_mem_cons.mpr ⟨⟨ml_Mo_61, xmv_Mo_records⟩, List.forall_mem_cons.mpr ⟨trivial, List.forall_mem_cons.mpr ⟨fl_Mo_155, List.forall_mem_cons.mpr ⟨trivial, List.forall_mem_cons.mpr ⟨⟨ml_Mo_64, xmv_Mo_size⟩, List.forall_mem_cons.mpr ⟨trivial, List.forall_mem_cons.mpr ⟨trivial, List.forall_mem_cons.mpr ⟨trivial, List.forall_mem_cons.mpr ⟨fl_Mo_155, List.forall_mem_cons.mpr ⟨⟨ml_Mo_49, xmv_Mo_resets⟩, List.forall_mem_cons.mpr ⟨trivial, List.forall_mem_cons.mpr ⟨trivial, List.forall_mem_cons.mpr ⟨trivial, List.forall_mem_cons.mpr ⟨trivial, List.forall_mem_cons.mpr ⟨trivial, List.forall_mem_cons.mpr ⟨trivial, List.forall_mem_cons.mpr ⟨fl_Mo_7, List.forall_mem_cons.mpr ⟨trivial, List.forall_mem_cons.mpr ⟨trivial, List.forall_mem_cons.mpr ⟨trivial, List.forall_mem_cons.mpr ⟨trivial, List.forall_mem_cons.mpr ⟨fl_Mo_31, List.forall_mem_cons.mpr ⟨trivial, List.forall_mem_cons.mpr ⟨trivial, List.forall_mem_cons.mpr ⟨trivial, List.forall_mem_cons.mpr ⟨trivial, List.forall_mem_cons.mpr ⟨trivial, List.forall_mem_cons.mpr ⟨trivial, List.forall_mem_cons.mpr ⟨fl_Mo_7, List.forall_mem_cons.mpr ⟨trivial, List.forall_mem_cons.mpr ⟨trivial, List.forall_mem_cons.mpr ⟨trivial, fun _ h => absurd h List.not_mem_nil⟩⟩⟩⟩⟩⟩⟩⟩⟩⟩⟩⟩⟩⟩⟩⟩⟩⟩⟩⟩⟩⟩⟩⟩⟩⟩⟩⟩⟩⟩⟩⟩⟩⟩⟩⟩⟩⟩⟩⟩⟩⟩
def k_Mo_readsTurn : xCd := [
  (0, .aload_n 0, 1, .inl (0, 0)),
  (1, .aload_n 0, 1, .inl (0, 0)),
  (2, .getfield 16, 3, .inl (9, 4)),
  (5, .invokevirtual 82, 3, .inr (.inl g_Mo_identity)),
  (8, .iconst 0, 1, .inr (.inr (.inl (nI 0)))),
  (9, .istore_n 1, 1, .inl (0, 0)),
  (10, .aload_n 0, 1, .inl (0, 0)),
  (11, .iconst 0, 1, .inr (.inr (.inl (nI 0)))),
  (12, .putfield 148, 3, .inl (9, 12)),
  (15, .aload_n 0, 1, .inl (0, 0)),
  (16, .getfield 148, 3, .inl (9, 12)),
  (19, .aload_n 0, 1, .inl (0, 0)),
  (20, .getfield 141, 3, .inl (9, 3)),
  (23, .if_icmp .ge 179, 3, .inl (202, 0)),
  (26, .aload_n 0, 1, .inl (0, 0)),
  (27, .aload_n 0, 1, .inl (0, 0)),
  (28, .getfield 148, 3, .inl (9, 12)),
  (31, .invokevirtual 144, 3, .inr (.inl g_Mo_byteAt)),
  (34, .bipush 40, 2, .inr (.inr (.inl (nI 40)))),
  (36, .if_icmp .eq 5, 3, .inl (41, 0)),
  (39, .iconst 0, 1, .inr (.inr (.inl (nI 0)))),
  (40, .ireturn, 1, .inl (0, 0)),
  (41, .aload_n 0, 1, .inl (0, 0)),
  (42, .dup, 1, .inl (0, 0)),
  (43, .getfield 148, 3, .inl (9, 12)),
  (46, .iconst 1, 1, .inr (.inr (.inl (nI 1)))),
  (47, .iadd, 1, .inl (0, 0)),
  (48, .putfield 148, 3, .inl (9, 12)),
  (51, .bipush (-9), 2, .inr (.inr (.inl (-9)))),
  (53, .istore_n 2, 1, .inl (0, 0)),
  (54, .bipush (-9), 2, .inr (.inr (.inl (-9)))),
  (56, .istore_n 3, 1, .inl (0, 0)),
  (57, .aload_n 0, 1, .inl (0, 0)),
  (58, .aload_n 0, 1, .inl (0, 0)),
  (59, .getfield 148, 3, .inl (9, 12)),
  (62, .invokevirtual 144, 3, .inr (.inl g_Mo_byteAt)),
  (65, .bipush 49, 2, .inr (.inr (.inl (nI 49)))),
  (67, .bipush 48, 2, .inr (.inr (.inl (nI 48)))),
  (69, .aload_n 0, 1, .inl (0, 0)),
  (70, .invokevirtual 64, 3, .inr (.inl g_Mo_size)),
  (73, .iadd, 1, .inl (0, 0)),
  (74, .invokestatic 57, 3, .inr (.inl g_Mo_in)),
  (77, .ifCond .eq 84, 3, .inl (161, 0)),
  (80, .iload_n 1, 1, .inl (0, 0)),
  (81, .aload_n 0, 1, .inl (0, 0)),
  (82, .aload_n 0, 1, .inl (0, 0)),
  (83, .getfield 148, 3, .inl (9, 12)),
  (86, .invokevirtual 144, 3, .inr (.inl g_Mo_byteAt)),
  (89, .bipush 49, 2, .inr (.inr (.inl (nI 49)))),
  (91, .isub, 1, .inl (0, 0)),
  (92, .ishr, 1, .inl (0, 0)),
  (93, .iconst 1, 1, .inr (.inr (.inl (nI 1)))),
  (94, .iand, 1, .inl (0, 0)),
  (95, .ifCond .ne 66, 3, .inl (161, 0)),
  (98, .aload_n 0, 1, .inl (0, 0)),
  (99, .aload_n 0, 1, .inl (0, 0)),
  (100, .getfield 148, 3, .inl (9, 12)),
  (103, .invokevirtual 144, 3, .inr (.inl g_Mo_byteAt)),
  (106, .bipush 49, 2, .inr (.inr (.inl (nI 49)))),
  (108, .isub, 1, .inl (0, 0)),
  (109, .istore 4, 2, .inl (0, 0)),
  (111, .iload_n 1, 1, .inl (0, 0)),
  (112, .iconst 1, 1, .inr (.inr (.inl (nI 1)))),
  (113, .iload 4, 2, .inl (0, 0)),
  (115, .ishl, 1, .inl (0, 0)),
  (116, .ior, 1, .inl (0, 0)),
  (117, .istore_n 1, 1, .inl (0, 0)),
  (118, .iload_n 2, 1, .inl (0, 0)),
  (119, .bipush (-9), 2, .inr (.inr (.inl (-9)))),
  (121, .if_icmp .ne 8, 3, .inl (129, 0)),
  (124, .iload 4, 2, .inl (0, 0)),
  (126, .goto 4, 3, .inl (130, 0)),
  (129, .iload_n 2, 1, .inl (0, 0)),
  (130, .istore_n 2, 1, .inl (0, 0)),
  (131, .iload_n 3, 1, .inl (0, 0)),
  (132, .bipush (-9), 2, .inr (.inr (.inl (-9)))),
  (134, .if_icmp .eq 11, 3, .inl (145, 0)),
  (137, .aload_n 0, 1, .inl (0, 0)),
  (138, .getfield 16, 3, .inl (9, 4)),
  (141, .iload_n 3, 1, .inl (0, 0)),
  (142, .iload 4, 2, .inl (0, 0)),
  (144, .iastore, 1, .inl (0, 0)),
  (145, .iload 4, 2, .inl (0, 0)),
  (147, .istore_n 3, 1, .inl (0, 0)),
  (148, .aload_n 0, 1, .inl (0, 0)),
  (149, .dup, 1, .inl (0, 0)),
  (150, .getfield 148, 3, .inl (9, 12)),
  (153, .iconst 1, 1, .inr (.inr (.inl (nI 1)))),
  (154, .iadd, 1, .inl (0, 0)),
  (155, .putfield 148, 3, .inl (9, 12)),
  (158, .goto (-101), 3, .inl (57, 0)),
  (161, .aload_n 0, 1, .inl (0, 0)),
  (162, .aload_n 0, 1, .inl (0, 0)),
  (163, .getfield 148, 3, .inl (9, 12)),
  (166, .invokevirtual 144, 3, .inr (.inl g_Mo_byteAt)),
  (169, .bipush 41, 2, .inr (.inr (.inl (nI 41)))),
  (171, .if_icmp .ne 9, 3, .inl (180, 0)),
  (174, .iload_n 2, 1, .inl (0, 0)),
  (175, .bipush (-9), 2, .inr (.inr (.inl (-9)))),
  (177, .if_icmp .ne 5, 3, .inl (182, 0)),
  (180, .iconst 0, 1, .inr (.inr (.inl (nI 0)))),
  (181, .ireturn, 1, .inl (0, 0)),
  (182, .aload_n 0, 1, .inl (0, 0)),
  (183, .getfield 16, 3, .inl (9, 4)),
  (186, .iload_n 3, 1, .inl (0, 0)),
  (187, .iload_n 2, 1, .inl (0, 0)),
  (188, .iastore, 1, .inl (0, 0)),
  (189, .aload_n 0, 1, .inl (0, 0)),
  (190, .dup, 1, .inl (0, 0)),
  (191, .getfield 148, 3, .inl (9, 12)),
  (194, .iconst 1, 1, .inr (.inr (.inl (nI 1)))),
  (195, .iadd, 1, .inl (0, 0)),
  (196, .putfield 148, 3, .inl (9, 12)),
  (199, .goto (-184), 3, .inl (15, 0)),
  (202, .iconst 1, 1, .inr (.inr (.inl (nI 1)))),
  (203, .ireturn, 1, .inl (0, 0))]
set_option maxRecDepth 100000 in
set_option maxHeartbeats 4000000 in
theorem ok_Mo_readsTurn : xOK g_Mo_readsTurn k_Mo_readsTurn := ⟨by decide +kernel, by decide +kernel, List.forall_mem_cons.mpr ⟨trivial, List.forall_mem_cons.mpr ⟨trivial, List.forall_mem_cons.mpr ⟨fl_Mo_16, List.forall_mem_cons.mpr ⟨⟨ml_Mo_82, xmv_Mo_identity⟩, List.forall_mem_cons.mpr ⟨trivial, List.forall_mem_cons.mpr ⟨trivial, List.forall_mem_cons.mpr ⟨trivial, List.forall_mem_cons.mpr ⟨trivial, List.forall_mem_cons.mpr ⟨⟨fl_Mo_148, nf_9_12 _⟩, List.forall_mem_cons.mpr ⟨trivial, List.forall_mem_cons.mpr ⟨fl_Mo_148, List.forall_mem_cons.mpr ⟨trivial, List.forall_mem_cons.mpr ⟨fl_Mo_141, List.forall_mem_cons.mpr ⟨trivial, List.forall_mem_cons.mpr ⟨trivial, List.forall_mem_cons.mpr ⟨trivial, List.forall_mem_cons.mpr ⟨fl_Mo_148, List.forall_mem_cons.mpr ⟨⟨ml_Mo_144, xmv_Mo_byteAt⟩, List.forall_mem_cons.mpr ⟨trivial, List.forall_mem_cons.mpr ⟨trivial, List.forall_mem_cons.mpr ⟨trivial, List.forall_mem_cons.mpr ⟨trivial, List.forall_mem_cons.mpr ⟨trivial, List.forall_mem_cons.mpr ⟨trivial, List.forall_mem_cons.mpr ⟨fl_Mo_148, List.forall_mem_cons.mpr ⟨trivial, List.forall_mem_cons.mpr ⟨trivial, List.forall_mem_cons.mpr ⟨⟨fl_Mo_148, nf_9_12 _⟩, List.forall_mem_cons.mpr ⟨trivial, List.forall_mem_cons.mpr ⟨trivial, List.forall_mem_cons.mpr ⟨trivial, List.forall_mem_cons.mpr ⟨trivial, List.forall_mem_cons.mpr ⟨trivial, List.forall_mem_cons.mpr ⟨trivial, List.forall_mem_cons.mpr ⟨fl_Mo_148, List.forall_mem_cons.mpr ⟨⟨ml_Mo_144, xmv_Mo_byteAt⟩, List.forall_mem_cons.mpr ⟨trivial, List.forall_mem_cons.mpr ⟨trivial, List.forall_mem_cons.mpr ⟨trivial, List.forall_mem_cons.mpr ⟨⟨ml_Mo_64, xmv_Mo_size⟩, List.forall_mem_cons.mpr ⟨trivial, List.forall_mem_cons.mpr ⟨⟨ml_Mo_57, xms_Mo_in⟩, List.forall_mem_cons.mpr ⟨trivial, List.forall_mem_cons.mpr ⟨trivial, List.forall_mem_cons.mpr ⟨trivial, List.forall_mem_cons.mpr ⟨trivial, List.forall_mem_cons.mpr ⟨fl_Mo_148, List.forall_mem_cons.mpr ⟨⟨ml_Mo_144, xmv_Mo_byteAt⟩, List.forall_mem_cons.mpr ⟨trivial, List.forall_mem_cons.mpr ⟨trivial, List.forall_mem_cons.mpr ⟨trivial, List.forall_mem_cons.mpr ⟨trivial, List.forall_mem_cons.mpr ⟨trivial, List.forall_mem_cons.mpr ⟨trivial, List.forall_mem_cons.mpr ⟨trivial, List.forall_mem_cons.mpr ⟨trivial, List.forall_mem_cons.mpr ⟨fl_Mo_148, List.forall_mem_cons.mpr ⟨⟨ml_Mo_144, xmv_Mo_byteAt⟩, List.forall_mem_cons.mpr ⟨trivial, List.forall_mem_cons.mpr ⟨trivial, List.forall_mem_cons.mpr ⟨trivial, List.forall_mem_cons.mpr ⟨trivial, List.forall_mem_cons.mpr ⟨trivial, List.forall_mem_cons.mpr ⟨trivial, List.forall_mem_cons.mpr ⟨trivial, List.forall_mem_cons.mpr ⟨trivial, List.forall_mem_cons.mpr ⟨trivial, List.forall_mem_cons.mpr ⟨trivial, List.forall_mem_cons.mpr ⟨trivial, List.forall_mem_cons.mpr ⟨trivial, List.forall_mem_cons.mpr ⟨trivial, List.forall_mem_cons.mpr ⟨trivial, List.forall_mem_cons.mpr ⟨trivial, List.forall_mem_cons.mpr ⟨trivial, List.forall_mem_cons.mpr ⟨trivial, List.forall_mem_cons.mpr ⟨trivial, List.forall_mem_cons.mpr ⟨trivial, List.forall_mem_cons.mpr ⟨trivial, List.forall_mem_cons.mpr ⟨fl_Mo_16, List.forall_mem_cons.mpr ⟨trivial, List.forall_mem_cons.mpr ⟨trivial, List.forall_mem_cons.mpr ⟨trivial, List.forall_mem_cons.mpr ⟨trivial, List.forall_mem_cons.mpr ⟨trivial, List.forall_mem_cons.mpr ⟨trivial, List.forall_mem_cons.mpr ⟨trivial, List.forall_mem_cons.mpr ⟨fl_Mo_148, List.forall_mem_cons.mpr ⟨trivial, List.forall_mem_cons.mpr ⟨trivial, List.forall_mem_cons.mpr ⟨⟨fl_Mo_148, nf_9_12 _⟩, List.forall_mem_cons.mpr ⟨trivial, List.forall_mem_cons.mpr ⟨trivial, List.forall_mem_cons.mpr ⟨trivial, List.forall_mem_cons.mpr ⟨fl_Mo_148, List.forall_mem_cons.mpr ⟨⟨ml_Mo_144, xmv_Mo_byteAt⟩, List.forall_mem_cons.mpr ⟨trivial, List.forall_mem_cons.mpr ⟨trivial, List.forall_mem_cons.mpr ⟨trivial, List.forall_mem_cons.mpr ⟨trivial, List.forall_mem_cons.mpr ⟨trivial, List.forall_mem_cons.mpr ⟨trivial, List.forall_mem_cons.mpr ⟨trivial, List.forall_mem_cons.mpr ⟨trivial, List.forall_mem_cons.mpr ⟨fl_Mo_16, List.forall_mem_cons.mpr ⟨trivial, List.forall_mem_cons.mpr ⟨trivial, List.forall_mem_cons.mpr ⟨trivial, List.forall_mem_cons.mpr ⟨trivial, List.forall_mem_cons.mpr ⟨trivial, List.forall_mem_cons.mpr ⟨fl_Mo_148, List.forall_mem_cons.mpr ⟨trivial, List.forall_mem_cons.mpr ⟨trivial, List.forall_mem_cons.mpr ⟨⟨fl_Mo_148, nf_9_12 _⟩, List.forall_mem_cons.mpr ⟨trivial, List.forall_mem_cons.mpr ⟨trivial, List.forall_mem_cons.mpr ⟨trivial, fun _ h => absurd h List.not_mem_nil⟩⟩⟩⟩⟩⟩⟩⟩⟩⟩⟩⟩⟩⟩⟩⟩⟩⟩⟩⟩⟩⟩⟩⟩⟩⟩⟩⟩⟩⟩⟩⟩⟩⟩⟩⟩⟩⟩⟩⟩⟩⟩⟩⟩⟩⟩⟩⟩⟩⟩⟩⟩⟩⟩⟩⟩⟩⟩⟩⟩⟩⟩⟩⟩⟩⟩⟩⟩⟩⟩⟩⟩⟩⟩⟩⟩⟩⟩⟩⟩⟩⟩⟩⟩⟩⟩⟩⟩⟩⟩⟩⟩⟩⟩⟩⟩⟩⟩⟩⟩⟩⟩⟩⟩⟩⟩⟩⟩⟩⟩⟩⟩⟩⟩⟩⟩⟩
def k_Mo_loadTurn : xCd := [
  (0, .iload_n 1, 1, .inl (0, 0)),
  (1, .invokestatic 79, 3, .inr (.inl g_Mo_isRegister)),
  (4, .ifCond .ne 5, 3, .inl (9, 0)),
  (7, .iconst (-1), 1, .inr (.inr (.inl (-1)))),
  (8, .ireturn, 1, .inl (0, 0)),
  (9, .aload_n 0, 1, .inl (0, 0)),
  (10, .invokevirtual 171, 3, .inr (.inl g_Mo_readsTurn)),
  (13, .ifCond .ne 11, 3, .inl (24, 0)),
  (16, .bipush (-10), 2, .inr (.inr (.inl (-10)))),
  (18, .aload_n 0, 1, .inl (0, 0)),
  (19, .getfield 148, 3, .inl (9, 12)),
  (22, .isub, 1, .inl (0, 0)),
  (23, .ireturn, 1, .inl (0, 0)),
  (24, .aload_n 0, 1, .inl (0, 0)),
  (25, .invokevirtual 61, 3, .inr (.inl g_Mo_records)),
  (28, .aload_n 0, 1, .inl (0, 0)),
  (29, .aload_n 0, 1, .inl (0, 0)),
  (30, .getfield 16, 3, .inl (9, 4)),
  (33, .iload_n 1, 1, .inl (0, 0)),
  (34, .invokevirtual 86, 3, .inr (.inl g_Mo_puts)),
  (37, .aload_n 0, 1, .inl (0, 0)),
  (38, .aload_n 0, 1, .inl (0, 0)),
  (39, .getfield 16, 3, .inl (9, 4)),
  (42, .invokevirtual 90, 3, .inr (.inl g_Mo_rank)),
  (45, .ireturn, 1, .inl (0, 0))]
set_option maxRecDepth 100000 in
set_option maxHeartbeats 4000000 in
theorem ok_Mo_loadTurn : xOK g_Mo_loadTurn k_Mo_loadTurn := ⟨by decide +kernel, by decide +kernel, List.forall_mem_cons.mpr ⟨trivial, List.forall_mem_cons.mpr ⟨⟨ml_Mo_79, xms_Mo_isRegister⟩, List.forall_mem_cons.mpr ⟨trivial, List.forall_mem_cons.mpr ⟨trivial, List.forall_mem_cons.mpr ⟨trivial, List.forall_mem_cons.mpr ⟨trivial, List.forall_mem_cons.mpr ⟨⟨ml_Mo_171, xmv_Mo_readsTurn⟩, List.forall_mem_cons.mpr ⟨trivial, List.forall_mem_cons.mpr ⟨trivial, List.forall_mem_cons.mpr ⟨trivial, List.forall_mem_cons.mpr ⟨fl_Mo_148, List.forall_mem_cons.mpr ⟨trivial, List.forall_mem_cons.mpr ⟨trivial, List.forall_mem_cons.mpr ⟨trivial, List.forall_mem_cons.mpr ⟨⟨ml_Mo_61, xmv_Mo_records⟩, List.forall_mem_cons.mpr ⟨trivial, List.forall_mem_cons.mpr ⟨trivial, List.forall_mem_cons.mpr ⟨fl_Mo_16, List.forall_mem_cons.mpr ⟨trivial, List.forall_mem_cons.mpr ⟨⟨ml_Mo_86, xmv_Mo_puts⟩, List.forall_mem_cons.mpr ⟨trivial, List.forall_mem_cons.mpr ⟨trivial, List.forall_mem_cons.mpr ⟨fl_Mo_16, List.forall_mem_cons.mpr ⟨⟨ml_Mo_90, xmv_Mo_rank⟩, List.forall_mem_cons.mpr ⟨trivial, fun _ h => absurd h List.not_mem_nil⟩⟩⟩⟩⟩⟩⟩⟩⟩⟩⟩⟩⟩⟩⟩⟩⟩⟩⟩⟩⟩⟩⟩⟩⟩⟩
def k_Mo_isStanza : xCd := [
  (0, .iload_n 1, 1, .inl (0, 0)),
  (1, .iconst 0, 1, .inr (.inr (.inl (nI 0)))),
  (2, .aload_n 0, 1, .inl (0, 0)),
  (3, .getfield 7, 3, .inl (9, 0)),
  (6, .bipush 50, 2, .inr (.inr (.inl (nI 50)))),
  (8, .iaload, 1, .inl (0, 0)),
  (9, .iconst 1, 1, .inr (.inr (.inl (nI 1)))),
  (10, .isub, 1, .inl (0, 0)),
  (11, .invokestatic 57, 3, .inr (.inl g_Mo_in)),
  (14, .ireturn, 1, .inl (0, 0))]
set_option maxRecDepth 100000 in
set_option maxHeartbeats 4000000 in
theorem ok_Mo_isStanza : xOK g_Mo_isStanza k_Mo_isStanza := ⟨by decide +kernel, by decide +kernel, List.forall_mem_cons.mpr ⟨trivial, List.forall_mem_cons.mpr ⟨trivial, List.forall_mem_cons.mpr ⟨trivial, List.forall_mem_cons.mpr ⟨fl_Mo_7, List.forall_mem_cons.mpr ⟨trivial, List.forall_mem_cons.mpr ⟨trivial, List.forall_mem_cons.mpr ⟨trivial, List.forall_mem_cons.mpr ⟨trivial, List.forall_mem_cons.mpr ⟨⟨ml_Mo_57, xms_Mo_in⟩, List.forall_mem_cons.mpr ⟨trivial, fun _ h => absurd h List.not_mem_nil⟩⟩⟩⟩⟩⟩⟩⟩⟩⟩⟩
def k_Mo_placeOf : xCd := [
  (0, .bipush 7, 2, .inr (.inr (.inl (nI 7)))),
  (2, .iload_n 1, 1, .inl (0, 0)),
  (3, .imul, 1, .inl (0, 0)),
  (4, .iload_n 2, 1, .inl (0, 0)),
  (5, .iadd, 1, .inl (0, 0)),
  (6, .ireturn, 1, .inl (0, 0))]
set_option maxRecDepth 100000 in
set_option maxHeartbeats 4000000 in
theorem ok_Mo_placeOf : xOK g_Mo_placeOf k_Mo_placeOf := ⟨by decide +kernel, by decide +kernel, List.forall_mem_cons.mpr ⟨trivial, List.forall_mem_cons.mpr ⟨trivial, List.forall_mem_cons.mpr ⟨trivial, List.forall_mem_cons.mpr ⟨trivial, List.forall_mem_cons.mpr ⟨trivial, List.forall_mem_cons.mpr ⟨trivial, fun _ h => absurd h List.not_mem_nil⟩⟩⟩⟩⟩⟩⟩
def k_Mo_add : xCd := [
  (0, .iload_n 1, 1, .inl (0, 0)),
  (1, .invokestatic 79, 3, .inr (.inl g_Mo_isRegister)),
  (4, .ifCond .ne 5, 3, .inl (9, 0)),
  (7, .iconst (-1), 1, .inr (.inr (.inl (-1)))),
  (8, .ireturn, 1, .inl (0, 0)),
  (9, .aload_n 0, 1, .inl (0, 0)),
  (10, .getfield 7, 3, .inl (9, 0)),
  (13, .bipush 50, 2, .inr (.inr (.inl (nI 50)))),
  (15, .iaload, 1, .inl (0, 0)),
  (16, .bipush 8, 2, .inr (.inr (.inl (nI 8)))),
  (18, .if_icmp .ne 6, 3, .inl (24, 0)),
  (21, .bipush (-3), 2, .inr (.inr (.inl (-3)))),
  (23, .ireturn, 1, .inl (0, 0)),
  (24, .aload_n 0, 1, .inl (0, 0)),
  (25, .invokevirtual 61, 3, .inr (.inl g_Mo_records)),
  (28, .aload_n 0, 1, .inl (0, 0)),
  (29, .getfield 7, 3, .inl (9, 0)),
  (32, .bipush 50, 2, .inr (.inr (.inl (nI 50)))),
  (34, .iaload, 1, .inl (0, 0)),
  (35, .istore_n 2, 1, .inl (0, 0)),
  (36, .aload_n 0, 1, .inl (0, 0)),
  (37, .iload_n 1, 1, .inl (0, 0)),
  (38, .aload_n 0, 1, .inl (0, 0)),
  (39, .getfield 16, 3, .inl (9, 4)),
  (42, .invokevirtual 94, 3, .inr (.inl g_Mo_takes)),
  (45, .iconst 0, 1, .inr (.inr (.inl (nI 0)))),
  (46, .istore_n 3, 1, .inl (0, 0)),
  (47, .iload_n 3, 1, .inl (0, 0)),
  (48, .aload_n 0, 1, .inl (0, 0)),
  (49, .invokevirtual 64, 3, .inr (.inl g_Mo_size)),
  (52, .if_icmp .ge 67, 3, .inl (119, 0)),
  (55, .aload_n 0, 1, .inl (0, 0)),
  (56, .getfield 7, 3, .inl (9, 0)),
  (59, .bipush 51, 2, .inr (.inr (.inl (nI 51)))),
  (61, .aload_n 0, 1, .inl (0, 0)),
  (62, .iload_n 2, 1, .inl (0, 0)),
  (63, .iload_n 3, 1, .inl (0, 0)),
  (64, .invokevirtual 174, 3, .inr (.inl g_Mo_placeOf)),
  (67, .iadd, 1, .inl (0, 0)),
  (68, .iload_n 2, 1, .inl (0, 0)),
  (69, .ifCond .ne 7, 3, .inl (76, 0)),
  (72, .iload_n 3, 1, .inl (0, 0)),
  (73, .goto 24, 3, .inl (97, 0)),
  (76, .aload_n 0, 1, .inl (0, 0)),
  (77, .getfield 7, 3, .inl (9, 0)),
  (80, .bipush 51, 2, .inr (.inr (.inl (nI 51)))),
  (82, .aload_n 0, 1, .inl (0, 0)),
  (83, .iload_n 2, 1, .inl (0, 0)),
  (84, .iconst 1, 1, .inr (.inr (.inl (nI 1)))),
  (85, .isub, 1, .inl (0, 0)),
  (86, .aload_n 0, 1, .inl (0, 0)),
  (87, .getfield 16, 3, .inl (9, 4)),
  (90, .iload_n 3, 1, .inl (0, 0)),
  (91, .iaload, 1, .inl (0, 0)),
  (92, .invokevirtual 174, 3, .inr (.inl g_Mo_placeOf)),
  (95, .iadd, 1, .inl (0, 0)),
  (96, .iaload, 1, .inl (0, 0)),
  (97, .iastore, 1, .inl (0, 0)),
  (98, .aload_n 0, 1, .inl (0, 0)),
  (99, .getfield 7, 3, .inl (9, 0)),
  (102, .bipush 107, 2, .inr (.inr (.inl (nI 107)))),
  (104, .aload_n 0, 1, .inl (0, 0)),
  (105, .iload_n 2, 1, .inl (0, 0)),
  (106, .iload_n 3, 1, .inl (0, 0)),
  (107, .invokevirtual 174, 3, .inr (.inl g_Mo_placeOf)),
  (110, .iadd, 1, .inl (0, 0)),
  (111, .iconst 0, 1, .inr (.inr (.inl (nI 0)))),
  (112, .iastore, 1, .inl (0, 0)),
  (113, .iinc 3 1, 3, .inr (.inr (.inl (nI 1)))),
  (116, .goto (-69), 3, .inl (47, 0)),
  (119, .aload_n 0, 1, .inl (0, 0)),
  (120, .getfield 7, 3, .inl (9, 0)),
  (123, .bipush 50, 2, .inr (.inr (.inl (nI 50)))),
  (125, .dup2, 1, .inl (0, 0)),
  (126, .iaload, 1, .inl (0, 0)),
  (127, .iconst 1, 1, .inr (.inr (.inl (nI 1)))),
  (128, .iadd, 1, .inl (0, 0)),
  (129, .iastore, 1, .inl (0, 0)),
  (130, .aload_n 0, 1, .inl (0, 0)),
  (131, .getfield 7, 3, .inl (9, 0)),
  (134, .bipush 50, 2, .inr (.inr (.inl (nI 50)))),
  (136, .iaload, 1, .inl (0, 0)),
  (137, .ireturn, 1, .inl (0, 0))]
set_option maxRecDepth 100000 in
set_option maxHeartbeats 4000000 in
theorem ok_Mo_add : xOK g_Mo_add k_Mo_add := ⟨by decide +kernel, by decide +kernel, List.forall_mem_cons.mpr ⟨trivial, List.forall_mem_cons.mpr ⟨⟨ml_Mo_79, xms_Mo_isRegister⟩, List.forall_mem_cons.mpr ⟨trivial, List.forall_mem_cons.mpr ⟨trivial, List.forall_mem_cons.mpr ⟨trivial, List.forall_mem_cons.mpr ⟨trivial, List.forall_mem_cons.mpr ⟨fl_Mo_7, List.forall_mem_cons.mpr ⟨trivial, List.forall_mem_cons.mpr ⟨trivial, List.forall_mem_cons.mpr ⟨trivial, List.forall_mem_cons.mpr ⟨trivial, List.forall_mem_cons.mpr ⟨trivial, List.forall_mem_cons.mpr ⟨trivial, List.forall_mem_cons.mpr ⟨trivial, List.forall_mem_cons.mpr ⟨⟨ml_Mo_61, xmv_Mo_records⟩, List.forall_mem_cons.mpr ⟨trivial, List.forall_mem_cons.mpr ⟨fl_Mo_7, List.forall_mem_cons.mpr ⟨trivial, List.forall_mem_cons.mpr ⟨trivial, List.forall_mem_cons.mpr ⟨trivial, List.forall_mem_cons.mpr ⟨trivial, List.forall_mem_cons.mpr ⟨trivial, List.forall_mem_cons.mpr ⟨trivial, List.forall_mem_cons.mpr ⟨fl_Mo_16, List.forall_mem_cons.mpr ⟨⟨ml_Mo_94, xmv_Mo_takes⟩, List.forall_mem_cons.mpr ⟨trivial, List.forall_mem_cons.mpr ⟨trivial, List.forall_mem_cons.mpr ⟨trivial, List.forall_mem_cons.mpr ⟨trivial, List.forall_mem_cons.mpr ⟨⟨ml_Mo_64, xmv_Mo_size⟩, List.forall_mem_cons.mpr ⟨trivial, List.forall_mem_cons.mpr ⟨trivial, List.forall_mem_cons.mpr ⟨fl_Mo_7, List.forall_mem_cons.mpr ⟨trivial, List.forall_mem_cons.mpr ⟨trivial, List.forall_mem_cons.mpr ⟨trivial, List.forall_mem_cons.mpr ⟨trivial, List.forall_mem_cons.mpr ⟨⟨ml_Mo_174, xmv_Mo_placeOf⟩, List.forall_mem_cons.mpr ⟨trivial, List.forall_mem_cons.mpr ⟨trivial, List.forall_mem_cons.mpr ⟨trivial, List.forall_mem_cons.mpr ⟨trivial, List.forall_mem_cons.mpr ⟨trivial, List.forall_mem_cons.mpr ⟨trivial, List.forall_mem_cons.mpr ⟨fl_Mo_7, List.forall_mem_cons.mpr ⟨trivial, List.forall_mem_cons.mpr ⟨trivial, List.forall_mem_cons.mpr ⟨trivial, List.forall_mem_cons.mpr ⟨trivial, List.forall_mem_cons.mpr ⟨trivial, List.forall_mem_cons.mpr ⟨trivial, List.forall_mem_cons.mpr ⟨fl_Mo_16, List.forall_mem_cons.mpr ⟨trivial, List.forall_mem_cons.mpr ⟨trivial, List.forall_mem_cons.mpr ⟨⟨ml_Mo_174, xmv_Mo_placeOf⟩, List.forall_mem_cons.mpr ⟨trivial, List.forall_mem_cons.mpr ⟨trivial, List.forall_mem_cons.mpr ⟨trivial, List.forall_mem_cons.mpr ⟨trivial, List.forall_mem_cons.mpr ⟨fl_Mo_7, List.forall_mem_cons.mpr ⟨trivial, List.forall_mem_cons.mpr ⟨trivial, List.forall_mem_cons.mpr ⟨trivial, List.forall_mem_cons.mpr ⟨trivial, List.forall_mem_cons.mpr ⟨⟨ml_Mo_174, xmv_Mo_placeOf⟩, List.forall_mem_cons.mpr ⟨trivial, List.forall_mem_cons.mpr ⟨trivial, List.forall_mem_cons.mpr ⟨trivial, List.forall_mem_cons.mpr ⟨trivial, List.forall_mem_cons.mpr ⟨trivial, List.forall_mem_cons.mpr ⟨trivial, List.forall_mem_cons.mpr ⟨fl_Mo_7, List.forall_mem_cons.mpr ⟨trivial, List.forall_mem_cons.mpr ⟨trivial, List.forall_mem_cons.mpr ⟨trivial, List.forall_mem_cons.mpr ⟨trivial, List.forall_mem_cons.mpr ⟨trivial, List.forall_mem_cons.mpr ⟨trivial, List.forall_mem_cons.mpr ⟨trivial, List.forall_mem_cons.mpr ⟨fl_Mo_7, List.forall_mem_cons.mpr ⟨trivial, List.forall_mem_cons.mpr ⟨trivial, List.forall_mem_cons.mpr ⟨trivial, fun _ h => absurd h List.not_mem_nil⟩⟩⟩⟩⟩⟩⟩⟩⟩⟩⟩⟩⟩⟩⟩⟩⟩⟩⟩⟩⟩⟩⟩⟩⟩⟩⟩⟩⟩⟩⟩⟩⟩⟩⟩⟩⟩⟩⟩⟩⟩⟩⟩⟩⟩⟩⟩⟩⟩⟩⟩⟩⟩⟩⟩⟩⟩⟩⟩⟩⟩⟩⟩⟩⟩⟩⟩⟩⟩⟩⟩⟩⟩⟩⟩⟩⟩⟩⟩⟩⟩⟩⟩⟩
def k_Mo_drop : xCd := [
  (0, .aload_n 0, 1, .inl (0, 0)),
  (1, .getfield 7, 3, .inl (9, 0)),
  (4, .bipush 50, 2, .inr (.inr (.inl (nI 50)))),
  (6, .iaload, 1, .inl (0, 0)),
  (7, .ifCond .ne 6, 3, .inl (13, 0)),
  (10, .bipush (-2), 2, .inr (.inr (.inl (-2)))),
  (12, .ireturn, 1, .inl (0, 0)),
  (13, .aload_n 0, 1, .inl (0, 0)),
  (14, .invokevirtual 61, 3, .inr (.inl g_Mo_records)),
  (17, .aload_n 0, 1, .inl (0, 0)),
  (18, .getfield 7, 3, .inl (9, 0)),
  (21, .bipush 50, 2, .inr (.inr (.inl (nI 50)))),
  (23, .dup2, 1, .inl (0, 0)),
  (24, .iaload, 1, .inl (0, 0)),
  (25, .iconst 1, 1, .inr (.inr (.inl (nI 1)))),
  (26, .isub, 1, .inl (0, 0)),
  (27, .iastore, 1, .inl (0, 0)),
  (28, .aload_n 0, 1, .inl (0, 0)),
  (29, .getfield 7, 3, .inl (9, 0)),
  (32, .bipush 50, 2, .inr (.inr (.inl (nI 50)))),
  (34, .iaload, 1, .inl (0, 0)),
  (35, .ireturn, 1, .inl (0, 0))]
set_option maxRecDepth 100000 in
set_option maxHeartbeats 4000000 in
theorem ok_Mo_drop : xOK g_Mo_drop k_Mo_drop := ⟨by decide +kernel, by decide +kernel, List.forall_mem_cons.mpr ⟨trivial, List.forall_mem_cons.mpr ⟨fl_Mo_7, List.forall_mem_cons.mpr ⟨trivial, List.forall_mem_cons.mpr ⟨trivial, List.forall_mem_cons.mpr ⟨trivial, List.forall_mem_cons.mpr ⟨trivial, List.forall_mem_cons.mpr ⟨trivial, List.forall_mem_cons.mpr ⟨trivial, List.forall_mem_cons.mpr ⟨⟨ml_Mo_61, xmv_Mo_records⟩, List.forall_mem_cons.mpr ⟨trivial, List.forall_mem_cons.mpr ⟨fl_Mo_7, List.forall_mem_cons.mpr ⟨trivial, List.forall_mem_cons.mpr ⟨trivial, List.forall_mem_cons.mpr ⟨trivial, List.forall_mem_cons.mpr ⟨trivial, List.forall_mem_cons.mpr ⟨trivial, List.forall_mem_cons.mpr ⟨trivial, List.forall_mem_cons.mpr ⟨trivial, List.forall_mem_cons.mpr ⟨fl_Mo_7, List.forall_mem_cons.mpr ⟨trivial, List.forall_mem_cons.mpr ⟨trivial, List.forall_mem_cons.mpr ⟨trivial, fun _ h => absurd h List.not_mem_nil⟩⟩⟩⟩⟩⟩⟩⟩⟩⟩⟩⟩⟩⟩⟩⟩⟩⟩⟩⟩⟩⟩⟩
def k_Mo_put : xCd := [
  (0, .aload_n 0, 1, .inl (0, 0)),
  (1, .iload_n 1, 1, .inl (0, 0)),
  (2, .invokevirtual 177, 3, .inr (.inl g_Mo_isStanza)),
  (5, .ifCond .eq 19, 3, .inl (24, 0)),
  (8, .aload_n 0, 1, .inl (0, 0)),
  (9, .iload_n 2, 1, .inl (0, 0)),
  (10, .invokevirtual 71, 3, .inr (.inl g_Mo_isLine)),
  (13, .ifCond .eq 11, 3, .inl (24, 0)),
  (16, .aload_n 0, 1, .inl (0, 0)),
  (17, .iload_n 3, 1, .inl (0, 0)),
  (18, .invokevirtual 71, 3, .inr (.inl g_Mo_isLine)),
  (21, .ifCond .ne 5, 3, .inl (26, 0)),
  (24, .iconst (-1), 1, .inr (.inr (.inl (-1)))),
  (25, .ireturn, 1, .inl (0, 0)),
  (26, .aload_n 0, 1, .inl (0, 0)),
  (27, .invokevirtual 61, 3, .inr (.inl g_Mo_records)),
  (30, .aload_n 0, 1, .inl (0, 0)),
  (31, .getfield 7, 3, .inl (9, 0)),
  (34, .bipush 51, 2, .inr (.inr (.inl (nI 51)))),
  (36, .aload_n 0, 1, .inl (0, 0)),
  (37, .iload_n 1, 1, .inl (0, 0)),
  (38, .iload_n 2, 1, .inl (0, 0)),
  (39, .invokevirtual 174, 3, .inr (.inl g_Mo_placeOf)),
  (42, .iadd, 1, .inl (0, 0)),
  (43, .iaload, 1, .inl (0, 0)),
  (44, .istore 4, 2, .inl (0, 0)),
  (46, .aload_n 0, 1, .inl (0, 0)),
  (47, .getfield 7, 3, .inl (9, 0)),
  (50, .bipush 51, 2, .inr (.inr (.inl (nI 51)))),
  (52, .aload_n 0, 1, .inl (0, 0)),
  (53, .iload_n 1, 1, .inl (0, 0)),
  (54, .iload_n 2, 1, .inl (0, 0)),
  (55, .invokevirtual 174, 3, .inr (.inl g_Mo_placeOf)),
  (58, .iadd, 1, .inl (0, 0)),
  (59, .iload_n 3, 1, .inl (0, 0)),
  (60, .iastore, 1, .inl (0, 0)),
  (61, .iload 4, 2, .inl (0, 0)),
  (63, .ireturn, 1, .inl (0, 0))]
set_option maxRecDepth 100000 in
set_option maxHeartbeats 4000000 in
theorem ok_Mo_put : xOK g_Mo_put k_Mo_put := ⟨by decide +kernel, by decide +kernel, List.forall_mem_cons.mpr ⟨trivial, List.forall_mem_cons.mpr ⟨trivial, List.forall_mem_cons.mpr ⟨⟨ml_Mo_177, xmv_Mo_isStanza⟩, List.forall_mem_cons.mpr ⟨trivial, List.forall_mem_cons.mpr ⟨trivial, List.forall_mem_cons.mpr ⟨trivial, List.forall_mem_cons.mpr ⟨⟨ml_Mo_71, xmv_Mo_isLine⟩, List.forall_mem_cons.mpr ⟨trivial, List.forall_mem_cons.mpr ⟨trivial, List.forall_mem_cons.mpr ⟨trivial, List.forall_mem_cons.mpr ⟨⟨ml_Mo_71, xmv_Mo_isLine⟩, List.forall_mem_cons.mpr ⟨trivial, List.forall_mem_cons.mpr ⟨trivial, List.forall_mem_cons.mpr ⟨trivial, List.forall_mem_cons.mpr ⟨trivial, List.forall_mem_cons.mpr ⟨⟨ml_Mo_61, xmv_Mo_records⟩, List.forall_mem_cons.mpr ⟨trivial, List.forall_mem_cons.mpr ⟨fl_Mo_7, List.forall_mem_cons.mpr ⟨trivial, List.forall_mem_cons.mpr ⟨trivial, List.forall_mem_cons.mpr ⟨trivial, List.forall_mem_cons.mpr ⟨trivial, List.forall_mem_cons.mpr ⟨⟨ml_Mo_174, xmv_Mo_placeOf⟩, List.forall_mem_cons.mpr ⟨trivial, List.forall_mem_cons.mpr ⟨trivial, List.forall_mem_cons.mpr ⟨trivial, List.forall_mem_cons.mpr ⟨trivial, List.forall_mem_cons.mpr ⟨fl_Mo_7, List.forall_mem_cons.mpr ⟨trivial, List.forall_mem_cons.mpr ⟨trivial, List.forall_mem_cons.mpr ⟨trivial, List.forall_mem_cons.mpr ⟨trivial, List.forall_mem_cons.mpr ⟨⟨ml_Mo_174, xmv_Mo_placeOf⟩, List.forall_mem_cons.mpr ⟨trivial, List.forall_mem_cons.mpr ⟨trivial, List.forall_mem_cons.mpr ⟨trivial, List.forall_mem_cons.mpr ⟨trivial, List.forall_mem_cons.mpr ⟨trivial, fun _ h => absurd h List.not_mem_nil⟩⟩⟩⟩⟩⟩⟩⟩⟩⟩⟩⟩⟩⟩⟩⟩⟩⟩⟩⟩⟩⟩⟩⟩⟩⟩⟩⟩⟩⟩⟩⟩⟩⟩⟩⟩⟩⟩⟩
def k_Mo_lock : xCd := [
  (0, .aload_n 0, 1, .inl (0, 0)),
  (1, .iload_n 1, 1, .inl (0, 0)),
  (2, .invokevirtual 177, 3, .inr (.inl g_Mo_isStanza)),
  (5, .ifCond .eq 11, 3, .inl (16, 0)),
  (8, .aload_n 0, 1, .inl (0, 0)),
  (9, .iload_n 2, 1, .inl (0, 0)),
  (10, .invokevirtual 71, 3, .inr (.inl g_Mo_isLine)),
  (13, .ifCond .ne 5, 3, .inl (18, 0)),
  (16, .iconst (-1), 1, .inr (.inr (.inl (-1)))),
  (17, .ireturn, 1, .inl (0, 0)),
  (18, .aload_n 0, 1, .inl (0, 0)),
  (19, .invokevirtual 61, 3, .inr (.inl g_Mo_records)),
  (22, .aload_n 0, 1, .inl (0, 0)),
  (23, .getfield 7, 3, .inl (9, 0)),
  (26, .bipush 107, 2, .inr (.inr (.inl (nI 107)))),
  (28, .aload_n 0, 1, .inl (0, 0)),
  (29, .iload_n 1, 1, .inl (0, 0)),
  (30, .iload_n 2, 1, .inl (0, 0)),
  (31, .invokevirtual 174, 3, .inr (.inl g_Mo_placeOf)),
  (34, .iadd, 1, .inl (0, 0)),
  (35, .iaload, 1, .inl (0, 0)),
  (36, .istore 4, 2, .inl (0, 0)),
  (38, .aload_n 0, 1, .inl (0, 0)),
  (39, .getfield 7, 3, .inl (9, 0)),
  (42, .bipush 107, 2, .inr (.inr (.inl (nI 107)))),
  (44, .aload_n 0, 1, .inl (0, 0)),
  (45, .iload_n 1, 1, .inl (0, 0)),
  (46, .iload_n 2, 1, .inl (0, 0)),
  (47, .invokevirtual 174, 3, .inr (.inl g_Mo_placeOf)),
  (50, .iadd, 1, .inl (0, 0)),
  (51, .iload_n 3, 1, .inl (0, 0)),
  (52, .ifCond .eq 7, 3, .inl (59, 0)),
  (55, .iconst 1, 1, .inr (.inr (.inl (nI 1)))),
  (56, .goto 4, 3, .inl (60, 0)),
  (59, .iconst 0, 1, .inr (.inr (.inl (nI 0)))),
  (60, .iastore, 1, .inl (0, 0)),
  (61, .iload 4, 2, .inl (0, 0)),
  (63, .ireturn, 1, .inl (0, 0))]
set_option maxRecDepth 100000 in
set_option maxHeartbeats 4000000 in
theorem ok_Mo_lock : xOK g_Mo_lock k_Mo_lock := ⟨by decide +kernel, by decide +kernel, List.forall_mem_cons.mpr ⟨trivial, List.forall_mem_cons.mpr ⟨trivial, List.forall_mem_cons.mpr ⟨⟨ml_Mo_177, xmv_Mo_isStanza⟩, List.forall_mem_cons.mpr ⟨trivial, List.forall_mem_cons.mpr ⟨trivial, List.forall_mem_cons.mpr ⟨trivial, List.forall_mem_cons.mpr ⟨⟨ml_Mo_71, xmv_Mo_isLine⟩, List.forall_mem_cons.mpr ⟨trivial, List.forall_mem_cons.mpr ⟨trivial, List.forall_mem_cons.mpr ⟨trivial, List.forall_mem_cons.mpr ⟨trivial, List.forall_mem_cons.mpr ⟨⟨ml_Mo_61, xmv_Mo_records⟩, List.forall_mem_cons.mpr ⟨trivial, List.forall_mem_cons.mpr ⟨fl_Mo_7, List.forall_mem_cons.mpr ⟨trivial, List.forall_mem_cons.mpr ⟨trivial, List.forall_mem_cons.mpr ⟨trivial, List.forall_mem_cons.mpr ⟨trivial, List.forall_mem_cons.mpr ⟨⟨ml_Mo_174, xmv_Mo_placeOf⟩, List.forall_mem_cons.mpr ⟨trivial, List.forall_mem_cons.mpr ⟨trivial, List.forall_mem_cons.mpr ⟨trivial, List.forall_mem_cons.mpr ⟨trivial, List.forall_mem_cons.mpr ⟨fl_Mo_7, List.forall_mem_cons.mpr ⟨trivial, List.forall_mem_cons.mpr ⟨trivial, List.forall_mem_cons.mpr ⟨trivial, List.forall_mem_cons.mpr ⟨trivial, List.forall_mem_cons.mpr ⟨⟨ml_Mo_174, xmv_Mo_placeOf⟩, List.forall_mem_cons.mpr ⟨trivial, List.forall_mem_cons.mpr ⟨trivial, List.forall_mem_cons.mpr ⟨trivial, List.forall_mem_cons.mpr ⟨trivial, List.forall_mem_cons.mpr ⟨trivial, List.forall_mem_cons.mpr ⟨trivial, List.forall_mem_cons.mpr ⟨trivial, List.forall_mem_cons.mpr ⟨trivial, List.forall_mem_cons.mpr ⟨trivial, fun _ h => absurd h List.not_mem_nil⟩⟩⟩⟩⟩⟩⟩⟩⟩⟩⟩⟩⟩⟩⟩⟩⟩⟩⟩⟩⟩⟩⟩⟩⟩⟩⟩⟩⟩⟩⟩⟩⟩⟩⟩⟩⟩⟩⟩
def k_Mo_word : xCd := [
  (0, .aload_n 0, 1, .inl (0, 0)),
  (1, .iload_n 1, 1, .inl (0, 0)),
  (2, .invokevirtual 177, 3, .inr (.inl g_Mo_isStanza)),
  (5, .ifCond .eq 28, 3, .inl (33, 0)),
  (8, .aload_n 0, 1, .inl (0, 0)),
  (9, .iload_n 2, 1, .inl (0, 0)),
  (10, .invokevirtual 71, 3, .inr (.inl g_Mo_isLine)),
  (13, .ifCond .eq 20, 3, .inl (33, 0)),
  (16, .aload_n 0, 1, .inl (0, 0)),
  (17, .getfield 7, 3, .inl (9, 0)),
  (20, .bipush 51, 2, .inr (.inr (.inl (nI 51)))),
  (22, .aload_n 0, 1, .inl (0, 0)),
  (23, .iload_n 1, 1, .inl (0, 0)),
  (24, .iload_n 2, 1, .inl (0, 0)),
  (25, .invokevirtual 174, 3, .inr (.inl g_Mo_placeOf)),
  (28, .iadd, 1, .inl (0, 0)),
  (29, .iaload, 1, .inl (0, 0)),
  (30, .goto 4, 3, .inl (34, 0)),
  (33, .iconst (-1), 1, .inr (.inr (.inl (-1)))),
  (34, .ireturn, 1, .inl (0, 0))]
set_option maxRecDepth 100000 in
set_option maxHeartbeats 4000000 in
theorem ok_Mo_word : xOK g_Mo_word k_Mo_word := ⟨by decide +kernel, by decide +kernel, List.forall_mem_cons.mpr ⟨trivial, List.forall_mem_cons.mpr ⟨trivial, List.forall_mem_cons.mpr ⟨⟨ml_Mo_177, xmv_Mo_isStanza⟩, List.forall_mem_cons.mpr ⟨trivial, List.forall_mem_cons.mpr ⟨trivial, List.forall_mem_cons.mpr ⟨trivial, List.forall_mem_cons.mpr ⟨⟨ml_Mo_71, xmv_Mo_isLine⟩, List.forall_mem_cons.mpr ⟨trivial, List.forall_mem_cons.mpr ⟨trivial, List.forall_mem_cons.mpr ⟨fl_Mo_7, List.forall_mem_cons.mpr ⟨trivial, List.forall_mem_cons.mpr ⟨trivial, List.forall_mem_cons.mpr ⟨trivial, List.forall_mem_cons.mpr ⟨trivial, List.forall_mem_cons.mpr ⟨⟨ml_Mo_174, xmv_Mo_placeOf⟩, List.forall_mem_cons.mpr ⟨trivial, List.forall_mem_cons.mpr ⟨trivial, List.forall_mem_cons.mpr ⟨trivial, List.forall_mem_cons.mpr ⟨trivial, List.forall_mem_cons.mpr ⟨trivial, fun _ h => absurd h List.not_mem_nil⟩⟩⟩⟩⟩⟩⟩⟩⟩⟩⟩⟩⟩⟩⟩⟩⟩⟩⟩⟩⟩
def k_Mo_isProper : xCd := [
  (0, .iconst 0, 1, .inr (.inr (.inl (nI 0)))),
  (1, .istore_n 2, 1, .inl (0, 0)),
  (2, .iconst 0, 1, .inr (.inr (.inl (nI 0)))),
  (3, .istore_n 3, 1, .inl (0, 0)),
  (4, .iload_n 3, 1, .inl (0, 0)),
  (5, .aload_n 0, 1, .inl (0, 0)),
  (6, .invokevirtual 64, 3, .inr (.inl g_Mo_size)),
  (9, .if_icmp .ge 28, 3, .inl (37, 0)),
  (12, .iload_n 2, 1, .inl (0, 0)),
  (13, .iconst 1, 1, .inr (.inr (.inl (nI 1)))),
  (14, .aload_n 0, 1, .inl (0, 0)),
  (15, .getfield 7, 3, .inl (9, 0)),
  (18, .bipush 51, 2, .inr (.inr (.inl (nI 51)))),
  (20, .aload_n 0, 1, .inl (0, 0)),
  (21, .iload_n 1, 1, .inl (0, 0)),
  (22, .iload_n 3, 1, .inl (0, 0)),
  (23, .invokevirtual 174, 3, .inr (.inl g_Mo_placeOf)),
  (26, .iadd, 1, .inl (0, 0)),
  (27, .iaload, 1, .inl (0, 0)),
  (28, .ishl, 1, .inl (0, 0)),
  (29, .ior, 1, .inl (0, 0)),
  (30, .istore_n 2, 1, .inl (0, 0)),
  (31, .iinc 3 1, 3, .inr (.inr (.inl (nI 1)))),
  (34, .goto (-30), 3, .inl (4, 0)),
  (37, .iload_n 2, 1, .inl (0, 0)),
  (38, .iconst 1, 1, .inr (.inr (.inl (nI 1)))),
  (39, .aload_n 0, 1, .inl (0, 0)),
  (40, .invokevirtual 64, 3, .inr (.inl g_Mo_size)),
  (43, .ishl, 1, .inl (0, 0)),
  (44, .iconst 1, 1, .inr (.inr (.inl (nI 1)))),
  (45, .isub, 1, .inl (0, 0)),
  (46, .if_icmp .ne 7, 3, .inl (53, 0)),
  (49, .iconst 1, 1, .inr (.inr (.inl (nI 1)))),
  (50, .goto 4, 3, .inl (54, 0)),
  (53, .iconst 0, 1, .inr (.inr (.inl (nI 0)))),
  (54, .ireturn, 1, .inl (0, 0))]
set_option maxRecDepth 100000 in
set_option maxHeartbeats 4000000 in
theorem ok_Mo_isProper : xOK g_Mo_isProper k_Mo_isProper := ⟨by decide +kernel, by decide +kernel, List.forall_mem_cons.mpr ⟨trivial, List.forall_mem_cons.mpr ⟨trivial, List.forall_mem_cons.mpr ⟨trivial, List.forall_mem_cons.mpr ⟨trivial, List.forall_mem_cons.mpr ⟨trivial, List.forall_mem_cons.mpr ⟨trivial, List.forall_mem_cons.mpr ⟨⟨ml_Mo_64, xmv_Mo_size⟩, List.forall_mem_cons.mpr ⟨trivial, List.forall_mem_cons.mpr ⟨trivial, List.forall_mem_cons.mpr ⟨trivial, List.forall_mem_cons.mpr ⟨trivial, List.forall_mem_cons.mpr ⟨fl_Mo_7, List.forall_mem_cons.mpr ⟨trivial, List.forall_mem_cons.mpr ⟨trivial, List.forall_mem_cons.mpr ⟨trivial, List.forall_mem_cons.mpr ⟨trivial, List.forall_mem_cons.mpr ⟨⟨ml_Mo_174, xmv_Mo_placeOf⟩, List.forall_mem_cons.mpr ⟨trivial, List.forall_mem_cons.mpr ⟨trivial, List.forall_mem_cons.mpr ⟨trivial, List.forall_mem_cons.mpr ⟨trivial, List.forall_mem_cons.mpr ⟨trivial, List.forall_mem_cons.mpr ⟨trivial, List.forall_mem_cons.mpr ⟨trivial, List.forall_mem_cons.mpr ⟨trivial, List.forall_mem_cons.mpr ⟨trivial, List.forall_mem_cons.mpr ⟨trivial, List.forall_mem_cons.mpr ⟨⟨ml_Mo_64, xmv_Mo_size⟩, List.forall_mem_cons.mpr ⟨trivial, List.forall_mem_cons.mpr ⟨trivial, List.forall_mem_cons.mpr ⟨trivial, List.forall_mem_cons.mpr ⟨trivial, List.forall_mem_cons.mpr ⟨trivial, List.forall_mem_cons.mpr ⟨trivial, List.forall_mem_cons.mpr ⟨trivial, List.forall_mem_cons.mpr ⟨trivial, fun _ h => absurd h List.not_mem_nil⟩⟩⟩⟩⟩⟩⟩⟩⟩⟩⟩⟩⟩⟩⟩⟩⟩⟩⟩⟩⟩⟩⟩⟩⟩⟩⟩⟩⟩⟩⟩⟩⟩⟩⟩⟩⟩
def k_Mo_proper : xCd := [
  (0, .aload_n 0, 1, .inl (0, 0)),
  (1, .iload_n 1, 1, .inl (0, 0)),
  (2, .invokevirtual 177, 3, .inr (.inl g_Mo_isStanza)),
  (5, .ifCond .ne 7, 3, .inl (12, 0)),
  (8, .iconst (-1), 1, .inr (.inr (.inl (-1)))),
  (9, .goto 16, 3, .inl (25, 0)),
  (12, .aload_n 0, 1, .inl (0, 0)),
  (13, .iload_n 1, 1, .inl (0, 0)),
  (14, .invokevirtual 180, 3, .inr (.inl g_Mo_isProper)),
  (17, .ifCond .eq 7, 3, .inl (24, 0)),
  (20, .iconst 1, 1, .inr (.inr (.inl (nI 1)))),
  (21, .goto 4, 3, .inl (25, 0)),
  (24, .iconst 0, 1, .inr (.inr (.inl (nI 0)))),
  (25, .ireturn, 1, .inl (0, 0))]
set_option maxRecDepth 100000 in
set_option maxHeartbeats 4000000 in
theorem ok_Mo_proper : xOK g_Mo_proper k_Mo_proper := ⟨by decide +kernel, by decide +kernel, List.forall_mem_cons.mpr ⟨trivial, List.forall_mem_cons.mpr ⟨trivial, List.forall_mem_cons.mpr ⟨⟨ml_Mo_177, xmv_Mo_isStanza⟩, List.forall_mem_cons.mpr ⟨trivial, List.forall_mem_cons.mpr ⟨trivial, List.forall_mem_cons.mpr ⟨trivial, List.forall_mem_cons.mpr ⟨trivial, List.forall_mem_cons.mpr ⟨trivial, List.forall_mem_cons.mpr ⟨⟨ml_Mo_180, xmv_Mo_isProper⟩, List.forall_mem_cons.mpr ⟨trivial, List.forall_mem_cons.mpr ⟨trivial, List.forall_mem_cons.mpr ⟨trivial, List.forall_mem_cons.mpr ⟨trivial, List.forall_mem_cons.mpr ⟨trivial, fun _ h => absurd h List.not_mem_nil⟩⟩⟩⟩⟩⟩⟩⟩⟩⟩⟩⟩⟩⟩⟩
def k_Mo_turns : xCd := [
  (0, .iconst 0, 1, .inr (.inr (.inl (nI 0)))),
  (1, .istore_n 2, 1, .inl (0, 0)),
  (2, .iload_n 2, 1, .inl (0, 0)),
  (3, .aload_n 0, 1, .inl (0, 0)),
  (4, .invokevirtual 64, 3, .inr (.inl g_Mo_size)),
  (7, .if_icmp .ge 74, 3, .inl (81, 0)),
  (10, .iconst 0, 1, .inr (.inr (.inl (nI 0)))),
  (11, .istore_n 3, 1, .inl (0, 0)),
  (12, .iload_n 3, 1, .inl (0, 0)),
  (13, .aload_n 0, 1, .inl (0, 0)),
  (14, .invokevirtual 64, 3, .inr (.inl g_Mo_size)),
  (17, .if_icmp .ge 58, 3, .inl (75, 0)),
  (20, .aload_n 0, 1, .inl (0, 0)),
  (21, .getfield 16, 3, .inl (9, 4)),
  (24, .iload_n 2, 1, .inl (0, 0)),
  (25, .aload_n 0, 1, .inl (0, 0)),
  (26, .getfield 7, 3, .inl (9, 0)),
  (29, .bipush 51, 2, .inr (.inr (.inl (nI 51)))),
  (31, .aload_n 0, 1, .inl (0, 0)),
  (32, .iload_n 1, 1, .inl (0, 0)),
  (33, .iload_n 3, 1, .inl (0, 0)),
  (34, .invokevirtual 174, 3, .inr (.inl g_Mo_placeOf)),
  (37, .iadd, 1, .inl (0, 0)),
  (38, .iaload, 1, .inl (0, 0)),
  (39, .aload_n 0, 1, .inl (0, 0)),
  (40, .getfield 7, 3, .inl (9, 0)),
  (43, .bipush 51, 2, .inr (.inr (.inl (nI 51)))),
  (45, .aload_n 0, 1, .inl (0, 0)),
  (46, .iload_n 1, 1, .inl (0, 0)),
  (47, .iconst 1, 1, .inr (.inr (.inl (nI 1)))),
  (48, .iadd, 1, .inl (0, 0)),
  (49, .iload_n 2, 1, .inl (0, 0)),
  (50, .invokevirtual 174, 3, .inr (.inl g_Mo_placeOf)),
  (53, .iadd, 1, .inl (0, 0)),
  (54, .iaload, 1, .inl (0, 0)),
  (55, .if_icmp .ne 7, 3, .inl (62, 0)),
  (58, .iload_n 3, 1, .inl (0, 0)),
  (59, .goto 9, 3, .inl (68, 0)),
  (62, .aload_n 0, 1, .inl (0, 0)),
  (63, .getfield 16, 3, .inl (9, 4)),
  (66, .iload_n 2, 1, .inl (0, 0)),
  (67, .iaload, 1, .inl (0, 0)),
  (68, .iastore, 1, .inl (0, 0)),
  (69, .iinc 3 1, 3, .inr (.inr (.inl (nI 1)))),
  (72, .goto (-60), 3, .inl (12, 0)),
  (75, .iinc 2 1, 3, .inr (.inr (.inl (nI 1)))),
  (78, .goto (-76), 3, .inl (2, 0)),
  (81, .return_, 1, .inl (0, 0))]
set_option maxRecDepth 100000 in
set_option maxHeartbeats 4000000 in
theorem ok_Mo_turns : xOK g_Mo_turns k_Mo_turns := ⟨by decide +kernel, by decide +kernel, List.forall_mem_cons.mpr ⟨trivial, List.forall_mem_cons.mpr ⟨trivial, List.forall_mem_cons.mpr ⟨trivial, List.forall_mem_cons.mpr ⟨trivial, List.forall_mem_cons.mpr ⟨⟨ml_Mo_64, xmv_Mo_size⟩, List.forall_mem_cons.mpr ⟨trivial, List.forall_mem_cons.mpr ⟨trivial, List.forall_mem_cons.mpr ⟨trivial, List.forall_mem_cons.mpr ⟨trivial, List.forall_mem_cons.mpr ⟨trivial, List.forall_mem_cons.mpr ⟨⟨ml_Mo_64, xmv_Mo_size⟩, List.forall_mem_cons.mpr ⟨trivial, List.forall_mem_cons.mpr ⟨trivial, List.forall_mem_cons.mpr ⟨fl_Mo_16, List.forall_mem_cons.mpr ⟨trivial, List.forall_mem_cons.mpr ⟨trivial, List.forall_mem_cons.mpr ⟨fl_Mo_7, List.forall_mem_cons.mpr ⟨trivial, List.forall_mem_cons.mpr ⟨trivial, List.forall_mem_cons.mpr ⟨trivial, List.forall_mem_cons.mpr ⟨trivial, List.forall_mem_cons.mpr ⟨⟨ml_Mo_174, xmv_Mo_placeOf⟩, List.forall_mem_cons.mpr ⟨trivial, List.forall_mem_cons.mpr ⟨trivial, List.forall_mem_cons.mpr ⟨trivial, List.forall_mem_cons.mpr ⟨fl_Mo_7, List.forall_mem_cons.mpr ⟨trivial, List.forall_mem_cons.mpr ⟨trivial, List.forall_mem_cons.mpr ⟨trivial, List.forall_mem_cons.mpr ⟨trivial, List.forall_mem_cons.mpr ⟨trivial, List.forall_mem_cons.mpr ⟨trivial, List.forall_mem_cons.mpr ⟨⟨ml_Mo_174, xmv_Mo_placeOf⟩, List.forall_mem_cons.mpr ⟨trivial, List.forall_mem_cons.mpr ⟨trivial, List.forall_mem_cons.mpr ⟨trivial, List.forall_mem_cons.mpr ⟨trivial, List.forall_mem_cons.mpr ⟨trivial, List.forall_mem_cons.mpr ⟨trivial, List.forall_mem_cons.mpr ⟨fl_Mo_16, List.forall_mem_cons.mpr ⟨trivial, List.forall_mem_cons.mpr ⟨trivial, List.forall_mem_cons.mpr ⟨trivial, List.forall_mem_cons.mpr ⟨trivial, List.forall_mem_cons.mpr ⟨trivial, List.forall_mem_cons.mpr ⟨trivial, List.forall_mem_cons.mpr ⟨trivial, List.forall_mem_cons.mpr ⟨trivial, fun _ h => absurd h List.not_mem_nil⟩⟩⟩⟩⟩⟩⟩⟩⟩⟩⟩⟩⟩⟩⟩⟩⟩⟩⟩⟩⟩⟩⟩⟩⟩⟩⟩⟩⟩⟩⟩⟩⟩⟩⟩⟩⟩⟩⟩⟩⟩⟩⟩⟩⟩⟩⟩⟩⟩
def k_Mo_turningOf : xCd := [
  (0, .iload_n 1, 1, .inl (0, 0)),
  (1, .iconst 1, 1, .inr (.inr (.inl (nI 1)))),
  (2, .iadd, 1, .inl (0, 0)),
  (3, .aload_n 0, 1, .inl (0, 0)),
  (4, .getfield 7, 3, .inl (9, 0)),
  (7, .bipush 50, 2, .inr (.inr (.inl (nI 50)))),
  (9, .iaload, 1, .inl (0, 0)),
  (10, .if_icmp .ge 21, 3, .inl (31, 0)),
  (13, .aload_n 0, 1, .inl (0, 0)),
  (14, .iload_n 1, 1, .inl (0, 0)),
  (15, .invokevirtual 180, 3, .inr (.inl g_Mo_isProper)),
  (18, .ifCond .eq 13, 3, .inl (31, 0)),
  (21, .aload_n 0, 1, .inl (0, 0)),
  (22, .iload_n 1, 1, .inl (0, 0)),
  (23, .iconst 1, 1, .inr (.inr (.inl (nI 1)))),
  (24, .iadd, 1, .inl (0, 0)),
  (25, .invokevirtual 180, 3, .inr (.inl g_Mo_isProper)),
  (28, .ifCond .ne 6, 3, .inl (34, 0)),
  (31, .bipush (-9), 2, .inr (.inr (.inl (-9)))),
  (33, .ireturn, 1, .inl (0, 0)),
  (34, .aload_n 0, 1, .inl (0, 0)),
  (35, .iload_n 1, 1, .inl (0, 0)),
  (36, .invokevirtual 183, 3, .inr (.inl g_Mo_turns)),
  (39, .aload_n 0, 1, .inl (0, 0)),
  (40, .aload_n 0, 1, .inl (0, 0)),
  (41, .getfield 16, 3, .inl (9, 4)),
  (44, .invokevirtual 90, 3, .inr (.inl g_Mo_rank)),
  (47, .ireturn, 1, .inl (0, 0))]
set_option maxRecDepth 100000 in
set_option maxHeartbeats 4000000 in
theorem ok_Mo_turningOf : xOK g_Mo_turningOf k_Mo_turningOf := ⟨by decide +kernel, by decide +kernel, List.forall_mem_cons.mpr ⟨trivial, List.forall_mem_cons.mpr ⟨trivial, List.forall_mem_cons.mpr ⟨trivial, List.forall_mem_cons.mpr ⟨trivial, List.forall_mem_cons.mpr ⟨fl_Mo_7, List.forall_mem_cons.mpr ⟨trivial, List.forall_mem_cons.mpr ⟨trivial, List.forall_mem_cons.mpr ⟨trivial, List.forall_mem_cons.mpr ⟨trivial, List.forall_mem_cons.mpr ⟨trivial, List.forall_mem_cons.mpr ⟨⟨ml_Mo_180, xmv_Mo_isProper⟩, List.forall_mem_cons.mpr ⟨trivial, List.forall_mem_cons.mpr ⟨trivial, List.forall_mem_cons.mpr ⟨trivial, List.forall_mem_cons.mpr ⟨trivial, List.forall_mem_cons.mpr ⟨trivial, List.forall_mem_cons.mpr ⟨⟨ml_Mo_180, xmv_Mo_isProper⟩, List.forall_mem_cons.mpr ⟨trivial, List.forall_mem_cons.mpr ⟨trivial, List.forall_mem_cons.mpr ⟨trivial, List.forall_mem_cons.mpr ⟨trivial, List.forall_mem_cons.mpr ⟨trivial, List.forall_mem_cons.mpr ⟨⟨ml_Mo_183, xmv_Mo_turns⟩, List.forall_mem_cons.mpr ⟨trivial, List.forall_mem_cons.mpr ⟨trivial, List.forall_mem_cons.mpr ⟨fl_Mo_16, List.forall_mem_cons.mpr ⟨⟨ml_Mo_90, xmv_Mo_rank⟩, List.forall_mem_cons.mpr ⟨trivial, fun _ h => absurd h List.not_mem_nil⟩⟩⟩⟩⟩⟩⟩⟩⟩⟩⟩⟩⟩⟩⟩⟩⟩⟩⟩⟩⟩⟩⟩⟩⟩⟩⟩⟩⟩
def k_Mo_turning : xCd := [
  (0, .aload_n 0, 1, .inl (0, 0)),
  (1, .iload_n 1, 1, .inl (0, 0)),
  (2, .invokevirtual 177, 3, .inr (.inl g_Mo_isStanza)),
  (5, .ifCond .eq 11, 3, .inl (16, 0)),
  (8, .aload_n 0, 1, .inl (0, 0)),
  (9, .iload_n 1, 1, .inl (0, 0)),
  (10, .invokevirtual 186, 3, .inr (.inl g_Mo_turningOf)),
  (13, .goto 4, 3, .inl (17, 0)),
  (16, .iconst (-1), 1, .inr (.inr (.inl (-1)))),
  (17, .ireturn, 1, .inl (0, 0))]
set_option maxRecDepth 100000 in
set_option maxHeartbeats 4000000 in
theorem ok_Mo_turning : xOK g_Mo_turning k_Mo_turning := ⟨by decide +kernel, by decide +kernel, List.forall_mem_cons.mpr ⟨trivial, List.forall_mem_cons.mpr ⟨trivial, List.forall_mem_cons.mpr ⟨⟨ml_Mo_177, xmv_Mo_isStanza⟩, List.forall_mem_cons.mpr ⟨trivial, List.forall_mem_cons.mpr ⟨trivial, List.forall_mem_cons.mpr ⟨trivial, List.forall_mem_cons.mpr ⟨⟨ml_Mo_186, xmv_Mo_turningOf⟩, List.forall_mem_cons.mpr ⟨trivial, List.forall_mem_cons.mpr ⟨trivial, List.forall_mem_cons.mpr ⟨trivial, fun _ h => absurd h List.not_mem_nil⟩⟩⟩⟩⟩⟩⟩⟩⟩⟩⟩
def k_Mo_followed : xCd := [
  (0, .aload_n 0, 1, .inl (0, 0)),
  (1, .iconst 0, 1, .inr (.inr (.inl (nI 0)))),
  (2, .invokevirtual 186, 3, .inr (.inl g_Mo_turningOf)),
  (5, .istore_n 1, 1, .inl (0, 0)),
  (6, .iconst 1, 1, .inr (.inr (.inl (nI 1)))),
  (7, .istore_n 2, 1, .inl (0, 0)),
  (8, .iload_n 2, 1, .inl (0, 0)),
  (9, .iconst 1, 1, .inr (.inr (.inl (nI 1)))),
  (10, .iadd, 1, .inl (0, 0)),
  (11, .aload_n 0, 1, .inl (0, 0)),
  (12, .getfield 7, 3, .inl (9, 0)),
  (15, .bipush 50, 2, .inr (.inr (.inl (nI 50)))),
  (17, .iaload, 1, .inl (0, 0)),
  (18, .if_icmp .ge 25, 3, .inl (43, 0)),
  (21, .aload_n 0, 1, .inl (0, 0)),
  (22, .iload_n 2, 1, .inl (0, 0)),
  (23, .invokevirtual 186, 3, .inr (.inl g_Mo_turningOf)),
  (26, .iload_n 1, 1, .inl (0, 0)),
  (27, .if_icmp .ne 7, 3, .inl (34, 0)),
  (30, .iload_n 1, 1, .inl (0, 0)),
  (31, .goto 5, 3, .inl (36, 0)),
  (34, .bipush (-9), 2, .inr (.inr (.inl (-9)))),
  (36, .istore_n 1, 1, .inl (0, 0)),
  (37, .iinc 2 1, 3, .inr (.inr (.inl (nI 1)))),
  (40, .goto (-32), 3, .inl (8, 0)),
  (43, .iload_n 1, 1, .inl (0, 0)),
  (44, .ireturn, 1, .inl (0, 0))]
set_option maxRecDepth 100000 in
set_option maxHeartbeats 4000000 in
theorem ok_Mo_followed : xOK g_Mo_followed k_Mo_followed := ⟨by decide +kernel, by decide +kernel, List.forall_mem_cons.mpr ⟨trivial, List.forall_mem_cons.mpr ⟨trivial, List.forall_mem_cons.mpr ⟨⟨ml_Mo_186, xmv_Mo_turningOf⟩, List.forall_mem_cons.mpr ⟨trivial, List.forall_mem_cons.mpr ⟨trivial, List.forall_mem_cons.mpr ⟨trivial, List.forall_mem_cons.mpr ⟨trivial, List.forall_mem_cons.mpr ⟨trivial, List.forall_mem_cons.mpr ⟨trivial, List.forall_mem_cons.mpr ⟨trivial, List.forall_mem_cons.mpr ⟨fl_Mo_7, List.forall_mem_cons.mpr ⟨trivial, List.forall_mem_cons.mpr ⟨trivial, List.forall_mem_cons.mpr ⟨trivial, List.forall_mem_cons.mpr ⟨trivial, List.forall_mem_cons.mpr ⟨trivial, List.forall_mem_cons.mpr ⟨⟨ml_Mo_186, xmv_Mo_turningOf⟩, List.forall_mem_cons.mpr ⟨trivial, List.forall_mem_cons.mpr ⟨trivial, List.forall_mem_cons.mpr ⟨trivial, List.forall_mem_cons.mpr ⟨trivial, List.forall_mem_cons.mpr ⟨trivial, List.forall_mem_cons.mpr ⟨trivial, List.forall_mem_cons.mpr ⟨trivial, List.forall_mem_cons.mpr ⟨trivial, List.forall_mem_cons.mpr ⟨trivial, List.forall_mem_cons.mpr ⟨trivial, fun _ h => absurd h List.not_mem_nil⟩⟩⟩⟩⟩⟩⟩⟩⟩⟩⟩⟩⟩⟩⟩⟩⟩⟩⟩⟩⟩⟩⟩⟩⟩⟩⟩⟩
def k_Mo_common : xCd := [
  (0, .iload_n 1, 1, .inl (0, 0)),
  (1, .invokestatic 79, 3, .inr (.inl g_Mo_isRegister)),
  (4, .ifCond .ne 5, 3, .inl (9, 0)),
  (7, .iconst (-1), 1, .inr (.inr (.inl (-1)))),
  (8, .ireturn, 1, .inl (0, 0)),
  (9, .aload_n 0, 1, .inl (0, 0)),
  (10, .invokevirtual 61, 3, .inr (.inl g_Mo_records)),
  (13, .aload_n 0, 1, .inl (0, 0)),
  (14, .invokevirtual 189, 3, .inr (.inl g_Mo_followed)),
  (17, .istore_n 2, 1, .inl (0, 0)),
  (18, .iload_n 2, 1, .inl (0, 0)),
  (19, .bipush (-9), 2, .inr (.inr (.inl (-9)))),
  (21, .if_icmp .eq 21, 3, .inl (42, 0)),
  (24, .aload_n 0, 1, .inl (0, 0)),
  (25, .iload_n 2, 1, .inl (0, 0)),
  (26, .aload_n 0, 1, .inl (0, 0)),
  (27, .getfield 16, 3, .inl (9, 4)),
  (30, .invokevirtual 114, 3, .inr (.inl g_Mo_unranks)),
  (33, .aload_n 0, 1, .inl (0, 0)),
  (34, .aload_n 0, 1, .inl (0, 0)),
  (35, .getfield 16, 3, .inl (9, 4)),
  (38, .iload_n 1, 1, .inl (0, 0)),
  (39, .invokevirtual 86, 3, .inr (.inl g_Mo_puts)),
  (42, .iload_n 2, 1, .inl (0, 0)),
  (43, .ireturn, 1, .inl (0, 0))]
set_option maxRecDepth 100000 in
set_option maxHeartbeats 4000000 in
theorem ok_Mo_common : xOK g_Mo_common k_Mo_common := ⟨by decide +kernel, by decide +kernel, List.forall_mem_cons.mpr ⟨trivial, List.forall_mem_cons.mpr ⟨⟨ml_Mo_79, xms_Mo_isRegister⟩, List.forall_mem_cons.mpr ⟨trivial, List.forall_mem_cons.mpr ⟨trivial, List.forall_mem_cons.mpr ⟨trivial, List.forall_mem_cons.mpr ⟨trivial, List.forall_mem_cons.mpr ⟨⟨ml_Mo_61, xmv_Mo_records⟩, List.forall_mem_cons.mpr ⟨trivial, List.forall_mem_cons.mpr ⟨⟨ml_Mo_189, xmv_Mo_followed⟩, List.forall_mem_cons.mpr ⟨trivial, List.forall_mem_cons.mpr ⟨trivial, List.forall_mem_cons.mpr ⟨trivial, List.forall_mem_cons.mpr ⟨trivial, List.forall_mem_cons.mpr ⟨trivial, List.forall_mem_cons.mpr ⟨trivial, List.forall_mem_cons.mpr ⟨trivial, List.forall_mem_cons.mpr ⟨fl_Mo_16, List.forall_mem_cons.mpr ⟨⟨ml_Mo_114, xmv_Mo_unranks⟩, List.forall_mem_cons.mpr ⟨trivial, List.forall_mem_cons.mpr ⟨trivial, List.forall_mem_cons.mpr ⟨fl_Mo_16, List.forall_mem_cons.mpr ⟨trivial, List.forall_mem_cons.mpr ⟨⟨ml_Mo_86, xmv_Mo_puts⟩, List.forall_mem_cons.mpr ⟨trivial, List.forall_mem_cons.mpr ⟨trivial, fun _ h => absurd h List.not_mem_nil⟩⟩⟩⟩⟩⟩⟩⟩⟩⟩⟩⟩⟩⟩⟩⟩⟩⟩⟩⟩⟩⟩⟩⟩⟩⟩
def k_Mo_isFollowed : xCd := [
  (0, .aload_n 0, 1, .inl (0, 0)),
  (1, .getfield 7, 3, .inl (9, 0)),
  (4, .bipush 50, 2, .inr (.inr (.inl (nI 50)))),
  (6, .iaload, 1, .inl (0, 0)),
  (7, .iconst 2, 1, .inr (.inr (.inl (nI 2)))),
  (8, .if_icmp .ge 27, 3, .inl (35, 0)),
  (11, .aload_n 0, 1, .inl (0, 0)),
  (12, .getfield 7, 3, .inl (9, 0)),
  (15, .bipush 50, 2, .inr (.inr (.inl (nI 50)))),
  (17, .iaload, 1, .inl (0, 0)),
  (18, .ifCond .eq 11, 3, .inl (29, 0)),
  (21, .aload_n 0, 1, .inl (0, 0)),
  (22, .iconst 0, 1, .inr (.inr (.inl (nI 0)))),
  (23, .invokevirtual 180, 3, .inr (.inl g_Mo_isProper)),
  (26, .ifCond .eq 7, 3, .inl (33, 0)),
  (29, .iconst 1, 1, .inr (.inr (.inl (nI 1)))),
  (30, .goto 4, 3, .inl (34, 0)),
  (33, .iconst 0, 1, .inr (.inr (.inl (nI 0)))),
  (34, .ireturn, 1, .inl (0, 0)),
  (35, .aload_n 0, 1, .inl (0, 0)),
  (36, .iload_n 1, 1, .inl (0, 0)),
  (37, .aload_n 0, 1, .inl (0, 0)),
  (38, .getfield 19, 3, .inl (9, 5)),
  (41, .invokevirtual 94, 3, .inr (.inl g_Mo_takes)),
  (44, .aload_n 0, 1, .inl (0, 0)),
  (45, .invokevirtual 189, 3, .inr (.inl g_Mo_followed)),
  (48, .aload_n 0, 1, .inl (0, 0)),
  (49, .aload_n 0, 1, .inl (0, 0)),
  (50, .getfield 19, 3, .inl (9, 5)),
  (53, .invokevirtual 90, 3, .inr (.inl g_Mo_rank)),
  (56, .if_icmp .ne 7, 3, .inl (63, 0)),
  (59, .iconst 1, 1, .inr (.inr (.inl (nI 1)))),
  (60, .goto 4, 3, .inl (64, 0)),
  (63, .iconst 0, 1, .inr (.inr (.inl (nI 0)))),
  (64, .ireturn, 1, .inl (0, 0))]
set_option maxRecDepth 100000 in
set_option maxHeartbeats 4000000 in
theorem ok_Mo_isFollowed : xOK g_Mo_isFollowed k_Mo_isFollowed := ⟨by decide +kernel, by decide +kernel, List.forall_mem_cons.mpr ⟨trivial, List.forall_mem_cons.mpr ⟨fl_Mo_7, List.forall_mem_cons.mpr ⟨trivial, List.forall_mem_cons.mpr ⟨trivial, List.forall_mem_cons.mpr ⟨trivial, List.forall_mem_cons.mpr ⟨trivial, List.forall_mem_cons.mpr ⟨trivial, List.forall_mem_cons.mpr ⟨fl_Mo_7, List.forall_mem_cons.mpr ⟨trivial, List.forall_mem_cons.mpr ⟨trivial, List.forall_mem_cons.mpr ⟨trivial, List.forall_mem_cons.mpr ⟨trivial, List.forall_mem_cons.mpr ⟨trivial, List.forall_mem_cons.mpr ⟨⟨ml_Mo_180, xmv_Mo_isProper⟩, List.forall_mem_cons.mpr ⟨trivial, List.forall_mem_cons.mpr ⟨trivial, List.forall_mem_cons.mpr ⟨trivial, List.forall_mem_cons.mpr ⟨trivial, List.forall_mem_cons.mpr ⟨trivial, List.forall_mem_cons.mpr ⟨trivial, List.forall_mem_cons.mpr ⟨trivial, List.forall_mem_cons.mpr ⟨trivial, List.forall_mem_cons.mpr ⟨fl_Mo_19, List.forall_mem_cons.mpr ⟨⟨ml_Mo_94, xmv_Mo_takes⟩, List.forall_mem_cons.mpr ⟨trivial, List.forall_mem_cons.mpr ⟨⟨ml_Mo_189, xmv_Mo_followed⟩, List.forall_mem_cons.mpr ⟨trivial, List.forall_mem_cons.mpr ⟨trivial, List.forall_mem_cons.mpr ⟨fl_Mo_19, List.forall_mem_cons.mpr ⟨⟨ml_Mo_90, xmv_Mo_rank⟩, List.forall_mem_cons.mpr ⟨trivial, List.forall_mem_cons.mpr ⟨trivial, List.forall_mem_cons.mpr ⟨trivial, List.forall_mem_cons.mpr ⟨trivial, List.forall_mem_cons.mpr ⟨trivial, fun _ h => absurd h List.not_mem_nil⟩⟩⟩⟩⟩⟩⟩⟩⟩⟩⟩⟩⟩⟩⟩⟩⟩⟩⟩⟩⟩⟩⟩⟩⟩⟩⟩⟩⟩⟩⟩⟩⟩⟩⟩⟩
def k_Mo_follows : xCd := [
  (0, .iload_n 1, 1, .inl (0, 0)),
  (1, .invokestatic 79, 3, .inr (.inl g_Mo_isRegister)),
  (4, .ifCond .ne 7, 3, .inl (11, 0)),
  (7, .iconst (-1), 1, .inr (.inr (.inl (-1)))),
  (8, .goto 16, 3, .inl (24, 0)),
  (11, .aload_n 0, 1, .inl (0, 0)),
  (12, .iload_n 1, 1, .inl (0, 0)),
  (13, .invokevirtual 192, 3, .inr (.inl g_Mo_isFollowed)),
  (16, .ifCond .eq 7, 3, .inl (23, 0)),
  (19, .iconst 1, 1, .inr (.inr (.inl (nI 1)))),
  (20, .goto 4, 3, .inl (24, 0)),
  (23, .iconst 0, 1, .inr (.inr (.inl (nI 0)))),
  (24, .ireturn, 1, .inl (0, 0))]
set_option maxRecDepth 100000 in
set_option maxHeartbeats 4000000 in
theorem ok_Mo_follows : xOK g_Mo_follows k_Mo_follows := ⟨by decide +kernel, by decide +kernel, List.forall_mem_cons.mpr ⟨trivial, List.forall_mem_cons.mpr ⟨⟨ml_Mo_79, xms_Mo_isRegister⟩, List.forall_mem_cons.mpr ⟨trivial, List.forall_mem_cons.mpr ⟨trivial, List.forall_mem_cons.mpr ⟨trivial, List.forall_mem_cons.mpr ⟨trivial, List.forall_mem_cons.mpr ⟨trivial, List.forall_mem_cons.mpr ⟨⟨ml_Mo_192, xmv_Mo_isFollowed⟩, List.forall_mem_cons.mpr ⟨trivial, List.forall_mem_cons.mpr ⟨trivial, List.forall_mem_cons.mpr ⟨trivial, List.forall_mem_cons.mpr ⟨trivial, List.forall_mem_cons.mpr ⟨trivial, fun _ h => absurd h List.not_mem_nil⟩⟩⟩⟩⟩⟩⟩⟩⟩⟩⟩⟩⟩⟩
def k_Mo_costOf : xCd := [
  (0, .aload_n 0, 1, .inl (0, 0)),
  (1, .invokevirtual 64, 3, .inr (.inl g_Mo_size)),
  (4, .istore_n 2, 1, .inl (0, 0)),
  (5, .iconst 0, 1, .inr (.inr (.inl (nI 0)))),
  (6, .istore_n 3, 1, .inl (0, 0)),
  (7, .iload_n 3, 1, .inl (0, 0)),
  (8, .bipush 49, 2, .inr (.inr (.inl (nI 49)))),
  (10, .if_icmp .ge 16, 3, .inl (26, 0)),
  (13, .aload_n 0, 1, .inl (0, 0)),
  (14, .getfield 34, 3, .inl (9, 13)),
  (17, .iload_n 3, 1, .inl (0, 0)),
  (18, .iconst 0, 1, .inr (.inr (.inl (nI 0)))),
  (19, .iastore, 1, .inl (0, 0)),
  (20, .iinc 3 1, 3, .inr (.inr (.inl (nI 1)))),
  (23, .goto (-16), 3, .inl (7, 0)),
  (26, .iconst 0, 1, .inr (.inr (.inl (nI 0)))),
  (27, .istore_n 3, 1, .inl (0, 0)),
  (28, .iload_n 3, 1, .inl (0, 0)),
  (29, .iload_n 2, 1, .inl (0, 0)),
  (30, .if_icmp .ge 132, 3, .inl (162, 0)),
  (33, .iload_n 3, 1, .inl (0, 0)),
  (34, .istore 4, 2, .inl (0, 0)),
  (36, .iconst 0, 1, .inr (.inr (.inl (nI 0)))),
  (37, .istore 5, 2, .inl (0, 0)),
  (39, .iload 5, 2, .inl (0, 0)),
  (41, .aload_n 0, 1, .inl (0, 0)),
  (42, .getfield 7, 3, .inl (9, 0)),
  (45, .bipush 50, 2, .inr (.inr (.inl (nI 50)))),
  (47, .iaload, 1, .inl (0, 0)),
  (48, .if_icmp .ge 108, 3, .inl (156, 0)),
  (51, .iconst 0, 1, .inr (.inr (.inl (nI 0)))),
  (52, .istore 6, 2, .inl (0, 0)),
  (54, .iload 6, 2, .inl (0, 0)),
  (56, .iload_n 2, 1, .inl (0, 0)),
  (57, .if_icmp .ge 87, 3, .inl (144, 0)),
  (60, .aload_n 0, 1, .inl (0, 0)),
  (61, .getfield 7, 3, .inl (9, 0)),
  (64, .bipush 51, 2, .inr (.inr (.inl (nI 51)))),
  (66, .aload_n 0, 1, .inl (0, 0)),
  (67, .iload 5, 2, .inl (0, 0)),
  (69, .iload_n 3, 1, .inl (0, 0)),
  (70, .invokevirtual 174, 3, .inr (.inl g_Mo_placeOf)),
  (73, .iadd, 1, .inl (0, 0)),
  (74, .iaload, 1, .inl (0, 0)),
  (75, .iload 6, 2, .inl (0, 0)),
  (77, .if_icmp .ne 7, 3, .inl (84, 0)),
  (80, .iconst 1, 1, .inr (.inr (.inl (nI 1)))),
  (81, .goto 4, 3, .inl (85, 0)),
  (84, .iconst 0, 1, .inr (.inr (.inl (nI 0)))),
  (85, .istore 7, 2, .inl (0, 0)),
  (87, .aload_n 0, 1, .inl (0, 0)),
  (88, .getfield 34, 3, .inl (9, 13)),
  (91, .bipush 7, 2, .inr (.inr (.inl (nI 7)))),
  (93, .iload 4, 2, .inl (0, 0)),
  (95, .imul, 1, .inl (0, 0)),
  (96, .iload 6, 2, .inl (0, 0)),
  (98, .iadd, 1, .inl (0, 0)),
  (99, .dup2, 1, .inl (0, 0)),
  (100, .iaload, 1, .inl (0, 0)),
  (101, .iload 7, 2, .inl (0, 0)),
  (103, .ifCond .eq 7, 3, .inl (110, 0)),
  (106, .iconst 0, 1, .inr (.inr (.inl (nI 0)))),
  (107, .goto 29, 3, .inl (136, 0)),
  (110, .aload_n 0, 1, .inl (0, 0)),
  (111, .getfield 7, 3, .inl (9, 0)),
  (114, .bipush 107, 2, .inr (.inr (.inl (nI 107)))),
  (116, .aload_n 0, 1, .inl (0, 0)),
  (117, .iload 5, 2, .inl (0, 0)),
  (119, .iload_n 3, 1, .inl (0, 0)),
  (120, .invokevirtual 174, 3, .inr (.inl g_Mo_placeOf)),
  (123, .iadd, 1, .inl (0, 0)),
  (124, .iaload, 1, .inl (0, 0)),
  (125, .iconst 1, 1, .inr (.inr (.inl (nI 1)))),
  (126, .if_icmp .ne 9, 3, .inl (135, 0)),
  (129, .sipush 1000, 3, .inr (.inr (.inl (nI 1000)))),
  (132, .goto 4, 3, .inl (136, 0)),
  (135, .iconst 1, 1, .inr (.inr (.inl (nI 1)))),
  (136, .iadd, 1, .inl (0, 0)),
  (137, .iastore, 1, .inl (0, 0)),
  (138, .iinc 6 1, 3, .inr (.inr (.inl (nI 1)))),
  (141, .goto (-87), 3, .inl (54, 0)),
  (144, .aload_n 1, 1, .inl (0, 0)),
  (145, .iload 4, 2, .inl (0, 0)),
  (147, .iaload, 1, .inl (0, 0)),
  (148, .istore 4, 2, .inl (0, 0)),
  (150, .iinc 5 1, 3, .inr (.inr (.inl (nI 1)))),
  (153, .goto (-114), 3, .inl (39, 0)),
  (156, .iinc 3 1, 3, .inr (.inr (.inl (nI 1)))),
  (159, .goto (-131), 3, .inl (28, 0)),
  (162, .iconst 1, 1, .inr (.inr (.inl (nI 1)))),
  (163, .iload_n 2, 1, .inl (0, 0)),
  (164, .ishl, 1, .inl (0, 0)),
  (165, .iconst 1, 1, .inr (.inr (.inl (nI 1)))),
  (166, .isub, 1, .inl (0, 0)),
  (167, .istore_n 3, 1, .inl (0, 0)),
  (168, .iload_n 3, 1, .inl (0, 0)),
  (169, .ifCond .lt 143, 3, .inl (312, 0)),
  (172, .iconst 0, 1, .inr (.inr (.inl (nI 0)))),
  (173, .istore 4, 2, .inl (0, 0)),
  (175, .iconst 0, 1, .inr (.inr (.inl (nI 0)))),
  (176, .istore 5, 2, .inl (0, 0)),
  (178, .iload 5, 2, .inl (0, 0)),
  (180, .iload_n 2, 1, .inl (0, 0)),
  (181, .if_icmp .ge 20, 3, .inl (201, 0)),
  (184, .iload 4, 2, .inl (0, 0)),
  (186, .iload_n 3, 1, .inl (0, 0)),
  (187, .iload 5, 2, .inl (0, 0)),
  (189, .ishr, 1, .inl (0, 0)),
  (190, .iconst 1, 1, .inr (.inr (.inl (nI 1)))),
  (191, .iand, 1, .inl (0, 0)),
  (192, .iadd, 1, .inl (0, 0)),
  (193, .istore 4, 2, .inl (0, 0)),
  (195, .iinc 5 1, 3, .inr (.inr (.inl (nI 1)))),
  (198, .goto (-20), 3, .inl (178, 0)),
  (201, .aload_n 0, 1, .inl (0, 0)),
  (202, .getfield 37, 3, .inl (9, 14)),
  (205, .iload_n 3, 1, .inl (0, 0)),
  (206, .iload 4, 2, .inl (0, 0)),
  (208, .iload_n 2, 1, .inl (0, 0)),
  (209, .if_icmp .ne 7, 3, .inl (216, 0)),
  (212, .iconst 0, 1, .inr (.inr (.inl (nI 0)))),
  (213, .goto 6, 3, .inl (219, 0)),
  (216, .sipush 1000, 3, .inr (.inr (.inl (nI 1000)))),
  (219, .iastore, 1, .inl (0, 0)),
  (220, .iconst 0, 1, .inr (.inr (.inl (nI 0)))),
  (221, .istore 5, 2, .inl (0, 0)),
  (223, .iload 5, 2, .inl (0, 0)),
  (225, .iload_n 2, 1, .inl (0, 0)),
  (226, .if_icmp .ge 80, 3, .inl (306, 0)),
  (229, .iload_n 3, 1, .inl (0, 0)),
  (230, .iload 5, 2, .inl (0, 0)),
  (232, .ishr, 1, .inl (0, 0)),
  (233, .iconst 1, 1, .inr (.inr (.inl (nI 1)))),
  (234, .iand, 1, .inl (0, 0)),
  (235, .iconst 1, 1, .inr (.inr (.inl (nI 1)))),
  (236, .if_icmp .ne 9, 3, .inl (245, 0)),
  (239, .sipush 1000, 3, .inr (.inr (.inl (nI 1000)))),
  (242, .goto 28, 3, .inl (270, 0)),
  (245, .aload_n 0, 1, .inl (0, 0)),
  (246, .getfield 34, 3, .inl (9, 13)),
  (249, .bipush 7, 2, .inr (.inr (.inl (nI 7)))),
  (251, .iload 4, 2, .inl (0, 0)),
  (253, .imul, 1, .inl (0, 0)),
  (254, .iload 5, 2, .inl (0, 0)),
  (256, .iadd, 1, .inl (0, 0)),
  (257, .iaload, 1, .inl (0, 0)),
  (258, .aload_n 0, 1, .inl (0, 0)),
  (259, .getfield 37, 3, .inl (9, 14)),
  (262, .iload_n 3, 1, .inl (0, 0)),
  (263, .iconst 1, 1, .inr (.inr (.inl (nI 1)))),
  (264, .iload 5, 2, .inl (0, 0)),
  (266, .ishl, 1, .inl (0, 0)),
  (267, .ior, 1, .inl (0, 0)),
  (268, .iaload, 1, .inl (0, 0)),
  (269, .iadd, 1, .inl (0, 0)),
  (270, .istore 6, 2, .inl (0, 0)),
  (272, .aload_n 0, 1, .inl (0, 0)),
  (273, .getfield 37, 3, .inl (9, 14)),
  (276, .iload_n 3, 1, .inl (0, 0)),
  (277, .iload 6, 2, .inl (0, 0)),
  (279, .aload_n 0, 1, .inl (0, 0)),
  (280, .getfield 37, 3, .inl (9, 14)),
  (283, .iload_n 3, 1, .inl (0, 0)),
  (284, .iaload, 1, .inl (0, 0)),
  (285, .if_icmp .ge 8, 3, .inl (293, 0)),
  (288, .iload 6, 2, .inl (0, 0)),
  (290, .goto 9, 3, .inl (299, 0)),
  (293, .aload_n 0, 1, .inl (0, 0)),
  (294, .getfield 37, 3, .inl (9, 14)),
  (297, .iload_n 3, 1, .inl (0, 0)),
  (298, .iaload, 1, .inl (0, 0)),
  (299, .iastore, 1, .inl (0, 0)),
  (300, .iinc 5 1, 3, .inr (.inr (.inl (nI 1)))),
  (303, .goto (-80), 3, .inl (223, 0)),
  (306, .iinc 3 (-1), 3, .inr (.inr (.inl (-1)))),
  (309, .goto (-141), 3, .inl (168, 0)),
  (312, .aload_n 0, 1, .inl (0, 0)),
  (313, .getfield 37, 3, .inl (9, 14)),
  (316, .iconst 0, 1, .inr (.inr (.inl (nI 0)))),
  (317, .iaload, 1, .inl (0, 0)),
  (318, .sipush 1000, 3, .inr (.inr (.inl (nI 1000)))),
  (321, .if_icmp .ge 12, 3, .inl (333, 0)),
  (324, .aload_n 0, 1, .inl (0, 0)),
  (325, .getfield 37, 3, .inl (9, 14)),
  (328, .iconst 0, 1, .inr (.inr (.inl (nI 0)))),
  (329, .iaload, 1, .inl (0, 0)),
  (330, .goto 5, 3, .inl (335, 0)),
  (333, .bipush (-9), 2, .inr (.inr (.inl (-9)))),
  (335, .ireturn, 1, .inl (0, 0))]
set_option maxRecDepth 100000 in
set_option maxHeartbeats 4000000 in
theorem ok_Mo_costOf : xOK g_Mo_costOf k_Mo_costOf := ⟨by decide +kernel, by decide +kernel, List.forall_mem_cons.mpr ⟨trivial, List.forall_mem_cons.mpr ⟨⟨ml_Mo_64, xmv_Mo_size⟩, List.forall_mem_cons.mpr ⟨trivial, List.forall_mem_cons.mpr ⟨trivial, List.forall_mem_cons.mpr ⟨trivial, List.forall_mem_cons.mpr ⟨trivial, List.forall_mem_cons.mpr ⟨trivial, List.forall_mem_cons.mpr ⟨trivial, List.forall_mem_cons.mpr ⟨trivial, List.forall_mem_cons.mpr ⟨fl_Mo_34, List.forall_mem_cons.mpr ⟨trivial, List.forall_mem_cons.mpr ⟨trivial, List.forall_mem_cons.mpr ⟨trivial, List.forall_mem_cons.mpr ⟨trivial, List.forall_mem_cons.mpr ⟨trivial, List.forall_mem_cons.mpr ⟨trivial, List.forall_mem_cons.mpr ⟨trivial, List.forall_mem_cons.mpr ⟨trivial, List.forall_mem_cons.mpr ⟨trivial, List.forall_mem_cons.mpr ⟨trivial, List.forall_mem_cons.mpr ⟨trivial, List.forall_mem_cons.mpr ⟨trivial, List.forall_mem_cons.mpr ⟨trivial, List.forall_mem_cons.mpr ⟨trivial, List.forall_mem_cons.mpr ⟨trivial, List.forall_mem_cons.mpr ⟨trivial, List.forall_mem_cons.mpr ⟨fl_Mo_7, List.forall_mem_cons.mpr ⟨trivial, List.forall_mem_cons.mpr ⟨trivial, List.forall_mem_cons.mpr ⟨trivial, List.forall_mem_cons.mpr ⟨trivial, List.forall_mem_cons.mpr ⟨trivial, List.forall_mem_cons.mpr ⟨trivial, List.forall_mem_cons.mpr ⟨trivial, List.forall_mem_cons.mpr ⟨trivial, List.forall_mem_cons.mpr ⟨trivial, List.forall_mem_cons.mpr ⟨fl_Mo_7, List.forall_mem_cons.mpr ⟨trivial, List.forall_mem_cons.mpr ⟨trivial, List.forall_mem_cons.mpr ⟨trivial, List.forall_mem_cons.mpr ⟨trivial, List.forall_mem_cons.mpr ⟨⟨ml_Mo_174, xmv_Mo_placeOf⟩, List.forall_mem_cons.mpr ⟨trivial, List.forall_mem_cons.mpr ⟨trivial, List.forall_mem_cons.mpr ⟨trivial, List.forall_mem_cons.mpr ⟨trivial, List.forall_mem_cons.mpr ⟨trivial, List.forall_mem_cons.mpr ⟨trivial, List.forall_mem_cons.mpr ⟨trivial, List.forall_mem_cons.mpr ⟨trivial, List.forall_mem_cons.mpr ⟨trivial, List.forall_mem_cons.mpr ⟨fl_Mo_34, List.forall_mem_cons.mpr ⟨trivial, List.forall_mem_cons.mpr ⟨trivial, List.forall_mem_cons.mpr ⟨trivial, List.forall_mem_cons.mpr ⟨trivial, List.forall_mem_cons.mpr ⟨trivial, List.forall_mem_cons.mpr ⟨trivial, List.forall_mem_cons.mpr ⟨trivial, List.forall_mem_cons.mpr ⟨trivial, List.forall_mem_cons.mpr ⟨trivial, List.forall_mem_cons.mpr ⟨trivial, List.forall_mem_cons.mpr ⟨trivial, List.forall_mem_cons.mpr ⟨trivial, List.forall_mem_cons.mpr ⟨fl_Mo_7, List.forall_mem_cons.mpr ⟨trivial, List.forall_mem_cons.mpr ⟨trivial, List.forall_mem_cons.mpr ⟨trivial, List.forall_mem_cons.mpr ⟨trivial, List.forall_mem_cons.mpr ⟨⟨ml_Mo_174, xmv_Mo_placeOf⟩, List.forall_mem_cons.mpr ⟨trivial, List.forall_mem_cons.mpr ⟨trivial, List.forall_mem_cons.mpr ⟨trivial, List.forall_mem_cons.mpr ⟨trivial, List.forall_mem_cons.mpr ⟨trivial, List.forall_mem_cons.mpr ⟨trivial, List.forall_mem_cons.mpr ⟨trivial, List.forall_mem_cons.mpr ⟨trivial, List.forall_mem_cons.mpr ⟨trivial, List.forall_mem_cons.mpr ⟨trivial, List.forall_mem_cons.mpr ⟨trivial, List.forall_mem_cons.mpr ⟨trivial, List.forall_mem_cons.mpr ⟨trivial, List.forall_mem_cons.mpr ⟨trivial, List.forall_mem_cons.mpr ⟨trivial, List.forall_mem_cons.mpr ⟨trivial, List.forall_mem_cons.mpr ⟨trivial, List.forall_mem_cons.mpr ⟨trivial, List.forall_mem_cons.mpr ⟨trivial, List.forall_mem_cons.mpr ⟨trivial, List.forall_mem_cons.mpr ⟨trivial, List.forall_mem_cons.mpr ⟨trivial, List.forall_mem_cons.mpr ⟨trivial, List.forall_mem_cons.mpr ⟨trivial, List.forall_mem_cons.mpr ⟨trivial, List.forall_mem_cons.mpr ⟨trivial, List.forall_mem_cons.mpr ⟨trivial, List.forall_mem_cons.mpr ⟨trivial, List.forall_mem_cons.mpr ⟨trivial, List.forall_mem_cons.mpr ⟨trivial, List.forall_mem_cons.mpr ⟨trivial, List.forall_mem_cons.mpr ⟨trivial, List.forall_mem_cons.mpr ⟨trivial, List.forall_mem_cons.mpr ⟨trivial, List.forall_mem_cons.mpr ⟨trivial, List.forall_mem_cons.mpr ⟨trivial, List.forall_mem_cons.mpr ⟨trivial, List.forall_mem_cons.mpr ⟨trivial, List.forall_mem_cons.mpr ⟨trivial, List.forall_mem_cons.mpr ⟨trivial, List.forall_mem_cons.mpr ⟨trivial, List.forall_mem_cons.mpr ⟨trivial, List.forall_mem_cons.mpr ⟨trivial, List.forall_mem_cons.mpr ⟨trivial, List.forall_mem_cons.mpr ⟨trivial, List.forall_mem_cons.mpr ⟨fl_Mo_37, List.forall_mem_cons.mpr ⟨trivial, List.forall_mem_cons.mpr ⟨trivial, List.forall_mem_cons.mpr ⟨trivial, List.forall_mem_cons.mpr ⟨trivial, List.forall_mem_cons.mpr ⟨trivial, List.forall_mem_cons.mpr ⟨trivial, List.forall_mem_cons.mpr ⟨trivial, List.forall_mem_cons.mpr ⟨trivial, List.forall_mem_cons.mpr ⟨trivial, List.forall_mem_cons.mpr ⟨trivial, List.forall_mem_cons.mpr ⟨trivial, List.forall_mem_cons.mpr ⟨trivial, List.forall_mem_cons.mpr ⟨trivial, List.forall_mem_cons.mpr ⟨trivial, List.forall_mem_cons.mpr ⟨trivial, List.forall_mem_cons.mpr ⟨trivial, List.forall_mem_cons.mpr ⟨trivial, List.forall_mem_cons.mpr ⟨trivial, List.forall_mem_cons.mpr ⟨trivial, List.forall_mem_cons.mpr ⟨trivial, List.forall_mem_cons.mpr ⟨trivial, List.forall_mem_cons.mpr ⟨trivial, List.forall_mem_cons.mpr ⟨trivial, List.forall_mem_cons.mpr ⟨fl_Mo_34, List.forall_mem_cons.mpr ⟨trivial, List.forall_mem_cons.mpr ⟨trivial, List.forall_mem_cons.mpr ⟨trivial, List.forall_mem_cons.mpr ⟨trivial, List.forall_mem_cons.mpr ⟨trivial, List.forall_mem_cons.mpr ⟨trivial, List.forall_mem_cons.mpr ⟨trivial, List.forall_mem_cons.mpr ⟨fl_Mo_37, List.forall_mem_cons.mpr ⟨trivial, List.forall_mem_cons.mpr ⟨trivial, List.forall_mem_cons.mpr ⟨trivial, List.forall_mem_cons.mpr ⟨trivial, List.forall_mem_cons.mpr ⟨trivial, List.forall_mem_cons.mpr ⟨trivial, List.forall_mem_cons.mpr ⟨trivial, List.forall_mem_cons.mpr ⟨trivial, List.forall_mem_cons.mpr ⟨trivial, List.forall_mem_cons.mpr ⟨fl_Mo_37, List.forall_mem_cons.mpr ⟨trivial, List.forall_mem_cons.mpr ⟨trivial, List.forall_mem_cons.mpr ⟨trivial, List.forall_mem_cons.mpr ⟨fl_Mo_37, List.forall_mem_cons.mpr ⟨trivial, List.forall_mem_cons.mpr ⟨trivial, List.forall_mem_cons.mpr ⟨trivial, List.forall_mem_cons.mpr ⟨trivial, List.forall_mem_cons.mpr ⟨trivial, List.forall_mem_cons.mpr ⟨trivial, List.forall_mem_cons.mpr ⟨fl_Mo_37, List.forall_mem_cons.mpr ⟨trivial, List.forall_mem_cons.mpr ⟨trivial, List.forall_mem_cons.mpr ⟨trivial, List.forall_mem_cons.mpr ⟨trivial, List.forall_mem_cons.mpr ⟨trivial, List.forall_mem_cons.mpr ⟨trivial, List.forall_mem_cons.mpr ⟨trivial, List.forall_mem_cons.mpr ⟨trivial, List.forall_mem_cons.mpr ⟨fl_Mo_37, List.forall_mem_cons.mpr ⟨trivial, List.forall_mem_cons.mpr ⟨trivial, List.forall_mem_cons.mpr ⟨trivial, List.forall_mem_cons.mpr ⟨trivial, List.forall_mem_cons.mpr ⟨trivial, List.forall_mem_cons.mpr ⟨fl_Mo_37, List.forall_mem_cons.mpr ⟨trivial, List.forall_mem_cons.mpr ⟨trivial, List.forall_mem_cons.mpr ⟨trivial, List.forall_mem_cons.mpr ⟨trivial, List.forall_mem_cons.mpr ⟨trivial, fun _ h => absurd h List.not_mem_nil⟩⟩⟩⟩⟩⟩⟩⟩⟩⟩⟩⟩⟩⟩⟩⟩⟩⟩⟩⟩⟩⟩⟩⟩⟩⟩⟩⟩⟩⟩⟩⟩⟩⟩⟩⟩⟩⟩⟩⟩⟩⟩⟩⟩⟩⟩⟩⟩⟩⟩⟩⟩⟩⟩⟩⟩⟩⟩⟩⟩⟩⟩⟩⟩⟩⟩⟩⟩⟩⟩⟩⟩⟩⟩⟩⟩⟩⟩⟩⟩⟩⟩⟩⟩⟩⟩⟩⟩⟩⟩⟩⟩⟩⟩⟩⟩⟩⟩⟩⟩⟩⟩⟩⟩⟩⟩⟩⟩⟩⟩⟩⟩⟩⟩⟩⟩⟩⟩⟩⟩⟩⟩⟩⟩⟩⟩⟩⟩⟩⟩⟩⟩⟩⟩⟩⟩⟩⟩⟩⟩⟩⟩⟩⟩⟩⟩⟩⟩⟩⟩⟩⟩⟩⟩⟩⟩⟩⟩⟩⟩⟩⟩⟩⟩⟩⟩⟩⟩⟩⟩⟩⟩⟩⟩⟩⟩⟩⟩⟩⟩⟩⟩⟩⟩⟩⟩⟩⟩⟩⟩
def k_Mo_wrong : xCd := [
  (0, .iload_n 1, 1, .inl (0, 0)),
  (1, .invokestatic 79, 3, .inr (.inl g_Mo_isRegister)),
  (4, .ifCond .ne 7, 3, .inl (11, 0)),
  (7, .iconst (-1), 1, .inr (.inr (.inl (-1)))),
  (8, .goto 19, 3, .inl (27, 0)),
  (11, .aload_n 0, 1, .inl (0, 0)),
  (12, .getfield 7, 3, .inl (9, 0)),
  (15, .bipush 50, 2, .inr (.inr (.inl (nI 50)))),
  (17, .iaload, 1, .inl (0, 0)),
  (18, .ifCond .ne 8, 3, .inl (26, 0)),
  (21, .bipush (-2), 2, .inr (.inr (.inl (-2)))),
  (23, .goto 4, 3, .inl (27, 0)),
  (26, .iconst 0, 1, .inr (.inr (.inl (nI 0)))),
  (27, .ireturn, 1, .inl (0, 0))]
set_option maxRecDepth 100000 in
set_option maxHeartbeats 4000000 in
theorem ok_Mo_wrong : xOK g_Mo_wrong k_Mo_wrong := ⟨by decide +kernel, by decide +kernel, List.forall_mem_cons.mpr ⟨trivial, List.forall_mem_cons.mpr ⟨⟨ml_Mo_79, xms_Mo_isRegister⟩, List.forall_mem_cons.mpr ⟨trivial, List.forall_mem_cons.mpr ⟨trivial, List.forall_mem_cons.mpr ⟨trivial, List.forall_mem_cons.mpr ⟨trivial, List.forall_mem_cons.mpr ⟨fl_Mo_7, List.forall_mem_cons.mpr ⟨trivial, List.forall_mem_cons.mpr ⟨trivial, List.forall_mem_cons.mpr ⟨trivial, List.forall_mem_cons.mpr ⟨trivial, List.forall_mem_cons.mpr ⟨trivial, List.forall_mem_cons.mpr ⟨trivial, List.forall_mem_cons.mpr ⟨trivial, fun _ h => absurd h List.not_mem_nil⟩⟩⟩⟩⟩⟩⟩⟩⟩⟩⟩⟩⟩⟩⟩
def k_Mo_cost : xCd := [
  (0, .aload_n 0, 1, .inl (0, 0)),
  (1, .iload_n 1, 1, .inl (0, 0)),
  (2, .invokevirtual 195, 3, .inr (.inl g_Mo_wrong)),
  (5, .istore_n 2, 1, .inl (0, 0)),
  (6, .iload_n 2, 1, .inl (0, 0)),
  (7, .ifCond .eq 5, 3, .inl (12, 0)),
  (10, .iload_n 2, 1, .inl (0, 0)),
  (11, .ireturn, 1, .inl (0, 0)),
  (12, .aload_n 0, 1, .inl (0, 0)),
  (13, .iload_n 1, 1, .inl (0, 0)),
  (14, .aload_n 0, 1, .inl (0, 0)),
  (15, .getfield 16, 3, .inl (9, 4)),
  (18, .invokevirtual 94, 3, .inr (.inl g_Mo_takes)),
  (21, .aload_n 0, 1, .inl (0, 0)),
  (22, .aload_n 0, 1, .inl (0, 0)),
  (23, .getfield 16, 3, .inl (9, 4)),
  (26, .invokevirtual 198, 3, .inr (.inl g_Mo_costOf)),
  (29, .ireturn, 1, .inl (0, 0))]
set_option maxRecDepth 100000 in
set_option maxHeartbeats 4000000 in
theorem ok_Mo_cost : xOK g_Mo_cost k_Mo_cost := ⟨by decide +kernel, by decide +kernel, List.forall_mem_cons.mpr ⟨trivial, List.forall_mem_cons.mpr ⟨trivial, List.forall_mem_cons.mpr ⟨⟨ml_Mo_195, xmv_Mo_wrong⟩, List.forall_mem_cons.mpr ⟨trivial, List.forall_mem_cons.mpr ⟨trivial, List.forall_mem_cons.mpr ⟨trivial, List.forall_mem_cons.mpr ⟨trivial, List.forall_mem_cons.mpr ⟨trivial, List.forall_mem_cons.mpr ⟨trivial, List.forall_mem_cons.mpr ⟨trivial, List.forall_mem_cons.mpr ⟨trivial, List.forall_mem_cons.mpr ⟨fl_Mo_16, List.forall_mem_cons.mpr ⟨⟨ml_Mo_94, xmv_Mo_takes⟩, List.forall_mem_cons.mpr ⟨trivial, List.forall_mem_cons.mpr ⟨trivial, List.forall_mem_cons.mpr ⟨fl_Mo_16, List.forall_mem_cons.mpr ⟨⟨ml_Mo_198, xmv_Mo_costOf⟩, List.forall_mem_cons.mpr ⟨trivial, fun _ h => absurd h List.not_mem_nil⟩⟩⟩⟩⟩⟩⟩⟩⟩⟩⟩⟩⟩⟩⟩⟩⟩⟩⟩
def k_Mo_mend : xCd := [
  (0, .aload_n 0, 1, .inl (0, 0)),
  (1, .iload_n 1, 1, .inl (0, 0)),
  (2, .invokevirtual 195, 3, .inr (.inl g_Mo_wrong)),
  (5, .istore_n 2, 1, .inl (0, 0)),
  (6, .iload_n 2, 1, .inl (0, 0)),
  (7, .ifCond .eq 5, 3, .inl (12, 0)),
  (10, .iload_n 2, 1, .inl (0, 0)),
  (11, .ireturn, 1, .inl (0, 0)),
  (12, .aload_n 0, 1, .inl (0, 0)),
  (13, .invokevirtual 61, 3, .inr (.inl g_Mo_records)),
  (16, .aload_n 0, 1, .inl (0, 0)),
  (17, .iload_n 1, 1, .inl (0, 0)),
  (18, .aload_n 0, 1, .inl (0, 0)),
  (19, .getfield 16, 3, .inl (9, 4)),
  (22, .invokevirtual 94, 3, .inr (.inl g_Mo_takes)),
  (25, .aload_n 0, 1, .inl (0, 0)),
  (26, .aload_n 0, 1, .inl (0, 0)),
  (27, .getfield 16, 3, .inl (9, 4)),
  (30, .invokevirtual 198, 3, .inr (.inl g_Mo_costOf)),
  (33, .istore_n 3, 1, .inl (0, 0)),
  (34, .iload_n 3, 1, .inl (0, 0)),
  (35, .bipush (-9), 2, .inr (.inr (.inl (-9)))),
  (37, .if_icmp .ne 6, 3, .inl (43, 0)),
  (40, .bipush (-9), 2, .inr (.inr (.inl (-9)))),
  (42, .ireturn, 1, .inl (0, 0)),
  (43, .iconst 0, 1, .inr (.inr (.inl (nI 0)))),
  (44, .istore 4, 2, .inl (0, 0)),
  (46, .iconst 0, 1, .inr (.inr (.inl (nI 0)))),
  (47, .istore 5, 2, .inl (0, 0)),
  (49, .iload 5, 2, .inl (0, 0)),
  (51, .aload_n 0, 1, .inl (0, 0)),
  (52, .invokevirtual 64, 3, .inr (.inl g_Mo_size)),
  (55, .if_icmp .ge 86, 3, .inl (141, 0)),
  (58, .iconst 0, 1, .inr (.inr (.inl (nI 0)))),
  (59, .istore 6, 2, .inl (0, 0)),
  (61, .iload 4, 2, .inl (0, 0)),
  (63, .iload 6, 2, .inl (0, 0)),
  (65, .ishr, 1, .inl (0, 0)),
  (66, .iconst 1, 1, .inr (.inr (.inl (nI 1)))),
  (67, .iand, 1, .inl (0, 0)),
  (68, .iconst 1, 1, .inr (.inr (.inl (nI 1)))),
  (69, .if_icmp .eq 39, 3, .inl (108, 0)),
  (72, .aload_n 0, 1, .inl (0, 0)),
  (73, .getfield 34, 3, .inl (9, 13)),
  (76, .bipush 7, 2, .inr (.inr (.inl (nI 7)))),
  (78, .iload 5, 2, .inl (0, 0)),
  (80, .imul, 1, .inl (0, 0)),
  (81, .iload 6, 2, .inl (0, 0)),
  (83, .iadd, 1, .inl (0, 0)),
  (84, .iaload, 1, .inl (0, 0)),
  (85, .aload_n 0, 1, .inl (0, 0)),
  (86, .getfield 37, 3, .inl (9, 14)),
  (89, .iload 4, 2, .inl (0, 0)),
  (91, .iconst 1, 1, .inr (.inr (.inl (nI 1)))),
  (92, .iload 6, 2, .inl (0, 0)),
  (94, .ishl, 1, .inl (0, 0)),
  (95, .ior, 1, .inl (0, 0)),
  (96, .iaload, 1, .inl (0, 0)),
  (97, .iadd, 1, .inl (0, 0)),
  (98, .aload_n 0, 1, .inl (0, 0)),
  (99, .getfield 37, 3, .inl (9, 14)),
  (102, .iload 4, 2, .inl (0, 0)),
  (104, .iaload, 1, .inl (0, 0)),
  (105, .if_icmp .eq 9, 3, .inl (114, 0)),
  (108, .iinc 6 1, 3, .inr (.inr (.inl (nI 1)))),
  (111, .goto (-50), 3, .inl (61, 0)),
  (114, .aload_n 0, 1, .inl (0, 0)),
  (115, .getfield 7, 3, .inl (9, 0)),
  (118, .bipush 51, 2, .inr (.inr (.inl (nI 51)))),
  (120, .iload 5, 2, .inl (0, 0)),
  (122, .iadd, 1, .inl (0, 0)),
  (123, .iload 6, 2, .inl (0, 0)),
  (125, .iastore, 1, .inl (0, 0)),
  (126, .iload 4, 2, .inl (0, 0)),
  (128, .iconst 1, 1, .inr (.inr (.inl (nI 1)))),
  (129, .iload 6, 2, .inl (0, 0)),
  (131, .ishl, 1, .inl (0, 0)),
  (132, .ior, 1, .inl (0, 0)),
  (133, .istore 4, 2, .inl (0, 0)),
  (135, .iinc 5 1, 3, .inr (.inr (.inl (nI 1)))),
  (138, .goto (-89), 3, .inl (49, 0)),
  (141, .iconst 1, 1, .inr (.inr (.inl (nI 1)))),
  (142, .istore 5, 2, .inl (0, 0)),
  (144, .iload 5, 2, .inl (0, 0)),
  (146, .aload_n 0, 1, .inl (0, 0)),
  (147, .getfield 7, 3, .inl (9, 0)),
  (150, .bipush 50, 2, .inr (.inr (.inl (nI 50)))),
  (152, .iaload, 1, .inl (0, 0)),
  (153, .if_icmp .ge 66, 3, .inl (219, 0)),
  (156, .iconst 0, 1, .inr (.inr (.inl (nI 0)))),
  (157, .istore 6, 2, .inl (0, 0)),
  (159, .iload 6, 2, .inl (0, 0)),
  (161, .aload_n 0, 1, .inl (0, 0)),
  (162, .invokevirtual 64, 3, .inr (.inl g_Mo_size)),
  (165, .if_icmp .ge 48, 3, .inl (213, 0)),
  (168, .aload_n 0, 1, .inl (0, 0)),
  (169, .getfield 7, 3, .inl (9, 0)),
  (172, .bipush 51, 2, .inr (.inr (.inl (nI 51)))),
  (174, .aload_n 0, 1, .inl (0, 0)),
  (175, .iload 5, 2, .inl (0, 0)),
  (177, .iload 6, 2, .inl (0, 0)),
  (179, .invokevirtual 174, 3, .inr (.inl g_Mo_placeOf)),
  (182, .iadd, 1, .inl (0, 0)),
  (183, .aload_n 0, 1, .inl (0, 0)),
  (184, .getfield 7, 3, .inl (9, 0)),
  (187, .bipush 51, 2, .inr (.inr (.inl (nI 51)))),
  (189, .aload_n 0, 1, .inl (0, 0)),
  (190, .iload 5, 2, .inl (0, 0)),
  (192, .iconst 1, 1, .inr (.inr (.inl (nI 1)))),
  (193, .isub, 1, .inl (0, 0)),
  (194, .aload_n 0, 1, .inl (0, 0)),
  (195, .getfield 16, 3, .inl (9, 4)),
  (198, .iload 6, 2, .inl (0, 0)),
  (200, .iaload, 1, .inl (0, 0)),
  (201, .invokevirtual 174, 3, .inr (.inl g_Mo_placeOf)),
  (204, .iadd, 1, .inl (0, 0)),
  (205, .iaload, 1, .inl (0, 0)),
  (206, .iastore, 1, .inl (0, 0)),
  (207, .iinc 6 1, 3, .inr (.inr (.inl (nI 1)))),
  (210, .goto (-51), 3, .inl (159, 0)),
  (213, .iinc 5 1, 3, .inr (.inr (.inl (nI 1)))),
  (216, .goto (-72), 3, .inl (144, 0)),
  (219, .iload_n 3, 1, .inl (0, 0)),
  (220, .ireturn, 1, .inl (0, 0))]
set_option maxRecDepth 100000 in
set_option maxHeartbeats 4000000 in
theorem ok_Mo_mend : xOK g_Mo_mend k_Mo_mend := ⟨by decide +kernel, by decide +kernel, List.forall_mem_cons.mpr ⟨trivial, List.forall_mem_cons.mpr ⟨trivial, List.forall_mem_cons.mpr ⟨⟨ml_Mo_195, xmv_Mo_wrong⟩, List.forall_mem_cons.mpr ⟨trivial, List.forall_mem_cons.mpr ⟨trivial, List.forall_mem_cons.mpr ⟨trivial, List.forall_mem_cons.mpr ⟨trivial, List.forall_mem_cons.mpr ⟨trivial, List.forall_mem_cons.mpr ⟨trivial, List.forall_mem_cons.mpr ⟨⟨ml_Mo_61, xmv_Mo_records⟩, List.forall_mem_cons.mpr ⟨trivial, List.forall_mem_cons.mpr ⟨trivial, List.forall_mem_cons.mpr ⟨trivial, List.forall_mem_cons.mpr ⟨fl_Mo_16, List.forall_mem_cons.mpr ⟨⟨ml_Mo_94, xmv_Mo_takes⟩, List.forall_mem_cons.mpr ⟨trivial, List.forall_mem_cons.mpr ⟨trivial, List.forall_mem_cons.mpr ⟨fl_Mo_16, List.forall_mem_cons.mpr ⟨⟨ml_Mo_198, xmv_Mo_costOf⟩, List.forall_mem_cons.mpr ⟨trivial, List.forall_mem_cons.mpr ⟨trivial, List.forall_mem_cons.mpr ⟨trivial, List.forall_mem_cons.mpr ⟨trivial, List.forall_mem_cons.mpr ⟨trivial, List.forall_mem_cons.mpr ⟨trivial, List.forall_mem_cons.mpr ⟨trivial, List.forall_mem_cons.mpr ⟨trivial, List.forall_mem_cons.mpr ⟨trivial, List.forall_mem_cons.mpr ⟨trivial, List.forall_mem_cons.mpr ⟨trivial, List.forall_mem_cons.mpr ⟨trivial, List.forall_mem_cons.mpr ⟨⟨ml_Mo_64, xmv_Mo_size⟩, List.forall_mem_cons.mpr ⟨trivial, List.forall_mem_cons.mpr ⟨trivial, List.forall_mem_cons.mpr ⟨trivial, List.forall_mem_cons.mpr ⟨trivial, List.forall_mem_cons.mpr ⟨trivial, List.forall_mem_cons.mpr ⟨trivial, List.forall_mem_cons.mpr ⟨trivial, List.forall_mem_cons.mpr ⟨trivial, List.forall_mem_cons.mpr ⟨trivial, List.forall_mem_cons.mpr ⟨trivial, List.forall_mem_cons.mpr ⟨trivial, List.forall_mem_cons.mpr ⟨fl_Mo_34, List.forall_mem_cons.mpr ⟨trivial, List.forall_mem_cons.mpr ⟨trivial, List.forall_mem_cons.mpr ⟨trivial, List.forall_mem_cons.mpr ⟨trivial, List.forall_mem_cons.mpr ⟨trivial, List.forall_mem_cons.mpr ⟨trivial, List.forall_mem_cons.mpr ⟨trivial, List.forall_mem_cons.mpr ⟨fl_Mo_37, List.forall_mem_cons.mpr ⟨trivial, List.forall_mem_cons.mpr ⟨trivial, List.forall_mem_cons.mpr ⟨trivial, List.forall_mem_cons.mpr ⟨trivial, List.forall_mem_cons.mpr ⟨trivial, List.forall_mem_cons.mpr ⟨trivial, List.forall_mem_cons.mpr ⟨trivial, List.forall_mem_cons.mpr ⟨trivial, List.forall_mem_cons.mpr ⟨fl_Mo_37, List.forall_mem_cons.mpr ⟨trivial, List.forall_mem_cons.mpr ⟨trivial, List.forall_mem_cons.mpr ⟨trivial, List.forall_mem_cons.mpr ⟨trivial, List.forall_mem_cons.mpr ⟨trivial, List.forall_mem_cons.mpr ⟨trivial, List.forall_mem_cons.mpr ⟨fl_Mo_7, List.forall_mem_cons.mpr ⟨trivial, List.forall_mem_cons.mpr ⟨trivial, List.forall_mem_cons.mpr ⟨trivial, List.forall_mem_cons.mpr ⟨trivial, List.forall_mem_cons.mpr ⟨trivial, List.forall_mem_cons.mpr ⟨trivial, List.forall_mem_cons.mpr ⟨trivial, List.forall_mem_cons.mpr ⟨trivial, List.forall_mem_cons.mpr ⟨trivial, List.forall_mem_cons.mpr ⟨trivial, List.forall_mem_cons.mpr ⟨trivial, List.forall_mem_cons.mpr ⟨trivial, List.forall_mem_cons.mpr ⟨trivial, List.forall_mem_cons.mpr ⟨trivial, List.forall_mem_cons.mpr ⟨trivial, List.forall_mem_cons.mpr ⟨trivial, List.forall_mem_cons.mpr ⟨trivial, List.forall_mem_cons.mpr ⟨fl_Mo_7, List.forall_mem_cons.mpr ⟨trivial, List.forall_mem_cons.mpr ⟨trivial, List.forall_mem_cons.mpr ⟨trivial, List.forall_mem_cons.mpr ⟨trivial, List.forall_mem_cons.mpr ⟨trivial, List.forall_mem_cons.mpr ⟨trivial, List.forall_mem_cons.mpr ⟨trivial, List.forall_mem_cons.mpr ⟨⟨ml_Mo_64, xmv_Mo_size⟩, List.forall_mem_cons.mpr ⟨trivial, List.forall_mem_cons.mpr ⟨trivial, List.forall_mem_cons.mpr ⟨fl_Mo_7, List.forall_mem_cons.mpr ⟨trivial, List.forall_mem_cons.mpr ⟨trivial, List.forall_mem_cons.mpr ⟨trivial, List.forall_mem_cons.mpr ⟨trivial, List.forall_mem_cons.mpr ⟨⟨ml_Mo_174, xmv_Mo_placeOf⟩, List.forall_mem_cons.mpr ⟨trivial, List.forall_mem_cons.mpr ⟨trivial, List.forall_mem_cons.mpr ⟨fl_Mo_7, List.forall_mem_cons.mpr ⟨trivial, List.forall_mem_cons.mpr ⟨trivial, List.forall_mem_cons.mpr ⟨trivial, List.forall_mem_cons.mpr ⟨trivial, List.forall_mem_cons.mpr ⟨trivial, List.forall_mem_cons.mpr ⟨trivial, List.forall_mem_cons.mpr ⟨fl_Mo_16, List.forall_mem_cons.mpr ⟨trivial, List.forall_mem_cons.mpr ⟨trivial, List.forall_mem_cons.mpr ⟨⟨ml_Mo_174, xmv_Mo_placeOf⟩, List.forall_mem_cons.mpr ⟨trivial, List.forall_mem_cons.mpr ⟨trivial, List.forall_mem_cons.mpr ⟨trivial, List.forall_mem_cons.mpr ⟨trivial, List.forall_mem_cons.mpr ⟨trivial, List.forall_mem_cons.mpr ⟨trivial, List.forall_mem_cons.mpr ⟨trivial, List.forall_mem_cons.mpr ⟨trivial, List.forall_mem_cons.mpr ⟨trivial, fun _ h => absurd h List.not_mem_nil⟩⟩⟩⟩⟩⟩⟩⟩⟩⟩⟩⟩⟩⟩⟩⟩⟩⟩⟩⟩⟩⟩⟩⟩⟩⟩⟩⟩⟩⟩⟩⟩⟩⟩⟩⟩⟩⟩⟩⟩⟩⟩⟩⟩⟩⟩⟩⟩⟩⟩⟩⟩⟩⟩⟩⟩⟩⟩⟩⟩⟩⟩⟩⟩⟩⟩⟩⟩⟩⟩⟩⟩⟩⟩⟩⟩⟩⟩⟩⟩⟩⟩⟩⟩⟩⟩⟩⟩⟩⟩⟩⟩⟩⟩⟩⟩⟩⟩⟩⟩⟩⟩⟩⟩⟩⟩⟩⟩⟩⟩⟩⟩⟩⟩⟩⟩⟩⟩⟩⟩⟩⟩⟩⟩⟩
def k_Mo_best : xCd := [
  (0, .aload_n 0, 1, .inl (0, 0)),
  (1, .iload_n 1, 1, .inl (0, 0)),
  (2, .invokevirtual 195, 3, .inr (.inl g_Mo_wrong)),
  (5, .istore_n 2, 1, .inl (0, 0)),
  (6, .iload_n 2, 1, .inl (0, 0)),
  (7, .ifCond .eq 5, 3, .inl (12, 0)),
  (10, .iload_n 2, 1, .inl (0, 0)),
  (11, .ireturn, 1, .inl (0, 0)),
  (12, .aload_n 0, 1, .inl (0, 0)),
  (13, .invokevirtual 61, 3, .inr (.inl g_Mo_records)),
  (16, .bipush (-9), 2, .inr (.inr (.inl (-9)))),
  (18, .istore_n 3, 1, .inl (0, 0)),
  (19, .bipush (-9), 2, .inr (.inr (.inl (-9)))),
  (21, .istore 4, 2, .inl (0, 0)),
  (23, .iconst 0, 1, .inr (.inr (.inl (nI 0)))),
  (24, .istore 5, 2, .inl (0, 0)),
  (26, .iload 5, 2, .inl (0, 0)),
  (28, .aload_n 0, 1, .inl (0, 0)),
  (29, .invokevirtual 111, 3, .inr (.inl g_Mo_factorial)),
  (32, .if_icmp .ge 55, 3, .inl (87, 0)),
  (35, .aload_n 0, 1, .inl (0, 0)),
  (36, .iload 5, 2, .inl (0, 0)),
  (38, .aload_n 0, 1, .inl (0, 0)),
  (39, .getfield 19, 3, .inl (9, 5)),
  (42, .invokevirtual 114, 3, .inr (.inl g_Mo_unranks)),
  (45, .aload_n 0, 1, .inl (0, 0)),
  (46, .aload_n 0, 1, .inl (0, 0)),
  (47, .getfield 19, 3, .inl (9, 5)),
  (50, .invokevirtual 198, 3, .inr (.inl g_Mo_costOf)),
  (53, .istore 6, 2, .inl (0, 0)),
  (55, .iload 6, 2, .inl (0, 0)),
  (57, .bipush (-9), 2, .inr (.inr (.inl (-9)))),
  (59, .if_icmp .eq 22, 3, .inl (81, 0)),
  (62, .iload_n 3, 1, .inl (0, 0)),
  (63, .bipush (-9), 2, .inr (.inr (.inl (-9)))),
  (65, .if_icmp .eq 9, 3, .inl (74, 0)),
  (68, .iload 6, 2, .inl (0, 0)),
  (70, .iload_n 3, 1, .inl (0, 0)),
  (71, .if_icmp .ge 10, 3, .inl (81, 0)),
  (74, .iload 6, 2, .inl (0, 0)),
  (76, .istore_n 3, 1, .inl (0, 0)),
  (77, .iload 5, 2, .inl (0, 0)),
  (79, .istore 4, 2, .inl (0, 0)),
  (81, .iinc 5 1, 3, .inr (.inr (.inl (nI 1)))),
  (84, .goto (-58), 3, .inl (26, 0)),
  (87, .iload 4, 2, .inl (0, 0)),
  (89, .bipush (-9), 2, .inr (.inr (.inl (-9)))),
  (91, .if_icmp .eq 22, 3, .inl (113, 0)),
  (94, .aload_n 0, 1, .inl (0, 0)),
  (95, .iload 4, 2, .inl (0, 0)),
  (97, .aload_n 0, 1, .inl (0, 0)),
  (98, .getfield 19, 3, .inl (9, 5)),
  (101, .invokevirtual 114, 3, .inr (.inl g_Mo_unranks)),
  (104, .aload_n 0, 1, .inl (0, 0)),
  (105, .aload_n 0, 1, .inl (0, 0)),
  (106, .getfield 19, 3, .inl (9, 5)),
  (109, .iload_n 1, 1, .inl (0, 0)),
  (110, .invokevirtual 86, 3, .inr (.inl g_Mo_puts)),
  (113, .iload_n 3, 1, .inl (0, 0)),
  (114, .ireturn, 1, .inl (0, 0))]
set_option maxRecDepth 100000 in
set_option maxHeartbeats 4000000 in
theorem ok_Mo_best : xOK g_Mo_best k_Mo_best := ⟨by decide +kernel, by decide +kernel, List.forall_mem_cons.mpr ⟨trivial, List.forall_mem_cons.mpr ⟨trivial, List.forall_mem_cons.mpr ⟨⟨ml_Mo_195, xmv_Mo_wrong⟩, List.forall_mem_cons.mpr ⟨trivial, List.forall_mem_cons.mpr ⟨trivial, List.forall_mem_cons.mpr ⟨trivial, List.forall_mem_cons.mpr ⟨trivial, List.forall_mem_cons.mpr ⟨trivial, List.forall_mem_cons.mpr ⟨trivial, List.forall_mem_cons.mpr ⟨⟨ml_Mo_61, xmv_Mo_records⟩, List.forall_mem_cons.mpr ⟨trivial, List.forall_mem_cons.mpr ⟨trivial, List.forall_mem_cons.mpr ⟨trivial, List.forall_mem_cons.mpr ⟨trivial, List.forall_mem_cons.mpr ⟨trivial, List.forall_mem_cons.mpr ⟨trivial, List.forall_mem_cons.mpr ⟨trivial, List.forall_mem_cons.mpr ⟨trivial, List.forall_mem_cons.mpr ⟨⟨ml_Mo_111, xmv_Mo_factorial⟩, List.forall_mem_cons.mpr ⟨trivial, List.forall_mem_cons.mpr ⟨trivial, List.forall_mem_cons.mpr ⟨trivial, List.forall_mem_cons.mpr ⟨trivial, List.forall_mem_cons.mpr ⟨fl_Mo_19, List.forall_mem_cons.mpr ⟨⟨ml_Mo_114, xmv_Mo_unranks⟩, List.forall_mem_cons.mpr ⟨trivial, List.forall_mem_cons.mpr ⟨trivial, List.forall_mem_cons.mpr ⟨fl_Mo_19, List.forall_mem_cons.mpr ⟨⟨ml_Mo_198, xmv_Mo_costOf⟩, List.forall_mem_cons.mpr ⟨trivial, List.forall_mem_cons.mpr ⟨trivial, List.forall_mem_cons.mpr ⟨trivial, List.forall_mem_cons.mpr ⟨trivial, List.forall_mem_cons.mpr ⟨trivial, List.forall_mem_cons.mpr ⟨trivial, List.forall_mem_cons.mpr ⟨trivial, List.forall_mem_cons.mpr ⟨trivial, List.forall_mem_cons.mpr ⟨trivial, List.forall_mem_cons.mpr ⟨trivial, List.forall_mem_cons.mpr ⟨trivial, List.forall_mem_cons.mpr ⟨trivial, List.forall_mem_cons.mpr ⟨trivial, List.forall_mem_cons.mpr ⟨trivial, List.forall_mem_cons.mpr ⟨trivial, List.forall_mem_cons.mpr ⟨trivial, List.forall_mem_cons.mpr ⟨trivial, List.forall_mem_cons.mpr ⟨trivial, List.forall_mem_cons.mpr ⟨trivial, List.forall_mem_cons.mpr ⟨trivial, List.forall_mem_cons.mpr ⟨trivial, List.forall_mem_cons.mpr ⟨trivial, List.forall_mem_cons.mpr ⟨fl_Mo_19, List.forall_mem_cons.mpr ⟨⟨ml_Mo_114, xmv_Mo_unranks⟩, List.forall_mem_cons.mpr ⟨trivial, List.forall_mem_cons.mpr ⟨trivial, List.forall_mem_cons.mpr ⟨fl_Mo_19, List.forall_mem_cons.mpr ⟨trivial, List.forall_mem_cons.mpr ⟨⟨ml_Mo_86, xmv_Mo_puts⟩, List.forall_mem_cons.mpr ⟨trivial, List.forall_mem_cons.mpr ⟨trivial, fun _ h => absurd h List.not_mem_nil⟩⟩⟩⟩⟩⟩⟩⟩⟩⟩⟩⟩⟩⟩⟩⟩⟩⟩⟩⟩⟩⟩⟩⟩⟩⟩⟩⟩⟩⟩⟩⟩⟩⟩⟩⟩⟩⟩⟩⟩⟩⟩⟩⟩⟩⟩⟩⟩⟩⟩⟩⟩⟩⟩⟩⟩⟩⟩⟩⟩⟩
def k_Mo_tailWords : xCd := [
  (0, .iconst 0, 1, .inr (.inr (.inl (nI 0)))),
  (1, .istore_n 1, 1, .inl (0, 0)),
  (2, .iconst 0, 1, .inr (.inr (.inl (nI 0)))),
  (3, .istore_n 2, 1, .inl (0, 0)),
  (4, .iload_n 2, 1, .inl (0, 0)),
  (5, .aload_n 0, 1, .inl (0, 0)),
  (6, .getfield 7, 3, .inl (9, 0)),
  (9, .sipush 163, 3, .inr (.inr (.inl (nI 163)))),
  (12, .iaload, 1, .inl (0, 0)),
  (13, .if_icmp .ge 22, 3, .inl (35, 0)),
  (16, .iload_n 1, 1, .inl (0, 0)),
  (17, .aload_n 0, 1, .inl (0, 0)),
  (18, .getfield 7, 3, .inl (9, 0)),
  (21, .sipush 164, 3, .inr (.inr (.inl (nI 164)))),
  (24, .iload_n 2, 1, .inl (0, 0)),
  (25, .iadd, 1, .inl (0, 0)),
  (26, .iaload, 1, .inl (0, 0)),
  (27, .iadd, 1, .inl (0, 0)),
  (28, .istore_n 1, 1, .inl (0, 0)),
  (29, .iinc 2 1, 3, .inr (.inr (.inl (nI 1)))),
  (32, .goto (-28), 3, .inl (4, 0)),
  (35, .iload_n 1, 1, .inl (0, 0)),
  (36, .ireturn, 1, .inl (0, 0))]
set_option maxRecDepth 100000 in
set_option maxHeartbeats 4000000 in
theorem ok_Mo_tailWords : xOK g_Mo_tailWords k_Mo_tailWords := ⟨by decide +kernel, by decide +kernel, List.forall_mem_cons.mpr ⟨trivial, List.forall_mem_cons.mpr ⟨trivial, List.forall_mem_cons.mpr ⟨trivial, List.forall_mem_cons.mpr ⟨trivial, List.forall_mem_cons.mpr ⟨trivial, List.forall_mem_cons.mpr ⟨trivial, List.forall_mem_cons.mpr ⟨fl_Mo_7, List.forall_mem_cons.mpr ⟨trivial, List.forall_mem_cons.mpr ⟨trivial, List.forall_mem_cons.mpr ⟨trivial, List.forall_mem_cons.mpr ⟨trivial, List.forall_mem_cons.mpr ⟨trivial, List.forall_mem_cons.mpr ⟨fl_Mo_7, List.forall_mem_cons.mpr ⟨trivial, List.forall_mem_cons.mpr ⟨trivial, List.forall_mem_cons.mpr ⟨trivial, List.forall_mem_cons.mpr ⟨trivial, List.forall_mem_cons.mpr ⟨trivial, List.forall_mem_cons.mpr ⟨trivial, List.forall_mem_cons.mpr ⟨trivial, List.forall_mem_cons.mpr ⟨trivial, List.forall_mem_cons.mpr ⟨trivial, List.forall_mem_cons.mpr ⟨trivial, fun _ h => absurd h List.not_mem_nil⟩⟩⟩⟩⟩⟩⟩⟩⟩⟩⟩⟩⟩⟩⟩⟩⟩⟩⟩⟩⟩⟩⟩⟩
def k_Mo_missing : xCd := [
  (0, .iconst 1, 1, .inr (.inr (.inl (nI 1)))),
  (1, .aload_n 0, 1, .inl (0, 0)),
  (2, .invokevirtual 64, 3, .inr (.inl g_Mo_size)),
  (5, .ishl, 1, .inl (0, 0)),
  (6, .iconst 1, 1, .inr (.inr (.inl (nI 1)))),
  (7, .isub, 1, .inl (0, 0)),
  (8, .istore_n 1, 1, .inl (0, 0)),
  (9, .iconst 0, 1, .inr (.inr (.inl (nI 0)))),
  (10, .istore_n 2, 1, .inl (0, 0)),
  (11, .iload_n 2, 1, .inl (0, 0)),
  (12, .aload_n 0, 1, .inl (0, 0)),
  (13, .getfield 7, 3, .inl (9, 0)),
  (16, .sipush 163, 3, .inr (.inr (.inl (nI 163)))),
  (19, .iaload, 1, .inl (0, 0)),
  (20, .if_icmp .ge 52, 3, .inl (72, 0)),
  (23, .iconst 0, 1, .inr (.inr (.inl (nI 0)))),
  (24, .istore_n 3, 1, .inl (0, 0)),
  (25, .iload_n 3, 1, .inl (0, 0)),
  (26, .aload_n 0, 1, .inl (0, 0)),
  (27, .getfield 7, 3, .inl (9, 0)),
  (30, .sipush 164, 3, .inr (.inr (.inl (nI 164)))),
  (33, .iload_n 2, 1, .inl (0, 0)),
  (34, .iadd, 1, .inl (0, 0)),
  (35, .iaload, 1, .inl (0, 0)),
  (36, .if_icmp .ge 30, 3, .inl (66, 0)),
  (39, .iload_n 1, 1, .inl (0, 0)),
  (40, .iconst 1, 1, .inr (.inr (.inl (nI 1)))),
  (41, .aload_n 0, 1, .inl (0, 0)),
  (42, .getfield 7, 3, .inl (9, 0)),
  (45, .sipush 168, 3, .inr (.inr (.inl (nI 168)))),
  (48, .iconst 3, 1, .inr (.inr (.inl (nI 3)))),
  (49, .iload_n 2, 1, .inl (0, 0)),
  (50, .imul, 1, .inl (0, 0)),
  (51, .iadd, 1, .inl (0, 0)),
  (52, .iload_n 3, 1, .inl (0, 0)),
  (53, .iadd, 1, .inl (0, 0)),
  (54, .iaload, 1, .inl (0, 0)),
  (55, .ishl, 1, .inl (0, 0)),
  (56, .iconst (-1), 1, .inr (.inr (.inl (-1)))),
  (57, .ixor, 1, .inl (0, 0)),
  (58, .iand, 1, .inl (0, 0)),
  (59, .istore_n 1, 1, .inl (0, 0)),
  (60, .iinc 3 1, 3, .inr (.inr (.inl (nI 1)))),
  (63, .goto (-38), 3, .inl (25, 0)),
  (66, .iinc 2 1, 3, .inr (.inr (.inl (nI 1)))),
  (69, .goto (-58), 3, .inl (11, 0)),
  (72, .iload_n 1, 1, .inl (0, 0)),
  (73, .ireturn, 1, .inl (0, 0))]
set_option maxRecDepth 100000 in
set_option maxHeartbeats 4000000 in
theorem ok_Mo_missing : xOK g_Mo_missing k_Mo_missing := ⟨by decide +kernel, by decide +kernel, List.forall_mem_cons.mpr ⟨trivial, List.forall_mem_cons.mpr ⟨trivial, List.forall_mem_cons.mpr ⟨⟨ml_Mo_64, xmv_Mo_size⟩, List.forall_mem_cons.mpr ⟨trivial, List.forall_mem_cons.mpr ⟨trivial, List.forall_mem_cons.mpr ⟨trivial, List.forall_mem_cons.mpr ⟨trivial, List.forall_mem_cons.mpr ⟨trivial, List.forall_mem_cons.mpr ⟨trivial, List.forall_mem_cons.mpr ⟨trivial, List.forall_mem_cons.mpr ⟨trivial, List.forall_mem_cons.mpr ⟨fl_Mo_7, List.forall_mem_cons.mpr ⟨trivial, List.forall_mem_cons.mpr ⟨trivial, List.forall_mem_cons.mpr ⟨trivial, List.forall_mem_cons.mpr ⟨trivial, List.forall_mem_cons.mpr ⟨trivial, List.forall_mem_cons.mpr ⟨trivial, List.forall_mem_cons.mpr ⟨trivial, List.forall_mem_cons.mpr ⟨fl_Mo_7, List.forall_mem_cons.mpr ⟨trivial, List.forall_mem_cons.mpr ⟨trivial, List.forall_mem_cons.mpr ⟨trivial, List.forall_mem_cons.mpr ⟨trivial, List.forall_mem_cons.mpr ⟨trivial, List.forall_mem_cons.mpr ⟨trivial, List.forall_mem_cons.mpr ⟨trivial, List.forall_mem_cons.mpr ⟨trivial, List.forall_mem_cons.mpr ⟨fl_Mo_7, List.forall_mem_cons.mpr ⟨trivial, List.forall_mem_cons.mpr ⟨trivial, List.forall_mem_cons.mpr ⟨trivial, List.forall_mem_cons.mpr ⟨trivial, List.forall_mem_cons.mpr ⟨trivial, List.forall_mem_cons.mpr ⟨trivial, List.forall_mem_cons.mpr ⟨trivial, List.forall_mem_cons.mpr ⟨trivial, List.forall_mem_cons.mpr ⟨trivial, List.forall_mem_cons.mpr ⟨trivial, List.forall_mem_cons.mpr ⟨trivial, List.forall_mem_cons.mpr ⟨trivial, List.forall_mem_cons.mpr ⟨trivial, List.forall_mem_cons.mpr ⟨trivial, List.forall_mem_cons.mpr ⟨trivial, List.forall_mem_cons.mpr ⟨trivial, List.forall_mem_cons.mpr ⟨trivial, List.forall_mem_cons.mpr ⟨trivial, List.forall_mem_cons.mpr ⟨trivial, fun _ h => absurd h List.not_mem_nil⟩⟩⟩⟩⟩⟩⟩⟩⟩⟩⟩⟩⟩⟩⟩⟩⟩⟩⟩⟩⟩⟩⟩⟩⟩⟩⟩⟩⟩⟩⟩⟩⟩⟩⟩⟩⟩⟩⟩⟩⟩⟩⟩⟩⟩⟩⟩⟩⟩
def k_Mo_tail : xCd := [
  (0, .iconst 0, 1, .inr (.inr (.inl (nI 0)))),
  (1, .istore_n 2, 1, .inl (0, 0)),
  (2, .iconst 0, 1, .inr (.inr (.inl (nI 0)))),
  (3, .istore_n 3, 1, .inl (0, 0)),
  (4, .iload_n 3, 1, .inl (0, 0)),
  (5, .aload_n 0, 1, .inl (0, 0)),
  (6, .invokevirtual 64, 3, .inr (.inl g_Mo_size)),
  (9, .if_icmp .ge 20, 3, .inl (29, 0)),
  (12, .iload_n 2, 1, .inl (0, 0)),
  (13, .aload_n 0, 1, .inl (0, 0)),
  (14, .invokevirtual 201, 3, .inr (.inl g_Mo_missing)),
  (17, .iload_n 3, 1, .inl (0, 0)),
  (18, .ishr, 1, .inl (0, 0)),
  (19, .iconst 1, 1, .inr (.inr (.inl (nI 1)))),
  (20, .iand, 1, .inl (0, 0)),
  (21, .iadd, 1, .inl (0, 0)),
  (22, .istore_n 2, 1, .inl (0, 0)),
  (23, .iinc 3 1, 3, .inr (.inr (.inl (nI 1)))),
  (26, .goto (-22), 3, .inl (4, 0)),
  (29, .iload_n 1, 1, .inl (0, 0)),
  (30, .tableswitch 67 0 3 #[30, 39, 44, 49], 30, .inr (.inr (.inr (.inr (97, [(nI 0, 60), (nI 1, 69), (nI 2, 74), (nI 3, 79)]))))),
  (60, .aload_n 0, 1, .inl (0, 0)),
  (61, .getfield 7, 3, .inl (9, 0)),
  (64, .sipush 163, 3, .inr (.inr (.inl (nI 163)))),
  (67, .iaload, 1, .inl (0, 0)),
  (68, .ireturn, 1, .inl (0, 0)),
  (69, .aload_n 0, 1, .inl (0, 0)),
  (70, .invokevirtual 204, 3, .inr (.inl g_Mo_tailWords)),
  (73, .ireturn, 1, .inl (0, 0)),
  (74, .aload_n 0, 1, .inl (0, 0)),
  (75, .invokevirtual 201, 3, .inr (.inl g_Mo_missing)),
  (78, .ireturn, 1, .inl (0, 0)),
  (79, .aload_n 0, 1, .inl (0, 0)),
  (80, .invokevirtual 204, 3, .inr (.inl g_Mo_tailWords)),
  (83, .aload_n 0, 1, .inl (0, 0)),
  (84, .invokevirtual 64, 3, .inr (.inl g_Mo_size)),
  (87, .if_icmp .ge 8, 3, .inl (95, 0)),
  (90, .bipush (-9), 2, .inr (.inr (.inl (-9)))),
  (92, .goto 4, 3, .inl (96, 0)),
  (95, .iload_n 2, 1, .inl (0, 0)),
  (96, .ireturn, 1, .inl (0, 0)),
  (97, .iconst (-1), 1, .inr (.inr (.inl (-1)))),
  (98, .ireturn, 1, .inl (0, 0))]
set_option maxRecDepth 100000 in
set_option maxHeartbeats 4000000 in
theorem ok_Mo_tail : xOK g_Mo_tail k_Mo_tail := ⟨by decide +kernel, by decide +kernel, List.forall_mem_cons.mpr ⟨trivial, List.forall_mem_cons.mpr ⟨trivial, List.forall_mem_cons.mpr ⟨trivial, List.forall_mem_cons.mpr ⟨trivial, List.forall_mem_cons.mpr ⟨trivial, List.forall_mem_cons.mpr ⟨trivial, List.forall_mem_cons.mpr ⟨⟨ml_Mo_64, xmv_Mo_size⟩, List.forall_mem_cons.mpr ⟨trivial, List.forall_mem_cons.mpr ⟨trivial, List.forall_mem_cons.mpr ⟨trivial, List.forall_mem_cons.mpr ⟨⟨ml_Mo_201, xmv_Mo_missing⟩, List.forall_mem_cons.mpr ⟨trivial, List.forall_mem_cons.mpr ⟨trivial, List.forall_mem_cons.mpr ⟨trivial, List.forall_mem_cons.mpr ⟨trivial, List.forall_mem_cons.mpr ⟨trivial, List.forall_mem_cons.mpr ⟨trivial, List.forall_mem_cons.mpr ⟨trivial, List.forall_mem_cons.mpr ⟨trivial, List.forall_mem_cons.mpr ⟨trivial, List.forall_mem_cons.mpr ⟨trivial, List.forall_mem_cons.mpr ⟨trivial, List.forall_mem_cons.mpr ⟨fl_Mo_7, List.forall_mem_cons.mpr ⟨trivial, List.forall_mem_cons.mpr ⟨trivial, List.forall_mem_cons.mpr ⟨trivial, List.forall_mem_cons.mpr ⟨trivial, List.forall_mem_cons.mpr ⟨⟨ml_Mo_204, xmv_Mo_tailWords⟩, List.forall_mem_cons.mpr ⟨trivial, List.forall_mem_cons.mpr ⟨trivial, List.forall_mem_cons.mpr ⟨⟨ml_Mo_201, xmv_Mo_missing⟩, List.forall_mem_cons.mpr ⟨trivial, List.forall_mem_cons.mpr ⟨trivial, List.forall_mem_cons.mpr ⟨⟨ml_Mo_204, xmv_Mo_tailWords⟩, List.forall_mem_cons.mpr ⟨trivial, List.forall_mem_cons.mpr ⟨⟨ml_Mo_64, xmv_Mo_size⟩, List.forall_mem_cons.mpr ⟨trivial, List.forall_mem_cons.mpr ⟨trivial, List.forall_mem_cons.mpr ⟨trivial, List.forall_mem_cons.mpr ⟨trivial, List.forall_mem_cons.mpr ⟨trivial, List.forall_mem_cons.mpr ⟨trivial, List.forall_mem_cons.mpr ⟨trivial, fun _ h => absurd h List.not_mem_nil⟩⟩⟩⟩⟩⟩⟩⟩⟩⟩⟩⟩⟩⟩⟩⟩⟩⟩⟩⟩⟩⟩⟩⟩⟩⟩⟩⟩⟩⟩⟩⟩⟩⟩⟩⟩⟩⟩⟩⟩⟩⟩⟩⟩
def k_Mo_tailWord : xCd := [
  (0, .iload_n 1, 1, .inl (0, 0)),
  (1, .iconst 0, 1, .inr (.inr (.inl (nI 0)))),
  (2, .aload_n 0, 1, .inl (0, 0)),
  (3, .getfield 7, 3, .inl (9, 0)),
  (6, .sipush 163, 3, .inr (.inr (.inl (nI 163)))),
  (9, .iaload, 1, .inl (0, 0)),
  (10, .iconst 1, 1, .inr (.inr (.inl (nI 1)))),
  (11, .isub, 1, .inl (0, 0)),
  (12, .invokestatic 57, 3, .inr (.inl g_Mo_in)),
  (15, .ifCond .eq 7, 3, .inl (22, 0)),
  (18, .iload_n 2, 1, .inl (0, 0)),
  (19, .ifCond .ge 5, 3, .inl (24, 0)),
  (22, .iconst (-1), 1, .inr (.inr (.inl (-1)))),
  (23, .ireturn, 1, .inl (0, 0)),
  (24, .iload_n 2, 1, .inl (0, 0)),
  (25, .aload_n 0, 1, .inl (0, 0)),
  (26, .getfield 7, 3, .inl (9, 0)),
  (29, .sipush 164, 3, .inr (.inr (.inl (nI 164)))),
  (32, .iload_n 1, 1, .inl (0, 0)),
  (33, .iadd, 1, .inl (0, 0)),
  (34, .iaload, 1, .inl (0, 0)),
  (35, .if_icmp .ge 20, 3, .inl (55, 0)),
  (38, .aload_n 0, 1, .inl (0, 0)),
  (39, .getfield 7, 3, .inl (9, 0)),
  (42, .sipush 168, 3, .inr (.inr (.inl (nI 168)))),
  (45, .iconst 3, 1, .inr (.inr (.inl (nI 3)))),
  (46, .iload_n 1, 1, .inl (0, 0)),
  (47, .imul, 1, .inl (0, 0)),
  (48, .iadd, 1, .inl (0, 0)),
  (49, .iload_n 2, 1, .inl (0, 0)),
  (50, .iadd, 1, .inl (0, 0)),
  (51, .iaload, 1, .inl (0, 0)),
  (52, .goto 5, 3, .inl (57, 0)),
  (55, .bipush (-9), 2, .inr (.inr (.inl (-9)))),
  (57, .ireturn, 1, .inl (0, 0))]
set_option maxRecDepth 100000 in
set_option maxHeartbeats 4000000 in
theorem ok_Mo_tailWord : xOK g_Mo_tailWord k_Mo_tailWord := ⟨by decide +kernel, by decide +kernel, List.forall_mem_cons.mpr ⟨trivial, List.forall_mem_cons.mpr ⟨trivial, List.forall_mem_cons.mpr ⟨trivial, List.forall_mem_cons.mpr ⟨fl_Mo_7, List.forall_mem_cons.mpr ⟨trivial, List.forall_mem_cons.mpr ⟨trivial, List.forall_mem_cons.mpr ⟨trivial, List.forall_mem_cons.mpr ⟨trivial, List.forall_mem_cons.mpr ⟨⟨ml_Mo_57, xms_Mo_in⟩, List.forall_mem_cons.mpr ⟨trivial, List.forall_mem_cons.mpr ⟨trivial, List.forall_mem_cons.mpr ⟨trivial, List.forall_mem_cons.mpr ⟨trivial, List.forall_mem_cons.mpr ⟨trivial, List.forall_mem_cons.mpr ⟨trivial, List.forall_mem_cons.mpr ⟨trivial, List.forall_mem_cons.mpr ⟨fl_Mo_7, List.forall_mem_cons.mpr ⟨trivial, List.forall_mem_cons.mpr ⟨trivial, List.forall_mem_cons.mpr ⟨trivial, List.forall_mem_cons.mpr ⟨trivial, List.forall_mem_cons.mpr ⟨trivial, List.forall_mem_cons.mpr ⟨trivial, List.forall_mem_cons.mpr ⟨fl_Mo_7, List.forall_mem_cons.mpr ⟨trivial, List.forall_mem_cons.mpr ⟨trivial, List.forall_mem_cons.mpr ⟨trivial, List.forall_mem_cons.mpr ⟨trivial, List.forall_mem_cons.mpr ⟨trivial, List.forall_mem_cons.mpr ⟨trivial, List.forall_mem_cons.mpr ⟨trivial, List.forall_mem_cons.mpr ⟨trivial, List.forall_mem_cons.mpr ⟨trivial, List.forall_mem_cons.mpr ⟨trivial, List.forall_mem_cons.mpr ⟨trivial, fun _ h => absurd h List.not_mem_nil⟩⟩⟩⟩⟩⟩⟩⟩⟩⟩⟩⟩⟩⟩⟩⟩⟩⟩⟩⟩⟩⟩⟩⟩⟩⟩⟩⟩⟩⟩⟩⟩⟩⟩⟩⟩
def k_Mo_takesVerse : xCd := [
  (0, .iconst 0, 1, .inr (.inr (.inl (nI 0)))),
  (1, .istore_n 2, 1, .inl (0, 0)),
  (2, .iload_n 2, 1, .inl (0, 0)),
  (3, .aload_n 0, 1, .inl (0, 0)),
  (4, .invokevirtual 64, 3, .inr (.inl g_Mo_size)),
  (7, .if_icmp .ge 29, 3, .inl (36, 0)),
  (10, .aload_n 0, 1, .inl (0, 0)),
  (11, .getfield 40, 3, .inl (9, 15)),
  (14, .iload_n 2, 1, .inl (0, 0)),
  (15, .aload_n 0, 1, .inl (0, 0)),
  (16, .getfield 7, 3, .inl (9, 0)),
  (19, .bipush 51, 2, .inr (.inr (.inl (nI 51)))),
  (21, .aload_n 0, 1, .inl (0, 0)),
  (22, .iload_n 1, 1, .inl (0, 0)),
  (23, .iload_n 2, 1, .inl (0, 0)),
  (24, .invokevirtual 174, 3, .inr (.inl g_Mo_placeOf)),
  (27, .iadd, 1, .inl (0, 0)),
  (28, .iaload, 1, .inl (0, 0)),
  (29, .iastore, 1, .inl (0, 0)),
  (30, .iinc 2 1, 3, .inr (.inr (.inl (nI 1)))),
  (33, .goto (-31), 3, .inl (2, 0)),
  (36, .return_, 1, .inl (0, 0))]
set_option maxRecDepth 100000 in
set_option maxHeartbeats 4000000 in
theorem ok_Mo_takesVerse : xOK g_Mo_takesVerse k_Mo_takesVerse := ⟨by decide +kernel, by decide +kernel, List.forall_mem_cons.mpr ⟨trivial, List.forall_mem_cons.mpr ⟨trivial, List.forall_mem_cons.mpr ⟨trivial, List.forall_mem_cons.mpr ⟨trivial, List.forall_mem_cons.mpr ⟨⟨ml_Mo_64, xmv_Mo_size⟩, List.forall_mem_cons.mpr ⟨trivial, List.forall_mem_cons.mpr ⟨trivial, List.forall_mem_cons.mpr ⟨fl_Mo_40, List.forall_mem_cons.mpr ⟨trivial, List.forall_mem_cons.mpr ⟨trivial, List.forall_mem_cons.mpr ⟨fl_Mo_7, List.forall_mem_cons.mpr ⟨trivial, List.forall_mem_cons.mpr ⟨trivial, List.forall_mem_cons.mpr ⟨trivial, List.forall_mem_cons.mpr ⟨trivial, List.forall_mem_cons.mpr ⟨⟨ml_Mo_174, xmv_Mo_placeOf⟩, List.forall_mem_cons.mpr ⟨trivial, List.forall_mem_cons.mpr ⟨trivial, List.forall_mem_cons.mpr ⟨trivial, List.forall_mem_cons.mpr ⟨trivial, List.forall_mem_cons.mpr ⟨trivial, List.forall_mem_cons.mpr ⟨trivial, fun _ h => absurd h List.not_mem_nil⟩⟩⟩⟩⟩⟩⟩⟩⟩⟩⟩⟩⟩⟩⟩⟩⟩⟩⟩⟩⟩⟩⟩
def k_Mo_soundAt : xCd := [
  (0, .aload_n 0, 1, .inl (0, 0)),
  (1, .getfield 7, 3, .inl (9, 0)),
  (4, .iconst 1, 1, .inr (.inr (.inl (nI 1)))),
  (5, .aload_n 0, 1, .inl (0, 0)),
  (6, .getfield 40, 3, .inl (9, 15)),
  (9, .iload_n 1, 1, .inl (0, 0)),
  (10, .iaload, 1, .inl (0, 0)),
  (11, .iadd, 1, .inl (0, 0)),
  (12, .iaload, 1, .inl (0, 0)),
  (13, .ireturn, 1, .inl (0, 0))]
set_option maxRecDepth 100000 in
set_option maxHeartbeats 4000000 in
theorem ok_Mo_soundAt : xOK g_Mo_soundAt k_Mo_soundAt := ⟨by decide +kernel, by decide +kernel, List.forall_mem_cons.mpr ⟨trivial, List.forall_mem_cons.mpr ⟨fl_Mo_7, List.forall_mem_cons.mpr ⟨trivial, List.forall_mem_cons.mpr ⟨trivial, List.forall_mem_cons.mpr ⟨fl_Mo_40, List.forall_mem_cons.mpr ⟨trivial, List.forall_mem_cons.mpr ⟨trivial, List.forall_mem_cons.mpr ⟨trivial, List.forall_mem_cons.mpr ⟨trivial, List.forall_mem_cons.mpr ⟨trivial, fun _ h => absurd h List.not_mem_nil⟩⟩⟩⟩⟩⟩⟩⟩⟩⟩⟩
def k_Mo_schemeOfVerse : xCd := [
  (0, .iconst 0, 1, .inr (.inr (.inl (nI 0)))),
  (1, .istore_n 1, 1, .inl (0, 0)),
  (2, .iconst 0, 1, .inr (.inr (.inl (nI 0)))),
  (3, .istore_n 2, 1, .inl (0, 0)),
  (4, .iload_n 2, 1, .inl (0, 0)),
  (5, .aload_n 0, 1, .inl (0, 0)),
  (6, .invokevirtual 64, 3, .inr (.inl g_Mo_size)),
  (9, .if_icmp .ge 42, 3, .inl (51, 0)),
  (12, .iconst 0, 1, .inr (.inr (.inl (nI 0)))),
  (13, .istore_n 3, 1, .inl (0, 0)),
  (14, .iload_n 3, 1, .inl (0, 0)),
  (15, .iload_n 2, 1, .inl (0, 0)),
  (16, .if_icmp .ge 22, 3, .inl (38, 0)),
  (19, .aload_n 0, 1, .inl (0, 0)),
  (20, .iload_n 3, 1, .inl (0, 0)),
  (21, .invokevirtual 207, 3, .inr (.inl g_Mo_soundAt)),
  (24, .aload_n 0, 1, .inl (0, 0)),
  (25, .iload_n 2, 1, .inl (0, 0)),
  (26, .invokevirtual 207, 3, .inr (.inl g_Mo_soundAt)),
  (29, .if_icmp .eq 9, 3, .inl (38, 0)),
  (32, .iinc 3 1, 3, .inr (.inr (.inl (nI 1)))),
  (35, .goto (-21), 3, .inl (14, 0)),
  (38, .bipush 7, 2, .inr (.inr (.inl (nI 7)))),
  (40, .iload_n 1, 1, .inl (0, 0)),
  (41, .imul, 1, .inl (0, 0)),
  (42, .iload_n 3, 1, .inl (0, 0)),
  (43, .iadd, 1, .inl (0, 0)),
  (44, .istore_n 1, 1, .inl (0, 0)),
  (45, .iinc 2 1, 3, .inr (.inr (.inl (nI 1)))),
  (48, .goto (-44), 3, .inl (4, 0)),
  (51, .iload_n 1, 1, .inl (0, 0)),
  (52, .ireturn, 1, .inl (0, 0))]
set_option maxRecDepth 100000 in
set_option maxHeartbeats 4000000 in
theorem ok_Mo_schemeOfVerse : xOK g_Mo_schemeOfVerse k_Mo_schemeOfVerse := ⟨by decide +kernel, by decide +kernel, List.forall_mem_cons.mpr ⟨trivial, List.forall_mem_cons.mpr ⟨trivial, List.forall_mem_cons.mpr ⟨trivial, List.forall_mem_cons.mpr ⟨trivial, List.forall_mem_cons.mpr ⟨trivial, List.forall_mem_cons.mpr ⟨trivial, List.forall_mem_cons.mpr ⟨⟨ml_Mo_64, xmv_Mo_size⟩, List.forall_mem_cons.mpr ⟨trivial, List.forall_mem_cons.mpr ⟨trivial, List.forall_mem_cons.mpr ⟨trivial, List.forall_mem_cons.mpr ⟨trivial, List.forall_mem_cons.mpr ⟨trivial, List.forall_mem_cons.mpr ⟨trivial, List.forall_mem_cons.mpr ⟨trivial, List.forall_mem_cons.mpr ⟨trivial, List.forall_mem_cons.mpr ⟨⟨ml_Mo_207, xmv_Mo_soundAt⟩, List.forall_mem_cons.mpr ⟨trivial, List.forall_mem_cons.mpr ⟨trivial, List.forall_mem_cons.mpr ⟨⟨ml_Mo_207, xmv_Mo_soundAt⟩, List.forall_mem_cons.mpr ⟨trivial, List.forall_mem_cons.mpr ⟨trivial, List.forall_mem_cons.mpr ⟨trivial, List.forall_mem_cons.mpr ⟨trivial, List.forall_mem_cons.mpr ⟨trivial, List.forall_mem_cons.mpr ⟨trivial, List.forall_mem_cons.mpr ⟨trivial, List.forall_mem_cons.mpr ⟨trivial, List.forall_mem_cons.mpr ⟨trivial, List.forall_mem_cons.mpr ⟨trivial, List.forall_mem_cons.mpr ⟨trivial, List.forall_mem_cons.mpr ⟨trivial, List.forall_mem_cons.mpr ⟨trivial, fun _ h => absurd h List.not_mem_nil⟩⟩⟩⟩⟩⟩⟩⟩⟩⟩⟩⟩⟩⟩⟩⟩⟩⟩⟩⟩⟩⟩⟩⟩⟩⟩⟩⟩⟩⟩⟩⟩⟩
def k_Mo_scheme : xCd := [
  (0, .aload_n 0, 1, .inl (0, 0)),
  (1, .iload_n 1, 1, .inl (0, 0)),
  (2, .invokevirtual 177, 3, .inr (.inl g_Mo_isStanza)),
  (5, .ifCond .ne 5, 3, .inl (10, 0)),
  (8, .iconst (-1), 1, .inr (.inr (.inl (-1)))),
  (9, .ireturn, 1, .inl (0, 0)),
  (10, .aload_n 0, 1, .inl (0, 0)),
  (11, .iload_n 1, 1, .inl (0, 0)),
  (12, .invokevirtual 210, 3, .inr (.inl g_Mo_takesVerse)),
  (15, .aload_n 0, 1, .inl (0, 0)),
  (16, .invokevirtual 213, 3, .inr (.inl g_Mo_schemeOfVerse)),
  (19, .ireturn, 1, .inl (0, 0))]
set_option maxRecDepth 100000 in
set_option maxHeartbeats 4000000 in
theorem ok_Mo_scheme : xOK g_Mo_scheme k_Mo_scheme := ⟨by decide +kernel, by decide +kernel, List.forall_mem_cons.mpr ⟨trivial, List.forall_mem_cons.mpr ⟨trivial, List.forall_mem_cons.mpr ⟨⟨ml_Mo_177, xmv_Mo_isStanza⟩, List.forall_mem_cons.mpr ⟨trivial, List.forall_mem_cons.mpr ⟨trivial, List.forall_mem_cons.mpr ⟨trivial, List.forall_mem_cons.mpr ⟨trivial, List.forall_mem_cons.mpr ⟨trivial, List.forall_mem_cons.mpr ⟨⟨ml_Mo_210, xmv_Mo_takesVerse⟩, List.forall_mem_cons.mpr ⟨trivial, List.forall_mem_cons.mpr ⟨⟨ml_Mo_213, xmv_Mo_schemeOfVerse⟩, List.forall_mem_cons.mpr ⟨trivial, fun _ h => absurd h List.not_mem_nil⟩⟩⟩⟩⟩⟩⟩⟩⟩⟩⟩⟩⟩
def k_Mo_schemes : xCd := [
  (0, .aload_n 0, 1, .inl (0, 0)),
  (1, .iload_n 1, 1, .inl (0, 0)),
  (2, .invokevirtual 177, 3, .inr (.inl g_Mo_isStanza)),
  (5, .ifCond .eq 10, 3, .inl (15, 0)),
  (8, .iload_n 2, 1, .inl (0, 0)),
  (9, .invokestatic 79, 3, .inr (.inl g_Mo_isRegister)),
  (12, .ifCond .ne 5, 3, .inl (17, 0)),
  (15, .iconst (-1), 1, .inr (.inr (.inl (-1)))),
  (16, .ireturn, 1, .inl (0, 0)),
  (17, .aload_n 0, 1, .inl (0, 0)),
  (18, .iload_n 2, 1, .inl (0, 0)),
  (19, .aload_n 0, 1, .inl (0, 0)),
  (20, .getfield 16, 3, .inl (9, 4)),
  (23, .invokevirtual 94, 3, .inr (.inl g_Mo_takes)),
  (26, .aload_n 0, 1, .inl (0, 0)),
  (27, .iload_n 1, 1, .inl (0, 0)),
  (28, .invokevirtual 210, 3, .inr (.inl g_Mo_takesVerse)),
  (31, .aload_n 0, 1, .inl (0, 0)),
  (32, .aload_n 0, 1, .inl (0, 0)),
  (33, .getfield 16, 3, .inl (9, 4)),
  (36, .invokevirtual 104, 3, .inr (.inl g_Mo_orderOf)),
  (39, .istore_n 3, 1, .inl (0, 0)),
  (40, .iconst 0, 1, .inr (.inr (.inl (nI 0)))),
  (41, .istore 4, 2, .inl (0, 0)),
  (43, .iconst 0, 1, .inr (.inr (.inl (nI 0)))),
  (44, .istore 5, 2, .inl (0, 0)),
  (46, .iload 5, 2, .inl (0, 0)),
  (48, .iload_n 3, 1, .inl (0, 0)),
  (49, .if_icmp .ge 138, 3, .inl (187, 0)),
  (52, .aload_n 0, 1, .inl (0, 0)),
  (53, .invokevirtual 213, 3, .inr (.inl g_Mo_schemeOfVerse)),
  (56, .istore 6, 2, .inl (0, 0)),
  (58, .iconst 0, 1, .inr (.inr (.inl (nI 0)))),
  (59, .istore 7, 2, .inl (0, 0)),
  (61, .iload 7, 2, .inl (0, 0)),
  (63, .iload 4, 2, .inl (0, 0)),
  (65, .if_icmp .ge 21, 3, .inl (86, 0)),
  (68, .aload_n 0, 1, .inl (0, 0)),
  (69, .getfield 46, 3, .inl (9, 17)),
  (72, .iload 7, 2, .inl (0, 0)),
  (74, .iaload, 1, .inl (0, 0)),
  (75, .iload 6, 2, .inl (0, 0)),
  (77, .if_icmp .eq 9, 3, .inl (86, 0)),
  (80, .iinc 7 1, 3, .inr (.inr (.inl (nI 1)))),
  (83, .goto (-22), 3, .inl (61, 0)),
  (86, .aload_n 0, 1, .inl (0, 0)),
  (87, .getfield 46, 3, .inl (9, 17)),
  (90, .iload 7, 2, .inl (0, 0)),
  (92, .iload 6, 2, .inl (0, 0)),
  (94, .iastore, 1, .inl (0, 0)),
  (95, .iload 4, 2, .inl (0, 0)),
  (97, .iload 7, 2, .inl (0, 0)),
  (99, .iload 4, 2, .inl (0, 0)),
  (101, .if_icmp .ne 7, 3, .inl (108, 0)),
  (104, .iconst 1, 1, .inr (.inr (.inl (nI 1)))),
  (105, .goto 4, 3, .inl (109, 0)),
  (108, .iconst 0, 1, .inr (.inr (.inl (nI 0)))),
  (109, .iadd, 1, .inl (0, 0)),
  (110, .istore 4, 2, .inl (0, 0)),
  (112, .iconst 0, 1, .inr (.inr (.inl (nI 0)))),
  (113, .istore 8, 2, .inl (0, 0)),
  (115, .iload 8, 2, .inl (0, 0)),
  (117, .aload_n 0, 1, .inl (0, 0)),
  (118, .invokevirtual 64, 3, .inr (.inl g_Mo_size)),
  (121, .if_icmp .ge 28, 3, .inl (149, 0)),
  (124, .aload_n 0, 1, .inl (0, 0)),
  (125, .getfield 43, 3, .inl (9, 16)),
  (128, .iload 8, 2, .inl (0, 0)),
  (130, .aload_n 0, 1, .inl (0, 0)),
  (131, .getfield 40, 3, .inl (9, 15)),
  (134, .aload_n 0, 1, .inl (0, 0)),
  (135, .getfield 16, 3, .inl (9, 4)),
  (138, .iload 8, 2, .inl (0, 0)),
  (140, .iaload, 1, .inl (0, 0)),
  (141, .iaload, 1, .inl (0, 0)),
  (142, .iastore, 1, .inl (0, 0)),
  (143, .iinc 8 1, 3, .inr (.inr (.inl (nI 1)))),
  (146, .goto (-31), 3, .inl (115, 0)),
  (149, .iconst 0, 1, .inr (.inr (.inl (nI 0)))),
  (150, .istore 8, 2, .inl (0, 0)),
  (152, .iload 8, 2, .inl (0, 0)),
  (154, .aload_n 0, 1, .inl (0, 0)),
  (155, .invokevirtual 64, 3, .inr (.inl g_Mo_size)),
  (158, .if_icmp .ge 23, 3, .inl (181, 0)),
  (161, .aload_n 0, 1, .inl (0, 0)),
  (162, .getfield 40, 3, .inl (9, 15)),
  (165, .iload 8, 2, .inl (0, 0)),
  (167, .aload_n 0, 1, .inl (0, 0)),
  (168, .getfield 43, 3, .inl (9, 16)),
  (171, .iload 8, 2, .inl (0, 0)),
  (173, .iaload, 1, .inl (0, 0)),
  (174, .iastore, 1, .inl (0, 0)),
  (175, .iinc 8 1, 3, .inr (.inr (.inl (nI 1)))),
  (178, .goto (-26), 3, .inl (152, 0)),
  (181, .iinc 5 1, 3, .inr (.inr (.inl (nI 1)))),
  (184, .goto (-138), 3, .inl (46, 0)),
  (187, .iload 4, 2, .inl (0, 0)),
  (189, .ireturn, 1, .inl (0, 0))]
set_option maxRecDepth 100000 in
set_option maxHeartbeats 4000000 in
theorem ok_Mo_schemes : xOK g_Mo_schemes k_Mo_schemes := ⟨by decide +kernel, by decide +kernel, List.forall_mem_cons.mpr ⟨trivial, List.forall_mem_cons.mpr ⟨trivial, List.forall_mem_cons.mpr ⟨⟨ml_Mo_177, xmv_Mo_isStanza⟩, List.forall_mem_cons.mpr ⟨trivial, List.forall_mem_cons.mpr ⟨trivial, List.forall_mem_cons.mpr ⟨⟨ml_Mo_79, xms_Mo_isRegister⟩, List.forall_mem_cons.mpr ⟨trivial, List.forall_mem_cons.mpr ⟨trivial, List.forall_mem_cons.mpr ⟨trivial, List.forall_mem_cons.mpr ⟨trivial, List.forall_mem_cons.mpr ⟨trivial, List.forall_mem_cons.mpr ⟨trivial, List.forall_mem_cons.mpr ⟨fl_Mo_16, List.forall_mem_cons.mpr ⟨⟨ml_Mo_94, xmv_Mo_takes⟩, List.forall_mem_cons.mpr ⟨trivial, List.forall_mem_cons.mpr ⟨trivial, List.forall_mem_cons.mpr ⟨⟨ml_Mo_210, xmv_Mo_takesVerse⟩, List.forall_mem_cons.mpr ⟨trivial, List.forall_mem_cons.mpr ⟨trivial, List.forall_mem_cons.mpr ⟨fl_Mo_16, List.forall_mem_cons.mpr ⟨⟨ml_Mo_104, xmv_Mo_orderOf⟩, List.forall_mem_cons.mpr ⟨trivial, List.forall_mem_cons.mpr ⟨trivial, List.forall_mem_cons.mpr ⟨trivial, List.forall_mem_cons.mpr ⟨trivial, List.forall_mem_cons.mpr ⟨trivial, List.forall_mem_cons.mpr ⟨trivial, List.forall_mem_cons.mpr ⟨trivial, List.forall_mem_cons.mpr ⟨trivial, List.forall_mem_cons.mpr ⟨trivial, List.forall_mem_cons.mpr ⟨⟨ml_Mo_213, xmv_Mo_schemeOfVerse⟩, List.forall_mem_cons.mpr ⟨trivial, List.forall_mem_cons.mpr ⟨trivial, List.forall_mem_cons.mpr ⟨trivial, List.forall_mem_cons.mpr ⟨trivial, List.forall_mem_cons.mpr ⟨trivial, List.forall_mem_cons.mpr ⟨trivial, List.forall_mem_cons.mpr ⟨trivial, List.forall_mem_cons.mpr ⟨fl_Mo_46, List.forall_mem_cons.mpr ⟨trivial, List.forall_mem_cons.mpr ⟨trivial, List.forall_mem_cons.mpr ⟨trivial, List.forall_mem_cons.mpr ⟨trivial, List.forall_mem_cons.mpr ⟨trivial, List.forall_mem_cons.mpr ⟨trivial, List.forall_mem_cons.mpr ⟨trivial, List.forall_mem_cons.mpr ⟨fl_Mo_46, List.forall_mem_cons.mpr ⟨trivial, List.forall_mem_cons.mpr ⟨trivial, List.forall_mem_cons.mpr ⟨trivial, List.forall_mem_cons.mpr ⟨trivial, List.forall_mem_cons.mpr ⟨trivial, List.forall_mem_cons.mpr ⟨trivial, List.forall_mem_cons.mpr ⟨trivial, List.forall_mem_cons.mpr ⟨trivial, List.forall_mem_cons.mpr ⟨trivial, List.forall_mem_cons.mpr ⟨trivial, List.forall_mem_cons.mpr ⟨trivial, List.forall_mem_cons.mpr ⟨trivial, List.forall_mem_cons.mpr ⟨trivial, List.forall_mem_cons.mpr ⟨trivial, List.forall_mem_cons.mpr ⟨trivial, List.forall_mem_cons.mpr ⟨trivial, List.forall_mem_cons.mpr ⟨⟨ml_Mo_64, xmv_Mo_size⟩, List.forall_mem_cons.mpr ⟨trivial, List.forall_mem_cons.mpr ⟨trivial, List.forall_mem_cons.mpr ⟨fl_Mo_43, List.forall_mem_cons.mpr ⟨trivial, List.forall_mem_cons.mpr ⟨trivial, List.forall_mem_cons.mpr ⟨fl_Mo_40, List.forall_mem_cons.mpr ⟨trivial, List.forall_mem_cons.mpr ⟨fl_Mo_16, List.forall_mem_cons.mpr ⟨trivial, List.forall_mem_cons.mpr ⟨trivial, List.forall_mem_cons.mpr ⟨trivial, List.forall_mem_cons.mpr ⟨trivial, List.forall_mem_cons.mpr ⟨trivial, List.forall_mem_cons.mpr ⟨trivial, List.forall_mem_cons.mpr ⟨trivial, List.forall_mem_cons.mpr ⟨trivial, List.forall_mem_cons.mpr ⟨trivial, List.forall_mem_cons.mpr ⟨trivial, List.forall_mem_cons.mpr ⟨⟨ml_Mo_64, xmv_Mo_size⟩, List.forall_mem_cons.mpr ⟨trivial, List.forall_mem_cons.mpr ⟨trivial, List.forall_mem_cons.mpr ⟨fl_Mo_40, List.forall_mem_cons.mpr ⟨trivial, List.forall_mem_cons.mpr ⟨trivial, List.forall_mem_cons.mpr ⟨fl_Mo_43, List.forall_mem_cons.mpr ⟨trivial, List.forall_mem_cons.mpr ⟨trivial, List.forall_mem_cons.mpr ⟨trivial, List.forall_mem_cons.mpr ⟨trivial, List.forall_mem_cons.mpr ⟨trivial, List.forall_mem_cons.mpr ⟨trivial, List.forall_mem_cons.mpr ⟨trivial, List.forall_mem_cons.mpr ⟨trivial, List.forall_mem_cons.mpr ⟨trivial, fun _ h => absurd h List.not_mem_nil⟩⟩⟩⟩⟩⟩⟩⟩⟩⟩⟩⟩⟩⟩⟩⟩⟩⟩⟩⟩⟩⟩⟩⟩⟩⟩⟩⟩⟩⟩⟩⟩⟩⟩⟩⟩⟩⟩⟩⟩⟩⟩⟩⟩⟩⟩⟩⟩⟩⟩⟩⟩⟩⟩⟩⟩⟩⟩⟩⟩⟩⟩⟩⟩⟩⟩⟩⟩⟩⟩⟩⟩⟩⟩⟩⟩⟩⟩⟩⟩⟩⟩⟩⟩⟩⟩⟩⟩⟩⟩⟩⟩⟩⟩⟩⟩⟩⟩⟩
def k_Mo_coupled : xCd := [
  (0, .aload_n 0, 1, .inl (0, 0)),
  (1, .iload_n 1, 1, .inl (0, 0)),
  (2, .invokevirtual 177, 3, .inr (.inl g_Mo_isStanza)),
  (5, .ifCond .ne 5, 3, .inl (10, 0)),
  (8, .iconst (-1), 1, .inr (.inr (.inl (-1)))),
  (9, .ireturn, 1, .inl (0, 0)),
  (10, .aload_n 0, 1, .inl (0, 0)),
  (11, .iload_n 1, 1, .inl (0, 0)),
  (12, .invokevirtual 210, 3, .inr (.inl g_Mo_takesVerse)),
  (15, .bipush (-9), 2, .inr (.inr (.inl (-9)))),
  (17, .istore_n 2, 1, .inl (0, 0)),
  (18, .iconst (-1), 1, .inr (.inr (.inl (-1)))),
  (19, .istore_n 3, 1, .inl (0, 0)),
  (20, .iconst 0, 1, .inr (.inr (.inl (nI 0)))),
  (21, .istore 4, 2, .inl (0, 0)),
  (23, .iload 4, 2, .inl (0, 0)),
  (25, .aload_n 0, 1, .inl (0, 0)),
  (26, .invokevirtual 111, 3, .inr (.inl g_Mo_factorial)),
  (29, .if_icmp .ge 105, 3, .inl (134, 0)),
  (32, .aload_n 0, 1, .inl (0, 0)),
  (33, .iload 4, 2, .inl (0, 0)),
  (35, .aload_n 0, 1, .inl (0, 0)),
  (36, .getfield 16, 3, .inl (9, 4)),
  (39, .invokevirtual 114, 3, .inr (.inl g_Mo_unranks)),
  (42, .iconst 0, 1, .inr (.inr (.inl (nI 0)))),
  (43, .istore 5, 2, .inl (0, 0)),
  (45, .iconst 0, 1, .inr (.inr (.inl (nI 0)))),
  (46, .istore 6, 2, .inl (0, 0)),
  (48, .iload 6, 2, .inl (0, 0)),
  (50, .iconst 1, 1, .inr (.inr (.inl (nI 1)))),
  (51, .iadd, 1, .inl (0, 0)),
  (52, .aload_n 0, 1, .inl (0, 0)),
  (53, .invokevirtual 64, 3, .inr (.inl g_Mo_size)),
  (56, .if_icmp .ge 46, 3, .inl (102, 0)),
  (59, .iload 5, 2, .inl (0, 0)),
  (61, .aload_n 0, 1, .inl (0, 0)),
  (62, .aload_n 0, 1, .inl (0, 0)),
  (63, .getfield 16, 3, .inl (9, 4)),
  (66, .iload 6, 2, .inl (0, 0)),
  (68, .iaload, 1, .inl (0, 0)),
  (69, .invokevirtual 207, 3, .inr (.inl g_Mo_soundAt)),
  (72, .aload_n 0, 1, .inl (0, 0)),
  (73, .aload_n 0, 1, .inl (0, 0)),
  (74, .getfield 16, 3, .inl (9, 4)),
  (77, .iload 6, 2, .inl (0, 0)),
  (79, .iconst 1, 1, .inr (.inr (.inl (nI 1)))),
  (80, .iadd, 1, .inl (0, 0)),
  (81, .iaload, 1, .inl (0, 0)),
  (82, .invokevirtual 207, 3, .inr (.inl g_Mo_soundAt)),
  (85, .if_icmp .ne 7, 3, .inl (92, 0)),
  (88, .iconst 1, 1, .inr (.inr (.inl (nI 1)))),
  (89, .goto 4, 3, .inl (93, 0)),
  (92, .iconst 0, 1, .inr (.inr (.inl (nI 0)))),
  (93, .iadd, 1, .inl (0, 0)),
  (94, .istore 5, 2, .inl (0, 0)),
  (96, .iinc 6 1, 3, .inr (.inr (.inl (nI 1)))),
  (99, .goto (-51), 3, .inl (48, 0)),
  (102, .iload 5, 2, .inl (0, 0)),
  (104, .iload_n 3, 1, .inl (0, 0)),
  (105, .if_icmp .le 8, 3, .inl (113, 0)),
  (108, .iload 4, 2, .inl (0, 0)),
  (110, .goto 4, 3, .inl (114, 0)),
  (113, .iload_n 2, 1, .inl (0, 0)),
  (114, .istore_n 2, 1, .inl (0, 0)),
  (115, .iload 5, 2, .inl (0, 0)),
  (117, .iload_n 3, 1, .inl (0, 0)),
  (118, .if_icmp .le 8, 3, .inl (126, 0)),
  (121, .iload 5, 2, .inl (0, 0)),
  (123, .goto 4, 3, .inl (127, 0)),
  (126, .iload_n 3, 1, .inl (0, 0)),
  (127, .istore_n 3, 1, .inl (0, 0)),
  (128, .iinc 4 1, 3, .inr (.inr (.inl (nI 1)))),
  (131, .goto (-108), 3, .inl (23, 0)),
  (134, .iload_n 2, 1, .inl (0, 0)),
  (135, .ireturn, 1, .inl (0, 0))]
set_option maxRecDepth 100000 in
set_option maxHeartbeats 4000000 in
theorem ok_Mo_coupled : xOK g_Mo_coupled k_Mo_coupled := ⟨by decide +kernel, by decide +kernel, List.forall_mem_cons.mpr ⟨trivial, List.forall_mem_cons.mpr ⟨trivial, List.forall_mem_cons.mpr ⟨⟨ml_Mo_177, xmv_Mo_isStanza⟩, List.forall_mem_cons.mpr ⟨trivial, List.forall_mem_cons.mpr ⟨trivial, List.forall_mem_cons.mpr ⟨trivial, List.forall_mem_cons.mpr ⟨trivial, List.forall_mem_cons.mpr ⟨trivial, List.forall_mem_cons.mpr ⟨⟨ml_Mo_210, xmv_Mo_takesVerse⟩, List.forall_mem_cons.mpr ⟨trivial, List.forall_mem_cons.mpr ⟨trivial, List.forall_mem_cons.mpr ⟨trivial, List.forall_mem_cons.mpr ⟨trivial, List.forall_mem_cons.mpr ⟨trivial, List.forall_mem_cons.mpr ⟨trivial, List.forall_mem_cons.mpr ⟨trivial, List.forall_mem_cons.mpr ⟨trivial, List.forall_mem_cons.mpr ⟨⟨ml_Mo_111, xmv_Mo_factorial⟩, List.forall_mem_cons.mpr ⟨trivial, List.forall_mem_cons.mpr ⟨trivial, List.forall_mem_cons.mpr ⟨trivial, List.forall_mem_cons.mpr ⟨trivial, List.forall_mem_cons.mpr ⟨fl_Mo_16, List.forall_mem_cons.mpr ⟨⟨ml_Mo_114, xmv_Mo_unranks⟩, List.forall_mem_cons.mpr ⟨trivial, List.forall_mem_cons.mpr ⟨trivial, List.forall_mem_cons.mpr ⟨trivial, List.forall_mem_cons.mpr ⟨trivial, List.forall_mem_cons.mpr ⟨trivial, List.forall_mem_cons.mpr ⟨trivial, List.forall_mem_cons.mpr ⟨trivial, List.forall_mem_cons.mpr ⟨trivial, List.forall_mem_cons.mpr ⟨⟨ml_Mo_64, xmv_Mo_size⟩, List.forall_mem_cons.mpr ⟨trivial, List.forall_mem_cons.mpr ⟨trivial, List.forall_mem_cons.mpr ⟨trivial, List.forall_mem_cons.mpr ⟨trivial, List.forall_mem_cons.mpr ⟨fl_Mo_16, List.forall_mem_cons.mpr ⟨trivial, List.forall_mem_cons.mpr ⟨trivial, List.forall_mem_cons.mpr ⟨⟨ml_Mo_207, xmv_Mo_soundAt⟩, List.forall_mem_cons.mpr ⟨trivial, List.forall_mem_cons.mpr ⟨trivial, List.forall_mem_cons.mpr ⟨fl_Mo_16, List.forall_mem_cons.mpr ⟨trivial, List.forall_mem_cons.mpr ⟨trivial, List.forall_mem_cons.mpr ⟨trivial, List.forall_mem_cons.mpr ⟨trivial, List.forall_mem_cons.mpr ⟨⟨ml_Mo_207, xmv_Mo_soundAt⟩, List.forall_mem_cons.mpr ⟨trivial, List.forall_mem_cons.mpr ⟨trivial, List.forall_mem_cons.mpr ⟨trivial, List.forall_mem_cons.mpr ⟨trivial, List.forall_mem_cons.mpr ⟨trivial, List.forall_mem_cons.mpr ⟨trivial, List.forall_mem_cons.mpr ⟨trivial, List.forall_mem_cons.mpr ⟨trivial, List.forall_mem_cons.mpr ⟨trivial, List.forall_mem_cons.mpr ⟨trivial, List.forall_mem_cons.mpr ⟨trivial, List.forall_mem_cons.mpr ⟨trivial, List.forall_mem_cons.mpr ⟨trivial, List.forall_mem_cons.mpr ⟨trivial, List.forall_mem_cons.mpr ⟨trivial, List.forall_mem_cons.mpr ⟨trivial, List.forall_mem_cons.mpr ⟨trivial, List.forall_mem_cons.mpr ⟨trivial, List.forall_mem_cons.mpr ⟨trivial, List.forall_mem_cons.mpr ⟨trivial, List.forall_mem_cons.mpr ⟨trivial, List.forall_mem_cons.mpr ⟨trivial, List.forall_mem_cons.mpr ⟨trivial, List.forall_mem_cons.mpr ⟨trivial, List.forall_mem_cons.mpr ⟨trivial, List.forall_mem_cons.mpr ⟨trivial, fun _ h => absurd h List.not_mem_nil⟩⟩⟩⟩⟩⟩⟩⟩⟩⟩⟩⟩⟩⟩⟩⟩⟩⟩⟩⟩⟩⟩⟩⟩⟩⟩⟩⟩⟩⟩⟩⟩⟩⟩⟩⟩⟩⟩⟩⟩⟩⟩⟩⟩⟩⟩⟩⟩⟩⟩⟩⟩⟩⟩⟩⟩⟩⟩⟩⟩⟩⟩⟩⟩⟩⟩⟩⟩⟩⟩⟩⟩⟩⟩⟩⟩
def k_Mo_locked : xCd := [
  (0, .iconst 0, 1, .inr (.inr (.inl (nI 0)))),
  (1, .istore_n 1, 1, .inl (0, 0)),
  (2, .iconst 0, 1, .inr (.inr (.inl (nI 0)))),
  (3, .istore_n 2, 1, .inl (0, 0)),
  (4, .iload_n 2, 1, .inl (0, 0)),
  (5, .aload_n 0, 1, .inl (0, 0)),
  (6, .getfield 7, 3, .inl (9, 0)),
  (9, .bipush 50, 2, .inr (.inr (.inl (nI 50)))),
  (11, .iaload, 1, .inl (0, 0)),
  (12, .if_icmp .ge 42, 3, .inl (54, 0)),
  (15, .iconst 0, 1, .inr (.inr (.inl (nI 0)))),
  (16, .istore_n 3, 1, .inl (0, 0)),
  (17, .iload_n 3, 1, .inl (0, 0)),
  (18, .aload_n 0, 1, .inl (0, 0)),
  (19, .invokevirtual 64, 3, .inr (.inl g_Mo_size)),
  (22, .if_icmp .ge 26, 3, .inl (48, 0)),
  (25, .iload_n 1, 1, .inl (0, 0)),
  (26, .aload_n 0, 1, .inl (0, 0)),
  (27, .getfield 7, 3, .inl (9, 0)),
  (30, .bipush 107, 2, .inr (.inr (.inl (nI 107)))),
  (32, .aload_n 0, 1, .inl (0, 0)),
  (33, .iload_n 2, 1, .inl (0, 0)),
  (34, .iload_n 3, 1, .inl (0, 0)),
  (35, .invokevirtual 174, 3, .inr (.inl g_Mo_placeOf)),
  (38, .iadd, 1, .inl (0, 0)),
  (39, .iaload, 1, .inl (0, 0)),
  (40, .iadd, 1, .inl (0, 0)),
  (41, .istore_n 1, 1, .inl (0, 0)),
  (42, .iinc 3 1, 3, .inr (.inr (.inl (nI 1)))),
  (45, .goto (-28), 3, .inl (17, 0)),
  (48, .iinc 2 1, 3, .inr (.inr (.inl (nI 1)))),
  (51, .goto (-47), 3, .inl (4, 0)),
  (54, .iload_n 1, 1, .inl (0, 0)),
  (55, .ireturn, 1, .inl (0, 0))]
set_option maxRecDepth 100000 in
set_option maxHeartbeats 4000000 in
theorem ok_Mo_locked : xOK g_Mo_locked k_Mo_locked := ⟨by decide +kernel, by decide +kernel, List.forall_mem_cons.mpr ⟨trivial, List.forall_mem_cons.mpr ⟨trivial, List.forall_mem_cons.mpr ⟨trivial, List.forall_mem_cons.mpr ⟨trivial, List.forall_mem_cons.mpr ⟨trivial, List.forall_mem_cons.mpr ⟨trivial, List.forall_mem_cons.mpr ⟨fl_Mo_7, List.forall_mem_cons.mpr ⟨trivial, List.forall_mem_cons.mpr ⟨trivial, List.forall_mem_cons.mpr ⟨trivial, List.forall_mem_cons.mpr ⟨trivial, List.forall_mem_cons.mpr ⟨trivial, List.forall_mem_cons.mpr ⟨trivial, List.forall_mem_cons.mpr ⟨trivial, List.forall_mem_cons.mpr ⟨⟨ml_Mo_64, xmv_Mo_size⟩, List.forall_mem_cons.mpr ⟨trivial, List.forall_mem_cons.mpr ⟨trivial, List.forall_mem_cons.mpr ⟨trivial, List.forall_mem_cons.mpr ⟨fl_Mo_7, List.forall_mem_cons.mpr ⟨trivial, List.forall_mem_cons.mpr ⟨trivial, List.forall_mem_cons.mpr ⟨trivial, List.forall_mem_cons.mpr ⟨trivial, List.forall_mem_cons.mpr ⟨⟨ml_Mo_174, xmv_Mo_placeOf⟩, List.forall_mem_cons.mpr ⟨trivial, List.forall_mem_cons.mpr ⟨trivial, List.forall_mem_cons.mpr ⟨trivial, List.forall_mem_cons.mpr ⟨trivial, List.forall_mem_cons.mpr ⟨trivial, List.forall_mem_cons.mpr ⟨trivial, List.forall_mem_cons.mpr ⟨trivial, List.forall_mem_cons.mpr ⟨trivial, List.forall_mem_cons.mpr ⟨trivial, List.forall_mem_cons.mpr ⟨trivial, fun _ h => absurd h List.not_mem_nil⟩⟩⟩⟩⟩⟩⟩⟩⟩⟩⟩⟩⟩⟩⟩⟩⟩⟩⟩⟩⟩⟩⟩⟩⟩⟩⟩⟩⟩⟩⟩⟩⟩⟩⟩
def k_Mo_properMany : xCd := [
  (0, .iconst 0, 1, .inr (.inr (.inl (nI 0)))),
  (1, .istore_n 1, 1, .inl (0, 0)),
  (2, .iconst 0, 1, .inr (.inr (.inl (nI 0)))),
  (3, .istore_n 2, 1, .inl (0, 0)),
  (4, .iload_n 2, 1, .inl (0, 0)),
  (5, .aload_n 0, 1, .inl (0, 0)),
  (6, .getfield 7, 3, .inl (9, 0)),
  (9, .bipush 50, 2, .inr (.inr (.inl (nI 50)))),
  (11, .iaload, 1, .inl (0, 0)),
  (12, .if_icmp .ge 25, 3, .inl (37, 0)),
  (15, .iload_n 1, 1, .inl (0, 0)),
  (16, .aload_n 0, 1, .inl (0, 0)),
  (17, .iload_n 2, 1, .inl (0, 0)),
  (18, .invokevirtual 180, 3, .inr (.inl g_Mo_isProper)),
  (21, .ifCond .eq 7, 3, .inl (28, 0)),
  (24, .iconst 1, 1, .inr (.inr (.inl (nI 1)))),
  (25, .goto 4, 3, .inl (29, 0)),
  (28, .iconst 0, 1, .inr (.inr (.inl (nI 0)))),
  (29, .iadd, 1, .inl (0, 0)),
  (30, .istore_n 1, 1, .inl (0, 0)),
  (31, .iinc 2 1, 3, .inr (.inr (.inl (nI 1)))),
  (34, .goto (-30), 3, .inl (4, 0)),
  (37, .iload_n 1, 1, .inl (0, 0)),
  (38, .ireturn, 1, .inl (0, 0))]
set_option maxRecDepth 100000 in
set_option maxHeartbeats 4000000 in
theorem ok_Mo_properMany : xOK g_Mo_properMany k_Mo_properMany := ⟨by decide +kernel, by decide +kernel, List.forall_mem_cons.mpr ⟨trivial, List.forall_mem_cons.mpr ⟨trivial, List.forall_mem_cons.mpr ⟨trivial, List.forall_mem_cons.mpr ⟨trivial, List.forall_mem_cons.mpr ⟨trivial, List.forall_mem_cons.mpr ⟨trivial, List.forall_mem_cons.mpr ⟨fl_Mo_7, List.forall_mem_cons.mpr ⟨trivial, List.forall_mem_cons.mpr ⟨trivial, List.forall_mem_cons.mpr ⟨trivial, List.forall_mem_cons.mpr ⟨trivial, List.forall_mem_cons.mpr ⟨trivial, List.forall_mem_cons.mpr ⟨trivial, List.forall_mem_cons.mpr ⟨⟨ml_Mo_180, xmv_Mo_isProper⟩, List.forall_mem_cons.mpr ⟨trivial, List.forall_mem_cons.mpr ⟨trivial, List.forall_mem_cons.mpr ⟨trivial, List.forall_mem_cons.mpr ⟨trivial, List.forall_mem_cons.mpr ⟨trivial, List.forall_mem_cons.mpr ⟨trivial, List.forall_mem_cons.mpr ⟨trivial, List.forall_mem_cons.mpr ⟨trivial, List.forall_mem_cons.mpr ⟨trivial, List.forall_mem_cons.mpr ⟨trivial, fun _ h => absurd h List.not_mem_nil⟩⟩⟩⟩⟩⟩⟩⟩⟩⟩⟩⟩⟩⟩⟩⟩⟩⟩⟩⟩⟩⟩⟩⟩⟩
def k_Mo_told : xCd := [
  (0, .iload_n 1, 1, .inl (0, 0)),
  (1, .tableswitch 72 0 5 #[39, 44, 52, 57, 62, 67], 39, .inr (.inr (.inr (.inr (73, [(nI 0, 40), (nI 1, 45), (nI 2, 53), (nI 3, 58), (nI 4, 63), (nI 5, 68)]))))),
  (40, .aload_n 0, 1, .inl (0, 0)),
  (41, .invokevirtual 64, 3, .inr (.inl g_Mo_size)),
  (44, .ireturn, 1, .inl (0, 0)),
  (45, .aload_n 0, 1, .inl (0, 0)),
  (46, .getfield 7, 3, .inl (9, 0)),
  (49, .bipush 50, 2, .inr (.inr (.inl (nI 50)))),
  (51, .iaload, 1, .inl (0, 0)),
  (52, .ireturn, 1, .inl (0, 0)),
  (53, .aload_n 0, 1, .inl (0, 0)),
  (54, .invokevirtual 216, 3, .inr (.inl g_Mo_properMany)),
  (57, .ireturn, 1, .inl (0, 0)),
  (58, .aload_n 0, 1, .inl (0, 0)),
  (59, .invokevirtual 219, 3, .inr (.inl g_Mo_locked)),
  (62, .ireturn, 1, .inl (0, 0)),
  (63, .aload_n 0, 1, .inl (0, 0)),
  (64, .getfield 141, 3, .inl (9, 3)),
  (67, .ireturn, 1, .inl (0, 0)),
  (68, .aload_n 0, 1, .inl (0, 0)),
  (69, .getfield 53, 3, .inl (9, 1)),
  (72, .ireturn, 1, .inl (0, 0)),
  (73, .iconst (-1), 1, .inr (.inr (.inl (-1)))),
  (74, .ireturn, 1, .inl (0, 0))]
set_option maxRecDepth 100000 in
set_option maxHeartbeats 4000000 in
theorem ok_Mo_told : xOK g_Mo_told k_Mo_told := ⟨by decide +kernel, by decide +kernel, List.forall_mem_cons.mpr ⟨trivial, List.forall_mem_cons.mpr ⟨trivial, List.forall_mem_cons.mpr ⟨trivial, List.forall_mem_cons.mpr ⟨⟨ml_Mo_64, xmv_Mo_size⟩, List.forall_mem_cons.mpr ⟨trivial, List.forall_mem_cons.mpr ⟨trivial, List.forall_mem_cons.mpr ⟨fl_Mo_7, List.forall_mem_cons.mpr ⟨trivial, List.forall_mem_cons.mpr ⟨trivial, List.forall_mem_cons.mpr ⟨trivial, List.forall_mem_cons.mpr ⟨trivial, List.forall_mem_cons.mpr ⟨⟨ml_Mo_216, xmv_Mo_properMany⟩, List.forall_mem_cons.mpr ⟨trivial, List.forall_mem_cons.mpr ⟨trivial, List.forall_mem_cons.mpr ⟨⟨ml_Mo_219, xmv_Mo_locked⟩, List.forall_mem_cons.mpr ⟨trivial, List.forall_mem_cons.mpr ⟨trivial, List.forall_mem_cons.mpr ⟨fl_Mo_141, List.forall_mem_cons.mpr ⟨trivial, List.forall_mem_cons.mpr ⟨trivial, List.forall_mem_cons.mpr ⟨fl_Mo_53, List.forall_mem_cons.mpr ⟨trivial, List.forall_mem_cons.mpr ⟨trivial, List.forall_mem_cons.mpr ⟨trivial, fun _ h => absurd h List.not_mem_nil⟩⟩⟩⟩⟩⟩⟩⟩⟩⟩⟩⟩⟩⟩⟩⟩⟩⟩⟩⟩⟩⟩⟩⟩⟩
def k_Mo_undo : xCd := [
  (0, .aload_n 0, 1, .inl (0, 0)),
  (1, .getfield 53, 3, .inl (9, 1)),
  (4, .ifCond .ne 6, 3, .inl (10, 0)),
  (7, .bipush (-2), 2, .inr (.inr (.inl (-2)))),
  (9, .ireturn, 1, .inl (0, 0)),
  (10, .iconst 0, 1, .inr (.inr (.inl (nI 0)))),
  (11, .istore_n 1, 1, .inl (0, 0)),
  (12, .iload_n 1, 1, .inl (0, 0)),
  (13, .sipush 180, 3, .inr (.inr (.inl (nI 180)))),
  (16, .if_icmp .ge 30, 3, .inl (46, 0)),
  (19, .aload_n 0, 1, .inl (0, 0)),
  (20, .getfield 7, 3, .inl (9, 0)),
  (23, .iload_n 1, 1, .inl (0, 0)),
  (24, .aload_n 0, 1, .inl (0, 0)),
  (25, .getfield 7, 3, .inl (9, 0)),
  (28, .sipush 180, 3, .inr (.inr (.inl (nI 180)))),
  (31, .aload_n 0, 1, .inl (0, 0)),
  (32, .getfield 53, 3, .inl (9, 1)),
  (35, .imul, 1, .inl (0, 0)),
  (36, .iload_n 1, 1, .inl (0, 0)),
  (37, .iadd, 1, .inl (0, 0)),
  (38, .iaload, 1, .inl (0, 0)),
  (39, .iastore, 1, .inl (0, 0)),
  (40, .iinc 1 1, 3, .inr (.inr (.inl (nI 1)))),
  (43, .goto (-31), 3, .inl (12, 0)),
  (46, .aload_n 0, 1, .inl (0, 0)),
  (47, .dup, 1, .inl (0, 0)),
  (48, .getfield 53, 3, .inl (9, 1)),
  (51, .iconst 1, 1, .inr (.inr (.inl (nI 1)))),
  (52, .isub, 1, .inl (0, 0)),
  (53, .putfield 53, 3, .inl (9, 1)),
  (56, .aload_n 0, 1, .inl (0, 0)),
  (57, .getfield 53, 3, .inl (9, 1)),
  (60, .ireturn, 1, .inl (0, 0))]
set_option maxRecDepth 100000 in
set_option maxHeartbeats 4000000 in
theorem ok_Mo_undo : xOK g_Mo_undo k_Mo_undo := ⟨by decide +kernel, by decide +kernel, List.forall_mem_cons.mpr ⟨trivial, List.forall_mem_cons.mpr ⟨fl_Mo_53, List.forall_mem_cons.mpr ⟨trivial, List.forall_mem_cons.mpr ⟨trivial, List.forall_mem_cons.mpr ⟨trivial, List.forall_mem_cons.mpr ⟨trivial, List.forall_mem_cons.mpr ⟨trivial, List.forall_mem_cons.mpr ⟨trivial, List.forall_mem_cons.mpr ⟨trivial, List.forall_mem_cons.mpr ⟨trivial, List.forall_mem_cons.mpr ⟨trivial, List.forall_mem_cons.mpr ⟨fl_Mo_7, List.forall_mem_cons.mpr ⟨trivial, List.forall_mem_cons.mpr ⟨trivial, List.forall_mem_cons.mpr ⟨fl_Mo_7, List.forall_mem_cons.mpr ⟨trivial, List.forall_mem_cons.mpr ⟨trivial, List.forall_mem_cons.mpr ⟨fl_Mo_53, List.forall_mem_cons.mpr ⟨trivial, List.forall_mem_cons.mpr ⟨trivial, List.forall_mem_cons.mpr ⟨trivial, List.forall_mem_cons.mpr ⟨trivial, List.forall_mem_cons.mpr ⟨trivial, List.forall_mem_cons.mpr ⟨trivial, List.forall_mem_cons.mpr ⟨trivial, List.forall_mem_cons.mpr ⟨trivial, List.forall_mem_cons.mpr ⟨trivial, List.forall_mem_cons.mpr ⟨fl_Mo_53, List.forall_mem_cons.mpr ⟨trivial, List.forall_mem_cons.mpr ⟨trivial, List.forall_mem_cons.mpr ⟨⟨fl_Mo_53, nf_9_1 _⟩, List.forall_mem_cons.mpr ⟨trivial, List.forall_mem_cons.mpr ⟨fl_Mo_53, List.forall_mem_cons.mpr ⟨trivial, fun _ h => absurd h List.not_mem_nil⟩⟩⟩⟩⟩⟩⟩⟩⟩⟩⟩⟩⟩⟩⟩⟩⟩⟩⟩⟩⟩⟩⟩⟩⟩⟩⟩⟩⟩⟩⟩⟩⟩⟩⟩
def k_Mo_mixedStanza : xCd := [
  (0, .lload_n 1, 1, .inl (0, 0)),
  (1, .lstore 4, 2, .inl (0, 0)),
  (3, .iconst 0, 1, .inr (.inr (.inl (nI 0)))),
  (4, .istore 6, 2, .inl (0, 0)),
  (6, .iload 6, 2, .inl (0, 0)),
  (8, .aload_n 0, 1, .inl (0, 0)),
  (9, .invokevirtual 64, 3, .inr (.inl g_Mo_size)),
  (12, .if_icmp .ge 34, 3, .inl (46, 0)),
  (15, .ldc2_w 222, 3, .inr (.inr (.inr (.inl 31)))),
  (18, .lload 4, 2, .inl (0, 0)),
  (20, .lmul, 1, .inl (0, 0)),
  (21, .aload_n 0, 1, .inl (0, 0)),
  (22, .getfield 7, 3, .inl (9, 0)),
  (25, .bipush 51, 2, .inr (.inr (.inl (nI 51)))),
  (27, .aload_n 0, 1, .inl (0, 0)),
  (28, .iload_n 3, 1, .inl (0, 0)),
  (29, .iload 6, 2, .inl (0, 0)),
  (31, .invokevirtual 174, 3, .inr (.inl g_Mo_placeOf)),
  (34, .iadd, 1, .inl (0, 0)),
  (35, .iaload, 1, .inl (0, 0)),
  (36, .i2l, 1, .inl (0, 0)),
  (37, .ladd, 1, .inl (0, 0)),
  (38, .lstore 4, 2, .inl (0, 0)),
  (40, .iinc 6 1, 3, .inr (.inr (.inl (nI 1)))),
  (43, .goto (-37), 3, .inl (6, 0)),
  (46, .iconst 0, 1, .inr (.inr (.inl (nI 0)))),
  (47, .istore 6, 2, .inl (0, 0)),
  (49, .iload 6, 2, .inl (0, 0)),
  (51, .aload_n 0, 1, .inl (0, 0)),
  (52, .invokevirtual 64, 3, .inr (.inl g_Mo_size)),
  (55, .if_icmp .ge 34, 3, .inl (89, 0)),
  (58, .ldc2_w 222, 3, .inr (.inr (.inr (.inl 31)))),
  (61, .lload 4, 2, .inl (0, 0)),
  (63, .lmul, 1, .inl (0, 0)),
  (64, .aload_n 0, 1, .inl (0, 0)),
  (65, .getfield 7, 3, .inl (9, 0)),
  (68, .bipush 107, 2, .inr (.inr (.inl (nI 107)))),
  (70, .aload_n 0, 1, .inl (0, 0)),
  (71, .iload_n 3, 1, .inl (0, 0)),
  (72, .iload 6, 2, .inl (0, 0)),
  (74, .invokevirtual 174, 3, .inr (.inl g_Mo_placeOf)),
  (77, .iadd, 1, .inl (0, 0)),
  (78, .iaload, 1, .inl (0, 0)),
  (79, .i2l, 1, .inl (0, 0)),
  (80, .ladd, 1, .inl (0, 0)),
  (81, .lstore 4, 2, .inl (0, 0)),
  (83, .iinc 6 1, 3, .inr (.inr (.inl (nI 1)))),
  (86, .goto (-37), 3, .inl (49, 0)),
  (89, .ldc2_w 222, 3, .inr (.inr (.inr (.inl 31)))),
  (92, .lload 4, 2, .inl (0, 0)),
  (94, .lmul, 1, .inl (0, 0)),
  (95, .aload_n 0, 1, .inl (0, 0)),
  (96, .iload_n 3, 1, .inl (0, 0)),
  (97, .invokevirtual 186, 3, .inr (.inl g_Mo_turningOf)),
  (100, .i2l, 1, .inl (0, 0)),
  (101, .ladd, 1, .inl (0, 0)),
  (102, .lstore 4, 2, .inl (0, 0)),
  (104, .ldc2_w 222, 3, .inr (.inr (.inr (.inl 31)))),
  (107, .lload 4, 2, .inl (0, 0)),
  (109, .lmul, 1, .inl (0, 0)),
  (110, .aload_n 0, 1, .inl (0, 0)),
  (111, .iload_n 3, 1, .inl (0, 0)),
  (112, .invokevirtual 224, 3, .inr (.inl g_Mo_scheme)),
  (115, .i2l, 1, .inl (0, 0)),
  (116, .ladd, 1, .inl (0, 0)),
  (117, .lreturn, 1, .inl (0, 0))]
set_option maxRecDepth 100000 in
set_option maxHeartbeats 4000000 in
theorem ok_Mo_mixedStanza : xOK g_Mo_mixedStanza k_Mo_mixedStanza := ⟨by decide +kernel, by decide +kernel, List.forall_mem_cons.mpr ⟨trivial, List.forall_mem_cons.mpr ⟨trivial, List.forall_mem_cons.mpr ⟨trivial, List.forall_mem_cons.mpr ⟨trivial, List.forall_mem_cons.mpr ⟨trivial, List.forall_mem_cons.mpr ⟨trivial, List.forall_mem_cons.mpr ⟨⟨ml_Mo_64, xmv_Mo_size⟩, List.forall_mem_cons.mpr ⟨trivial, List.forall_mem_cons.mpr ⟨lw_gm 1203 rfl rfl, List.forall_mem_cons.mpr ⟨trivial, List.forall_mem_cons.mpr ⟨trivial, List.forall_mem_cons.mpr ⟨trivial, List.forall_mem_cons.mpr ⟨fl_Mo_7, List.forall_mem_cons.mpr ⟨trivial, List.forall_mem_cons.mpr ⟨trivial, List.forall_mem_cons.mpr ⟨trivial, List.forall_mem_cons.mpr ⟨trivial, List.forall_mem_cons.mpr ⟨⟨ml_Mo_174, xmv_Mo_placeOf⟩, List.forall_mem_cons.mpr ⟨trivial, List.forall_mem_cons.mpr ⟨trivial, List.forall_mem_cons.mpr ⟨trivial, List.forall_mem_cons.mpr ⟨trivial, List.forall_mem_cons.mpr ⟨trivial, List.forall_mem_cons.mpr ⟨trivial, List.forall_mem_cons.mpr ⟨trivial, List.forall_mem_cons.mpr ⟨trivial, List.forall_mem_cons.mpr ⟨trivial, List.forall_mem_cons.mpr ⟨trivial, List.forall_mem_cons.mpr ⟨trivial, List.forall_mem_cons.mpr ⟨⟨ml_Mo_64, xmv_Mo_size⟩, List.forall_mem_cons.mpr ⟨trivial, List.forall_mem_cons.mpr ⟨lw_gm 1203 rfl rfl, List.forall_mem_cons.mpr ⟨trivial, List.forall_mem_cons.mpr ⟨trivial, List.forall_mem_cons.mpr ⟨trivial, List.forall_mem_cons.mpr ⟨fl_Mo_7, List.forall_mem_cons.mpr ⟨trivial, List.forall_mem_cons.mpr ⟨trivial, List.forall_mem_cons.mpr ⟨trivial, List.forall_mem_cons.mpr ⟨trivial, List.forall_mem_cons.mpr ⟨⟨ml_Mo_174, xmv_Mo_placeOf⟩, List.forall_mem_cons.mpr ⟨trivial, List.forall_mem_cons.mpr ⟨trivial, List.forall_mem_cons.mpr ⟨trivial, List.forall_mem_cons.mpr ⟨trivial, List.forall_mem_cons.mpr ⟨trivial, List.forall_mem_cons.mpr ⟨trivial, List.forall_mem_cons.mpr ⟨trivial, List.forall_mem_cons.mpr ⟨lw_gm 1203 rfl rfl, List.forall_mem_cons.mpr ⟨trivial, List.forall_mem_cons.mpr ⟨trivial, List.forall_mem_cons.mpr ⟨trivial, List.forall_mem_cons.mpr ⟨trivial, List.forall_mem_cons.mpr ⟨⟨ml_Mo_186, xmv_Mo_turningOf⟩, List.forall_mem_cons.mpr ⟨trivial, List.forall_mem_cons.mpr ⟨trivial, List.forall_mem_cons.mpr ⟨trivial, List.forall_mem_cons.mpr ⟨lw_gm 1203 rfl rfl, List.forall_mem_cons.mpr ⟨trivial, List.forall_mem_cons.mpr ⟨trivial, List.forall_mem_cons.mpr ⟨trivial, List.forall_mem_cons.mpr ⟨trivial, List.forall_mem_cons.mpr ⟨⟨ml_Mo_224, xmv_Mo_scheme⟩, List.forall_mem_cons.mpr ⟨trivial, List.forall_mem_cons.mpr ⟨trivial, List.forall_mem_cons.mpr ⟨trivial, fun _ h => absurd h List.not_mem_nil⟩⟩⟩⟩⟩⟩⟩⟩⟩⟩⟩⟩⟩⟩⟩⟩⟩⟩⟩⟩⟩⟩⟩⟩⟩⟩⟩⟩⟩⟩⟩⟩⟩⟩⟩⟩⟩⟩⟩⟩⟩⟩⟩⟩⟩⟩⟩⟩⟩⟩⟩⟩⟩⟩⟩⟩⟩⟩⟩⟩⟩⟩⟩⟩⟩⟩⟩
def k_Mo_mixedTail : xCd := [
  (0, .lload_n 1, 1, .inl (0, 0)),
  (1, .lstore_n 3, 1, .inl (0, 0)),
  (2, .iconst 0, 1, .inr (.inr (.inl (nI 0)))),
  (3, .istore 5, 2, .inl (0, 0)),
  (5, .iload 5, 2, .inl (0, 0)),
  (7, .iconst 3, 1, .inr (.inr (.inl (nI 3)))),
  (8, .if_icmp .gt 23, 3, .inl (31, 0)),
  (11, .ldc2_w 222, 3, .inr (.inr (.inr (.inl 31)))),
  (14, .lload_n 3, 1, .inl (0, 0)),
  (15, .lmul, 1, .inl (0, 0)),
  (16, .aload_n 0, 1, .inl (0, 0)),
  (17, .iload 5, 2, .inl (0, 0)),
  (19, .invokevirtual 227, 3, .inr (.inl g_Mo_tail)),
  (22, .i2l, 1, .inl (0, 0)),
  (23, .ladd, 1, .inl (0, 0)),
  (24, .lstore_n 3, 1, .inl (0, 0)),
  (25, .iinc 5 1, 3, .inr (.inr (.inl (nI 1)))),
  (28, .goto (-23), 3, .inl (5, 0)),
  (31, .iconst 0, 1, .inr (.inr (.inl (nI 0)))),
  (32, .istore 5, 2, .inl (0, 0)),
  (34, .iload 5, 2, .inl (0, 0)),
  (36, .aload_n 0, 1, .inl (0, 0)),
  (37, .getfield 7, 3, .inl (9, 0)),
  (40, .sipush 163, 3, .inr (.inr (.inl (nI 163)))),
  (43, .iaload, 1, .inl (0, 0)),
  (44, .if_icmp .ge 58, 3, .inl (102, 0)),
  (47, .iconst 0, 1, .inr (.inr (.inl (nI 0)))),
  (48, .istore 6, 2, .inl (0, 0)),
  (50, .iload 6, 2, .inl (0, 0)),
  (52, .aload_n 0, 1, .inl (0, 0)),
  (53, .getfield 7, 3, .inl (9, 0)),
  (56, .sipush 164, 3, .inr (.inr (.inl (nI 164)))),
  (59, .iload 5, 2, .inl (0, 0)),
  (61, .iadd, 1, .inl (0, 0)),
  (62, .iaload, 1, .inl (0, 0)),
  (63, .if_icmp .ge 33, 3, .inl (96, 0)),
  (66, .ldc2_w 222, 3, .inr (.inr (.inr (.inl 31)))),
  (69, .lload_n 3, 1, .inl (0, 0)),
  (70, .lmul, 1, .inl (0, 0)),
  (71, .aload_n 0, 1, .inl (0, 0)),
  (72, .getfield 7, 3, .inl (9, 0)),
  (75, .sipush 168, 3, .inr (.inr (.inl (nI 168)))),
  (78, .iconst 3, 1, .inr (.inr (.inl (nI 3)))),
  (79, .iload 5, 2, .inl (0, 0)),
  (81, .imul, 1, .inl (0, 0)),
  (82, .iadd, 1, .inl (0, 0)),
  (83, .iload 6, 2, .inl (0, 0)),
  (85, .iadd, 1, .inl (0, 0)),
  (86, .iaload, 1, .inl (0, 0)),
  (87, .i2l, 1, .inl (0, 0)),
  (88, .ladd, 1, .inl (0, 0)),
  (89, .lstore_n 3, 1, .inl (0, 0)),
  (90, .iinc 6 1, 3, .inr (.inr (.inl (nI 1)))),
  (93, .goto (-43), 3, .inl (50, 0)),
  (96, .iinc 5 1, 3, .inr (.inr (.inl (nI 1)))),
  (99, .goto (-65), 3, .inl (34, 0)),
  (102, .lload_n 3, 1, .inl (0, 0)),
  (103, .lreturn, 1, .inl (0, 0))]
set_option maxRecDepth 100000 in
set_option maxHeartbeats 4000000 in
theorem ok_Mo_mixedTail : xOK g_Mo_mixedTail k_Mo_mixedTail := ⟨by decide +kernel, by decide +kernel, List.forall_mem_cons.mpr ⟨trivial, List.forall_mem_cons.mpr ⟨trivial, List.forall_mem_cons.mpr ⟨trivial, List.forall_mem_cons.mpr ⟨trivial, List.forall_mem_cons.mpr ⟨trivial, List.forall_mem_cons.mpr ⟨trivial, List.forall_mem_cons.mpr ⟨trivial, List.forall_mem_cons.mpr ⟨lw_gm 1203 rfl rfl, List.forall_mem_cons.mpr ⟨trivial, List.forall_mem_cons.mpr ⟨trivial, List.forall_mem_cons.mpr ⟨trivial, List.forall_mem_cons.mpr ⟨trivial, List.forall_mem_cons.mpr ⟨⟨ml_Mo_227, xmv_Mo_tail⟩, List.forall_mem_cons.mpr ⟨trivial, List.forall_mem_cons.mpr ⟨trivial, List.forall_mem_cons.mpr ⟨trivial, List.forall_mem_cons.mpr ⟨trivial, List.forall_mem_cons.mpr ⟨trivial, List.forall_mem_cons.mpr ⟨trivial, List.forall_mem_cons.mpr ⟨trivial, List.forall_mem_cons.mpr ⟨trivial, List.forall_mem_cons.mpr ⟨trivial, List.forall_mem_cons.mpr ⟨fl_Mo_7, List.forall_mem_cons.mpr ⟨trivial, List.forall_mem_cons.mpr ⟨trivial, List.forall_mem_cons.mpr ⟨trivial, List.forall_mem_cons.mpr ⟨trivial, List.forall_mem_cons.mpr ⟨trivial, List.forall_mem_cons.mpr ⟨trivial, List.forall_mem_cons.mpr ⟨trivial, List.forall_mem_cons.mpr ⟨fl_Mo_7, List.forall_mem_cons.mpr ⟨trivial, List.forall_mem_cons.mpr ⟨trivial, List.forall_mem_cons.mpr ⟨trivial, List.forall_mem_cons.mpr ⟨trivial, List.forall_mem_cons.mpr ⟨trivial, List.forall_mem_cons.mpr ⟨lw_gm 1203 rfl rfl, List.forall_mem_cons.mpr ⟨trivial, List.forall_mem_cons.mpr ⟨trivial, List.forall_mem_cons.mpr ⟨trivial, List.forall_mem_cons.mpr ⟨fl_Mo_7, List.forall_mem_cons.mpr ⟨trivial, List.forall_mem_cons.mpr ⟨trivial, List.forall_mem_cons.mpr ⟨trivial, List.forall_mem_cons.mpr ⟨trivial, List.forall_mem_cons.mpr ⟨trivial, List.forall_mem_cons.mpr ⟨trivial, List.forall_mem_cons.mpr ⟨trivial, List.forall_mem_cons.mpr ⟨trivial, List.forall_mem_cons.mpr ⟨trivial, List.forall_mem_cons.mpr ⟨trivial, List.forall_mem_cons.mpr ⟨trivial, List.forall_mem_cons.mpr ⟨trivial, List.forall_mem_cons.mpr ⟨trivial, List.forall_mem_cons.mpr ⟨trivial, List.forall_mem_cons.mpr ⟨trivial, List.forall_mem_cons.mpr ⟨trivial, List.forall_mem_cons.mpr ⟨trivial, fun _ h => absurd h List.not_mem_nil⟩⟩⟩⟩⟩⟩⟩⟩⟩⟩⟩⟩⟩⟩⟩⟩⟩⟩⟩⟩⟩⟩⟩⟩⟩⟩⟩⟩⟩⟩⟩⟩⟩⟩⟩⟩⟩⟩⟩⟩⟩⟩⟩⟩⟩⟩⟩⟩⟩⟩⟩⟩⟩⟩⟩⟩⟩⟩⟩
def k_Mo_digest : xCd := [
  (0, .ldc2_w 230, 3, .inr (.inr (.inr (.inl 12674)))),
  (3, .lstore_n 1, 1, .inl (0, 0)),
  (4, .iconst 0, 1, .inr (.inr (.inl (nI 0)))),
  (5, .istore_n 3, 1, .inl (0, 0)),
  (6, .iload_n 3, 1, .inl (0, 0)),
  (7, .iconst 5, 1, .inr (.inr (.inl (nI 5)))),
  (8, .if_icmp .gt 22, 3, .inl (30, 0)),
  (11, .ldc2_w 222, 3, .inr (.inr (.inr (.inl 31)))),
  (14, .lload_n 1, 1, .inl (0, 0)),
  (15, .lmul, 1, .inl (0, 0)),
  (16, .aload_n 0, 1, .inl (0, 0)),
  (17, .iload_n 3, 1, .inl (0, 0)),
  (18, .invokevirtual 232, 3, .inr (.inl g_Mo_told)),
  (21, .i2l, 1, .inl (0, 0)),
  (22, .ladd, 1, .inl (0, 0)),
  (23, .lstore_n 1, 1, .inl (0, 0)),
  (24, .iinc 3 1, 3, .inr (.inr (.inl (nI 1)))),
  (27, .goto (-21), 3, .inl (6, 0)),
  (30, .iconst 0, 1, .inr (.inr (.inl (nI 0)))),
  (31, .istore_n 3, 1, .inl (0, 0)),
  (32, .iload_n 3, 1, .inl (0, 0)),
  (33, .aload_n 0, 1, .inl (0, 0)),
  (34, .invokevirtual 64, 3, .inr (.inl g_Mo_size)),
  (37, .if_icmp .ge 25, 3, .inl (62, 0)),
  (40, .ldc2_w 222, 3, .inr (.inr (.inr (.inl 31)))),
  (43, .lload_n 1, 1, .inl (0, 0)),
  (44, .lmul, 1, .inl (0, 0)),
  (45, .aload_n 0, 1, .inl (0, 0)),
  (46, .getfield 7, 3, .inl (9, 0)),
  (49, .iconst 1, 1, .inr (.inr (.inl (nI 1)))),
  (50, .iload_n 3, 1, .inl (0, 0)),
  (51, .iadd, 1, .inl (0, 0)),
  (52, .iaload, 1, .inl (0, 0)),
  (53, .i2l, 1, .inl (0, 0)),
  (54, .ladd, 1, .inl (0, 0)),
  (55, .lstore_n 1, 1, .inl (0, 0)),
  (56, .iinc 3 1, 3, .inr (.inr (.inl (nI 1)))),
  (59, .goto (-27), 3, .inl (32, 0)),
  (62, .iconst 0, 1, .inr (.inr (.inl (nI 0)))),
  (63, .istore_n 3, 1, .inl (0, 0)),
  (64, .iload_n 3, 1, .inl (0, 0)),
  (65, .bipush 6, 2, .inr (.inr (.inl (nI 6)))),
  (67, .if_icmp .ge 40, 3, .inl (107, 0)),
  (70, .iconst 0, 1, .inr (.inr (.inl (nI 0)))),
  (71, .istore 4, 2, .inl (0, 0)),
  (73, .iload 4, 2, .inl (0, 0)),
  (75, .bipush 6, 2, .inr (.inr (.inl (nI 6)))),
  (77, .if_icmp .gt 24, 3, .inl (101, 0)),
  (80, .ldc2_w 222, 3, .inr (.inr (.inr (.inl 31)))),
  (83, .lload_n 1, 1, .inl (0, 0)),
  (84, .lmul, 1, .inl (0, 0)),
  (85, .aload_n 0, 1, .inl (0, 0)),
  (86, .iload_n 3, 1, .inl (0, 0)),
  (87, .iload 4, 2, .inl (0, 0)),
  (89, .invokevirtual 125, 3, .inr (.inl g_Mo_turnOf)),
  (92, .i2l, 1, .inl (0, 0)),
  (93, .ladd, 1, .inl (0, 0)),
  (94, .lstore_n 1, 1, .inl (0, 0)),
  (95, .iinc 4 1, 3, .inr (.inr (.inl (nI 1)))),
  (98, .goto (-25), 3, .inl (73, 0)),
  (101, .iinc 3 1, 3, .inr (.inr (.inl (nI 1)))),
  (104, .goto (-40), 3, .inl (64, 0)),
  (107, .iconst 0, 1, .inr (.inr (.inl (nI 0)))),
  (108, .istore_n 3, 1, .inl (0, 0)),
  (109, .iload_n 3, 1, .inl (0, 0)),
  (110, .aload_n 0, 1, .inl (0, 0)),
  (111, .getfield 7, 3, .inl (9, 0)),
  (114, .bipush 50, 2, .inr (.inr (.inl (nI 50)))),
  (116, .iaload, 1, .inl (0, 0)),
  (117, .if_icmp .ge 16, 3, .inl (133, 0)),
  (120, .aload_n 0, 1, .inl (0, 0)),
  (121, .lload_n 1, 1, .inl (0, 0)),
  (122, .iload_n 3, 1, .inl (0, 0)),
  (123, .invokevirtual 235, 3, .inr (.inl g_Mo_mixedStanza)),
  (126, .lstore_n 1, 1, .inl (0, 0)),
  (127, .iinc 3 1, 3, .inr (.inr (.inl (nI 1)))),
  (130, .goto (-21), 3, .inl (109, 0)),
  (133, .iconst 0, 1, .inr (.inr (.inl (nI 0)))),
  (134, .istore_n 3, 1, .inl (0, 0)),
  (135, .iload_n 3, 1, .inl (0, 0)),
  (136, .bipush 6, 2, .inr (.inr (.inl (nI 6)))),
  (138, .if_icmp .ge 30, 3, .inl (168, 0)),
  (141, .ldc2_w 222, 3, .inr (.inr (.inr (.inl 31)))),
  (144, .lload_n 1, 1, .inl (0, 0)),
  (145, .lmul, 1, .inl (0, 0)),
  (146, .aload_n 0, 1, .inl (0, 0)),
  (147, .iload_n 3, 1, .inl (0, 0)),
  (148, .invokevirtual 192, 3, .inr (.inl g_Mo_isFollowed)),
  (151, .ifCond .eq 7, 3, .inl (158, 0)),
  (154, .iconst 1, 1, .inr (.inr (.inl (nI 1)))),
  (155, .goto 4, 3, .inl (159, 0)),
  (158, .iconst 0, 1, .inr (.inr (.inl (nI 0)))),
  (159, .i2l, 1, .inl (0, 0)),
  (160, .ladd, 1, .inl (0, 0)),
  (161, .lstore_n 1, 1, .inl (0, 0)),
  (162, .iinc 3 1, 3, .inr (.inr (.inl (nI 1)))),
  (165, .goto (-30), 3, .inl (135, 0)),
  (168, .aload_n 0, 1, .inl (0, 0)),
  (169, .lload_n 1, 1, .inl (0, 0)),
  (170, .invokevirtual 239, 3, .inr (.inl g_Mo_mixedTail)),
  (173, .lreturn, 1, .inl (0, 0))]
set_option maxRecDepth 100000 in
set_option maxHeartbeats 4000000 in
theorem ok_Mo_digest : xOK g_Mo_digest k_Mo_digest := ⟨by decide +kernel, by decide +kernel, List.forall_mem_cons.mpr ⟨lw_gm 1202 rfl rfl, List.forall_mem_cons.mpr ⟨trivial, List.forall_mem_cons.mpr ⟨trivial, List.forall_mem_cons.mpr ⟨trivial, List.forall_mem_cons.mpr ⟨trivial, List.forall_mem_cons.mpr ⟨trivial, List.forall_mem_cons.mpr ⟨trivial, List.forall_mem_cons.mpr ⟨lw_gm 1203 rfl rfl, List.forall_mem_cons.mpr ⟨trivial, List.forall_mem_cons.mpr ⟨trivial, List.forall_mem_cons.mpr ⟨trivial, List.forall_mem_cons.mpr ⟨trivial, List.forall_mem_cons.mpr ⟨⟨ml_Mo_232, xmv_Mo_told⟩, List.forall_mem_cons.mpr ⟨trivial, List.forall_mem_cons.mpr ⟨trivial, List.forall_mem_cons.mpr ⟨trivial, List.forall_mem_cons.mpr ⟨trivial, List.forall_mem_cons.mpr ⟨trivial, List.forall_mem_cons.mpr ⟨trivial, List.forall_mem_cons.mpr ⟨trivial, List.forall_mem_cons.mpr ⟨trivial, List.forall_mem_cons.mpr ⟨trivial, List.forall_mem_cons.mpr ⟨⟨ml_Mo_64, xmv_Mo_size⟩, List.forall_mem_cons.mpr ⟨trivial, List.forall_mem_cons.mpr ⟨lw_gm 1203 rfl rfl, List.forall_mem_cons.mpr ⟨trivial, List.forall_mem_cons.mpr ⟨trivial, List.forall_mem_cons.mpr ⟨trivial, List.forall_mem_cons.mpr ⟨fl_Mo_7, List.forall_mem_cons.mpr ⟨trivial, List.forall_mem_cons.mpr ⟨trivial, List.forall_mem_cons.mpr ⟨trivial, List.forall_mem_cons.mpr ⟨trivial, List.forall_mem_cons.mpr ⟨trivial, List.forall_mem_cons.mpr ⟨trivial, List.forall_mem_cons.mpr ⟨trivial, List.forall_mem_cons.mpr ⟨trivial, List.forall_mem_cons.mpr ⟨trivial, List.forall_mem_cons.mpr ⟨trivial, List.forall_mem_cons.mpr ⟨trivial, List.forall_mem_cons.mpr ⟨trivial, List.forall_mem_cons.mpr ⟨trivial, List.forall_mem_cons.mpr ⟨trivial, List.forall_mem_cons.mpr ⟨trivial, List.forall_mem_cons.mpr ⟨trivial, List.forall_mem_cons.mpr ⟨trivial, List.forall_mem_cons.mpr ⟨trivial, List.forall_mem_cons.mpr ⟨trivial, List.forall_mem_cons.mpr ⟨lw_gm 1203 rfl rfl, List.forall_mem_cons.mpr ⟨trivial, List.forall_mem_cons.mpr ⟨trivial, List.forall_mem_cons.mpr ⟨trivial, List.forall_mem_cons.mpr ⟨trivial, List.forall_mem_cons.mpr ⟨trivial, List.forall_mem_cons.mpr ⟨⟨ml_Mo_125, xmv_Mo_turnOf⟩, List.forall_mem_cons.mpr ⟨trivial, List.forall_mem_cons.mpr ⟨trivial, List.forall_mem_cons.mpr ⟨trivial, List.forall_mem_cons.mpr ⟨trivial, List.forall_mem_cons.mpr ⟨trivial, List.forall_mem_cons.mpr ⟨trivial, List.forall_mem_cons.mpr ⟨trivial, List.forall_mem_cons.mpr ⟨trivial, List.forall_mem_cons.mpr ⟨trivial, List.forall_mem_cons.mpr ⟨trivial, List.forall_mem_cons.mpr ⟨trivial, List.forall_mem_cons.mpr ⟨fl_Mo_7, List.forall_mem_cons.mpr ⟨trivial, List.forall_mem_cons.mpr ⟨trivial, List.forall_mem_cons.mpr ⟨trivial, List.forall_mem_cons.mpr ⟨trivial, List.forall_mem_cons.mpr ⟨trivial, List.forall_mem_cons.mpr ⟨trivial, List.forall_mem_cons.mpr ⟨⟨ml_Mo_235, xmv_Mo_mixedStanza⟩, List.forall_mem_cons.mpr ⟨trivial, List.forall_mem_cons.mpr ⟨trivial, List.forall_mem_cons.mpr ⟨trivial, List.forall_mem_cons.mpr ⟨trivial, List.forall_mem_cons.mpr ⟨trivial, List.forall_mem_cons.mpr ⟨trivial, List.forall_mem_cons.mpr ⟨trivial, List.forall_mem_cons.mpr ⟨trivial, List.forall_mem_cons.mpr ⟨lw_gm 1203 rfl rfl, List.forall_mem_cons.mpr ⟨trivial, List.forall_mem_cons.mpr ⟨trivial, List.forall_mem_cons.mpr ⟨trivial, List.forall_mem_cons.mpr ⟨trivial, List.forall_mem_cons.mpr ⟨⟨ml_Mo_192, xmv_Mo_isFollowed⟩, List.forall_mem_cons.mpr ⟨trivial, List.forall_mem_cons.mpr ⟨trivial, List.forall_mem_cons.mpr ⟨trivial, List.forall_mem_cons.mpr ⟨trivial, List.forall_mem_cons.mpr ⟨trivial, List.forall_mem_cons.mpr ⟨trivial, List.forall_mem_cons.mpr ⟨trivial, List.forall_mem_cons.mpr ⟨trivial, List.forall_mem_cons.mpr ⟨trivial, List.forall_mem_cons.mpr ⟨trivial, List.forall_mem_cons.mpr ⟨trivial, List.forall_mem_cons.mpr ⟨⟨ml_Mo_239, xmv_Mo_mixedTail⟩, List.forall_mem_cons.mpr ⟨trivial, fun _ h => absurd h List.not_mem_nil⟩⟩⟩⟩⟩⟩⟩⟩⟩⟩⟩⟩⟩⟩⟩⟩⟩⟩⟩⟩⟩⟩⟩⟩⟩⟩⟩⟩⟩⟩⟩⟩⟩⟩⟩⟩⟩⟩⟩⟩⟩⟩⟩⟩⟩⟩⟩⟩⟩⟩⟩⟩⟩⟩⟩⟩⟩⟩⟩⟩⟩⟩⟩⟩⟩⟩⟩⟩⟩⟩⟩⟩⟩⟩⟩⟩⟩⟩⟩⟩⟩⟩⟩⟩⟩⟩⟩⟩⟩⟩⟩⟩⟩⟩⟩⟩⟩⟩⟩⟩⟩⟩
end
section
/-! HELP: numbers, steps of conditions, rows of small numbers packed in an int -/
theorem xgoal {lim : Nat × Nat} {g : xSig} {cd : xCd} {Q : Option Value → xHp → Prop} (cut : List (Nat × List Nat)) (n : Nat) (ok : xOK g cd) {pc : Nat} {L : xLo} {st : List Value} {h : xHp} (hs : wp lim g cd cut (xAt lim g Q) Q n pc L st h) : xAt lim g Q pc L st h := wp_sound ok (fun _ _ _ _ z => z) n pc L st h hs
theorem n_and (a b : Nat) : nI a &&& nI b = nI (a &&& b) := by
  apply Int32.toBitVec_inj.1
  show BitVec.ofNat 32 a &&& BitVec.ofNat 32 b = BitVec.ofNat 32 (a &&& b)
  apply BitVec.eq_of_getLsbD_eq
  intro i hi
  simp [hi]
theorem n_or (a b : Nat) : nI a ||| nI b = nI (a ||| b) := by
  apply Int32.toBitVec_inj.1
  show BitVec.ofNat 32 a ||| BitVec.ofNat 32 b = BitVec.ofNat 32 (a ||| b)
  apply BitVec.eq_of_getLsbD_eq
  intro i hi
  simp [hi]
theorem n_xor (a b : Nat) : nI a ^^^ nI b = nI (a ^^^ b) := by
  apply Int32.toBitVec_inj.1
  show BitVec.ofNat 32 a ^^^ BitVec.ofNat 32 b = BitVec.ofNat 32 (a ^^^ b)
  apply BitVec.eq_of_getLsbD_eq
  intro i hi
  simp [hi]
theorem n_mul (a b : Nat) : nI a * nI b = nI (a * b) := pk_mul a b
theorem n_m1 : (-1 : Int32) = nI 4294967295 := by decide +kernel
theorem n_sh : ∀ k, k < 32 → ((nI k &&& 31).toBitVec.smod 32).toNat = k := by decide +kernel
theorem n_shl (n k : Nat) (hk : k < 32) : nI n <<< (nI k &&& 31) = nI (n * 2 ^ k) := by
  have hn : nI n = nI (n % 2 ^ 32) := by
    apply Int32.toBitVec_inj.1
    apply BitVec.eq_of_toNat_eq
    show n % 2 ^ 32 = n % 2 ^ 32 % 2 ^ 32
    omega
  apply Int32.toBitVec_inj.mp
  apply BitVec.eq_of_toNat_eq
  rw [pk_shl _ _ k (n_sh k hk)]
  show (n % 2 ^ 32) * 2 ^ k % 2 ^ 32 = n * 2 ^ k % 2 ^ 32
  rw [Nat.mod_mul_mod]
theorem n_shr {n k : Nat} (hn : n < 2 ^ 31) (hk : k < 32) : nI n >>> (nI k &&& 31) = nI (n / 2 ^ k) := pk_shrN hn _ k (n_sh k hk)
theorem n_inj {a b : Nat} (ha : a < 2 ^ 31) (hb : b < 2 ^ 31) (h : nI a = nI b) : a = b := (nI_eq ha hb).mp h
/-! steps -/
theorem xgf {h : xHp} {a ci n : Nat} {fs : List Value} {v : Value} {P : Value → Prop} (ha : xat h a (xob ci fs)) (hv : fs[n]? = some v) (p : P v) : ∃ fs v, xat h a (xob ci fs) ∧ fs[n]? = some v ∧ P v := ⟨fs, v, ha, hv, p⟩
theorem xpf {h : xHp} {a ci n : Nat} {fs : List Value} {b : Bool} {P : List Value → Prop} (ha : xat h a (xob ci fs)) (hl : n < fs.length) (hb : b = true) (p : P fs) : ∃ fs, xat h a (xob ci fs) ∧ n < fs.length ∧ bif b then P fs else False := ⟨fs, ha, hl, by rw [hb]; exact p⟩
theorem xal {h : xHp} {a n j : Nat} {i : Int32} {f : Nat → Int32} {P : Nat → (Nat → Int32) → Nat → Prop} (ha : xat h a (xia n f)) (hi : i = nI j) (hj : j < n) (hn : n < 2147483648) (p : P n f j) : ∃ n f j, xat h a (xia n f) ∧ xix i j n ∧ P n f j := ⟨n, f, j, ha, ⟨hi, hj, hn⟩, p⟩
theorem xra_ {h : xHp} {a n j q : Nat} {i : Int32} {f : Nat → Option Nat} {P : Nat → Prop} (ha : xat h a (xra n f)) (hi : i = nI j) (hj : j < n) (hn : n < 2147483648) (hf : f j = some q) (p : P q) : ∃ n f j q, xat h a (xra n f) ∧ xix i j n ∧ f j = some q ∧ P q := ⟨n, f, j, q, ha, ⟨hi, hj, hn⟩, hf, p⟩
theorem xci {g : xSig} {As : List Value} {h h' : xHp} {r : Int32} {K : Int32 → xHp → Prop} (sp : Spec g As h (some (.int r)) h') (p : K r h') : ∃ P : Option Value → xHp → Prop, SpecR g As h P ∧ ∀ (r : Int32) (h' : xHp), P (some (.int r)) h' → K r h' := ⟨_, sp, fun _ _ z => by obtain ⟨z1, rfl⟩ := z; cases z1; exact p⟩
theorem xcl_ {g : xSig} {As : List Value} {h h' : xHp} {r : Int64} {K : Int64 → xHp → Prop} (sp : Spec g As h (some (.long r)) h') (p : K r h') : ∃ P : Option Value → xHp → Prop, SpecR g As h P ∧ ∀ (r : Int64) (h' : xHp), P (some (.long r)) h' → K r h' := ⟨_, sp, fun _ _ z => by obtain ⟨z1, rfl⟩ := z; cases z1; exact p⟩
theorem xcv_ {g : xSig} {As : List Value} {h h' : xHp} {K : xHp → Prop} (sp : Spec g As h none h') (p : K h') : ∃ P : Option Value → xHp → Prop, SpecR g As h P ∧ ∀ h' : xHp, P none h' → K h' := ⟨_, sp, fun _ z => by obtain ⟨-, rfl⟩ := z; exact p⟩
theorem xri {g : xSig} {As : List Value} {h : xHp} {P : Option Value → xHp → Prop} {K : Int32 → xHp → Prop} (sp : SpecR g As h P) (p : ∀ (r : Int32) (h' : xHp), P (some (.int r)) h' → K r h') : ∃ P : Option Value → xHp → Prop, SpecR g As h P ∧ ∀ (r : Int32) (h' : xHp), P (some (.int r)) h' → K r h' := ⟨P, sp, p⟩
theorem xrv {g : xSig} {As : List Value} {h : xHp} {P : Option Value → xHp → Prop} {K : xHp → Prop} (sp : SpecR g As h P) (p : ∀ h' : xHp, P none h' → K h') : ∃ P : Option Value → xHp → Prop, SpecR g As h P ∧ ∀ h' : xHp, P none h' → K h' := ⟨P, sp, p⟩
theorem up_loop {P : Nat → Prop} (e : Nat) (hend : P e) (hstep : ∀ i, i < e → P (i + 1) → P i) : ∀ i, i ≤ e → P i := by
  intro i hi
  have key : ∀ k i, i + k = e → P i := by
    intro k
    induction k with
    | zero => intro i h; have : i = e := by omega
              subst this; exact hend
    | succ k ih => intro i h; exact hstep i (by omega) (ih (i + 1) (by omega))
  exact key (e - i) i (by omega)
theorem xat_set {h : xHp} {a b : Nat} {e e' : xE} (ha : xat h a e) (hne : a ≠ b) : xat (xset h b e') a e := ⟨ha.1, (va_up_ne h.2.2 e' hne).trans ha.2⟩
theorem xat_self {h : xHp} {a : Nat} {e : xE} (e' : xE) (ha : xat h a e) : xat (xset h a e') a e' := ⟨ha.1, va_up_self h.2.2 a e'⟩
/-! a row of up to seven small numbers, three bits each -/
def pak (f : Nat → Nat) : Nat → Nat
  | 0 => 0
  | n + 1 => 2 ^ (3 * n) * f n + pak f n
def R (f : Nat → Nat) : Int32 := nI (pak f 7)
def upn (f : Nat → Nat) (k v : Nat) : Nat → Nat := fun j => if j = k then v else f j
theorem pak_lt {f : Nat → Nat} : ∀ {n : Nat}, (∀ i, i < n → f i < 8) → pak f n < 2 ^ (3 * n)
  | 0, _ => Nat.zero_lt_one
  | n + 1, h => by
    have h1 := pak_lt (n := n) (fun i hi => h i (by omega))
    have h2 := h n (by omega)
    have h3 : 2 ^ (3 * (n + 1)) = 2 ^ (3 * n) * 8 := by rw [Nat.mul_add, Nat.pow_add]
    have h4 : 2 ^ (3 * n) * f n ≤ 2 ^ (3 * n) * 7 := Nat.mul_le_mul_left _ (by omega)
    unfold pak
    omega
theorem pak_bit {f : Nat → Nat} : ∀ {n : Nat}, (∀ i, i < n → f i < 8) → ∀ t, (pak f n).testBit t = if t < 3 * n then (f (t / 3)).testBit (t % 3) else false
  | 0, _, t => by simp [pak]
  | n + 1, h, t => by
    have h1 := pak_lt (n := n) (fun i hi => h i (by omega))
    have ih := pak_bit (n := n) (fun i hi => h i (by omega)) t
    unfold pak
    rw [Nat.testBit_two_pow_mul_add _ h1]
    by_cases ht : t < 3 * n
    · rw [if_pos ht, ih, if_pos ht, if_pos (by omega)]
    · rw [if_neg ht]
      by_cases ht2 : t < 3 * (n + 1)
      · rw [if_pos ht2, show t / 3 = n by omega, show t % 3 = t - 3 * n by omega]
      · rw [if_neg ht2]
        exact Nat.testBit_lt_two_pow (Nat.lt_of_lt_of_le (h n (by omega)) (by
          have : 2 ^ 3 ≤ 2 ^ (t - 3 * n) := Nat.pow_le_pow_right (by omega) (by omega)
          omega))
theorem pak_congr {f g : Nat → Nat} : ∀ {n : Nat}, (∀ i, i < n → f i = g i) → pak f n = pak g n
  | 0, _ => rfl
  | n + 1, h => by
    unfold pak
    rw [pak_congr (n := n) (fun i hi => h i (by omega)), h n (by omega)]
theorem R_congr {f g : Nat → Nat} (h : ∀ i, i < 7 → f i = g i) : R f = R g := by unfold R; rw [pak_congr h]
theorem pak7 {f : Nat → Nat} (h : ∀ i, i < 7 → f i < 8) : pak f 7 < 2097152 := pak_lt h
theorem pak_get {f : Nat → Nat} {i : Nat} (h : ∀ i, i < 7 → f i < 8) (hi : i < 7) : pak f 7 / 2 ^ (3 * i) % 8 = f i := by
  apply Nat.eq_of_testBit_eq
  intro t
  rw [show (8 : Nat) = 2 ^ 3 from rfl, Nat.testBit_mod_two_pow, Nat.testBit_div_two_pow, pak_bit h]
  by_cases ht : t < 3
  · rw [if_pos (by omega), show (t + 3 * i) / 3 = i by omega, show (t + 3 * i) % 3 = t by omega]
    simp [ht]
  · simp only [ht, decide_false, Bool.false_and]
    exact (Nat.testBit_lt_two_pow (Nat.lt_of_lt_of_le (h i hi) (by
      have : 2 ^ 3 ≤ 2 ^ t := Nat.pow_le_pow_right (by omega) (by omega)
      omega))).symm
theorem R_inj {f g : Nat → Nat} (hf : ∀ i, i < 7 → f i < 8) (hg : ∀ i, i < 7 → g i < 8) (h : R f = R g) : ∀ i, i < 7 → f i = g i := by
  intro i hi
  have h1 := pak7 hf
  have h2 := pak7 hg
  have h3 := n_inj (by omega) (by omega) h
  rw [← pak_get hf hi, ← pak_get hg hi, h3]
theorem R_entry {f : Nat → Nat} {i : Nat} (h : ∀ i, i < 7 → f i < 8) (hi : i < 7) : (R f >>> ((nI 3 * nI i) &&& 31)) &&& nI 7 = nI (f i) := by
  have h1 := pak7 h
  unfold R
  rw [n_mul, n_shr (by omega) (by omega), n_and, show (7 : Nat) = 2 ^ 3 - 1 from rfl, Nat.and_two_pow_sub_one_eq_mod]
  rw [show (2 : Nat) ^ 3 = 8 from rfl, pak_get h hi]
theorem R_with {f : Nat → Nat} {i v : Nat} (h : ∀ i, i < 7 → f i < 8) (hi : i < 7) (hv : v < 8) : (R f &&& ((nI 7 <<< ((nI 3 * nI i) &&& 31)) ^^^ -1)) ||| (nI v <<< ((nI 3 * nI i) &&& 31)) = R (upn f i v) := by
  have h1 := pak7 h
  have h' : ∀ j, j < 7 → upn f i v j < 8 := fun j hj => by
    unfold upn
    split
    · exact hv
    · exact h j hj
  unfold R
  rw [n_mul, n_shl _ _ (by omega), n_shl _ _ (by omega), n_m1, n_xor, n_and, n_or]
  congr 1
  apply Nat.eq_of_testBit_eq
  intro t
  rw [Nat.testBit_or, Nat.testBit_and, Nat.testBit_xor, pak_bit h, pak_bit h', Nat.testBit_mul_two_pow, Nat.testBit_mul_two_pow, show (4294967295 : Nat) = 2 ^ 32 - 1 from rfl, Nat.testBit_two_pow_sub_one, show (7 : Nat) = 2 ^ 3 - 1 from rfl, Nat.testBit_two_pow_sub_one]
  by_cases ht : t < 3 * (2 ^ 3 - 1)
  · rw [if_pos ht, if_pos ht]
    have ht : t < 21 := ht
    unfold upn
    by_cases e : t / 3 = i
    · rw [if_pos e]
      have e1 : 3 * i ≤ t := by omega
      have e2 : t - 3 * i < 3 := by omega
      have e3 : t < 32 := by omega
      simp [e1, e2, e3]
      rw [show t % 3 = t - 3 * i by omega]
    · rw [if_neg e]
      have e3 : t < 32 := by omega
      by_cases e1 : 3 * i ≤ t
      · have e2 : ¬ t - 3 * i < 3 := by omega
        have e4 : v.testBit (t - 3 * i) = false := Nat.testBit_lt_two_pow (Nat.lt_of_lt_of_le hv (by
          have : 2 ^ 3 ≤ 2 ^ (t - 3 * i) := Nat.pow_le_pow_right (by omega) (by omega)
          omega))
        simp [e1, e2, e3, e4]
      · simp [e1, e3]
  · rw [if_neg ht, if_neg ht]
    have ht : ¬ t < 21 := ht
    have e4 : (decide (3 * i ≤ t) && v.testBit (t - 3 * i)) = false := by
      by_cases e1 : 3 * i ≤ t
      · rw [Nat.testBit_lt_two_pow (Nat.lt_of_lt_of_le hv (by
          have : 2 ^ 3 ≤ 2 ^ (t - 3 * i) := Nat.pow_le_pow_right (by omega) (by omega)
          omega))]
        simp
      · simp [e1]
    rw [e4]
    simp
end
section
/-! Row -/
def b8 (f : Nat → Nat) : Prop := ∀ i, i < 7 → f i < 8
def nrm (n : Nat) (f : Nat → Nat) : Nat → Nat := fun i => if i < n then f i else 0
theorem nrm_in {n : Nat} {f : Nat → Nat} {i : Nat} (h : i < n) : nrm n f i = f i := if_pos h
theorem nrm_b8 {n : Nat} {f : Nat → Nat} (h : ∀ i, i < n → f i < 8) : b8 (nrm n f) := fun i _ => by
  unfold nrm
  split
  · exact h i (by assumption)
  · omega
theorem R_push {n : Nat} {f : Nat → Nat} : R (upn (nrm n f) n (f n)) = R (nrm (n + 1) f) := R_congr fun i _ => by
  unfold upn nrm
  by_cases h : i = n
  · subst h; simp
  · rw [if_neg h]
    by_cases h2 : i < n
    · rw [if_pos h2, if_pos (by omega)]
    · rw [if_neg h2, if_neg (by omega)]
theorem R_nrm0 (f : Nat → Nat) : nI 0 = R (nrm 0 f) := rfl
theorem sp_Row_entry {f : Nat → Nat} {i : Nat} (hf : b8 f) (hi : i < 7) (h : xHp) : Spec g_Row_entry [.int (R f), .int (nI i)] h (some (.int (nI (f i)))) h := by
  refine Spec.of (by decide +kernel) (Nat.le_of_ble_eq_true rfl) ⟨_, rfl⟩ rfl rfl (fun c hc => by cases hc) (fun Q hQ => ?_)
  refine xgoal [] 100 ok_Row_entry ?_
  rw [← R_entry hf hi] at hQ
  exact hQ
theorem sp_Row_with {f : Nat → Nat} {i v : Nat} (hf : b8 f) (hi : i < 7) (hv : v < 8) (h : xHp) : Spec g_Row_with [.int (R f), .int (nI i), .int (nI v)] h (some (.int (R (upn f i v)))) h := by
  refine Spec.of (by decide +kernel) (Nat.le_of_ble_eq_true rfl) ⟨_, rfl⟩ rfl rfl (fun c hc => by cases hc) (fun Q hQ => ?_)
  refine xgoal [] 100 ok_Row_with ?_
  rw [← R_with hf hi hv] at hQ
  exact hQ
theorem sp_Row_ascending {n : Nat} (hn : n ≤ 7) (h : xHp) : Spec g_Row_ascending [.int (nI n)] h (some (.int (R (nrm n (fun i => i))))) h := by
  refine Spec.of (by decide +kernel) (Nat.le_of_ble_eq_true rfl) ⟨_, rfl⟩ rfl rfl (fun c hc => by cases hc) (fun Q hQ => ?_)
  refine xgoal [(4, [0, 1, 2])] 100 ok_Row_ascending ?_
  refine up_loop (P := fun i => xAt (h.1, h.2.1) g_Row_ascending Q 4 [(0, .int (nI n)), (1, .int (R (nrm i (fun i => i)))), (2, .int (nI i))] [] h) n ?_ (fun i hi ih => ?_) 0 (Nat.zero_le _)
  · refine xgoal [(4, [0, 1, 2])] 100 ok_Row_ascending ?_
    exact pk_le n n (fun c => hQ) (fun c => absurd c (by omega))
  · refine xgoal [(4, [0, 1, 2])] 100 ok_Row_ascending ?_
    refine pk_le n i (fun c => absurd c (by omega)) (fun c => ?_)
    refine xci (sp_Row_with (nrm_b8 (by omega)) (by omega) (by omega) _) ?_
    rw [R_push]
    rw [← nI_1 i] at ih
    exact ih
theorem sp_Row_turned {n : Nat} {f g : Nat → Nat} (hn : n ≤ 7) (hf : ∀ i, i < n → f i < 8) (hg : ∀ i, i < n → g i < n) (h : xHp) : Spec g_Row_turned [.int (R (nrm n f)), .int (R (nrm n g)), .int (nI n)] h (some (.int (R (nrm n (fun i => f (g i)))))) h := by
  refine Spec.of (by decide +kernel) (Nat.le_of_ble_eq_true rfl) ⟨_, rfl⟩ rfl rfl (fun c hc => by cases hc) (fun Q hQ => ?_)
  refine xgoal [(5, [0, 1, 2, 3, 4])] 100 ok_Row_turned ?_
  refine up_loop (P := fun i => xAt (h.1, h.2.1) g_Row_turned Q 5 [(0, .int (R (nrm n f))), (1, .int (R (nrm n g))), (2, .int (nI n)), (3, .int (R (nrm i (fun i => f (g i))))), (4, .int (nI i))] [] h) n ?_ (fun i hi ih => ?_) 0 (Nat.zero_le _)
  · refine xgoal [(5, [0, 1, 2, 3, 4])] 100 ok_Row_turned ?_
    exact pk_le n n (fun c => hQ) (fun c => absurd c (by omega))
  · refine xgoal [(5, [0, 1, 2, 3, 4])] 100 ok_Row_turned ?_
    have g1 := hg i hi
    refine pk_le n i (fun c => absurd c (by omega)) (fun c => ?_)
    refine xci (sp_Row_entry (nrm_b8 (fun j hj => by have := hg j hj; omega)) (by omega) _) ?_
    rw [nrm_in hi]
    refine xci (sp_Row_entry (nrm_b8 hf) (by omega) _) ?_
    rw [nrm_in g1]
    refine xci (sp_Row_with (nrm_b8 (fun j hj => hf _ (hg j (by omega)))) (by omega) (hf _ g1) _) ?_
    have e : R (upn (nrm i (fun i => f (g i))) i (f (g i))) = R (nrm (i + 1) (fun i => f (g i))) := R_push
    rw [e]
    rw [← nI_1 i] at ih
    exact ih
/-- the set of the first entries, as a mask -/
def bms (f : Nat → Nat) : Nat → Nat
  | 0 => 0
  | n + 1 => bms f n ||| 2 ^ f n
theorem bms_lt {f : Nat → Nat} {m : Nat} : ∀ {n : Nat}, (∀ i, i < n → f i < m) → bms f n < 2 ^ m
  | 0, _ => Nat.two_pow_pos m
  | n + 1, h => Nat.or_lt_two_pow (bms_lt (fun i hi => h i (by omega))) (Nat.pow_lt_pow_right (by omega) (h n (by omega)))
theorem sp_Row_entries {n : Nat} {f : Nat → Nat} (hn : n ≤ 7) (hf : b8 f) (h : xHp) : Spec g_Row_entries [.int (R f), .int (nI n)] h (some (.int (nI (bms f n)))) h := by
  refine Spec.of (by decide +kernel) (Nat.le_of_ble_eq_true rfl) ⟨_, rfl⟩ rfl rfl (fun c hc => by cases hc) (fun Q hQ => ?_)
  refine xgoal [(4, [0, 1, 2, 3])] 100 ok_Row_entries ?_
  refine up_loop (P := fun i => xAt (h.1, h.2.1) g_Row_entries Q 4 [(0, .int (R f)), (1, .int (nI n)), (2, .int (nI (bms f i))), (3, .int (nI i))] [] h) n ?_ (fun i hi ih => ?_) 0 (Nat.zero_le _)
  · refine xgoal [(4, [0, 1, 2, 3])] 100 ok_Row_entries ?_
    exact pk_le n n (fun c => hQ) (fun c => absurd c (by omega))
  · refine xgoal [(4, [0, 1, 2, 3])] 100 ok_Row_entries ?_
    refine pk_le n i (fun c => absurd c (by omega)) (fun c => ?_)
    refine xci (sp_Row_entry hf (by omega) _) ?_
    rw [← nI_1 i, show bms f (i + 1) = bms f i ||| 2 ^ f i from rfl, ← n_or] at ih
    have e : nI 1 <<< (nI (f i) &&& 31) = nI (2 ^ f i) := by
      rw [n_shl _ _ (by have := hf i (by omega); omega), Nat.one_mul]
    rw [← e] at ih
    exact ih
theorem sp_Row_hasEach {n : Nat} {f : Nat → Nat} (hn : n ≤ 7) (hf : b8 f) (h : xHp) : Spec g_Row_hasEach [.int (R f), .int (nI n)] h (some (.int (nI (if bms f n = 2 ^ n - 1 then 1 else 0)))) h := by
  refine Spec.of (by decide +kernel) (Nat.le_of_ble_eq_true rfl) ⟨_, rfl⟩ rfl rfl (fun c hc => by cases hc) (fun Q hQ => ?_)
  refine xgoal [] 100 ok_Row_hasEach ?_
  refine xci (sp_Row_entries hn hf _) ?_
  have h1 : bms f n < 2 ^ 8 := bms_lt (fun i hi => hf i (by omega))
  have h2 : 2 ^ n ≤ 2 ^ 7 := Nat.pow_le_pow_right (by omega) hn
  have h3 : 1 ≤ 2 ^ n := Nat.two_pow_pos n
  have e : nI 1 <<< (nI n &&& 31) - nI 1 = nI (2 ^ n - 1) := by
    rw [n_shl _ _ (by omega), Nat.one_mul, pk_sub h3]
  refine pk_eq (bms f n) (2 ^ n - 1) (fun c => ?_) (fun c => ?_) rfl e
  · rw [if_pos c] at hQ
    exact ⟨Or.inr rfl, hQ⟩
  · rw [if_neg c] at hQ
    exact ⟨Or.inl rfl, hQ⟩
end
section
/-! PERMUTATIONS: counting, ranks, numbers -/
def ct (p : Nat → Bool) : Nat → Nat
  | 0 => 0
  | n + 1 => ct p n + if p n = true then 1 else 0
theorem ct_congr {p q : Nat → Bool} : ∀ {n : Nat}, (∀ k, k < n → p k = q k) → ct p n = ct q n
  | 0, _ => rfl
  | n + 1, h => by
    unfold ct
    rw [ct_congr (n := n) (fun k hk => h k (by omega)), h n (by omega)]
theorem ct_le (p : Nat → Bool) : ∀ n, ct p n ≤ n
  | 0 => Nat.le_refl _
  | n + 1 => by
    have := ct_le p n
    unfold ct
    split <;> omega
theorem ct_sub {p q : Nat → Bool} : ∀ {n : Nat}, (∀ k, k < n → p k = true → q k = true) → ct p n ≤ ct q n
  | 0, _ => Nat.le_refl _
  | n + 1, h => by
    have ih := ct_sub (n := n) (fun k hk => h k (by omega))
    have h1 := h n (by omega)
    unfold ct
    by_cases hp : p n = true
    · rw [if_pos hp, if_pos (h1 hp)]; omega
    · rw [if_neg hp]; split <;> omega
theorem ct_lt {p q : Nat → Bool} : ∀ {n : Nat}, (∀ k, k < n → p k = true → q k = true) → (∃ k, k < n ∧ q k = true ∧ ¬ p k = true) → ct p n < ct q n
  | 0, _, h => by obtain ⟨k, h, -⟩ := h; omega
  | n + 1, h, he => by
    have h1 := h n (by omega)
    unfold ct
    obtain ⟨k, hk, hq, hp⟩ := he
    by_cases e : k = n
    · subst e
      have ih := ct_sub (n := k) (fun j hj => h j (by omega))
      rw [if_pos hq, if_neg hp]; omega
    · have ih := ct_lt (n := n) (fun j hj => h j (by omega)) ⟨k, by omega, hq, hp⟩
      by_cases hp : p n = true
      · rw [if_pos hp, if_pos (h1 hp)]; omega
      · rw [if_neg hp]; split <;> omega
theorem ct_split (p q : Nat → Bool) : ∀ n, ct p n = ct (fun k => p k && q k) n + ct (fun k => p k && !q k) n
  | 0 => rfl
  | n + 1 => by
    have ih := ct_split p q n
    unfold ct
    rw [ih]
    cases p n <;> cases q n <;> simp <;> omega
theorem ct_none {p : Nat → Bool} : ∀ {n : Nat}, (∀ k, k < n → p k = false) → ct p n = 0
  | 0, _ => rfl
  | n + 1, h => by
    unfold ct
    rw [ct_none (n := n) (fun k hk => h k (by omega)), h n (by omega)]
    rfl
theorem ct_one {p : Nat → Bool} : ∀ {n : Nat}, (∀ i j, i < n → j < n → p i = true → p j = true → i = j) → ct p n ≤ 1
  | 0, _ => Nat.zero_le _
  | n + 1, h => by
    unfold ct
    by_cases hp : p n = true
    · rw [if_pos hp, ct_none]
      · exact Nat.le_refl _
      · intro k hk
        by_cases hk2 : p k = true
        · have := h k n (by omega) (by omega) hk2 hp; omega
        · simpa using hk2
    · rw [if_neg hp]
      exact ct_one (fun i j hi hj => h i j (by omega) (by omega))
/-- at most v of them, if different ones have different values below v -/
theorem ct_pig {n : Nat} {f : Nat → Nat} : ∀ {v : Nat} {p : Nat → Bool}, (∀ i j, i < n → j < n → p i = true → p j = true → f i = f j → i = j) → (∀ i, i < n → p i = true → f i < v) → ct p n ≤ v
  | 0, p, _, hv => by
    rw [ct_none]
    · exact Nat.le_refl _
    · intro k hk
      by_cases hp : p k = true
      · have := hv k hk hp; omega
      · simpa using hp
  | v + 1, p, hi, hv => by
    rw [ct_split p (fun k => decide (f k < v))]
    have h1 : ct (fun k => p k && decide (f k < v)) n ≤ v := ct_pig (v := v) (fun i j hi' hj' h1 h2 => by
      simp only [Bool.and_eq_true] at h1 h2
      exact hi i j hi' hj' h1.1 h2.1) (fun i hi' h1 => by
      simp only [Bool.and_eq_true, decide_eq_true_eq] at h1
      exact h1.2)
    have h2 : ct (fun k => p k && !decide (f k < v)) n ≤ 1 := ct_one (fun i j hi' hj' h1 h2 => by
      simp only [Bool.and_eq_true, Bool.not_eq_true', decide_eq_false_iff_not] at h1 h2
      have a1 := hv i hi' h1.1
      have a2 := hv j hj' h2.1
      exact hi i j hi' hj' h1.1 h2.1 (by omega))
    omega
theorem ct_exact {n m v : Nat} {f : Nat → Nat} {p : Nat → Bool} (hi : ∀ i j, i < n → j < n → p i = true → p j = true → f i = f j → i = j) (hv : ∀ i, i < n → p i = true → f i < m) (hm : ct p n = m) (hvm : v ≤ m) : ct (fun k => p k && decide (f k < v)) n = v := by
  have h0 := ct_split p (fun k => decide (f k < v)) n
  have h1 : ct (fun k => p k && decide (f k < v)) n ≤ v := ct_pig (f := f) (fun i j hi' hj' h1 h2 => by
      simp only [Bool.and_eq_true] at h1 h2
      exact hi i j hi' hj' h1.1 h2.1) (fun i hi' h1 => by
      simp only [Bool.and_eq_true, decide_eq_true_eq] at h1
      exact h1.2)
  have h2 : ct (fun k => p k && !decide (f k < v)) n ≤ m - v := ct_pig (f := fun k => f k - v) (fun i j hi' hj' h1 h2 e => by
      simp only [Bool.and_eq_true, Bool.not_eq_true', decide_eq_false_iff_not] at h1 h2
      exact hi i j hi' hj' h1.1 h2.1 (by omega)) (fun i hi' h1 => by
      simp only [Bool.and_eq_true, Bool.not_eq_true', decide_eq_false_iff_not] at h1
      have := hv i hi' h1.1
      omega)
  omega
theorem ct_gt (i : Nat) : ∀ n, ct (fun j => decide (i < j)) n = n - 1 - i
  | 0 => by simp [ct]
  | n + 1 => by
    have ih := ct_gt i n
    unfold ct
    rw [ih]
    by_cases h : i < n
    · simp [h]; omega
    · simp [h]; omega
theorem ct_true : ∀ n, ct (fun _ => true) n = n
  | 0 => rfl
  | n + 1 => by unfold ct; rw [ct_true n]; rfl
/-- f gives the lines below n lines below n, different ones different ones -/
def PM (n : Nat) (f : Nat → Nat) : Prop := (∀ i, i < n → f i < n) ∧ ∀ i j, i < n → j < n → f i = f j → i = j
theorem PM_ct {n v : Nat} {f : Nat → Nat} (h : PM n f) (hv : v ≤ n) : ct (fun k => decide (f k < v)) n = v := by
  have := ct_exact (n := n) (m := n) (v := v) (f := f) (p := fun _ => true) (fun i j hi hj _ _ e => h.2 i j hi hj e) (fun i hi _ => h.1 i hi) (ct_true n) hv
  simpa using this
def less (f : Nat → Nat) (n i : Nat) : Nat := ct (fun j => decide (i < j) && decide (f j < f i)) n
theorem less_lt {f : Nat → Nat} {n i : Nat} (hi : i < n) : less f n i < n - i := by
  have h1 : less f n i ≤ ct (fun j => decide (i < j)) n := ct_sub (fun k _ h => by simp only [Bool.and_eq_true] at h; exact h.1)
  rw [ct_gt] at h1
  omega
def rkA (f : Nat → Nat) (n : Nat) : Nat → Nat
  | 0 => 0
  | i + 1 => rkA f n i * (n - i) + less f n i
/-- the number of a permutation -/
def rank (n : Nat) (f : Nat → Nat) : Nat := rkA f n n
def fct : Nat → Nat
  | 0 => 1
  | n + 1 => (n + 1) * fct n
theorem fct_pos : ∀ n, 0 < fct n
  | 0 => Nat.zero_lt_one
  | n + 1 => Nat.mul_pos (Nat.succ_pos n) (fct_pos n)
theorem rkA_lt {f : Nat → Nat} {n : Nat} : ∀ i, i ≤ n → (rkA f n i + 1) * fct (n - i) ≤ fct n
  | 0, _ => by simp [rkA]
  | i + 1, h => by
    have ih := rkA_lt (f := f) (n := n) i (by omega)
    have h1 := less_lt (f := f) (n := n) (i := i) (by omega)
    have e : n - i = (n - (i + 1)) + 1 := by omega
    have h2 : (rkA f n (i + 1) + 1) * fct (n - (i + 1)) ≤ (rkA f n i + 1) * fct (n - i) := by
      rw [e, fct, ← e]
      rw [← Nat.mul_assoc]
      refine Nat.mul_le_mul_right _ ?_
      show rkA f n i * (n - i) + less f n i + 1 ≤ (rkA f n i + 1) * (n - i)
      rw [Nat.add_mul]
      omega
    exact Nat.le_trans h2 ih
theorem rank_lt (n : Nat) (f : Nat → Nat) : rank n f < fct n := by
  have h := rkA_lt (f := f) (n := n) n (Nat.le_refl _)
  rw [Nat.sub_self] at h
  simp only [fct, Nat.mul_one] at h
  exact h
theorem rank_congr {n : Nat} {f g : Nat → Nat} (h : ∀ i, i < n → f i = g i) : rank n f = rank n g := by
  have key : ∀ i, i ≤ n → rkA f n i = rkA g n i := by
    intro i
    induction i with
    | zero => intro _; rfl
    | succ i ih =>
      intro hi
      unfold rkA
      rw [ih (by omega)]
      congr 1
      unfold less
      exact ct_congr (fun k hk => by rw [h k hk, h i (by omega)])
  exact key n (Nat.le_refl _)
/-! the permutation with a number -/
def ur (k : Nat) : Nat → Nat
  | 0 => k
  | m + 1 => ur k m / (m + 1)
def shf (v x : Nat) : Nat := if v ≤ x then x + 1 else x
def uf (n k : Nat) : Nat → Nat → Nat
  | 0 => fun _ => 0
  | m + 1 => fun j => if j = n - 1 - m then ur k m % (m + 1) else if n - 1 - m < j then shf (ur k m % (m + 1)) (uf n k m j) else uf n k m j
def unr (n k : Nat) : Nat → Nat := uf n k n
theorem shf_lt {v x y : Nat} : shf v x < shf v y ↔ x < y := by unfold shf; split <;> split <;> omega
theorem shf_inj {v x y : Nat} (h : shf v x = shf v y) : x = y := by revert h; unfold shf; split <;> split <;> omega
theorem shf_ne {v x : Nat} : ¬ shf v x = v := by unfold shf; split <;> omega
theorem shf_ltv {v x : Nat} : shf v x < v ↔ x < v := by unfold shf; split <;> omega
theorem ur_fct (k : Nat) : ∀ m, ur k m = k / fct m
  | 0 => by simp [ur, fct]
  | m + 1 => by
    unfold ur fct
    rw [ur_fct k m, Nat.div_div_eq_div_mul, Nat.mul_comm]
theorem uf_PM (n k : Nat) : ∀ m, m ≤ n → (∀ j, n - m ≤ j → j < n → uf n k m j < m) ∧ ∀ i j, n - m ≤ i → i < n → n - m ≤ j → j < n → uf n k m i = uf n k m j → i = j
  | 0, _ => ⟨fun j h1 h2 => absurd h2 (by omega), fun i j h1 h2 => absurd h2 (by omega)⟩
  | m + 1, h => by
    obtain ⟨h1, h2⟩ := uf_PM n k m (by omega)
    have hv : ur k m % (m + 1) < m + 1 := Nat.mod_lt _ (Nat.succ_pos m)
    refine ⟨fun j g1 g2 => ?_, fun i j g1 g2 g3 g4 => ?_⟩
    · unfold uf
      by_cases e : j = n - 1 - m
      · rw [if_pos e]; exact hv
      · rw [if_neg e, if_pos (by omega)]
        have := h1 j (by omega) g2
        unfold shf
        split <;> omega
    · unfold uf
      by_cases e1 : i = n - 1 - m <;> by_cases e2 : j = n - 1 - m
      · omega
      · rw [if_pos e1, if_neg e2, if_pos (by omega)]
        intro e; exact absurd e.symm shf_ne
      · rw [if_neg e1, if_pos (by omega), if_pos e2]
        intro e; exact absurd e shf_ne
      · rw [if_neg e1, if_pos (by omega), if_neg e2, if_pos (by omega)]
        intro e; exact h2 i j (by omega) g2 (by omega) g4 (shf_inj e)
theorem unr_PM (n k : Nat) : PM n (unr n k) := by
  obtain ⟨h1, h2⟩ := uf_PM n k n (Nat.le_refl _)
  rw [Nat.sub_self] at h1 h2
  exact ⟨fun i hi => h1 i (Nat.zero_le _) hi, fun i j hi hj => h2 i j (Nat.zero_le _) hi (Nat.zero_le _) hj⟩
theorem uf_less (n k : Nat) : ∀ m, m ≤ n → ∀ i, n - m ≤ i → i < n → less (uf n k m) n i = ur k (n - 1 - i) % (n - i)
  | 0, _, i, h1, h2 => absurd h2 (by omega)
  | m + 1, h, i, h1, h2 => by
    by_cases e : i = n - 1 - m
    · have e1 : uf n k (m + 1) i = ur k m % (m + 1) := by unfold uf; rw [if_pos e]
      have e2 : n - 1 - i = m := by omega
      have e3 : n - i = m + 1 := by omega
      rw [e2, e3]
      obtain ⟨g1, g2⟩ := uf_PM n k m (by omega)
      have hv : ur k m % (m + 1) < m + 1 := Nat.mod_lt _ (Nat.succ_pos m)
      have hx := ct_exact (n := n) (m := m) (v := ur k m % (m + 1)) (f := uf n k m) (p := fun j => decide (i < j)) (fun a b ha hb h3 h4 => by
        simp only [decide_eq_true_eq] at h3 h4
        exact g2 a b (by omega) ha (by omega) hb) (fun a ha h3 => by
        simp only [decide_eq_true_eq] at h3
        exact g1 a (by omega) ha) (by rw [ct_gt]; omega) (by omega)
      unfold less
      rw [e1]
      refine (ct_congr (fun j hj => ?_)).trans hx
      by_cases hij : i < j
      · have e4 : uf n k (m + 1) j = shf (ur k m % (m + 1)) (uf n k m j) := by
          conv => lhs; unfold uf
          rw [if_neg (by omega), if_pos (by omega)]
        rw [e4]
        simp only [hij, decide_true, Bool.true_and]
        exact decide_eq_decide.mpr shf_ltv
      · simp [hij]
    · have ih := uf_less n k m (by omega) i (by omega) h2
      rw [← ih]
      unfold less
      refine ct_congr (fun j hj => ?_)
      by_cases hij : i < j
      · have e4 : uf n k (m + 1) j = shf (ur k m % (m + 1)) (uf n k m j) := by
          conv => lhs; unfold uf
          rw [if_neg (by omega), if_pos (by omega)]
        have e5 : uf n k (m + 1) i = shf (ur k m % (m + 1)) (uf n k m i) := by
          conv => lhs; unfold uf
          rw [if_neg (by omega), if_pos (by omega)]
        rw [e4, e5]
        rw [decide_eq_decide.mpr (shf_lt (v := ur k m % (m + 1)) (x := uf n k m j) (y := uf n k m i))]
      · simp [hij]
theorem rank_unr {n k : Nat} (hk : k < fct n) : rank n (unr n k) = k := by
  have key : ∀ i, i ≤ n → rkA (unr n k) n i = ur k (n - i) := by
    intro i
    induction i with
    | zero =>
      intro _
      rw [ur_fct, Nat.sub_zero, Nat.div_eq_of_lt hk]
      rfl
    | succ i ih =>
      intro hi
      unfold rkA
      have h1 : less (unr n k) n i = ur k (n - 1 - i) % (n - i) := uf_less n k n (Nat.le_refl _) i (by omega) (by omega)
      rw [ih (by omega), h1]
      have e : n - i = (n - 1 - i) + 1 := by omega
      have e2 : n - (i + 1) = n - 1 - i := by omega
      rw [e2]
      have e3 : ur k (n - i) = ur k (n - 1 - i) / (n - i) := by
        have e9 : ur k (n - 1 - i + 1) = ur k (n - 1 - i) / (n - 1 - i + 1) := rfl
        rw [← e] at e9
        exact e9
      rw [e3]
      exact Nat.div_add_mod' _ _
  have h := key n (Nat.le_refl _)
  rw [Nat.sub_self] at h
  exact h
def rel (f : Nat → Nat) (n i k : Nat) : Nat := ct (fun j => decide (i ≤ j) && decide (f j < f k)) n
theorem ct_at (i : Nat) (b : Bool) : ∀ n, ct (fun j => decide (j = i) && b) n = if i < n ∧ b = true then 1 else 0
  | 0 => by simp [ct]
  | n + 1 => by
    have ih := ct_at i b n
    unfold ct
    rw [ih]
    by_cases e : n = i
    · subst e
      cases b <;> simp
    · have e2 : (i < n ∧ b = true) ↔ (i < n + 1 ∧ b = true) := by
        constructor
        · rintro ⟨h1, h2⟩; exact ⟨by omega, h2⟩
        · rintro ⟨h1, h2⟩; exact ⟨by omega, h2⟩
      simp only [e, decide_false, Bool.false_and, e2]
      simp
theorem rel_step {f : Nat → Nat} {n i k : Nat} (hi : i < n) : rel f n i k = rel f n (i + 1) k + if f i < f k then 1 else 0 := by
  unfold rel
  rw [ct_split _ (fun j => decide (i < j))]
  congr 1
  · refine ct_congr (fun j hj => ?_)
    by_cases h : i < j
    · have h1 : i ≤ j := by omega
      have h2 : i + 1 ≤ j := by omega
      simp [h, h1, h2]
    · have h2 : ¬ i + 1 ≤ j := by omega
      simp [h, h2]
  · have e : ct (fun j => (decide (i ≤ j) && decide (f j < f k)) && !decide (i < j)) n = ct (fun j => decide (j = i) && decide (f i < f k)) n := by
      refine ct_congr (fun j hj => ?_)
      by_cases h : j = i
      · subst h; simp
      · by_cases h2 : i < j
        · simp [h, h2]
        · have h3 : ¬ i ≤ j := by omega
          simp [h, h2, h3]
    rw [e, ct_at]
    simp [hi]
theorem uf_rank {n : Nat} {f : Nat → Nat} (hf : PM n f) : ∀ m, m ≤ n → ur (rank n f) m = rkA f n (n - m) ∧ ∀ j, n - m ≤ j → j < n → uf n (rank n f) m j = rel f n (n - m) j
  | 0, _ => ⟨rfl, fun j h1 h2 => absurd h2 (by omega)⟩
  | m + 1, h => by
    obtain ⟨h1, h2⟩ := uf_rank hf m (by omega)
    have e : n - m = (n - (m + 1)) + 1 := by omega
    have e1 : n - (n - (m + 1)) = m + 1 := by omega
    have h3 : ur (rank n f) m = rkA f n (n - (m + 1)) * (m + 1) + less f n (n - (m + 1)) := by
      have e9 : rkA f n (n - (m + 1) + 1) = rkA f n (n - (m + 1)) * (n - (n - (m + 1))) + less f n (n - (m + 1)) := rfl
      rw [h1, e, e9, e1]
    have h4 := less_lt (f := f) (n := n) (i := n - (m + 1)) (by omega)
    rw [e1] at h4
    have h5 : ur (rank n f) m % (m + 1) = less f n (n - (m + 1)) := by
      rw [h3, Nat.add_comm, Nat.add_mul_mod_self_right, Nat.mod_eq_of_lt h4]
    have h6 : ur (rank n f) (m + 1) = rkA f n (n - (m + 1)) := by
      unfold ur
      rw [h3, Nat.add_comm, Nat.add_mul_div_right _ _ (Nat.succ_pos m), Nat.div_eq_of_lt h4, Nat.zero_add]
    refine ⟨h6, fun j g1 g2 => ?_⟩
    have ei : n - 1 - m = n - (m + 1) := by omega
    unfold uf
    rw [h5, ei]
    generalize hI : n - (m + 1) = i at *
    by_cases ej : j = i
    · rw [if_pos ej]
      subst ej
      unfold less rel
      refine ct_congr (fun k hk => ?_)
      by_cases hk2 : j < k
      · have : j ≤ k := by omega
        simp [hk2, this]
      · by_cases hk3 : k = j
        · subst hk3; simp
        · have : ¬ j ≤ k := by omega
          simp [hk2, this]
    · rw [if_neg ej, if_pos (by omega), h2 j (by omega) g2, e, rel_step (i := i) (by omega)]
      have hne : f i ≠ f j := fun q => ej (hf.2 i j (by omega) g2 q).symm
      have key : less f n i ≤ rel f n (i + 1) j ↔ f i < f j := by
        constructor
        · intro hle
          refine Nat.lt_of_not_le fun hge => ?_
          have hlt : f j < f i := by omega
          have : rel f n (i + 1) j < less f n i := ct_lt (fun k hk hp => by
            simp only [Bool.and_eq_true, decide_eq_true_eq] at hp ⊢
            omega) ⟨j, g2, by simp only [Bool.and_eq_true, decide_eq_true_eq]; omega, by simp⟩
          omega
        · intro hlt
          exact ct_sub (fun k hk hp => by
            simp only [Bool.and_eq_true, decide_eq_true_eq] at hp ⊢
            omega)
      unfold shf
      by_cases hc : f i < f j
      · rw [if_pos (key.mpr hc), if_pos hc]
      · rw [if_neg (fun z => hc (key.mp z)), if_neg hc]
        rfl
theorem unr_rank {n : Nat} {f : Nat → Nat} (hf : PM n f) : ∀ j, j < n → unr n (rank n f) j = f j := by
  intro j hj
  obtain ⟨-, h⟩ := uf_rank hf n (Nat.le_refl _)
  rw [Nat.sub_self] at h
  rw [show unr n (rank n f) j = uf n (rank n f) n j from rfl, h j (Nat.zero_le _) hj]
  unfold rel
  have e : ct (fun k => decide (0 ≤ k) && decide (f k < f j)) n = ct (fun k => decide (f k < f j)) n := ct_congr (fun k _ => by simp)
  rw [e]
  exact PM_ct hf (Nat.le_of_lt (hf.1 j hj))
theorem rank_inj {n : Nat} {f g : Nat → Nat} (hf : PM n f) (hg : PM n g) (h : rank n f = rank n g) : ∀ i, i < n → f i = g i := fun i hi => by
  rw [← unr_rank hf i hi, ← unr_rank hg i hi, h]
end
section
/-! Permutation: the class's methods -/
theorem xset_id {h : xHp} {a : Nat} {e : xE} (ha : xat h a e) : xset h a e = h := by
  obtain ⟨N, S, f⟩ := h
  unfold xset
  congr 2
  funext j
  unfold va_up
  by_cases hj : j = a
  · rw [if_pos hj, hj]; exact ha.2.symm
  · rw [if_neg hj]
theorem xset_set {h : xHp} {a : Nat} {e e' : xE} : xset (xset h a e) a e' = xset h a e' := by
  obtain ⟨N, S, f⟩ := h
  unfold xset
  congr 2
  funext j
  show (if j = a then e' else if j = a then e else f j) = if j = a then e' else f j
  by_cases hj : j = a
  · rw [if_pos hj, if_pos hj]
  · rw [if_neg hj, if_neg hj, if_neg hj]
def fil (v : Int32) (n : Nat) (f : Nat → Int32) : Nat → Int32 := fun j => if j < n then v else f j
theorem fil_step (v : Int32) (i : Nat) (f : Nat → Int32) : upd (fil v i f) i v = fil v (i + 1) f := by
  funext j
  unfold upd fil
  by_cases h : j = i
  · subst h; simp
  · rw [if_neg h]
    by_cases h2 : j < i
    · rw [if_pos h2, if_pos (by omega)]
    · rw [if_neg h2, if_neg (by omega)]
theorem sp_JA_fill {h : xHp} {a n : Nat} {f : Nat → Int32} (v : Int32) (ha : xat h a (xia n f)) (hn : n < 2147483648) : Spec g_JA_fill [.ref a, .int v] h none (xset h a (xia n (fil v n f))) := by
  refine Spec.of (by decide +kernel) (Nat.le_of_ble_eq_true rfl) rfl rfl rfl (fun c hc => by cases hc) (fun Q hQ => ?_)
  refine xgoal [(5, [0, 1, 2, 3])] 100 ok_JA_fill ?_
  refine ⟨_, _, ha, ?_⟩
  have key := up_loop (P := fun i => xAt (h.1, h.2.1) g_JA_fill Q 5 [(0, .ref a), (1, .int v), (2, .int (nI i)), (3, .int (nI n))] [] (xset h a (xia n (fil v i f)))) n ?_ (fun i hi ih => ?_) 0 (Nat.zero_le _)
  · have e : xset h a (xia n (fil v 0 f)) = h := xset_id ha
    rw [e] at key
    exact key
  · refine xgoal [(5, [0, 1, 2, 3])] 100 ok_JA_fill ?_
    exact pk_le n n (fun c => hQ) (fun c => absurd c (by omega))
  · refine xgoal [(5, [0, 1, 2, 3])] 100 ok_JA_fill ?_
    refine pk_le n i (fun c => absurd c (by omega)) (fun c => ?_)
    refine xal (xat_self _ ha) rfl hi hn ?_
    rw [← fil_step, ← nI_1 i, ← xset_set] at ih
    exact ih
def bcI (a0 : Int32) : Int32 :=
  let sr (x y : Int32) : Int32 := (x.toUInt32 >>> (y.toUInt32 &&& Int32.toUInt32 31)).toInt32
  let a1 := a0 - (sr a0 (nI 1) &&& nI 1431655765)
  let a2 := (a1 &&& nI 858993459) + (sr a1 (nI 2) &&& nI 858993459)
  let a3 := (a2 + sr a2 (nI 4)) &&& nI 252645135
  let a4 := a3 + sr a3 (nI 8)
  let a5 := a4 + sr a4 (nI 16)
  a5 &&& nI 63
/-- the bits of a number below 256 -/
def pop (x : Nat) : Nat := ct (fun b => x.testBit b) 8
theorem bc_ok : ∀ x, x < 256 → bcI (nI x) = nI (pop x) := by decide +kernel
theorem sp_JI_bitCount {x : Nat} (hx : x < 256) (h : xHp) : Spec g_JI_bitCount [.int (nI x)] h (some (.int (nI (pop x)))) h := by
  refine Spec.of (by decide +kernel) (Nat.le_of_ble_eq_true rfl) ⟨_, rfl⟩ rfl rfl (fun c hc => by cases hc) (fun Q hQ => ?_)
  refine xgoal [] 100 ok_JI_bitCount ?_
  rw [← bc_ok x hx] at hQ
  exact hQ
theorem nI_max {a b : Nat} (ha : a < 2147483648) (hb : b < 2147483648) : (if nI a < nI b then nI b else nI a) = nI (max a b) := by
  by_cases h : a < b
  · rw [if_pos ((nI_ltI ha hb).mpr h), Nat.max_eq_right (by omega)]
  · rw [if_neg (fun z => h ((nI_ltI ha hb).mp z)), Nat.max_eq_left (by omega)]
theorem nI_min {a b : Nat} (ha : a < 2147483648) (hb : b < 2147483648) : (if nI b < nI a then nI b else nI a) = nI (min a b) := by
  by_cases h : b < a
  · rw [if_pos ((nI_ltI hb ha).mpr h), Nat.min_eq_right (by omega)]
  · rw [if_neg (fun z => h ((nI_ltI hb ha).mp z)), Nat.min_eq_left (by omega)]
theorem fct_le {n : Nat} (hn : n ≤ 7) : fct n ≤ 5040 := by
  have : ∀ n, n < 8 → fct n ≤ 5040 := by decide
  exact this n (by omega)
theorem sp_Perm_count {n : Nat} (hn1 : 2 ≤ n) (hn : n ≤ 7) (h : xHp) : Spec g_Perm_count [.int (nI n)] h (some (.int (nI (fct n)))) h := by
  refine Spec.of (by decide +kernel) (Nat.le_of_ble_eq_true rfl) ⟨_, rfl⟩ rfl rfl (fun c hc => by cases hc) (fun Q hQ => ?_)
  refine xgoal [(4, [0, 1, 2])] 100 ok_Perm_count ?_
  refine up_loop (P := fun i => xAt (h.1, h.2.1) g_Perm_count Q 4 [(0, .int (nI n)), (1, .int (nI (fct i))), (2, .int (nI (i + 1)))] [] h) n ?_ (fun i hi ih => ?_) 1 (by omega)
  · refine xgoal [(4, [0, 1, 2])] 100 ok_Perm_count ?_
    exact pk_lt n (n + 1) (fun c => hQ) (fun c => absurd c (by omega))
  · refine xgoal [(4, [0, 1, 2])] 100 ok_Perm_count ?_
    refine pk_lt n (i + 1) (fun c => absurd c (by omega)) (fun c => ?_)
    rw [show fct (i + 1) = fct i * (i + 1) from Nat.mul_comm _ _, ← n_mul, ← nI_1 (i + 1)] at ih
    exact ih
/-! number -/
def lmA (f : Nat → Nat) (n : Nat) : Nat → Nat
  | 0 => 2 ^ n - 1
  | i + 1 => lmA f n i &&& (2 ^ f i ^^^ 4294967295)
def nin (f : Nat → Nat) (b : Nat) : Nat → Bool
  | 0 => true
  | i + 1 => nin f b i && !decide (f i = b)
theorem lm_bit {f : Nat → Nat} {n : Nat} (hn : n ≤ 7) (b : Nat) : ∀ i, (lmA f n i).testBit b = (decide (b < n) && nin f b i)
  | 0 => by simp [lmA, nin, Nat.testBit_two_pow_sub_one]
  | i + 1 => by
    unfold lmA nin
    rw [Nat.testBit_and, lm_bit hn b i, Nat.testBit_xor, show (4294967295 : Nat) = 2 ^ 32 - 1 from rfl, Nat.testBit_two_pow_sub_one, Nat.testBit_two_pow]
    by_cases hb : b < n
    · have h2 : b < 32 := by omega
      simp [hb, h2]
    · simp [hb]
theorem lm_lt {f : Nat → Nat} {n : Nat} (hn : n ≤ 7) (i : Nat) : lmA f n i < 128 := by
  refine Nat.lt_pow_two_of_testBit (n := 7) _ (fun b hb => ?_)
  rw [lm_bit hn]
  have : ¬ b < n := by omega
  simp [this]
theorem lm_ct {f : Nat → Nat} {n v : Nat} (hn : n ≤ 7) (hf : PM n f) (hv : v ≤ n) : ∀ i, i ≤ n → ct (fun b => (lmA f n i).testBit b && decide (b < v)) 8 + ct (fun k => decide (f k < v)) i = v
  | 0, _ => by
    have e : ct (fun b => (lmA f n 0).testBit b && decide (b < v)) 8 = ct (fun b => decide (b < v)) 8 := ct_congr (fun b _ => by
      rw [lm_bit hn]
      by_cases h : b < v
      · have : b < n := by omega
        simp [nin, h, this]
      · simp [h])
    rw [e]
    have : ∀ v, v < 8 → ct (fun b => decide (b < v)) 8 = v := by decide
    rw [this v (by omega)]
    rfl
  | i + 1, h => by
    have ih := lm_ct hn hf hv i (by omega)
    have hi := hf.1 i (by omega)
    have hni : nin f (f i) i = true := by
      have key : ∀ j, j ≤ i → nin f (f i) j = true := by
        intro j
        induction j with
        | zero => intro _; rfl
        | succ j ihj =>
          intro hj
          unfold nin
          rw [ihj (by omega)]
          have : ¬ f j = f i := fun e => by have := hf.2 j i (by omega) (by omega) e; omega
          simp [this]
      exact key i (Nat.le_refl _)
    rw [ct_split _ (fun b => decide (b = f i))] at ih
    have e1 : ct (fun b => ((lmA f n i).testBit b && decide (b < v)) && decide (b = f i)) 8 = if f i < v then 1 else 0 := by
      have e : ct (fun b => ((lmA f n i).testBit b && decide (b < v)) && decide (b = f i)) 8 = ct (fun b => decide (b = f i) && decide (f i < v)) 8 := ct_congr (fun b _ => by
        by_cases hb : b = f i
        · subst hb
          rw [lm_bit hn, hni]
          simp [hi]
        · simp [hb])
      rw [e, ct_at]
      have : f i < 8 := by omega
      simp [this]
    have e2 : ct (fun b => ((lmA f n i).testBit b && decide (b < v)) && !decide (b = f i)) 8 = ct (fun b => (lmA f n (i + 1)).testBit b && decide (b < v)) 8 := ct_congr (fun b _ => by
      rw [lm_bit hn, lm_bit hn, show nin f b (i + 1) = (nin f b i && !decide (f i = b)) from rfl]
      by_cases hb : b = f i
      · subst hb; simp
      · have : ¬ f i = b := fun e => hb e.symm
        simp [hb, this])
    rw [e1, e2] at ih
    have e3 : ct (fun k => decide (f k < v)) (i + 1) = ct (fun k => decide (f k < v)) i + if f i < v then 1 else 0 := by
      conv => lhs; unfold ct
      simp
    rw [e3]
    omega
theorem less_eq {f : Nat → Nat} {n i : Nat} (hf : PM n f) (hi : i < n) : less f n i + ct (fun k => decide (f k < f i)) i = f i := by
  have h1 := PM_ct hf (Nat.le_of_lt (hf.1 i hi))
  rw [ct_split _ (fun k => decide (i < k))] at h1
  have e1 : ct (fun k => decide (f k < f i) && decide (i < k)) n = less f n i := ct_congr (fun k _ => Bool.and_comm _ _)
  have e2 : ∀ m, m ≤ n → i ≤ m → ct (fun k => decide (f k < f i) && !decide (i < k)) m = ct (fun k => decide (f k < f i)) i := by
    intro m
    induction m with
    | zero => intro _ h0; have : i = 0 := by omega
              subst this; rfl
    | succ m ih =>
      intro h2 h3
      by_cases e : i = m + 1
      · subst e
        refine ct_congr (fun k hk => ?_)
        have : ¬ m + 1 < k := by omega
        simp [this]
      · rw [← ih (by omega) (by omega)]
        conv => lhs; unfold ct
        by_cases e3 : i = m
        · subst e3; simp
        · have : i < m := by omega
          simp [this]
  rw [e1, e2 n (Nat.le_refl _) (by omega)] at h1
  exact h1
theorem pop_less {f : Nat → Nat} {n i : Nat} (hn : n ≤ 7) (hf : PM n f) (hi : i < n) : pop (lmA f n i &&& (2 ^ f i - 1)) = less f n i := by
  have h1 := lm_ct hn hf (v := f i) (Nat.le_of_lt (hf.1 i hi)) i (by omega)
  have h2 := less_eq hf hi
  have e : pop (lmA f n i &&& (2 ^ f i - 1)) = ct (fun b => (lmA f n i).testBit b && decide (b < f i)) 8 := ct_congr (fun b _ => by
    rw [Nat.testBit_and, Nat.testBit_two_pow_sub_one])
  omega
theorem sp_Perm_number {n : Nat} {f : Nat → Nat} (hn : n ≤ 7) (hf : PM n f) (h : xHp) : Spec g_Perm_number [.int (R (nrm n f)), .int (nI n)] h (some (.int (nI (rank n f)))) h := by
  refine Spec.of (by decide +kernel) (Nat.le_of_ble_eq_true rfl) ⟨_, rfl⟩ rfl rfl (fun c hc => by cases hc) (fun Q hQ => ?_)
  refine xgoal [(11, [0, 1, 2, 3, 4])] 100 ok_Perm_number ?_
  have h2 : 2 ^ n ≤ 2 ^ 7 := Nat.pow_le_pow_right (by omega) hn
  have h3 : 1 ≤ 2 ^ n := Nat.two_pow_pos n
  have e0 : nI 1 <<< (nI n &&& 31) - nI 1 = nI (lmA f n 0) := by
    rw [n_shl _ _ (by omega), Nat.one_mul, pk_sub h3]; rfl
  have key := up_loop (P := fun i => xAt (h.1, h.2.1) g_Perm_number Q 11 [(0, .int (R (nrm n f))), (1, .int (nI n)), (2, .int (nI (lmA f n i))), (3, .int (nI (rkA f n i))), (4, .int (nI i))] [] h) n ?_ (fun i hi ih => ?_) 0 (Nat.zero_le _)
  · rw [← e0] at key
    exact key
  · refine xgoal [(11, [0, 1, 2, 3, 4])] 100 ok_Perm_number ?_
    exact pk_le n n (fun c => hQ) (fun c => absurd c (by omega))
  · refine xgoal [(11, [0, 1, 2, 3, 4])] 100 ok_Perm_number ?_
    refine pk_le n i (fun c => absurd c (by omega)) (fun c => ?_)
    have hfi := hf.1 i hi
    refine xci (sp_Row_entry (nrm_b8 (fun j hj => by have := hf.1 j hj; omega)) (by omega) _) ?_
    rw [nrm_in hi]
    have g1 : 2 ^ f i ≤ 2 ^ 7 := Nat.pow_le_pow_right (by omega) (by omega)
    have g2 : 1 ≤ 2 ^ f i := Nat.two_pow_pos _
    have e1 : nI 1 <<< (nI (f i) &&& 31) = nI (2 ^ f i) := by rw [n_shl _ _ (by omega), Nat.one_mul]
    have e2 : nI (lmA f n i) &&& (nI 1 <<< (nI (f i) &&& 31) - nI 1) = nI (lmA f n i &&& (2 ^ f i - 1)) := by rw [e1, pk_sub g2, n_and]
    have g3 := lm_lt (f := f) hn i
    have g4 : lmA f n i &&& (2 ^ f i - 1) ≤ lmA f n i := Nat.and_le_left
    have sp := sp_JI_bitCount (x := lmA f n i &&& (2 ^ f i - 1)) (by omega) h
    rw [← e2, pop_less hn hf hi] at sp
    refine xci sp ?_
    have e3 : nI (lmA f n (i + 1)) = nI (lmA f n i) &&& ((nI 1 <<< (nI (f i) &&& 31)) ^^^ -1) := by
      rw [e1, n_m1, n_xor, n_and]; rfl
    have e4 : nI (rkA f n (i + 1)) = nI (rkA f n i) * (nI n - nI i) + nI (less f n i) := by
      rw [pk_sub (Nat.le_of_lt hi), n_mul, nI_add]; rfl
    rw [e3, e4, ← nI_1 i] at ih
    exact ih
end
section
/-! Permutation: numbers, inverses, powers, roots -/
theorem R_nrm {n : Nat} {f g : Nat → Nat} (h : ∀ i, i < n → f i = g i) : R (nrm n f) = R (nrm n g) := R_congr fun i _ => by
  unfold nrm
  split
  · exact h i (by assumption)
  · rfl
theorem uf_lt8 {n k m : Nat} (hn : n ≤ 7) (hm : m ≤ n) : ∀ j, j < n → uf n k m j < 8 := by
  intro j hj
  by_cases h : n - m ≤ j
  · have := (uf_PM n k m hm).1 j h hj; omega
  · have key : ∀ m, m ≤ n → j < n - m → uf n k m j = 0 := by
      intro m
      induction m with
      | zero => intro _ _; rfl
      | succ m ih =>
        intro h1 h2
        unfold uf
        rw [if_neg (by omega), if_neg (by omega), ih (by omega) (by omega)]
    rw [key m hm (by omega)]
    omega
theorem uf_lt7 {n k m : Nat} (hn : n ≤ 7) (hm : m + 1 ≤ n) : ∀ j, n - m ≤ j → j < n → uf n k m j < 7 := by
  intro j h hj
  have := (uf_PM n k m (by omega)).1 j h hj; omega
/-- the inner loop's row: the lines from i + 1 to j have made room for v -/
def ufj (n k m j : Nat) : Nat → Nat := fun t => if n - 1 - m < t ∧ t < j then shf (ur k m % (m + 1)) (uf n k m t) else uf n k m t
theorem nI_dec {x : Nat} (h : 0 < x) : nI x + -1 = nI (x - 1) := sb_m1 h
theorem sp_Perm_numbered {n k : Nat} (hn1 : 1 ≤ n) (hn : n ≤ 7) (hk : k < 2147483648) (h : xHp) : Spec g_Perm_numbered [.int (nI k), .int (nI n)] h (some (.int (R (nrm n (unr n k))))) h := by
  refine Spec.of (by decide +kernel) (Nat.le_of_ble_eq_true rfl) ⟨_, rfl⟩ rfl rfl (fun c hc => by cases hc) (fun Q hQ => ?_)
  refine xgoal [(9, [1, 2, 3, 4]), (37, [1, 2, 3, 4, 6, 7])] 100 ok_Perm_numbered ?_
  have key := up_loop (P := fun m => xAt (h.1, h.2.1) g_Perm_numbered Q 9 [(1, .int (nI n)), (2, .int (R (nrm n (uf n k m)))), (3, .int (nI (ur k m))), (4, .int (nI (n - m) + -1))] [] h) n ?_ (fun m hm ih => ?_) 0 (Nat.zero_le _)
  · rw [Nat.sub_zero, nI_dec (by omega)] at key
    have e : nI n - nI 1 = nI (n - 1) := pk_sub hn1
    have e9 : R (nrm n (uf n k 0)) = nI 0 := R_congr (f := nrm n (uf n k 0)) (g := fun _ => 0) (fun i _ => by unfold nrm; split <;> rfl)
    rw [← e, e9] at key
    exact key
  · refine xgoal [(9, [1, 2, 3, 4]), (37, [1, 2, 3, 4, 6, 7])] 100 ok_Perm_numbered ?_
    refine And.intro (fun c => hQ) (fun c => absurd ?_ c)
    rw [Nat.sub_self]; decide
  · refine xgoal [(9, [1, 2, 3, 4]), (37, [1, 2, 3, 4, 6, 7])] 100 ok_Perm_numbered ?_
    have e0 : nI (n - m) + -1 = nI (n - 1 - m) := by rw [nI_dec (by omega), show n - m - 1 = n - 1 - m by omega]
    have e1 : nI n - (nI (n - m) + -1) = nI (m + 1) := by rw [e0, pk_sub (by omega), show n - (n - 1 - m) = m + 1 by omega]
    have hur : ur k m < 2147483648 := by rw [ur_fct]; exact Nat.lt_of_le_of_lt (Nat.div_le_self _ _) hk
    have hd : ¬ nI n - (nI (n - m) + -1) = 0 := by rw [e1]; exact nI_ne0 (by omega) (by omega)
    have hv : ur k m % (m + 1) < m + 1 := Nat.mod_lt _ (Nat.succ_pos m)
    refine And.intro (fun c => absurd c (by rw [e0]; exact nI_pos (by omega))) (fun c => ?_)
    refine And.intro hd ?_
    refine And.intro hd ?_
    have e2 : nI (ur k m) - nI (ur k m) / (nI n - (nI (n - m) + -1)) * (nI n - (nI (n - m) + -1)) = nI (ur k m % (m + 1)) := by rw [e1, pk_rem hur (by omega) (by omega)]
    have e3 : nI (ur k m) / (nI n - (nI (n - m) + -1)) = nI (ur k (m + 1)) := by rw [e1, pk_div hur (by omega) (by omega)]; rfl
    have key := up_loop (P := fun j => n - m ≤ j → xAt (h.1, h.2.1) g_Perm_numbered Q 37 [(1, .int (nI n)), (2, .int (R (nrm n (ufj n k m j)))), (3, .int (nI (ur k (m + 1)))), (4, .int (nI (n - m) + -1)), (6, .int (nI (ur k m % (m + 1)))), (7, .int (nI j))] [] h) n ?_ (fun j hj ihj => ?_) (n - m) (by omega) (Nat.le_refl _)
    · have e4 : R (nrm n (ufj n k m (n - m))) = R (nrm n (uf n k m)) := R_nrm (fun i _ => by unfold ufj; rw [if_neg (by omega)])
      have e5 : nI (n - m) = nI (n - m) + -1 + nI 1 := by rw [e0, nI_add, show n - 1 - m + 1 = n - m by omega]
      rw [e4, ← e2, ← e3] at key
      rw [show [(1, Value.int (nI n)), (2, Value.int (R (nrm n (uf n k m)))), (3, Value.int (nI (ur k m) / (nI n - (nI (n - m) + -1)))), (4, Value.int (nI (n - m) + -1)), (6, Value.int (nI (ur k m) - nI (ur k m) / (nI n - (nI (n - m) + -1)) * (nI n - (nI (n - m) + -1)))), (7, Value.int (nI (n - m)))] = [(1, Value.int (nI n)), (2, Value.int (R (nrm n (uf n k m)))), (3, Value.int (nI (ur k m) / (nI n - (nI (n - m) + -1)))), (4, Value.int (nI (n - m) + -1)), (6, Value.int (nI (ur k m) - nI (ur k m) / (nI n - (nI (n - m) + -1)) * (nI n - (nI (n - m) + -1)))), (7, Value.int (nI (n - m) + -1 + nI 1))] from by rw [← e5]] at key
      exact key
    · intro _
      refine xgoal [(9, [1, 2, 3, 4]), (37, [1, 2, 3, 4, 6, 7])] 100 ok_Perm_numbered ?_
      refine pk_le n n (fun c => ?_) (fun c => absurd c (by omega))
      have hb : b8 (nrm n (ufj n k m n)) := nrm_b8 (fun j hj => by
        unfold ufj
        split
        · have := uf_lt7 hn hm j (k := k) (by omega) hj
          unfold shf; split <;> omega
        · exact uf_lt8 hn (by omega) j hj)
      have sp := sp_Row_with (i := n - 1 - m) hb (by omega) (v := ur k m % (m + 1)) (by omega) h
      rw [← e0] at sp
      refine xci sp ?_
      have e6 : R (upn (nrm n (ufj n k m n)) (n - 1 - m) (ur k m % (m + 1))) = R (nrm n (uf n k (m + 1))) := R_congr (fun i _ => by
        unfold upn nrm
        by_cases g1 : i = n - 1 - m
        · rw [if_pos g1, if_pos (by omega)]
          unfold uf
          rw [if_pos g1]
        · rw [if_neg g1]
          by_cases g2 : i < n
          · rw [if_pos g2, if_pos g2]
            unfold ufj
            conv => rhs; unfold uf
            rw [if_neg g1]
            by_cases g3 : n - 1 - m < i
            · rw [if_pos ⟨g3, g2⟩, if_pos g3]
            · rw [if_neg (fun z => g3 z.1), if_neg g3]
          · rw [if_neg g2, if_neg g2])
      have e7 : nI (n - (m + 1)) + -1 = nI (n - m) + -1 + -1 := by rw [e0, show n - (m + 1) = n - 1 - m by omega]
      rw [← e6, e7] at ih
      exact ih
    · intro hj0
      have ihj := ihj (by omega)
      refine xgoal [(9, [1, 2, 3, 4]), (37, [1, 2, 3, 4, 6, 7])] 100 ok_Perm_numbered ?_
      refine pk_le n j (fun c => absurd c (by omega)) (fun c => ?_)
      have hb : b8 (nrm n (ufj n k m j)) := nrm_b8 (fun t ht => by
        unfold ufj
        split
        · have := uf_lt7 hn hm t (k := k) (by omega) ht
          unfold shf; split <;> omega
        · exact uf_lt8 hn (by omega) t ht)
      have ej : nrm n (ufj n k m j) j = uf n k m j := by
        rw [nrm_in hj]; unfold ufj; rw [if_neg (by omega)]
      have sp := sp_Row_entry (i := j) hb (by omega) h
      rw [ej] at sp
      have h7 := uf_lt7 hn hm j (k := k) hj0 hj
      refine xci sp ?_
      refine pk_lt (uf n k m j) (ur k m % (m + 1)) (fun c2 => ?_) (fun c2 => ?_)
      · have e8 : R (nrm n (ufj n k m (j + 1))) = R (nrm n (ufj n k m j)) := R_nrm (fun i hi => by
          unfold ufj
          by_cases g : i = j
          · subst g
            rw [if_pos (by omega), if_neg (by omega)]
            unfold shf; rw [if_neg (by omega)]
          · by_cases g2 : n - 1 - m < i ∧ i < j
            · rw [if_pos g2, if_pos (by omega)]
            · rw [if_neg g2, if_neg (by omega)])
        rw [e8, ← nI_1 j] at ihj
        exact ihj
      · have sp2 := sp_Row_with (i := j) hb (by omega) (v := uf n k m j + 1) (by omega) h
        rw [← nI_1 (uf n k m j)] at sp2
        refine xci sp2 ?_
        have e8 : R (upn (nrm n (ufj n k m j)) j (uf n k m j + 1)) = R (nrm n (ufj n k m (j + 1))) := R_congr (fun i hi => by
          unfold upn nrm
          by_cases g : i = j
          · subst g
            rw [if_pos rfl, if_pos hj]
            unfold ufj
            rw [if_pos (by omega)]
            unfold shf; rw [if_pos (by omega)]
          · rw [if_neg g]
            by_cases g3 : i < n
            · rw [if_pos g3, if_pos g3]
              unfold ufj
              by_cases g2 : n - 1 - m < i ∧ i < j
              · rw [if_pos g2, if_pos (by omega)]
              · rw [if_neg g2, if_neg (by omega)]
            · rw [if_neg g3, if_neg g3])
        rw [← e8, ← nI_1 j] at ihj
        exact ihj
/-! inverses -/
def ivA (f : Nat → Nat) : Nat → Nat → Nat
  | 0 => fun _ => 0
  | i + 1 => upn (ivA f i) (f i) i
def inv (n : Nat) (f : Nat → Nat) : Nat → Nat := ivA f n
theorem ivA_lt {f : Nat → Nat} : ∀ m v, ivA f m v < m ∨ ivA f m v = 0
  | 0, _ => Or.inr rfl
  | m + 1, v => by
    unfold ivA upn
    split
    · exact Or.inl (Nat.lt_succ_self m)
    · rcases ivA_lt (f := f) m v with h | h
      · exact Or.inl (by omega)
      · exact Or.inr h
theorem ivA_get {n : Nat} {f : Nat → Nat} (hf : PM n f) : ∀ m, m ≤ n → ∀ i, i < m → ivA f m (f i) = i
  | 0, _, i, h => absurd h (Nat.not_lt_zero i)
  | m + 1, hm, i, h => by
    unfold ivA upn
    by_cases e : f i = f m
    · rw [if_pos e]
      exact (hf.2 i m (by omega) (by omega) e).symm
    · rw [if_neg e]
      exact ivA_get hf m (by omega) i (by
        have : i ≠ m := fun z => e (by rw [z])
        omega)
theorem inv_get {n i : Nat} {f : Nat → Nat} (hf : PM n f) (hi : i < n) : inv n f (f i) = i := ivA_get hf n (Nat.le_refl _) i hi
theorem PM_sur {n v : Nat} {f : Nat → Nat} (hf : PM n f) (hv : v < n) : ∃ i, i < n ∧ f i = v := by
  refine Classical.byContradiction fun hno => ?_
  have h1 := PM_ct hf (Nat.le_of_lt hv)
  have h2 := PM_ct hf (v := v + 1) hv
  have e : ct (fun k => decide (f k < v + 1)) n = ct (fun k => decide (f k < v)) n := ct_congr (fun k hk => by
    have : f k ≠ v := fun z => hno ⟨k, hk, z⟩
    exact decide_eq_decide.mpr (by omega))
  omega
theorem get_inv {n v : Nat} {f : Nat → Nat} (hf : PM n f) (hv : v < n) : inv n f v < n ∧ f (inv n f v) = v := by
  obtain ⟨i, hi, rfl⟩ := PM_sur hf hv
  rw [inv_get hf hi]
  exact ⟨hi, rfl⟩
theorem inv_PM {n : Nat} {f : Nat → Nat} (hf : PM n f) : PM n (inv n f) := ⟨fun i hi => (get_inv hf hi).1, fun i j hi hj e => by
  rw [← (get_inv hf hi).2, ← (get_inv hf hj).2, e]⟩
theorem ivA_out {n : Nat} {f : Nat → Nat} (hf : ∀ i, i < n → f i < n) : ∀ m, m ≤ n → ∀ v, n ≤ v → ivA f m v = 0
  | 0, _, _, _ => rfl
  | m + 1, hm, v, hv => by
    unfold ivA upn
    rw [if_neg (by have := hf m (by omega); omega)]
    exact ivA_out hf m (by omega) v hv
theorem sp_Perm_inverse {n : Nat} {f : Nat → Nat} (hn : n ≤ 7) (hf : PM n f) (h : xHp) : Spec g_Perm_inverse [.int (R (nrm n f)), .int (nI n)] h (some (.int (R (nrm n (inv n f))))) h := by
  refine Spec.of (by decide +kernel) (Nat.le_of_ble_eq_true rfl) ⟨_, rfl⟩ rfl rfl (fun c hc => by cases hc) (fun Q hQ => ?_)
  refine xgoal [(4, [0, 1, 2, 3])] 100 ok_Perm_inverse ?_
  have hb : ∀ i, i ≤ n → b8 (ivA f i) := fun i hi v _ => by
    rcases ivA_lt (f := f) i v with h | h <;> omega
  refine up_loop (P := fun i => xAt (h.1, h.2.1) g_Perm_inverse Q 4 [(0, .int (R (nrm n f))), (1, .int (nI n)), (2, .int (R (ivA f i))), (3, .int (nI i))] [] h) n ?_ (fun i hi ih => ?_) 0 (Nat.zero_le _)
  · refine xgoal [(4, [0, 1, 2, 3])] 100 ok_Perm_inverse ?_
    have e : R (nrm n (inv n f)) = R (ivA f n) := R_congr (fun v _ => by
      unfold nrm
      by_cases g : v < n
      · rw [if_pos g]; rfl
      · rw [if_neg g, ivA_out hf.1 n (Nat.le_refl _) v (by omega)])
    rw [e] at hQ
    exact pk_le n n (fun c => hQ) (fun c => absurd c (by omega))
  · refine xgoal [(4, [0, 1, 2, 3])] 100 ok_Perm_inverse ?_
    refine pk_le n i (fun c => absurd c (by omega)) (fun c => ?_)
    have hfi := hf.1 i hi
    have sp := sp_Row_entry (i := i) (nrm_b8 (fun j hj => by have := hf.1 j hj; omega) : b8 (nrm n f)) (by omega) h
    rw [nrm_in hi] at sp
    refine xci sp ?_
    refine xci (sp_Row_with (hb i (by omega)) (by omega) (by omega) _) ?_
    rw [← nI_1 i] at ih
    exact ih
/-! powers -/
def itr (f : Nat → Nat) : Nat → Nat → Nat
  | 0, i => i
  | k + 1, i => f (itr f k i)
theorem itr_add (f : Nat → Nat) (a b i : Nat) : itr f (a + b) i = itr f a (itr f b i) := by
  induction a with
  | zero => rw [Nat.zero_add]; rfl
  | succ a ih => rw [Nat.succ_add]; show f _ = f _; rw [ih]
theorem itr_lt {n : Nat} {f : Nat → Nat} (hf : ∀ i, i < n → f i < n) (k : Nat) : ∀ i, i < n → itr f k i < n := by
  induction k with
  | zero => intro i hi; exact hi
  | succ k ih => intro i hi; exact hf _ (ih i hi)
theorem itr_inj {n : Nat} {f : Nat → Nat} (hf : PM n f) (k : Nat) : ∀ i j, i < n → j < n → itr f k i = itr f k j → i = j := by
  induction k with
  | zero => intro i j _ _ e; exact e
  | succ k ih => intro i j hi hj e; exact ih i j hi hj (hf.2 _ _ (itr_lt hf.1 k i hi) (itr_lt hf.1 k j hj) e)
theorem itr_PM {n : Nat} {f : Nat → Nat} (hf : PM n f) (k : Nat) : PM n (itr f k) := ⟨itr_lt hf.1 k, itr_inj hf k⟩
theorem itr_congr {n : Nat} {f g : Nat → Nat} (hf : ∀ i, i < n → f i < n) (h : ∀ i, i < n → f i = g i) (k : Nat) : ∀ i, i < n → itr f k i = itr g k i := by
  induction k with
  | zero => intro i _; rfl
  | succ k ih => intro i hi; show f _ = g _; rw [← ih i hi]; exact h _ (itr_lt hf k i hi)
theorem sp_Perm_repeated {n k : Nat} {f : Nat → Nat} (hn : n ≤ 7) (hf : PM n f) (hk : k < 2147483648) (h : xHp) : Spec g_Perm_repeated [.int (R (nrm n f)), .int (nI k), .int (nI n)] h (some (.int (R (nrm n (itr f k))))) h := by
  refine Spec.of (by decide +kernel) (Nat.le_of_ble_eq_true rfl) ⟨_, rfl⟩ rfl rfl (fun c hc => by cases hc) (fun Q hQ => ?_)
  refine xgoal [(11, [2, 3, 4, 5])] 100 ok_Perm_repeated ?_
  refine xci (sp_Row_ascending hn h) ?_
  have loop : ∀ z m r s, m < z → 0 < s → r + s * m = k → xAt (h.1, h.2.1) g_Perm_repeated Q 11 [(2, .int (nI n)), (3, .int (R (nrm n (itr f r)))), (4, .int (R (nrm n (itr f s)))), (5, .int (nI m))] [] h := by
    intro z
    induction z with
    | zero => intro m r s hm; omega
    | succ z ih =>
      intro m r s hm hs hrs
      have hmk : m ≤ k := by
        have : m ≤ s * m := Nat.le_mul_of_pos_left m hs
        omega
      have l8 : ∀ a, ∀ i, i < n → itr f a i < 8 := fun a i hi => by have := itr_lt hf.1 a i hi; omega
      have tt : ∀ a b, Spec g_Row_turned [.int (R (nrm n (itr f a))), .int (R (nrm n (itr f b))), .int (nI n)] h (some (.int (R (nrm n (itr f (a + b)))))) h := fun a b => by
        have e : R (nrm n (itr f (a + b))) = R (nrm n (fun i => itr f a (itr f b i))) := R_nrm (fun i _ => itr_add f a b i)
        rw [e]
        exact sp_Row_turned hn (l8 a) (itr_lt hf.1 b) h
      refine xgoal [(11, [2, 3, 4, 5])] 100 ok_Perm_repeated ?_
      refine pk_le m 0 (fun c => ?_) (fun c => ?_)
      · have : m = 0 := by omega
        subst this
        rw [Nat.mul_zero, Nat.add_zero] at hrs
        subst hrs
        exact hQ
      · have e1 : nI m &&& nI 1 = nI (m % 2) := by rw [n_and, show (1 : Nat) = 2 ^ 1 - 1 from rfl, Nat.and_two_pow_sub_one_eq_mod]
        have e2 : nI m >>> (nI 1 &&& 31) = nI (m / 2) := n_shr (by omega) (by omega)
        have e3 : s * m = (s + s) * (m / 2) + s * (m % 2) := by
          conv => lhs; rw [← Nat.div_add_mod m 2]
          rw [Nat.mul_add, ← Nat.mul_assoc, Nat.mul_two]
        refine pk_eq (m % 2) 1 (fun c2 => ?_) (fun c2 => ?_) e1 rfl
        · refine xci (tt r s) ?_
          refine xci (tt s s) ?_
          rw [c2, Nat.mul_one] at e3
          have ih := ih (m / 2) (r + s) (s + s) (by omega) (by omega) (by omega)
          rw [← e2] at ih
          exact ih
        · refine xci (tt s s) ?_
          have c3 : m % 2 = 0 := by omega
          rw [c3, Nat.mul_zero] at e3
          have ih := ih (m / 2) r (s + s) (by omega) (by omega) (by omega)
          rw [← e2] at ih
          exact ih
  have key := loop (k + 1) k 0 1 (by omega) (by omega) (by omega)
  have e : R (nrm n (itr f 1)) = R (nrm n f) := R_nrm (fun i _ => rfl)
  rw [e] at key
  exact key
end
section
/-! Permutation: orders, roots, kinds, cycles -/
/-- the first number from k on with p, at most z further -/
def sr (p : Nat → Bool) : Nat → Nat → Nat
  | 0, k => k
  | z + 1, k => if p k = true then k else sr p z (k + 1)
theorem sr_ge (p : Nat → Bool) : ∀ z k, k ≤ sr p z k
  | 0, _ => Nat.le_refl _
  | z + 1, k => by
    unfold sr
    split
    · exact Nat.le_refl _
    · have := sr_ge p z (k + 1); omega
theorem sr_le (p : Nat → Bool) : ∀ z k, sr p z k ≤ k + z
  | 0, _ => Nat.le_refl _
  | z + 1, k => by
    unfold sr
    split
    · omega
    · have := sr_le p z (k + 1); omega
theorem sr_no (p : Nat → Bool) : ∀ z k j, k ≤ j → j < sr p z k → p j = false
  | 0, k, j, h1, h2 => by unfold sr at h2; omega
  | z + 1, k, j, h1, h2 => by
    unfold sr at h2
    split at h2
    · omega
    · by_cases e : j = k
      · subst e; simpa using (by assumption : ¬ p j = true)
      · exact sr_no p z (k + 1) j (by omega) h2
theorem sr_yes (p : Nat → Bool) : ∀ z k, sr p z k < k + z → p (sr p z k) = true
  | 0, k, h => by unfold sr at h; omega
  | z + 1, k, h => by
    unfold sr at h ⊢
    split
    · assumption
    · rename_i hp
      rw [if_neg hp] at h
      exact sr_yes p z (k + 1) (by omega)
theorem sr_at {p : Nat → Bool} {z k m : Nat} (h1 : k ≤ m) (h2 : m < k + z) (hm : p m = true) (hno : ∀ j, k ≤ j → j < m → p j = false) : sr p z k = m := by
  have g1 := sr_ge p z k
  have g2 := sr_no p z k
  rcases Nat.lt_trichotomy (sr p z k) m with h | h | h
  · have := sr_yes p z k (by omega)
    rw [hno _ g1 h] at this; cases this
  · exact h
  · rw [g2 m h1 h] at hm; cases hm
theorem sr_congr {p q : Nat → Bool} : ∀ {z k : Nat}, (∀ j, k ≤ j → j < k + z → p j = q j) → sr p z k = sr q z k
  | 0, _, _ => rfl
  | z + 1, k, h => by
    unfold sr
    rw [h k (Nat.le_refl _) (by omega), sr_congr (z := z) (k := k + 1) (fun j h1 h2 => h j (by omega) (by omega))]
theorem pk_R {n : Nat} {f g : Nat → Nat} {A B : Prop} (hn : n ≤ 7) (hf : ∀ i, i < n → f i < 8) (hg : ∀ i, i < n → g i < 8) (t : (∀ i, i < n → f i = g i) → A) (e : ¬ (∀ i, i < n → f i = g i) → B) : (R (nrm n f) = R (nrm n g) → A) ∧ (¬ R (nrm n f) = R (nrm n g) → B) := by
  refine ⟨fun h => t (fun i hi => ?_), fun h => e (fun z => h (R_nrm z))⟩
  have := R_inj (nrm_b8 hf) (nrm_b8 hg) h i (by omega)
  rwa [nrm_in hi, nrm_in hi] at this
def idb (n : Nat) (f : Nat → Nat) (k : Nat) : Bool := decide (∀ i, i < n → itr f k i = i)
/-- the order, if it is at most 12 -/
def ord (n : Nat) (f : Nat → Nat) : Nat := sr (idb n f) 11 1
theorem sp_Perm_order {n : Nat} {f : Nat → Nat} (hn : n ≤ 7) (hf : PM n f) (h : xHp) : Spec g_Perm_order [.int (R (nrm n f)), .int (nI n)] h (some (.int (nI (ord n f)))) h := by
  refine Spec.of (by decide +kernel) (Nat.le_of_ble_eq_true rfl) ⟨_, rfl⟩ rfl rfl (fun c hc => by cases hc) (fun Q hQ => ?_)
  refine xgoal [(10, [0, 1, 2, 3, 4])] 100 ok_Perm_order ?_
  refine xci (sp_Row_ascending hn h) ?_
  have loop : ∀ z k, k + z = 12 → 1 ≤ k → ord n f = sr (idb n f) (12 - k) k → xAt (h.1, h.2.1) g_Perm_order Q 10 [(0, .int (R (nrm n f))), (1, .int (nI n)), (2, .int (R (nrm n (fun i => i)))), (3, .int (R (nrm n (itr f k)))), (4, .int (nI k))] [] h := by
    intro z
    induction z with
    | zero =>
      intro k hk hk1 ho
      have : k = 12 := by omega
      subst this
      have ho : ord n f = 12 := ho
      rw [ho] at hQ
      refine xgoal [(10, [0, 1, 2, 3, 4])] 100 ok_Perm_order ?_
      refine pk_R hn (fun i hi => by have := itr_lt hf.1 12 i hi; omega) (fun i hi => by omega) (fun c => hQ) (fun c => ?_)
      exact pk_le 12 12 (fun c => hQ) (fun c => absurd c (by omega))
    | succ z ih =>
      intro k hk hk1 ho
      have e : 12 - k = (12 - (k + 1)) + 1 := by omega
      refine xgoal [(10, [0, 1, 2, 3, 4])] 100 ok_Perm_order ?_
      rw [e] at ho
      unfold sr at ho
      refine pk_R hn (fun i hi => by have := itr_lt hf.1 k i hi; omega) (fun i hi => by omega) (fun c => ?_) (fun c => ?_)
      · have hb : idb n f k = true := decide_eq_true c
        rw [if_pos hb] at ho
        rw [ho] at hQ
        exact hQ
      · have hb : ¬ idb n f k = true := fun z => c (of_decide_eq_true z)
        rw [if_neg hb] at ho
        refine pk_le 12 k (fun c => absurd c (by omega)) (fun c => ?_)
        have e2 : R (nrm n (itr f (k + 1))) = R (nrm n (fun i => itr f k (f i))) := R_nrm (fun i _ => itr_add f k 1 i)
        refine xci (sp_Row_turned hn (fun i hi => by have := itr_lt hf.1 k i hi; omega) hf.1 h) ?_
        have ih := ih (k + 1) (by omega) (by omega) ho
        rw [e2, ← nI_1 k] at ih
        exact ih
  exact loop 11 1 rfl (Nat.le_refl _) rfl
/-! roots -/
def rtb (n : Nat) (f : Nat → Nat) (k m : Nat) : Bool := decide (∀ i, i < n → itr (unr n m) k i = f i)
def rt (n : Nat) (f : Nat → Nat) (k : Nat) : Nat := sr (rtb n f k) (fct n) 0
theorem sp_Perm_firstRoot {n k : Nat} {f : Nat → Nat} (hn1 : 2 ≤ n) (hn : n ≤ 7) (hf : PM n f) (hk : k < 2147483648) (h : xHp) : Spec g_Perm_firstRoot [.int (R (nrm n f)), .int (nI k), .int (nI n)] h (some (.int (if rt n f k < fct n then R (nrm n (unr n (rt n f k))) else -1))) h := by
  refine Spec.of (by decide +kernel) (Nat.le_of_ble_eq_true rfl) ⟨_, rfl⟩ rfl rfl (fun c hc => by cases hc) (fun Q hQ => ?_)
  have h5 := fct_le hn
  refine xgoal [(8, [0, 1, 2, 3, 4])] 100 ok_Perm_firstRoot ?_
  refine xci (sp_Perm_count hn1 hn h) ?_
  have key := up_loop (P := fun m => rt n f k = sr (rtb n f k) (fct n - m) m → xAt (h.1, h.2.1) g_Perm_firstRoot Q 8 [(0, .int (R (nrm n f))), (1, .int (nI k)), (2, .int (nI n)), (3, .int (nI (fct n))), (4, .int (nI m))] [] h) (fct n) ?_ (fun m hm ih => ?_) 0 (Nat.zero_le _)
  · exact key rfl
  · intro hr
    rw [Nat.sub_self] at hr
    have hr : rt n f k = fct n := hr
    rw [if_neg (by omega)] at hQ
    refine xgoal [(8, [0, 1, 2, 3, 4])] 100 ok_Perm_firstRoot ?_
    exact pk_le (fct n) (fct n) (fun c => hQ) (fun c => absurd c (by omega))
  · intro hr
    have e : fct n - m = (fct n - (m + 1)) + 1 := by omega
    rw [e] at hr
    unfold sr at hr
    have pm := unr_PM n m
    refine xgoal [(8, [0, 1, 2, 3, 4])] 100 ok_Perm_firstRoot ?_
    refine pk_le (fct n) m (fun c => absurd c (by omega)) (fun c => ?_)
    refine xci (sp_Perm_numbered (by omega) hn (by omega) h) ?_
    refine xci (sp_Perm_repeated hn pm hk h) ?_
    refine pk_R hn (fun i hi => by have := itr_lt pm.1 k i hi; omega) (fun i hi => by have := hf.1 i hi; omega) (fun c2 => ?_) (fun c2 => ?_)
    · have hb : rtb n f k m = true := decide_eq_true c2
      rw [if_pos hb] at hr
      rw [hr, if_pos hm] at hQ
      exact hQ
    · have hb : ¬ rtb n f k m = true := fun z => c2 (of_decide_eq_true z)
      rw [if_neg hb] at hr
      have ih := ih hr
      rw [← nI_1 m] at ih
      exact ih
/-! kinds -/
def kd (kind k n i : Nat) : Nat := match kind with
  | 1 => if i % 2 = 0 then n - 1 - i / 2 else i / 2
  | 2 => n - 1 - i
  | 3 => if i + k < n then i + k else i + k - n
  | 4 => if i = 0 then k else if i = k then 0 else i
  | 5 => if i < (n + 1) / 2 then 2 * i else 2 * (i - (n + 1) / 2) + 1
  | _ => i
def kdc : Bool := (List.range 8).all fun n => (List.range 6).all fun kind => (List.range n).all fun k => (List.range n).all fun i => Nat.blt (kd kind k n i) n && (List.range n).all fun j => !(Nat.beq (kd kind k n i) (kd kind k n j)) || Nat.beq i j
theorem kdc_ok : kdc = true := by decide +kernel
theorem kd_PM {kind k n : Nat} (hn : n ≤ 7) (hk : k < n) (hd : kind < 6) : PM n (kd kind k n) := by
  have h1 := List.all_eq_true.mp kdc_ok n (List.mem_range.mpr (by omega))
  have h2 := List.all_eq_true.mp h1 kind (List.mem_range.mpr hd)
  have h3 := List.all_eq_true.mp h2 k (List.mem_range.mpr hk)
  refine ⟨fun i hi => ?_, fun i j hi hj e => ?_⟩
  · have h4 := List.all_eq_true.mp h3 i (List.mem_range.mpr hi)
    rw [Bool.and_eq_true] at h4
    exact Nat.le_of_ble_eq_true h4.1
  · have h4 := List.all_eq_true.mp h3 i (List.mem_range.mpr hi)
    rw [Bool.and_eq_true] at h4
    have h5 := List.all_eq_true.mp h4.2 j (List.mem_range.mpr hj)
    rw [e, Nat.beq_refl] at h5
    exact nb_eq h5
theorem n_div2 {a : Nat} (ha : a < 2147483648) : nI a / nI 2 = nI (a / 2) := pk_div ha (by omega) (by omega)
theorem n_mod2 {a : Nat} (ha : a < 2147483648) : nI a - nI a / nI 2 * nI 2 = nI (a % 2) := pk_rem ha (by omega) (by omega)
theorem n_ne2 : ¬ nI 2 = 0 := nI_ne0 (by omega) (by omega)
theorem sp_Perm_lineOfWeave {n i : Nat} (hn : n ≤ 7) (hi : i < n) (h : xHp) : Spec g_Perm_lineOfWeave [.int (nI n), .int (nI i)] h (some (.int (nI (kd 5 0 n i)))) h := by
  refine Spec.of (by decide +kernel) (Nat.le_of_ble_eq_true rfl) ⟨_, rfl⟩ rfl rfl (fun c hc => by cases hc) (fun Q hQ => ?_)
  refine xgoal [] 100 ok_Perm_lineOfWeave ?_
  have e1 : (nI n + nI 1) / nI 2 = nI ((n + 1) / 2) := by rw [nI_add, n_div2 (by omega)]
  refine And.intro n_ne2 ?_
  have hQ : Q (some (.int (nI (if i < (n + 1) / 2 then 2 * i else 2 * (i - (n + 1) / 2) + 1)))) h := hQ
  refine pk_le ((n + 1) / 2) i (fun c => ?_) (fun c => ?_) e1 rfl
  · rw [if_neg (by omega)] at hQ
    have e2 : nI 2 * (nI i - (nI n + nI 1) / nI 2) + nI 1 = nI (2 * (i - (n + 1) / 2) + 1) := by rw [e1, pk_sub c, n_mul, nI_add]
    rw [← e2] at hQ
    exact hQ
  · rw [if_pos c, ← n_mul] at hQ
    exact hQ
theorem sp_Perm_lineOfKind {kind k n i : Nat} (hn : n ≤ 7) (hi : i < n) (hk : k < n) (hd : kind < 6) (h : xHp) : Spec g_Perm_lineOfKind [.int (nI kind), .int (nI k), .int (nI n), .int (nI i)] h (some (.int (nI (kd kind k n i)))) h := by
  refine Spec.of (by decide +kernel) (Nat.le_of_ble_eq_true rfl) ⟨_, rfl⟩ rfl rfl (fun c hc => by cases hc) (fun Q hQ => ?_)
  refine xgoal [] 100 ok_Perm_lineOfKind ?_
  refine pk_eq kind 1 (fun c => ?_) (fun c1 => ?_)
  · subst c
    have hQ : Q (some (.int (nI (if i % 2 = 0 then n - 1 - i / 2 else i / 2)))) h := hQ
    refine And.intro n_ne2 ?_
    refine pk_eq (i % 2) 0 (fun c => ?_) (fun c => ?_) (n_mod2 (by omega)) rfl
    · rw [if_pos c] at hQ
      refine And.intro n_ne2 ?_
      have e : nI n - nI 1 - nI i / nI 2 = nI (n - 1 - i / 2) := by rw [n_div2 (by omega), pk_sub (by omega), pk_sub (by omega)]
      rw [← e] at hQ
      exact hQ
    · rw [if_neg c] at hQ
      refine And.intro n_ne2 ?_
      rw [← n_div2 (by omega)] at hQ
      exact hQ
  refine pk_eq kind 2 (fun c => ?_) (fun c2 => ?_)
  · subst c
    have hQ : Q (some (.int (nI (n - 1 - i)))) h := hQ
    have e : nI n - nI 1 - nI i = nI (n - 1 - i) := by rw [pk_sub (by omega), pk_sub (by omega)]
    rw [← e] at hQ
    exact hQ
  refine pk_eq kind 3 (fun c => ?_) (fun c3 => ?_)
  · subst c
    have hQ : Q (some (.int (nI (if i + k < n then i + k else i + k - n)))) h := hQ
    refine pk_le n (i + k) (fun c => ?_) (fun c => ?_) rfl (nI_add i k)
    · rw [if_neg (by omega)] at hQ
      have e : nI i + nI k - nI n = nI (i + k - n) := by rw [nI_add, pk_sub c]
      rw [← e] at hQ
      exact hQ
    · rw [if_pos c, ← nI_add] at hQ
      exact hQ
  refine pk_eq kind 4 (fun c => ?_) (fun c4 => ?_)
  · subst c
    have hQ : Q (some (.int (nI (if i = 0 then k else if i = k then 0 else i)))) h := hQ
    refine pk_eq i 0 (fun c => ?_) (fun c => ?_)
    · rw [if_pos c] at hQ; exact hQ
    · rw [if_neg c] at hQ
      refine pk_eq i k (fun c => ?_) (fun c => ?_)
      · rw [if_pos c] at hQ; exact hQ
      · rw [if_neg c] at hQ; exact hQ
  refine pk_eq kind 5 (fun c => ?_) (fun c5 => ?_)
  · subst c
    exact xci (sp_Perm_lineOfWeave hn hi h) hQ
  · have : kind = 0 := by omega
    subst this
    exact hQ
theorem sp_Perm_ofKind {kind k n : Nat} (hn : n ≤ 7) (hk : k < n) (hd : kind < 6) (h : xHp) : Spec g_Perm_ofKind [.int (nI kind), .int (nI k), .int (nI n)] h (some (.int (R (nrm n (kd kind k n))))) h := by
  refine Spec.of (by decide +kernel) (Nat.le_of_ble_eq_true rfl) ⟨_, rfl⟩ rfl rfl (fun c hc => by cases hc) (fun Q hQ => ?_)
  have pm := kd_PM hn hk hd
  refine xgoal [(5, [0, 1, 2, 3, 4])] 100 ok_Perm_ofKind ?_
  refine up_loop (P := fun i => xAt (h.1, h.2.1) g_Perm_ofKind Q 5 [(0, .int (nI kind)), (1, .int (nI k)), (2, .int (nI n)), (3, .int (R (nrm i (kd kind k n)))), (4, .int (nI i))] [] h) n ?_ (fun i hi ih => ?_) 0 (Nat.zero_le _)
  · refine xgoal [(5, [0, 1, 2, 3, 4])] 100 ok_Perm_ofKind ?_
    exact pk_le n n (fun c => hQ) (fun c => absurd c (by omega))
  · refine xgoal [(5, [0, 1, 2, 3, 4])] 100 ok_Perm_ofKind ?_
    have g1 := pm.1 i hi
    refine pk_le n i (fun c => absurd c (by omega)) (fun c => ?_)
    refine xci (sp_Perm_lineOfKind hn hi hk hd _) ?_
    refine xci (sp_Row_with (nrm_b8 (fun j hj => by have := pm.1 j (by omega); omega)) (by omega) (by omega) _) ?_
    have e : R (upn (nrm i (kd kind k n)) i (kd kind k n i)) = R (nrm (i + 1) (kd kind k n)) := R_push
    rw [← e, ← nI_1 i] at ih
    exact ih
/-! cycles -/
/-- how many lines the cycle of a line has -/
def cyl (n : Nat) (f : Nat → Nat) (i : Nat) : Nat := sr (fun m => decide (itr f m i = i)) n 1
theorem cyl_ex {n i : Nat} {f : Nat → Nat} (hf : PM n f) (hi : i < n) : ∃ m, 1 ≤ m ∧ m ≤ n ∧ itr f m i = i := by
  refine Classical.byContradiction fun hno => ?_
  have h := ct_pig (n := n + 1) (v := n) (f := fun m => itr f m i) (p := fun _ => true) (fun a b ha hb _ _ e => ?_) (fun a _ _ => itr_lt hf.1 a i hi)
  · rw [ct_true] at h; omega
  · have key : ∀ a b, a < b → b ≤ n → itr f a i = itr f b i → False := by
      intro a b h1 h2 e
      have e2 : itr f b i = itr f a (itr f (b - a) i) := by rw [← itr_add, show a + (b - a) = b by omega]
      rw [e2] at e
      exact hno ⟨b - a, by omega, by omega, (itr_inj hf a _ _ hi (itr_lt hf.1 _ i hi) e).symm⟩
    rcases Nat.lt_trichotomy a b with g | g | g
    · exact (key a b g (by omega) e).elim
    · exact g
    · exact (key b a g (by omega) e.symm).elim
theorem cyl_spec {n i : Nat} {f : Nat → Nat} (hf : PM n f) (hi : i < n) : 1 ≤ cyl n f i ∧ cyl n f i ≤ n ∧ itr f (cyl n f i) i = i ∧ ∀ m, 1 ≤ m → m < cyl n f i → ¬ itr f m i = i := by
  obtain ⟨m, h1, h2, h3⟩ := cyl_ex hf hi
  have g1 := sr_ge (fun m => decide (itr f m i = i)) n 1
  have g2 := sr_no (fun m => decide (itr f m i = i)) n 1
  have g3 : cyl n f i ≤ m := by
    refine Nat.le_of_not_lt fun z => ?_
    have := g2 m h1 z
    simp [h3] at this
  have g4 := sr_yes (fun m => decide (itr f m i = i)) n 1 (by unfold cyl at g3; omega)
  exact ⟨g1, by omega, of_decide_eq_true g4, fun j h4 h5 z => by have := g2 j h4 h5; simp [z] at this⟩
def smA (f : Nat → Nat) (i : Nat) : Nat → Bool
  | 0 => true
  | m + 1 => smA f i m && decide (i < itr f (m + 1) i)
theorem smA_all {f : Nat → Nat} {i : Nat} : ∀ {m : Nat}, smA f i m = true ↔ ∀ j, 1 ≤ j → j ≤ m → i < itr f j i
  | 0 => ⟨fun _ j h1 h2 => absurd h2 (by omega), fun _ => rfl⟩
  | m + 1 => by
    unfold smA
    rw [Bool.and_eq_true, smA_all (m := m), decide_eq_true_eq]
    constructor
    · rintro ⟨h1, h2⟩ j g1 g2
      by_cases e : j = m + 1
      · subst e; exact h2
      · exact h1 j g1 (by omega)
    · intro h1
      exact ⟨fun j g1 g2 => h1 j g1 (by omega), h1 (m + 1) (by omega) (Nat.le_refl _)⟩
/-- whether a line is the smallest one of its cycle -/
def sm (n : Nat) (f : Nat → Nat) (i : Nat) : Bool := smA f i (cyl n f i - 1)
theorem sp_Perm_cycleOf {n i : Nat} {f : Nat → Nat} (hn : n ≤ 7) (hf : PM n f) (hi : i < n) (h : xHp) : Spec g_Perm_cycleOf [.int (R (nrm n f)), .int (nI i), .int (nI n)] h (some (.int (nI (if sm n f i = true then cyl n f i else 0)))) h := by
  refine Spec.of (by decide +kernel) (Nat.le_of_ble_eq_true rfl) ⟨_, rfl⟩ rfl rfl (fun c hc => by cases hc) (fun Q hQ => ?_)
  obtain ⟨c1, c2, c3, c4⟩ := cyl_spec hf hi
  have hb : b8 (nrm n f) := nrm_b8 (fun j hj => by have := hf.1 j hj; omega)
  refine xgoal [(9, [0, 1, 2, 3, 4])] 100 ok_Perm_cycleOf ?_
  have sp := sp_Row_entry hb (i := i) (by omega) h
  rw [nrm_in hi] at sp
  refine xci sp ?_
  have loop : ∀ z m, m + z = cyl n f i → 1 ≤ m → smA f i (m - 1) = true → xAt (h.1, h.2.1) g_Perm_cycleOf Q 9 [(0, .int (R (nrm n f))), (1, .int (nI i)), (2, .int (nI n)), (3, .int (nI (itr f m i))), (4, .int (nI m))] [] h := by
    intro z
    induction z with
    | zero =>
      intro m hm hm1 hs
      have hm : m = cyl n f i := hm
      subst hm
      rw [if_pos (show sm n f i = true from hs)] at hQ
      rw [c3]
      refine xgoal [(9, [0, 1, 2, 3, 4])] 100 ok_Perm_cycleOf ?_
      refine pk_le i i (fun c => ?_) (fun c => absurd c (by omega))
      exact pk_eq i i (fun c => hQ) (fun c => absurd rfl c)
    | succ z ih =>
      intro m hm hm1 hs
      have hlt := itr_lt hf.1 m i hi
      have hne := c4 m hm1 (by omega)
      refine xgoal [(9, [0, 1, 2, 3, 4])] 100 ok_Perm_cycleOf ?_
      refine pk_le (itr f m i) i (fun c => ?_) (fun c => ?_)
      · have hsm : ¬ sm n f i = true := fun z9 => by
          have := smA_all.mp z9 m hm1 (by omega)
          omega
        rw [if_neg hsm] at hQ
        exact pk_eq (itr f m i) i (fun c => absurd c hne) (fun c => hQ)
      · refine pk_le n m (fun c => absurd c (by omega)) (fun c9 => ?_)
        have sp := sp_Row_entry hb (i := itr f m i) (by omega) h
        rw [nrm_in hlt] at sp
        refine xci sp ?_
        have ih := ih (m + 1) (by omega) (by omega) (by
          show smA f i m = true
          have e : m = (m - 1) + 1 := by omega
          rw [e]
          unfold smA
          rw [hs, ← e]
          simp [c])
        rw [← nI_1 m] at ih
        exact ih
  exact loop (cyl n f i - 1) 1 (by omega) (Nat.le_refl _) rfl
def cycs (n : Nat) (f : Nat → Nat) : Nat := ct (fun i => sm n f i) n
def fixs (n : Nat) (f : Nat → Nat) : Nat := ct (fun i => decide (f i = i)) n
def mxA (n : Nat) (f : Nat → Nat) : Nat → Nat
  | 0 => 0
  | i + 1 => max (mxA n f i) (if sm n f i = true then cyl n f i else 0)
def tyA (n : Nat) (f : Nat → Nat) : Nat → Nat
  | 0 => 0
  | i + 1 => tyA n f i + if sm n f i = true then 2 ^ (3 * (cyl n f i - 1)) else 0
theorem mxA_le {n : Nat} {f : Nat → Nat} (hf : PM n f) : ∀ i, i ≤ n → mxA n f i ≤ n
  | 0, _ => Nat.zero_le _
  | i + 1, h => by
    have := mxA_le hf i (by omega)
    have := (cyl_spec hf (i := i) (by omega)).2.1
    unfold mxA
    split <;> omega
theorem sp_Perm_cycles {n : Nat} {f : Nat → Nat} (hn : n ≤ 7) (hf : PM n f) (h : xHp) : Spec g_Perm_cycles [.int (R (nrm n f)), .int (nI n)] h (some (.int (nI (cycs n f)))) h := by
  refine Spec.of (by decide +kernel) (Nat.le_of_ble_eq_true rfl) ⟨_, rfl⟩ rfl rfl (fun c hc => by cases hc) (fun Q hQ => ?_)
  refine xgoal [(4, [0, 1, 2, 3])] 100 ok_Perm_cycles ?_
  refine up_loop (P := fun i => xAt (h.1, h.2.1) g_Perm_cycles Q 4 [(0, .int (R (nrm n f))), (1, .int (nI n)), (2, .int (nI (ct (fun i => sm n f i) i))), (3, .int (nI i))] [] h) n ?_ (fun i hi ih => ?_) 0 (Nat.zero_le _)
  · refine xgoal [(4, [0, 1, 2, 3])] 100 ok_Perm_cycles ?_
    exact pk_le n n (fun c => hQ) (fun c => absurd c (by omega))
  · refine xgoal [(4, [0, 1, 2, 3])] 100 ok_Perm_cycles ?_
    obtain ⟨c1, c2, -⟩ := cyl_spec hf hi
    refine pk_le n i (fun c => absurd c (by omega)) (fun c => ?_)
    refine xci (sp_Perm_cycleOf hn hf hi h) ?_
    unfold ct at ih
    by_cases hs : sm n f i = true
    · rw [if_pos hs, ← nI_1 i, ← nI_1] at ih
      refine pk_le (cyl n f i) 0 (fun c => absurd c (by omega)) (fun c => ih) (by rw [if_pos hs]) rfl
    · rw [if_neg hs, ← nI_1 i] at ih
      refine pk_le 0 0 (fun c => ih) (fun c => absurd c (by omega)) (by rw [if_neg hs]) rfl
theorem sp_Perm_fixedLines {n : Nat} {f : Nat → Nat} (hn : n ≤ 7) (hf : PM n f) (h : xHp) : Spec g_Perm_fixedLines [.int (R (nrm n f)), .int (nI n)] h (some (.int (nI (fixs n f)))) h := by
  refine Spec.of (by decide +kernel) (Nat.le_of_ble_eq_true rfl) ⟨_, rfl⟩ rfl rfl (fun c hc => by cases hc) (fun Q hQ => ?_)
  refine xgoal [(4, [0, 1, 2, 3])] 100 ok_Perm_fixedLines ?_
  refine up_loop (P := fun i => xAt (h.1, h.2.1) g_Perm_fixedLines Q 4 [(0, .int (R (nrm n f))), (1, .int (nI n)), (2, .int (nI (ct (fun i => decide (f i = i)) i))), (3, .int (nI i))] [] h) n ?_ (fun i hi ih => ?_) 0 (Nat.zero_le _)
  · refine xgoal [(4, [0, 1, 2, 3])] 100 ok_Perm_fixedLines ?_
    exact pk_le n n (fun c => hQ) (fun c => absurd c (by omega))
  · refine xgoal [(4, [0, 1, 2, 3])] 100 ok_Perm_fixedLines ?_
    have hfi := hf.1 i hi
    refine pk_le n i (fun c => absurd c (by omega)) (fun c => ?_)
    have sp := sp_Row_entry (nrm_b8 (fun j hj => by have := hf.1 j hj; omega) : b8 (nrm n f)) (i := i) (by omega) h
    rw [nrm_in hi] at sp
    refine xci sp ?_
    unfold ct at ih
    refine pk_eq (f i) i (fun c => ?_) (fun c => ?_)
    · rw [if_pos (by simp [c]), ← nI_1 i, ← nI_1] at ih
      exact ih
    · rw [if_neg (by simp [c]), ← nI_1 i] at ih
      exact ih
theorem sp_Perm_longestCycle {n : Nat} {f : Nat → Nat} (hn : n ≤ 7) (hf : PM n f) (h : xHp) : Spec g_Perm_longestCycle [.int (R (nrm n f)), .int (nI n)] h (some (.int (nI (mxA n f n)))) h := by
  refine Spec.of (by decide +kernel) (Nat.le_of_ble_eq_true rfl) ⟨_, rfl⟩ rfl rfl (fun c hc => by cases hc) (fun Q hQ => ?_)
  refine xgoal [(4, [0, 1, 2, 3])] 100 ok_Perm_longestCycle ?_
  refine up_loop (P := fun i => xAt (h.1, h.2.1) g_Perm_longestCycle Q 4 [(0, .int (R (nrm n f))), (1, .int (nI n)), (2, .int (nI (mxA n f i))), (3, .int (nI i))] [] h) n ?_ (fun i hi ih => ?_) 0 (Nat.zero_le _)
  · refine xgoal [(4, [0, 1, 2, 3])] 100 ok_Perm_longestCycle ?_
    exact pk_le n n (fun c => hQ) (fun c => absurd c (by omega))
  · refine xgoal [(4, [0, 1, 2, 3])] 100 ok_Perm_longestCycle ?_
    have h1 := mxA_le hf i (by omega)
    obtain ⟨-, h2, -⟩ := cyl_spec hf hi
    refine pk_le n i (fun c => absurd c (by omega)) (fun c => ?_)
    refine xci (sp_Perm_cycleOf hn hf hi h) ?_
    unfold mxA at ih
    rw [← nI_max (by omega) (by split <;> omega), ← nI_1 i] at ih
    exact ih
theorem sp_Perm_cycleType {n : Nat} {f : Nat → Nat} (hn : n ≤ 7) (hf : PM n f) (h : xHp) : Spec g_Perm_cycleType [.int (R (nrm n f)), .int (nI n)] h (some (.int (nI (tyA n f n)))) h := by
  refine Spec.of (by decide +kernel) (Nat.le_of_ble_eq_true rfl) ⟨_, rfl⟩ rfl rfl (fun c hc => by cases hc) (fun Q hQ => ?_)
  refine xgoal [(4, [0, 1, 2, 3])] 100 ok_Perm_cycleType ?_
  refine up_loop (P := fun i => xAt (h.1, h.2.1) g_Perm_cycleType Q 4 [(0, .int (R (nrm n f))), (1, .int (nI n)), (2, .int (nI (tyA n f i))), (3, .int (nI i))] [] h) n ?_ (fun i hi ih => ?_) 0 (Nat.zero_le _)
  · refine xgoal [(4, [0, 1, 2, 3])] 100 ok_Perm_cycleType ?_
    exact pk_le n n (fun c => hQ) (fun c => absurd c (by omega))
  · refine xgoal [(4, [0, 1, 2, 3])] 100 ok_Perm_cycleType ?_
    obtain ⟨c1, c2, -⟩ := cyl_spec hf hi
    refine pk_le n i (fun c => absurd c (by omega)) (fun c => ?_)
    refine xci (sp_Perm_cycleOf hn hf hi h) ?_
    unfold tyA at ih
    by_cases hs : sm n f i = true
    · rw [if_pos hs, ← nI_1 i, ← nI_add] at ih
      refine pk_le (cyl n f i) 0 (fun c => absurd c (by omega)) (fun c => ?_) (by rw [if_pos hs]) rfl
      have e : nI 1 <<< ((nI 3 * (nI (if sm n f i = true then cyl n f i else 0) - nI 1)) &&& 31) = nI (2 ^ (3 * (cyl n f i - 1))) := by
        rw [if_pos hs, pk_sub c1, n_mul, n_shl _ _ (by omega), Nat.one_mul]
      rw [← e] at ih
      exact ih
    · rw [if_neg hs, Nat.add_zero, ← nI_1 i] at ih
      refine pk_le 0 0 (fun c => ih) (fun c => absurd c (by omega)) (by rw [if_neg hs]) rfl
/-- the properties -/
def prp (n : Nat) (f : Nat → Nat) (what : Nat) : Nat := match what with
  | 0 => rank n f
  | 1 => ord n f
  | 2 => cycs n f
  | 3 => fixs n f
  | 4 => mxA n f n
  | 5 => (n - cycs n f) % 2
  | _ => tyA n f n
theorem sp_Perm_property {n what : Nat} {f : Nat → Nat} (hn : n ≤ 7) (hf : PM n f) (hw : what < 7) (h : xHp) : Spec g_Perm_property [.int (R (nrm n f)), .int (nI what), .int (nI n)] h (some (.int (nI (prp n f what)))) h := by
  refine Spec.of (by decide +kernel) (Nat.le_of_ble_eq_true rfl) ⟨_, rfl⟩ rfl rfl (fun c hc => by cases hc) (fun Q hQ => ?_)
  refine xgoal [] 100 ok_Perm_property ?_
  refine pk_eq what 0 (fun c => by subst c; exact xci (sp_Perm_number hn hf h) hQ) (fun c0 => ?_)
  refine pk_eq what 1 (fun c => by subst c; exact xci (sp_Perm_order hn hf h) hQ) (fun c1 => ?_)
  refine pk_eq what 2 (fun c => by subst c; exact xci (sp_Perm_cycles hn hf h) hQ) (fun c2 => ?_)
  refine pk_eq what 3 (fun c => by subst c; exact xci (sp_Perm_fixedLines hn hf h) hQ) (fun c3 => ?_)
  refine pk_eq what 4 (fun c => by subst c; exact xci (sp_Perm_longestCycle hn hf h) hQ) (fun c4 => ?_)
  refine pk_eq what 5 (fun c => ?_) (fun c5 => ?_)
  · subst c
    have e : (nI n - nI (cycs n f)) &&& nI 1 = nI ((n - cycs n f) % 2) := by
      rw [pk_sub (show cycs n f ≤ n from ct_le _ n), n_and, show (1 : Nat) = 2 ^ 1 - 1 from rfl, Nat.and_two_pow_sub_one_eq_mod]
    have hQ : Q (some (.int (nI ((n - cycs n f) % 2)))) h := hQ
    rw [← e] at hQ
    exact xci (sp_Perm_cycles hn hf h) hQ
  · have : what = 6 := by omega
    subst this
    exact xci (sp_Perm_cycleType hn hf h) hQ
end
