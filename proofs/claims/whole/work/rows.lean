section
/-- a private method of a class that the tables say can be made, by its rows of tables_1 -/
def lw_okq (q : MethodName × Nat) : Prop := (q.1.cls ≠ "java/lang/invoke/MethodHandle" ∧ q.1.cls ≠ "java/lang/invoke/VarHandle") ∧ Cond.instantiable q.1.cls q.2 ∈ tables_1 ∧ Cond.privateMethod q.1 ∈ tables_1 ∧ Cond.instanceMethod q.1 ∈ tables_1
theorem lw_p0 : lw_okq (⟨"PackedForest", "putBytes", "(I)V"⟩, 15) := ⟨⟨by decide +kernel, by decide +kernel⟩, List.mem_of_getElem? (i := 19) (by decide +kernel), List.mem_of_getElem? (i := 499) (by decide +kernel), List.mem_of_getElem? (i := 500) (by decide +kernel)⟩
theorem lw_p1 : lw_okq (⟨"PackedForest$Grammar", "faultOf", "(II)I"⟩, 8) := ⟨⟨by decide +kernel, by decide +kernel⟩, List.mem_of_getElem? (i := 33) (by decide +kernel), List.mem_of_getElem? (i := 518) (by decide +kernel), List.mem_of_getElem? (i := 519) (by decide +kernel)⟩
theorem lw_p2 : lw_okq (⟨"PackedForest$Grammar", "faultOfLeft", "(I)I"⟩, 8) := ⟨⟨by decide +kernel, by decide +kernel⟩, List.mem_of_getElem? (i := 33) (by decide +kernel), List.mem_of_getElem? (i := 522) (by decide +kernel), List.mem_of_getElem? (i := 523) (by decide +kernel)⟩
theorem lw_p3 : lw_okq (⟨"PackedForest$Grammar", "take", "(II)I"⟩, 8) := ⟨⟨by decide +kernel, by decide +kernel⟩, List.mem_of_getElem? (i := 33) (by decide +kernel), List.mem_of_getElem? (i := 544) (by decide +kernel), List.mem_of_getElem? (i := 545) (by decide +kernel)⟩
theorem lw_p4 : lw_okq (⟨"PackedForest$Grammar", "beginRule", "(I)V"⟩, 8) := ⟨⟨by decide +kernel, by decide +kernel⟩, List.mem_of_getElem? (i := 33) (by decide +kernel), List.mem_of_getElem? (i := 548) (by decide +kernel), List.mem_of_getElem? (i := 549) (by decide +kernel)⟩
theorem lw_p5 : lw_okq (⟨"PackedForest$Grammar", "addSymbol", "(I)V"⟩, 8) := ⟨⟨by decide +kernel, by decide +kernel⟩, List.mem_of_getElem? (i := 33) (by decide +kernel), List.mem_of_getElem? (i := 552) (by decide +kernel), List.mem_of_getElem? (i := 553) (by decide +kernel)⟩
theorem lw_p6 : lw_okq (⟨"PackedForest$Grammar", "faultOfCapitals", "([II)I"⟩, 8) := ⟨⟨by decide +kernel, by decide +kernel⟩, List.mem_of_getElem? (i := 33) (by decide +kernel), List.mem_of_getElem? (i := 556) (by decide +kernel), List.mem_of_getElem? (i := 557) (by decide +kernel)⟩
theorem lw_p7 : lw_okq (⟨"PackedForest$States", "findPoints", "(LPackedForest$Grammar;I)V"⟩, 6) := ⟨⟨by decide +kernel, by decide +kernel⟩, List.mem_of_getElem? (i := 214) (by decide +kernel), List.mem_of_getElem? (i := 564) (by decide +kernel), List.mem_of_getElem? (i := 565) (by decide +kernel)⟩
theorem lw_p8 : lw_okq (⟨"PackedForest$States", "closed", "(J)J"⟩, 6) := ⟨⟨by decide +kernel, by decide +kernel⟩, List.mem_of_getElem? (i := 214) (by decide +kernel), List.mem_of_getElem? (i := 575) (by decide +kernel), List.mem_of_getElem? (i := 576) (by decide +kernel)⟩
theorem lw_p9 : lw_okq (⟨"PackedForest$States", "goOn", "(III)Z"⟩, 6) := ⟨⟨by decide +kernel, by decide +kernel⟩, List.mem_of_getElem? (i := 214) (by decide +kernel), List.mem_of_getElem? (i := 579) (by decide +kernel), List.mem_of_getElem? (i := 580) (by decide +kernel)⟩
theorem lw_p10 : lw_okq (⟨"PackedForest$States", "numberOf", "(J)I"⟩, 6) := ⟨⟨by decide +kernel, by decide +kernel⟩, List.mem_of_getElem? (i := 214) (by decide +kernel), List.mem_of_getElem? (i := 583) (by decide +kernel), List.mem_of_getElem? (i := 584) (by decide +kernel)⟩
theorem lw_p11 : lw_okq (⟨"PackedForest", "rulesChanged", "()V"⟩, 15) := ⟨⟨by decide +kernel, by decide +kernel⟩, List.mem_of_getElem? (i := 19) (by decide +kernel), List.mem_of_getElem? (i := 600) (by decide +kernel), List.mem_of_getElem? (i := 601) (by decide +kernel)⟩
theorem lw_p12 : lw_okq (⟨"PackedForest", "filtersChanged", "()V"⟩, 15) := ⟨⟨by decide +kernel, by decide +kernel⟩, List.mem_of_getElem? (i := 19) (by decide +kernel), List.mem_of_getElem? (i := 604) (by decide +kernel), List.mem_of_getElem? (i := 605) (by decide +kernel)⟩
theorem lw_p13 : lw_okq (⟨"PackedForest", "isRule", "(I)Z"⟩, 15) := ⟨⟨by decide +kernel, by decide +kernel⟩, List.mem_of_getElem? (i := 19) (by decide +kernel), List.mem_of_getElem? (i := 612) (by decide +kernel), List.mem_of_getElem? (i := 613) (by decide +kernel)⟩
theorem lw_p14 : lw_okq (⟨"PackedForest", "noGrammar", "()Z"⟩, 15) := ⟨⟨by decide +kernel, by decide +kernel⟩, List.mem_of_getElem? (i := 19) (by decide +kernel), List.mem_of_getElem? (i := 625) (by decide +kernel), List.mem_of_getElem? (i := 626) (by decide +kernel)⟩
theorem lw_p15 : lw_okq (⟨"PackedForest", "foundFacts", "()LPackedForest$Facts;"⟩, 15) := ⟨⟨by decide +kernel, by decide +kernel⟩, List.mem_of_getElem? (i := 19) (by decide +kernel), List.mem_of_getElem? (i := 629) (by decide +kernel), List.mem_of_getElem? (i := 630) (by decide +kernel)⟩
def lw_privs_1 : List (MethodName × Nat) := [(⟨"PackedForest", "putBytes", "(I)V"⟩, 15), (⟨"PackedForest$Grammar", "faultOf", "(II)I"⟩, 8), (⟨"PackedForest$Grammar", "faultOfLeft", "(I)I"⟩, 8), (⟨"PackedForest$Grammar", "take", "(II)I"⟩, 8), (⟨"PackedForest$Grammar", "beginRule", "(I)V"⟩, 8), (⟨"PackedForest$Grammar", "addSymbol", "(I)V"⟩, 8), (⟨"PackedForest$Grammar", "faultOfCapitals", "([II)I"⟩, 8), (⟨"PackedForest$States", "findPoints", "(LPackedForest$Grammar;I)V"⟩, 6), (⟨"PackedForest$States", "closed", "(J)J"⟩, 6), (⟨"PackedForest$States", "goOn", "(III)Z"⟩, 6), (⟨"PackedForest$States", "numberOf", "(J)I"⟩, 6), (⟨"PackedForest", "rulesChanged", "()V"⟩, 15), (⟨"PackedForest", "filtersChanged", "()V"⟩, 15), (⟨"PackedForest", "isRule", "(I)Z"⟩, 15), (⟨"PackedForest", "noGrammar", "()Z"⟩, 15), (⟨"PackedForest", "foundFacts", "()LPackedForest$Facts;"⟩, 15)]
theorem lw_r1 : ∀ q ∈ lw_privs_1, lw_okq q := List.forall_mem_cons.mpr ⟨lw_p0, List.forall_mem_cons.mpr ⟨lw_p1, List.forall_mem_cons.mpr ⟨lw_p2, List.forall_mem_cons.mpr ⟨lw_p3, List.forall_mem_cons.mpr ⟨lw_p4, List.forall_mem_cons.mpr ⟨lw_p5, List.forall_mem_cons.mpr ⟨lw_p6, List.forall_mem_cons.mpr ⟨lw_p7, List.forall_mem_cons.mpr ⟨lw_p8, List.forall_mem_cons.mpr ⟨lw_p9, List.forall_mem_cons.mpr ⟨lw_p10, List.forall_mem_cons.mpr ⟨lw_p11, List.forall_mem_cons.mpr ⟨lw_p12, List.forall_mem_cons.mpr ⟨lw_p13, List.forall_mem_cons.mpr ⟨lw_p14, List.forall_mem_cons.mpr ⟨lw_p15, fun _ h => absurd h List.not_mem_nil⟩⟩⟩⟩⟩⟩⟩⟩⟩⟩⟩⟩⟩⟩⟩⟩
theorem lw_p16 : lw_okq (⟨"PackedForest$Facts", "findShortRows", "()V"⟩, 11) := ⟨⟨by decide +kernel, by decide +kernel⟩, List.mem_of_getElem? (i := 165) (by decide +kernel), List.mem_of_getElem? (i := 637) (by decide +kernel), List.mem_of_getElem? (i := 638) (by decide +kernel)⟩
theorem lw_p17 : lw_okq (⟨"PackedForest$Facts", "shorten", "(I)Z"⟩, 11) := ⟨⟨by decide +kernel, by decide +kernel⟩, List.mem_of_getElem? (i := 165) (by decide +kernel), List.mem_of_getElem? (i := 650) (by decide +kernel), List.mem_of_getElem? (i := 651) (by decide +kernel)⟩
theorem lw_p18 : lw_okq (⟨"PackedForest$Facts", "findReached", "()V"⟩, 11) := ⟨⟨by decide +kernel, by decide +kernel⟩, List.mem_of_getElem? (i := 165) (by decide +kernel), List.mem_of_getElem? (i := 655) (by decide +kernel), List.mem_of_getElem? (i := 656) (by decide +kernel)⟩
theorem lw_p19 : lw_okq (⟨"PackedForest$Facts", "capitalsOf", "(I)I"⟩, 11) := ⟨⟨by decide +kernel, by decide +kernel⟩, List.mem_of_getElem? (i := 165) (by decide +kernel), List.mem_of_getElem? (i := 662) (by decide +kernel), List.mem_of_getElem? (i := 663) (by decide +kernel)⟩
theorem lw_p20 : lw_okq (⟨"PackedForest$Facts", "findFirsts", "()V"⟩, 11) := ⟨⟨by decide +kernel, by decide +kernel⟩, List.mem_of_getElem? (i := 165) (by decide +kernel), List.mem_of_getElem? (i := 666) (by decide +kernel), List.mem_of_getElem? (i := 667) (by decide +kernel)⟩
theorem lw_p21 : lw_okq (⟨"PackedForest$Facts", "firstsOf", "(II)I"⟩, 11) := ⟨⟨by decide +kernel, by decide +kernel⟩, List.mem_of_getElem? (i := 165) (by decide +kernel), List.mem_of_getElem? (i := 670) (by decide +kernel), List.mem_of_getElem? (i := 671) (by decide +kernel)⟩
theorem lw_p22 : lw_okq (⟨"PackedForest$Facts", "findFollows", "()V"⟩, 11) := ⟨⟨by decide +kernel, by decide +kernel⟩, List.mem_of_getElem? (i := 165) (by decide +kernel), List.mem_of_getElem? (i := 679) (by decide +kernel), List.mem_of_getElem? (i := 680) (by decide +kernel)⟩
theorem lw_p23 : lw_okq (⟨"PackedForest$Facts", "followInside", "(I)Z"⟩, 11) := ⟨⟨by decide +kernel, by decide +kernel⟩, List.mem_of_getElem? (i := 165) (by decide +kernel), List.mem_of_getElem? (i := 684) (by decide +kernel), List.mem_of_getElem? (i := 685) (by decide +kernel)⟩
theorem lw_p24 : lw_okq (⟨"PackedForest$Facts", "findSteps", "(Z)V"⟩, 11) := ⟨⟨by decide +kernel, by decide +kernel⟩, List.mem_of_getElem? (i := 165) (by decide +kernel), List.mem_of_getElem? (i := 688) (by decide +kernel), List.mem_of_getElem? (i := 689) (by decide +kernel)⟩
theorem lw_p25 : lw_okq (⟨"PackedForest$Facts", "stepsOf", "(IZ)V"⟩, 11) := ⟨⟨by decide +kernel, by decide +kernel⟩, List.mem_of_getElem? (i := 165) (by decide +kernel), List.mem_of_getElem? (i := 692) (by decide +kernel), List.mem_of_getElem? (i := 693) (by decide +kernel)⟩
theorem lw_p26 : lw_okq (⟨"PackedForest$Facts", "backToThemselves", "()I"⟩, 11) := ⟨⟨by decide +kernel, by decide +kernel⟩, List.mem_of_getElem? (i := 165) (by decide +kernel), List.mem_of_getElem? (i := 702) (by decide +kernel), List.mem_of_getElem? (i := 703) (by decide +kernel)⟩
theorem lw_p27 : lw_okq (⟨"PackedForest", "isLeft", "(I)Z"⟩, 15) := ⟨⟨by decide +kernel, by decide +kernel⟩, List.mem_of_getElem? (i := 19) (by decide +kernel), List.mem_of_getElem? (i := 710) (by decide +kernel), List.mem_of_getElem? (i := 711) (by decide +kernel)⟩
theorem lw_p28 : lw_okq (⟨"PackedForest", "foundStates", "()LPackedForest$States;"⟩, 15) := ⟨⟨by decide +kernel, by decide +kernel⟩, List.mem_of_getElem? (i := 19) (by decide +kernel), List.mem_of_getElem? (i := 726) (by decide +kernel), List.mem_of_getElem? (i := 727) (by decide +kernel)⟩
theorem lw_p29 : lw_okq (⟨"PackedForest", "isState", "(I)Z"⟩, 15) := ⟨⟨by decide +kernel, by decide +kernel⟩, List.mem_of_getElem? (i := 19) (by decide +kernel), List.mem_of_getElem? (i := 734) (by decide +kernel), List.mem_of_getElem? (i := 735) (by decide +kernel)⟩
theorem lw_p30 : lw_okq (⟨"PackedForest", "hasClash", "(I)Z"⟩, 15) := ⟨⟨by decide +kernel, by decide +kernel⟩, List.mem_of_getElem? (i := 19) (by decide +kernel), List.mem_of_getElem? (i := 759) (by decide +kernel), List.mem_of_getElem? (i := 760) (by decide +kernel)⟩
theorem lw_p31 : lw_okq (⟨"PackedForest", "textChanged", "(I)V"⟩, 15) := ⟨⟨by decide +kernel, by decide +kernel⟩, List.mem_of_getElem? (i := 19) (by decide +kernel), List.mem_of_getElem? (i := 784) (by decide +kernel), List.mem_of_getElem? (i := 785) (by decide +kernel)⟩
def lw_privs_2 : List (MethodName × Nat) := [(⟨"PackedForest$Facts", "findShortRows", "()V"⟩, 11), (⟨"PackedForest$Facts", "shorten", "(I)Z"⟩, 11), (⟨"PackedForest$Facts", "findReached", "()V"⟩, 11), (⟨"PackedForest$Facts", "capitalsOf", "(I)I"⟩, 11), (⟨"PackedForest$Facts", "findFirsts", "()V"⟩, 11), (⟨"PackedForest$Facts", "firstsOf", "(II)I"⟩, 11), (⟨"PackedForest$Facts", "findFollows", "()V"⟩, 11), (⟨"PackedForest$Facts", "followInside", "(I)Z"⟩, 11), (⟨"PackedForest$Facts", "findSteps", "(Z)V"⟩, 11), (⟨"PackedForest$Facts", "stepsOf", "(IZ)V"⟩, 11), (⟨"PackedForest$Facts", "backToThemselves", "()I"⟩, 11), (⟨"PackedForest", "isLeft", "(I)Z"⟩, 15), (⟨"PackedForest", "foundStates", "()LPackedForest$States;"⟩, 15), (⟨"PackedForest", "isState", "(I)Z"⟩, 15), (⟨"PackedForest", "hasClash", "(I)Z"⟩, 15), (⟨"PackedForest", "textChanged", "(I)V"⟩, 15)]
theorem lw_r2 : ∀ q ∈ lw_privs_2, lw_okq q := List.forall_mem_cons.mpr ⟨lw_p16, List.forall_mem_cons.mpr ⟨lw_p17, List.forall_mem_cons.mpr ⟨lw_p18, List.forall_mem_cons.mpr ⟨lw_p19, List.forall_mem_cons.mpr ⟨lw_p20, List.forall_mem_cons.mpr ⟨lw_p21, List.forall_mem_cons.mpr ⟨lw_p22, List.forall_mem_cons.mpr ⟨lw_p23, List.forall_mem_cons.mpr ⟨lw_p24, List.forall_mem_cons.mpr ⟨lw_p25, List.forall_mem_cons.mpr ⟨lw_p26, List.forall_mem_cons.mpr ⟨lw_p27, List.forall_mem_cons.mpr ⟨lw_p28, List.forall_mem_cons.mpr ⟨lw_p29, List.forall_mem_cons.mpr ⟨lw_p30, List.forall_mem_cons.mpr ⟨lw_p31, fun _ h => absurd h List.not_mem_nil⟩⟩⟩⟩⟩⟩⟩⟩⟩⟩⟩⟩⟩⟩⟩⟩
theorem lw_p32 : lw_okq (⟨"PackedForest", "isLevel", "(I)Z"⟩, 15) := ⟨⟨by decide +kernel, by decide +kernel⟩, List.mem_of_getElem? (i := 19) (by decide +kernel), List.mem_of_getElem? (i := 836) (by decide +kernel), List.mem_of_getElem? (i := 837) (by decide +kernel)⟩
theorem lw_p33 : lw_okq (⟨"PackedForest$Chart", "findFitting", "()V"⟩, 7) := ⟨⟨by decide +kernel, by decide +kernel⟩, List.mem_of_getElem? (i := 243) (by decide +kernel), List.mem_of_getElem? (i := 848) (by decide +kernel), List.mem_of_getElem? (i := 849) (by decide +kernel)⟩
theorem lw_p34 : lw_okq (⟨"PackedForest$Chart", "fittingBelow", "(II)I"⟩, 7) := ⟨⟨by decide +kernel, by decide +kernel⟩, List.mem_of_getElem? (i := 243) (by decide +kernel), List.mem_of_getElem? (i := 852) (by decide +kernel), List.mem_of_getElem? (i := 853) (by decide +kernel)⟩
theorem lw_p35 : lw_okq (⟨"PackedForest$Setting", "isWrongSide", "(II)Z"⟩, 11) := ⟨⟨by decide +kernel, by decide +kernel⟩, List.mem_of_getElem? (i := 27) (by decide +kernel), List.mem_of_getElem? (i := 862) (by decide +kernel), List.mem_of_getElem? (i := 863) (by decide +kernel)⟩
theorem lw_p36 : lw_okq (⟨"PackedForest$Chart", "placeSmalls", "(II)V"⟩, 7) := ⟨⟨by decide +kernel, by decide +kernel⟩, List.mem_of_getElem? (i := 243) (by decide +kernel), List.mem_of_getElem? (i := 866) (by decide +kernel), List.mem_of_getElem? (i := 867) (by decide +kernel)⟩
theorem lw_p37 : lw_okq (⟨"PackedForest$Chart", "settle", "(II)V"⟩, 7) := ⟨⟨by decide +kernel, by decide +kernel⟩, List.mem_of_getElem? (i := 243) (by decide +kernel), List.mem_of_getElem? (i := 870) (by decide +kernel), List.mem_of_getElem? (i := 871) (by decide +kernel)⟩
theorem lw_p38 : lw_okq (⟨"PackedForest$Chart", "reaches", "(III)Z"⟩, 7) := ⟨⟨by decide +kernel, by decide +kernel⟩, List.mem_of_getElem? (i := 243) (by decide +kernel), List.mem_of_getElem? (i := 877) (by decide +kernel), List.mem_of_getElem? (i := 878) (by decide +kernel)⟩
theorem lw_p39 : lw_okq (⟨"PackedForest$Chart", "placeRule", "(III)V"⟩, 7) := ⟨⟨by decide +kernel, by decide +kernel⟩, List.mem_of_getElem? (i := 243) (by decide +kernel), List.mem_of_getElem? (i := 885) (by decide +kernel), List.mem_of_getElem? (i := 886) (by decide +kernel)⟩
theorem lw_p40 : lw_okq (⟨"PackedForest$Levels", "gather", "(I)V"⟩, 8) := ⟨⟨by decide +kernel, by decide +kernel⟩, List.mem_of_getElem? (i := 272) (by decide +kernel), List.mem_of_getElem? (i := 894) (by decide +kernel), List.mem_of_getElem? (i := 895) (by decide +kernel)⟩
theorem lw_p41 : lw_okq (⟨"PackedForest$Levels", "goFrom", "(II)V"⟩, 8) := ⟨⟨by decide +kernel, by decide +kernel⟩, List.mem_of_getElem? (i := 272) (by decide +kernel), List.mem_of_getElem? (i := 902) (by decide +kernel), List.mem_of_getElem? (i := 903) (by decide +kernel)⟩
theorem lw_p42 : lw_okq (⟨"PackedForest$Levels", "link", "(III)V"⟩, 8) := ⟨⟨by decide +kernel, by decide +kernel⟩, List.mem_of_getElem? (i := 272) (by decide +kernel), List.mem_of_getElem? (i := 915) (by decide +kernel), List.mem_of_getElem? (i := 916) (by decide +kernel)⟩
theorem lw_p43 : lw_okq (⟨"PackedForest", "isSpan", "(II)Z"⟩, 15) := ⟨⟨by decide +kernel, by decide +kernel⟩, List.mem_of_getElem? (i := 19) (by decide +kernel), List.mem_of_getElem? (i := 950) (by decide +kernel), List.mem_of_getElem? (i := 951) (by decide +kernel)⟩
theorem lw_p44 : lw_okq (⟨"PackedForest$Counts", "settle", "(II)V"⟩, 5) := ⟨⟨by decide +kernel, by decide +kernel⟩, List.mem_of_getElem? (i := 305) (by decide +kernel), List.mem_of_getElem? (i := 965) (by decide +kernel), List.mem_of_getElem? (i := 966) (by decide +kernel)⟩
theorem lw_p45 : lw_okq (⟨"PackedForest$Counts", "wholeBelow", "(III)I"⟩, 5) := ⟨⟨by decide +kernel, by decide +kernel⟩, List.mem_of_getElem? (i := 305) (by decide +kernel), List.mem_of_getElem? (i := 972) (by decide +kernel), List.mem_of_getElem? (i := 973) (by decide +kernel)⟩
theorem lw_p46 : lw_okq (⟨"PackedForest$Counts", "treesOf", "(III)J"⟩, 5) := ⟨⟨by decide +kernel, by decide +kernel⟩, List.mem_of_getElem? (i := 305) (by decide +kernel), List.mem_of_getElem? (i := 985) (by decide +kernel), List.mem_of_getElem? (i := 986) (by decide +kernel)⟩
theorem lw_p47 : lw_okq (⟨"PackedForest$Counts", "goOnWith", "(IIII)V"⟩, 5) := ⟨⟨by decide +kernel, by decide +kernel⟩, List.mem_of_getElem? (i := 305) (by decide +kernel), List.mem_of_getElem? (i := 990) (by decide +kernel), List.mem_of_getElem? (i := 991) (by decide +kernel)⟩
def lw_privs_3 : List (MethodName × Nat) := [(⟨"PackedForest", "isLevel", "(I)Z"⟩, 15), (⟨"PackedForest$Chart", "findFitting", "()V"⟩, 7), (⟨"PackedForest$Chart", "fittingBelow", "(II)I"⟩, 7), (⟨"PackedForest$Setting", "isWrongSide", "(II)Z"⟩, 11), (⟨"PackedForest$Chart", "placeSmalls", "(II)V"⟩, 7), (⟨"PackedForest$Chart", "settle", "(II)V"⟩, 7), (⟨"PackedForest$Chart", "reaches", "(III)Z"⟩, 7), (⟨"PackedForest$Chart", "placeRule", "(III)V"⟩, 7), (⟨"PackedForest$Levels", "gather", "(I)V"⟩, 8), (⟨"PackedForest$Levels", "goFrom", "(II)V"⟩, 8), (⟨"PackedForest$Levels", "link", "(III)V"⟩, 8), (⟨"PackedForest", "isSpan", "(II)Z"⟩, 15), (⟨"PackedForest$Counts", "settle", "(II)V"⟩, 5), (⟨"PackedForest$Counts", "wholeBelow", "(III)I"⟩, 5), (⟨"PackedForest$Counts", "treesOf", "(III)J"⟩, 5), (⟨"PackedForest$Counts", "goOnWith", "(IIII)V"⟩, 5)]
theorem lw_r3 : ∀ q ∈ lw_privs_3, lw_okq q := List.forall_mem_cons.mpr ⟨lw_p32, List.forall_mem_cons.mpr ⟨lw_p33, List.forall_mem_cons.mpr ⟨lw_p34, List.forall_mem_cons.mpr ⟨lw_p35, List.forall_mem_cons.mpr ⟨lw_p36, List.forall_mem_cons.mpr ⟨lw_p37, List.forall_mem_cons.mpr ⟨lw_p38, List.forall_mem_cons.mpr ⟨lw_p39, List.forall_mem_cons.mpr ⟨lw_p40, List.forall_mem_cons.mpr ⟨lw_p41, List.forall_mem_cons.mpr ⟨lw_p42, List.forall_mem_cons.mpr ⟨lw_p43, List.forall_mem_cons.mpr ⟨lw_p44, List.forall_mem_cons.mpr ⟨lw_p45, List.forall_mem_cons.mpr ⟨lw_p46, List.forall_mem_cons.mpr ⟨lw_p47, fun _ h => absurd h List.not_mem_nil⟩⟩⟩⟩⟩⟩⟩⟩⟩⟩⟩⟩⟩⟩⟩⟩
theorem lw_p48 : lw_okq (⟨"PackedForest$Forest", "spread", "(II)V"⟩, 10) := ⟨⟨by decide +kernel, by decide +kernel⟩, List.mem_of_getElem? (i := 366) (by decide +kernel), List.mem_of_getElem? (i := 1025) (by decide +kernel), List.mem_of_getElem? (i := 1026) (by decide +kernel)⟩
theorem lw_p49 : lw_okq (⟨"PackedForest$Forest", "markBelow", "(III)V"⟩, 10) := ⟨⟨by decide +kernel, by decide +kernel⟩, List.mem_of_getElem? (i := 366) (by decide +kernel), List.mem_of_getElem? (i := 1029) (by decide +kernel), List.mem_of_getElem? (i := 1030) (by decide +kernel)⟩
theorem lw_p50 : lw_okq (⟨"PackedForest$Forest", "findHopeful", "(III)V"⟩, 10) := ⟨⟨by decide +kernel, by decide +kernel⟩, List.mem_of_getElem? (i := 366) (by decide +kernel), List.mem_of_getElem? (i := 1033) (by decide +kernel), List.mem_of_getElem? (i := 1034) (by decide +kernel)⟩
theorem lw_p51 : lw_okq (⟨"PackedForest$Forest", "markPart", "(IIII)V"⟩, 10) := ⟨⟨by decide +kernel, by decide +kernel⟩, List.mem_of_getElem? (i := 366) (by decide +kernel), List.mem_of_getElem? (i := 1040) (by decide +kernel), List.mem_of_getElem? (i := 1041) (by decide +kernel)⟩
theorem lw_p52 : lw_okq (⟨"PackedForest$Chart", "goOnWith", "(IIII)V"⟩, 7) := ⟨⟨by decide +kernel, by decide +kernel⟩, List.mem_of_getElem? (i := 243) (by decide +kernel), List.mem_of_getElem? (i := 1055) (by decide +kernel), List.mem_of_getElem? (i := 1056) (by decide +kernel)⟩
theorem lw_p53 : lw_okq (⟨"PackedForest$Forest", "tallySpan", "(II)V"⟩, 10) := ⟨⟨by decide +kernel, by decide +kernel⟩, List.mem_of_getElem? (i := 366) (by decide +kernel), List.mem_of_getElem? (i := 1073) (by decide +kernel), List.mem_of_getElem? (i := 1074) (by decide +kernel)⟩
theorem lw_p54 : lw_okq (⟨"PackedForest$Forest", "isAmbiguous", "(III)Z"⟩, 10) := ⟨⟨by decide +kernel, by decide +kernel⟩, List.mem_of_getElem? (i := 366) (by decide +kernel), List.mem_of_getElem? (i := 1077) (by decide +kernel), List.mem_of_getElem? (i := 1078) (by decide +kernel)⟩
theorem lw_p55 : lw_okq (⟨"PackedForest$Sizes", "clear", "(II)V"⟩, 9) := ⟨⟨by decide +kernel, by decide +kernel⟩, List.mem_of_getElem? (i := 328) (by decide +kernel), List.mem_of_getElem? (i := 1092) (by decide +kernel), List.mem_of_getElem? (i := 1093) (by decide +kernel)⟩
theorem lw_p56 : lw_okq (⟨"PackedForest$Sizes", "settle", "(II)V"⟩, 9) := ⟨⟨by decide +kernel, by decide +kernel⟩, List.mem_of_getElem? (i := 328) (by decide +kernel), List.mem_of_getElem? (i := 1100) (by decide +kernel), List.mem_of_getElem? (i := 1101) (by decide +kernel)⟩
theorem lw_p57 : lw_okq (⟨"PackedForest$Sizes", "shrink", "(III)Z"⟩, 9) := ⟨⟨by decide +kernel, by decide +kernel⟩, List.mem_of_getElem? (i := 328) (by decide +kernel), List.mem_of_getElem? (i := 1105) (by decide +kernel), List.mem_of_getElem? (i := 1106) (by decide +kernel)⟩
theorem lw_p58 : lw_okq (⟨"PackedForest$Sizes", "findRest", "(III)V"⟩, 9) := ⟨⟨by decide +kernel, by decide +kernel⟩, List.mem_of_getElem? (i := 328) (by decide +kernel), List.mem_of_getElem? (i := 1109) (by decide +kernel), List.mem_of_getElem? (i := 1110) (by decide +kernel)⟩
theorem lw_p59 : lw_okq (⟨"PackedForest$Sizes", "restFrom", "(IIII)J"⟩, 9) := ⟨⟨by decide +kernel, by decide +kernel⟩, List.mem_of_getElem? (i := 328) (by decide +kernel), List.mem_of_getElem? (i := 1113) (by decide +kernel), List.mem_of_getElem? (i := 1114) (by decide +kernel)⟩
theorem lw_p60 : lw_okq (⟨"PackedForest$Sizes", "leastOf", "(III)I"⟩, 9) := ⟨⟨by decide +kernel, by decide +kernel⟩, List.mem_of_getElem? (i := 328) (by decide +kernel), List.mem_of_getElem? (i := 1126) (by decide +kernel), List.mem_of_getElem? (i := 1127) (by decide +kernel)⟩
theorem lw_p61 : lw_okq (⟨"PackedForest$Sizes", "goDown", "(J)J"⟩, 9) := ⟨⟨by decide +kernel, by decide +kernel⟩, List.mem_of_getElem? (i := 328) (by decide +kernel), List.mem_of_getElem? (i := 1139) (by decide +kernel), List.mem_of_getElem? (i := 1140) (by decide +kernel)⟩
theorem lw_p62 : lw_okq (⟨"PackedForest$Sizes", "firstEnd", "(II)I"⟩, 9) := ⟨⟨by decide +kernel, by decide +kernel⟩, List.mem_of_getElem? (i := 328) (by decide +kernel), List.mem_of_getElem? (i := 1143) (by decide +kernel), List.mem_of_getElem? (i := 1144) (by decide +kernel)⟩
theorem lw_p63 : lw_okq (⟨"PackedForest$Mender", "settle", "(II)V"⟩, 4) := ⟨⟨by decide +kernel, by decide +kernel⟩, List.mem_of_getElem? (i := 408) (by decide +kernel), List.mem_of_getElem? (i := 1160) (by decide +kernel), List.mem_of_getElem? (i := 1161) (by decide +kernel)⟩
def lw_privs_4 : List (MethodName × Nat) := [(⟨"PackedForest$Forest", "spread", "(II)V"⟩, 10), (⟨"PackedForest$Forest", "markBelow", "(III)V"⟩, 10), (⟨"PackedForest$Forest", "findHopeful", "(III)V"⟩, 10), (⟨"PackedForest$Forest", "markPart", "(IIII)V"⟩, 10), (⟨"PackedForest$Chart", "goOnWith", "(IIII)V"⟩, 7), (⟨"PackedForest$Forest", "tallySpan", "(II)V"⟩, 10), (⟨"PackedForest$Forest", "isAmbiguous", "(III)Z"⟩, 10), (⟨"PackedForest$Sizes", "clear", "(II)V"⟩, 9), (⟨"PackedForest$Sizes", "settle", "(II)V"⟩, 9), (⟨"PackedForest$Sizes", "shrink", "(III)Z"⟩, 9), (⟨"PackedForest$Sizes", "findRest", "(III)V"⟩, 9), (⟨"PackedForest$Sizes", "restFrom", "(IIII)J"⟩, 9), (⟨"PackedForest$Sizes", "leastOf", "(III)I"⟩, 9), (⟨"PackedForest$Sizes", "goDown", "(J)J"⟩, 9), (⟨"PackedForest$Sizes", "firstEnd", "(II)I"⟩, 9), (⟨"PackedForest$Mender", "settle", "(II)V"⟩, 4)]
theorem lw_r4 : ∀ q ∈ lw_privs_4, lw_okq q := List.forall_mem_cons.mpr ⟨lw_p48, List.forall_mem_cons.mpr ⟨lw_p49, List.forall_mem_cons.mpr ⟨lw_p50, List.forall_mem_cons.mpr ⟨lw_p51, List.forall_mem_cons.mpr ⟨lw_p52, List.forall_mem_cons.mpr ⟨lw_p53, List.forall_mem_cons.mpr ⟨lw_p54, List.forall_mem_cons.mpr ⟨lw_p55, List.forall_mem_cons.mpr ⟨lw_p56, List.forall_mem_cons.mpr ⟨lw_p57, List.forall_mem_cons.mpr ⟨lw_p58, List.forall_mem_cons.mpr ⟨lw_p59, List.forall_mem_cons.mpr ⟨lw_p60, List.forall_mem_cons.mpr ⟨lw_p61, List.forall_mem_cons.mpr ⟨lw_p62, List.forall_mem_cons.mpr ⟨lw_p63, fun _ h => absurd h List.not_mem_nil⟩⟩⟩⟩⟩⟩⟩⟩⟩⟩⟩⟩⟩⟩⟩⟩
theorem lw_p64 : lw_okq (⟨"PackedForest$Mender", "costOf", "(III)I"⟩, 4) := ⟨⟨by decide +kernel, by decide +kernel⟩, List.mem_of_getElem? (i := 408) (by decide +kernel), List.mem_of_getElem? (i := 1167) (by decide +kernel), List.mem_of_getElem? (i := 1168) (by decide +kernel)⟩
theorem lw_p65 : lw_okq (⟨"PackedForest$Mender", "costTo", "(III)I"⟩, 4) := ⟨⟨by decide +kernel, by decide +kernel⟩, List.mem_of_getElem? (i := 408) (by decide +kernel), List.mem_of_getElem? (i := 1173) (by decide +kernel), List.mem_of_getElem? (i := 1174) (by decide +kernel)⟩
theorem lw_p66 : lw_okq (⟨"PackedForest$Mender", "partCost", "(III)I"⟩, 4) := ⟨⟨by decide +kernel, by decide +kernel⟩, List.mem_of_getElem? (i := 408) (by decide +kernel), List.mem_of_getElem? (i := 1177) (by decide +kernel), List.mem_of_getElem? (i := 1178) (by decide +kernel)⟩
theorem lw_p67 : lw_okq (⟨"PackedForest$Mender", "smallCost", "(III)I"⟩, 4) := ⟨⟨by decide +kernel, by decide +kernel⟩, List.mem_of_getElem? (i := 408) (by decide +kernel), List.mem_of_getElem? (i := 1181) (by decide +kernel), List.mem_of_getElem? (i := 1182) (by decide +kernel)⟩
theorem lw_p68 : lw_okq (⟨"PackedForest$Speaker", "speak", "()Z"⟩, 4) := ⟨⟨by decide +kernel, by decide +kernel⟩, List.mem_of_getElem? (i := 428) (by decide +kernel), List.mem_of_getElem? (i := 1203) (by decide +kernel), List.mem_of_getElem? (i := 1204) (by decide +kernel)⟩
theorem lw_p69 : lw_okq (⟨"PackedForest$Speaker", "firstCapital", "()I"⟩, 4) := ⟨⟨by decide +kernel, by decide +kernel⟩, List.mem_of_getElem? (i := 428) (by decide +kernel), List.mem_of_getElem? (i := 1207) (by decide +kernel), List.mem_of_getElem? (i := 1208) (by decide +kernel)⟩
theorem lw_p70 : lw_okq (⟨"PackedForest$Speaker", "drawnRule", "(I)I"⟩, 4) := ⟨⟨by decide +kernel, by decide +kernel⟩, List.mem_of_getElem? (i := 428) (by decide +kernel), List.mem_of_getElem? (i := 1211) (by decide +kernel), List.mem_of_getElem? (i := 1212) (by decide +kernel)⟩
theorem lw_p71 : lw_okq (⟨"PackedForest$Speaker", "draw", "()I"⟩, 4) := ⟨⟨by decide +kernel, by decide +kernel⟩, List.mem_of_getElem? (i := 428) (by decide +kernel), List.mem_of_getElem? (i := 1217) (by decide +kernel), List.mem_of_getElem? (i := 1218) (by decide +kernel)⟩
theorem lw_p72 : lw_okq (⟨"PackedForest$Speaker", "replace", "(II)Z"⟩, 4) := ⟨⟨by decide +kernel, by decide +kernel⟩, List.mem_of_getElem? (i := 428) (by decide +kernel), List.mem_of_getElem? (i := 1224) (by decide +kernel), List.mem_of_getElem? (i := 1225) (by decide +kernel)⟩
theorem lw_p73 : lw_okq (⟨"PackedForestModel", "put", "(I)V"⟩, 72) := ⟨⟨by decide +kernel, by decide +kernel⟩, List.mem_of_getElem? (i := 1246) (by decide +kernel), List.mem_of_getElem? (i := 1473) (by decide +kernel), List.mem_of_getElem? (i := 1474) (by decide +kernel)⟩
theorem lw_p74 : lw_okq (⟨"PackedForestModel", "readsAll", "()V"⟩, 72) := ⟨⟨by decide +kernel, by decide +kernel⟩, List.mem_of_getElem? (i := 1246) (by decide +kernel), List.mem_of_getElem? (i := 1485) (by decide +kernel), List.mem_of_getElem? (i := 1486) (by decide +kernel)⟩
theorem lw_p75 : lw_okq (⟨"PackedForestModel", "readsLeft", "()V"⟩, 72) := ⟨⟨by decide +kernel, by decide +kernel⟩, List.mem_of_getElem? (i := 1246) (by decide +kernel), List.mem_of_getElem? (i := 1489) (by decide +kernel), List.mem_of_getElem? (i := 1490) (by decide +kernel)⟩
theorem lw_p76 : lw_okq (⟨"PackedForestModel", "sign", "()I"⟩, 72) := ⟨⟨by decide +kernel, by decide +kernel⟩, List.mem_of_getElem? (i := 1246) (by decide +kernel), List.mem_of_getElem? (i := 1493) (by decide +kernel), List.mem_of_getElem? (i := 1494) (by decide +kernel)⟩
theorem lw_p77 : lw_okq (⟨"PackedForestModel", "fails", "(II)V"⟩, 72) := ⟨⟨by decide +kernel, by decide +kernel⟩, List.mem_of_getElem? (i := 1246) (by decide +kernel), List.mem_of_getElem? (i := 1510) (by decide +kernel), List.mem_of_getElem? (i := 1511) (by decide +kernel)⟩
theorem lw_p78 : lw_okq (⟨"PackedForestModel", "isNewLeft", "(II)Z"⟩, 72) := ⟨⟨by decide +kernel, by decide +kernel⟩, List.mem_of_getElem? (i := 1246) (by decide +kernel), List.mem_of_getElem? (i := 1514) (by decide +kernel), List.mem_of_getElem? (i := 1515) (by decide +kernel)⟩
theorem lw_p79 : lw_okq (⟨"PackedForestModel", "newLefts", "()I"⟩, 72) := ⟨⟨by decide +kernel, by decide +kernel⟩, List.mem_of_getElem? (i := 1246) (by decide +kernel), List.mem_of_getElem? (i := 1518) (by decide +kernel), List.mem_of_getElem? (i := 1519) (by decide +kernel)⟩
def lw_privs_5 : List (MethodName × Nat) := [(⟨"PackedForest$Mender", "costOf", "(III)I"⟩, 4), (⟨"PackedForest$Mender", "costTo", "(III)I"⟩, 4), (⟨"PackedForest$Mender", "partCost", "(III)I"⟩, 4), (⟨"PackedForest$Mender", "smallCost", "(III)I"⟩, 4), (⟨"PackedForest$Speaker", "speak", "()Z"⟩, 4), (⟨"PackedForest$Speaker", "firstCapital", "()I"⟩, 4), (⟨"PackedForest$Speaker", "drawnRule", "(I)I"⟩, 4), (⟨"PackedForest$Speaker", "draw", "()I"⟩, 4), (⟨"PackedForest$Speaker", "replace", "(II)Z"⟩, 4), (⟨"PackedForestModel", "put", "(I)V"⟩, 72), (⟨"PackedForestModel", "readsAll", "()V"⟩, 72), (⟨"PackedForestModel", "readsLeft", "()V"⟩, 72), (⟨"PackedForestModel", "sign", "()I"⟩, 72), (⟨"PackedForestModel", "fails", "(II)V"⟩, 72), (⟨"PackedForestModel", "isNewLeft", "(II)Z"⟩, 72), (⟨"PackedForestModel", "newLefts", "()I"⟩, 72)]
theorem lw_r5 : ∀ q ∈ lw_privs_5, lw_okq q := List.forall_mem_cons.mpr ⟨lw_p64, List.forall_mem_cons.mpr ⟨lw_p65, List.forall_mem_cons.mpr ⟨lw_p66, List.forall_mem_cons.mpr ⟨lw_p67, List.forall_mem_cons.mpr ⟨lw_p68, List.forall_mem_cons.mpr ⟨lw_p69, List.forall_mem_cons.mpr ⟨lw_p70, List.forall_mem_cons.mpr ⟨lw_p71, List.forall_mem_cons.mpr ⟨lw_p72, List.forall_mem_cons.mpr ⟨lw_p73, List.forall_mem_cons.mpr ⟨lw_p74, List.forall_mem_cons.mpr ⟨lw_p75, List.forall_mem_cons.mpr ⟨lw_p76, List.forall_mem_cons.mpr ⟨lw_p77, List.forall_mem_cons.mpr ⟨lw_p78, List.forall_mem_cons.mpr ⟨lw_p79, fun _ h => absurd h List.not_mem_nil⟩⟩⟩⟩⟩⟩⟩⟩⟩⟩⟩⟩⟩⟩⟩⟩
theorem lw_p80 : lw_okq (⟨"PackedForestModel", "readsRight", "()V"⟩, 72) := ⟨⟨by decide +kernel, by decide +kernel⟩, List.mem_of_getElem? (i := 1246) (by decide +kernel), List.mem_of_getElem? (i := 1522) (by decide +kernel), List.mem_of_getElem? (i := 1523) (by decide +kernel)⟩
theorem lw_p81 : lw_okq (⟨"PackedForestModel", "readsRank", "()V"⟩, 72) := ⟨⟨by decide +kernel, by decide +kernel⟩, List.mem_of_getElem? (i := 1246) (by decide +kernel), List.mem_of_getElem? (i := 1526) (by decide +kernel), List.mem_of_getElem? (i := 1527) (by decide +kernel)⟩
theorem lw_p82 : lw_okq (⟨"PackedForestModel", "isMore", "()Z"⟩, 72) := ⟨⟨by decide +kernel, by decide +kernel⟩, List.mem_of_getElem? (i := 1246) (by decide +kernel), List.mem_of_getElem? (i := 1535) (by decide +kernel), List.mem_of_getElem? (i := 1536) (by decide +kernel)⟩
theorem lw_p83 : lw_okq (⟨"PackedForestModel", "keepsOld", "()V"⟩, 72) := ⟨⟨by decide +kernel, by decide +kernel⟩, List.mem_of_getElem? (i := 1246) (by decide +kernel), List.mem_of_getElem? (i := 1539) (by decide +kernel), List.mem_of_getElem? (i := 1540) (by decide +kernel)⟩
theorem lw_p84 : lw_okq (⟨"PackedForestModel", "takesNew", "()V"⟩, 72) := ⟨⟨by decide +kernel, by decide +kernel⟩, List.mem_of_getElem? (i := 1246) (by decide +kernel), List.mem_of_getElem? (i := 1546) (by decide +kernel), List.mem_of_getElem? (i := 1547) (by decide +kernel)⟩
theorem lw_p85 : lw_okq (⟨"PackedForestModel", "laysStates", "()Z"⟩, 72) := ⟨⟨by decide +kernel, by decide +kernel⟩, List.mem_of_getElem? (i := 1246) (by decide +kernel), List.mem_of_getElem? (i := 1550) (by decide +kernel), List.mem_of_getElem? (i := 1551) (by decide +kernel)⟩
theorem lw_p86 : lw_okq (⟨"PackedForestModel", "begun", "(I)J"⟩, 72) := ⟨⟨by decide +kernel, by decide +kernel⟩, List.mem_of_getElem? (i := 1246) (by decide +kernel), List.mem_of_getElem? (i := 1554) (by decide +kernel), List.mem_of_getElem? (i := 1555) (by decide +kernel)⟩
theorem lw_p87 : lw_okq (⟨"PackedForestModel", "isOn", "(I)Z"⟩, 72) := ⟨⟨by decide +kernel, by decide +kernel⟩, List.mem_of_getElem? (i := 1246) (by decide +kernel), List.mem_of_getElem? (i := 1558) (by decide +kernel), List.mem_of_getElem? (i := 1559) (by decide +kernel)⟩
theorem lw_p88 : lw_okq (⟨"PackedForestModel", "closed", "(J)J"⟩, 72) := ⟨⟨by decide +kernel, by decide +kernel⟩, List.mem_of_getElem? (i := 1246) (by decide +kernel), List.mem_of_getElem? (i := 1568) (by decide +kernel), List.mem_of_getElem? (i := 1569) (by decide +kernel)⟩
theorem lw_p89 : lw_okq (⟨"PackedForestModel", "laysGo", "(II)Z"⟩, 72) := ⟨⟨by decide +kernel, by decide +kernel⟩, List.mem_of_getElem? (i := 1246) (by decide +kernel), List.mem_of_getElem? (i := 1575) (by decide +kernel), List.mem_of_getElem? (i := 1576) (by decide +kernel)⟩
theorem lw_p90 : lw_okq (⟨"PackedForestModel", "moved", "(JI)J"⟩, 72) := ⟨⟨by decide +kernel, by decide +kernel⟩, List.mem_of_getElem? (i := 1246) (by decide +kernel), List.mem_of_getElem? (i := 1579) (by decide +kernel), List.mem_of_getElem? (i := 1580) (by decide +kernel)⟩
theorem lw_p91 : lw_okq (⟨"PackedForestModel", "numberOf", "(J)I"⟩, 72) := ⟨⟨by decide +kernel, by decide +kernel⟩, List.mem_of_getElem? (i := 1246) (by decide +kernel), List.mem_of_getElem? (i := 1583) (by decide +kernel), List.mem_of_getElem? (i := 1584) (by decide +kernel)⟩
theorem lw_p92 : lw_okq (⟨"PackedForestModel", "laysOld", "()V"⟩, 72) := ⟨⟨by decide +kernel, by decide +kernel⟩, List.mem_of_getElem? (i := 1246) (by decide +kernel), List.mem_of_getElem? (i := 1587) (by decide +kernel), List.mem_of_getElem? (i := 1588) (by decide +kernel)⟩
theorem lw_p93 : lw_okq (⟨"PackedForestModel", "isRule", "(I)Z"⟩, 72) := ⟨⟨by decide +kernel, by decide +kernel⟩, List.mem_of_getElem? (i := 1246) (by decide +kernel), List.mem_of_getElem? (i := 1595) (by decide +kernel), List.mem_of_getElem? (i := 1596) (by decide +kernel)⟩
theorem lw_p94 : lw_okq (⟨"PackedForestModel", "isGrammar", "()Z"⟩, 72) := ⟨⟨by decide +kernel, by decide +kernel⟩, List.mem_of_getElem? (i := 1246) (by decide +kernel), List.mem_of_getElem? (i := 1607) (by decide +kernel), List.mem_of_getElem? (i := 1608) (by decide +kernel)⟩
theorem lw_p95 : lw_okq (⟨"PackedForestModel", "laysFacts", "()V"⟩, 72) := ⟨⟨by decide +kernel, by decide +kernel⟩, List.mem_of_getElem? (i := 1246) (by decide +kernel), List.mem_of_getElem? (i := 1611) (by decide +kernel), List.mem_of_getElem? (i := 1612) (by decide +kernel)⟩
def lw_privs_6 : List (MethodName × Nat) := [(⟨"PackedForestModel", "readsRight", "()V"⟩, 72), (⟨"PackedForestModel", "readsRank", "()V"⟩, 72), (⟨"PackedForestModel", "isMore", "()Z"⟩, 72), (⟨"PackedForestModel", "keepsOld", "()V"⟩, 72), (⟨"PackedForestModel", "takesNew", "()V"⟩, 72), (⟨"PackedForestModel", "laysStates", "()Z"⟩, 72), (⟨"PackedForestModel", "begun", "(I)J"⟩, 72), (⟨"PackedForestModel", "isOn", "(I)Z"⟩, 72), (⟨"PackedForestModel", "closed", "(J)J"⟩, 72), (⟨"PackedForestModel", "laysGo", "(II)Z"⟩, 72), (⟨"PackedForestModel", "moved", "(JI)J"⟩, 72), (⟨"PackedForestModel", "numberOf", "(J)I"⟩, 72), (⟨"PackedForestModel", "laysOld", "()V"⟩, 72), (⟨"PackedForestModel", "isRule", "(I)Z"⟩, 72), (⟨"PackedForestModel", "isGrammar", "()Z"⟩, 72), (⟨"PackedForestModel", "laysFacts", "()V"⟩, 72)]
theorem lw_r6 : ∀ q ∈ lw_privs_6, lw_okq q := List.forall_mem_cons.mpr ⟨lw_p80, List.forall_mem_cons.mpr ⟨lw_p81, List.forall_mem_cons.mpr ⟨lw_p82, List.forall_mem_cons.mpr ⟨lw_p83, List.forall_mem_cons.mpr ⟨lw_p84, List.forall_mem_cons.mpr ⟨lw_p85, List.forall_mem_cons.mpr ⟨lw_p86, List.forall_mem_cons.mpr ⟨lw_p87, List.forall_mem_cons.mpr ⟨lw_p88, List.forall_mem_cons.mpr ⟨lw_p89, List.forall_mem_cons.mpr ⟨lw_p90, List.forall_mem_cons.mpr ⟨lw_p91, List.forall_mem_cons.mpr ⟨lw_p92, List.forall_mem_cons.mpr ⟨lw_p93, List.forall_mem_cons.mpr ⟨lw_p94, List.forall_mem_cons.mpr ⟨lw_p95, fun _ h => absurd h List.not_mem_nil⟩⟩⟩⟩⟩⟩⟩⟩⟩⟩⟩⟩⟩⟩⟩⟩
theorem lw_p96 : lw_okq (⟨"PackedForestModel", "growsEmpty", "(I)I"⟩, 72) := ⟨⟨by decide +kernel, by decide +kernel⟩, List.mem_of_getElem? (i := 1246) (by decide +kernel), List.mem_of_getElem? (i := 1618) (by decide +kernel), List.mem_of_getElem? (i := 1619) (by decide +kernel)⟩
theorem lw_p97 : lw_okq (⟨"PackedForestModel", "areIn", "(IIIII)Z"⟩, 72) := ⟨⟨by decide +kernel, by decide +kernel⟩, List.mem_of_getElem? (i := 1246) (by decide +kernel), List.mem_of_getElem? (i := 1622) (by decide +kernel), List.mem_of_getElem? (i := 1623) (by decide +kernel)⟩
theorem lw_p98 : lw_okq (⟨"PackedForestModel", "growsEnding", "(I)I"⟩, 72) := ⟨⟨by decide +kernel, by decide +kernel⟩, List.mem_of_getElem? (i := 1246) (by decide +kernel), List.mem_of_getElem? (i := 1626) (by decide +kernel), List.mem_of_getElem? (i := 1627) (by decide +kernel)⟩
theorem lw_p99 : lw_okq (⟨"PackedForestModel", "areCapitalsIn", "(II)Z"⟩, 72) := ⟨⟨by decide +kernel, by decide +kernel⟩, List.mem_of_getElem? (i := 1246) (by decide +kernel), List.mem_of_getElem? (i := 1630) (by decide +kernel), List.mem_of_getElem? (i := 1631) (by decide +kernel)⟩
theorem lw_p100 : lw_okq (⟨"PackedForestModel", "growsReached", "(I)I"⟩, 72) := ⟨⟨by decide +kernel, by decide +kernel⟩, List.mem_of_getElem? (i := 1246) (by decide +kernel), List.mem_of_getElem? (i := 1634) (by decide +kernel), List.mem_of_getElem? (i := 1635) (by decide +kernel)⟩
theorem lw_p101 : lw_okq (⟨"PackedForestModel", "againBy", "(Z)I"⟩, 72) := ⟨⟨by decide +kernel, by decide +kernel⟩, List.mem_of_getElem? (i := 1246) (by decide +kernel), List.mem_of_getElem? (i := 1638) (by decide +kernel), List.mem_of_getElem? (i := 1639) (by decide +kernel)⟩
theorem lw_p102 : lw_okq (⟨"PackedForestModel", "stepsOf", "(IZ)I"⟩, 72) := ⟨⟨by decide +kernel, by decide +kernel⟩, List.mem_of_getElem? (i := 1246) (by decide +kernel), List.mem_of_getElem? (i := 1642) (by decide +kernel), List.mem_of_getElem? (i := 1643) (by decide +kernel)⟩
theorem lw_p103 : lw_okq (⟨"PackedForestModel", "isLeft", "(I)Z"⟩, 72) := ⟨⟨by decide +kernel, by decide +kernel⟩, List.mem_of_getElem? (i := 1246) (by decide +kernel), List.mem_of_getElem? (i := 1650) (by decide +kernel), List.mem_of_getElem? (i := 1651) (by decide +kernel)⟩
theorem lw_p104 : lw_okq (⟨"PackedForestModel", "laysFirst", "()V"⟩, 72) := ⟨⟨by decide +kernel, by decide +kernel⟩, List.mem_of_getElem? (i := 1246) (by decide +kernel), List.mem_of_getElem? (i := 1654) (by decide +kernel), List.mem_of_getElem? (i := 1655) (by decide +kernel)⟩
theorem lw_p105 : lw_okq (⟨"PackedForestModel", "firstBehind", "(II)I"⟩, 72) := ⟨⟨by decide +kernel, by decide +kernel⟩, List.mem_of_getElem? (i := 1246) (by decide +kernel), List.mem_of_getElem? (i := 1658) (by decide +kernel), List.mem_of_getElem? (i := 1659) (by decide +kernel)⟩
theorem lw_p106 : lw_okq (⟨"PackedForestModel", "firstOf", "(I)I"⟩, 72) := ⟨⟨by decide +kernel, by decide +kernel⟩, List.mem_of_getElem? (i := 1246) (by decide +kernel), List.mem_of_getElem? (i := 1662) (by decide +kernel), List.mem_of_getElem? (i := 1663) (by decide +kernel)⟩
theorem lw_p107 : lw_okq (⟨"PackedForestModel", "laysFollow", "()V"⟩, 72) := ⟨⟨by decide +kernel, by decide +kernel⟩, List.mem_of_getElem? (i := 1246) (by decide +kernel), List.mem_of_getElem? (i := 1670) (by decide +kernel), List.mem_of_getElem? (i := 1671) (by decide +kernel)⟩
theorem lw_p108 : lw_okq (⟨"PackedForestModel", "followsIn", "(I)V"⟩, 72) := ⟨⟨by decide +kernel, by decide +kernel⟩, List.mem_of_getElem? (i := 1246) (by decide +kernel), List.mem_of_getElem? (i := 1675) (by decide +kernel), List.mem_of_getElem? (i := 1676) (by decide +kernel)⟩
theorem lw_p109 : lw_okq (⟨"PackedForestModel", "fewestIn", "(I)I"⟩, 72) := ⟨⟨by decide +kernel, by decide +kernel⟩, List.mem_of_getElem? (i := 1246) (by decide +kernel), List.mem_of_getElem? (i := 1684) (by decide +kernel), List.mem_of_getElem? (i := 1685) (by decide +kernel)⟩
theorem lw_p110 : lw_okq (⟨"PackedForestModel", "isState", "(I)Z"⟩, 72) := ⟨⟨by decide +kernel, by decide +kernel⟩, List.mem_of_getElem? (i := 1246) (by decide +kernel), List.mem_of_getElem? (i := 1699) (by decide +kernel), List.mem_of_getElem? (i := 1700) (by decide +kernel)⟩
theorem lw_p111 : lw_okq (⟨"PackedForestModel", "doesClash", "(I)Z"⟩, 72) := ⟨⟨by decide +kernel, by decide +kernel⟩, List.mem_of_getElem? (i := 1246) (by decide +kernel), List.mem_of_getElem? (i := 1717) (by decide +kernel), List.mem_of_getElem? (i := 1718) (by decide +kernel)⟩
def lw_privs_7 : List (MethodName × Nat) := [(⟨"PackedForestModel", "growsEmpty", "(I)I"⟩, 72), (⟨"PackedForestModel", "areIn", "(IIIII)Z"⟩, 72), (⟨"PackedForestModel", "growsEnding", "(I)I"⟩, 72), (⟨"PackedForestModel", "areCapitalsIn", "(II)Z"⟩, 72), (⟨"PackedForestModel", "growsReached", "(I)I"⟩, 72), (⟨"PackedForestModel", "againBy", "(Z)I"⟩, 72), (⟨"PackedForestModel", "stepsOf", "(IZ)I"⟩, 72), (⟨"PackedForestModel", "isLeft", "(I)Z"⟩, 72), (⟨"PackedForestModel", "laysFirst", "()V"⟩, 72), (⟨"PackedForestModel", "firstBehind", "(II)I"⟩, 72), (⟨"PackedForestModel", "firstOf", "(I)I"⟩, 72), (⟨"PackedForestModel", "laysFollow", "()V"⟩, 72), (⟨"PackedForestModel", "followsIn", "(I)V"⟩, 72), (⟨"PackedForestModel", "fewestIn", "(I)I"⟩, 72), (⟨"PackedForestModel", "isState", "(I)Z"⟩, 72), (⟨"PackedForestModel", "doesClash", "(I)Z"⟩, 72)]
theorem lw_r7 : ∀ q ∈ lw_privs_7, lw_okq q := List.forall_mem_cons.mpr ⟨lw_p96, List.forall_mem_cons.mpr ⟨lw_p97, List.forall_mem_cons.mpr ⟨lw_p98, List.forall_mem_cons.mpr ⟨lw_p99, List.forall_mem_cons.mpr ⟨lw_p100, List.forall_mem_cons.mpr ⟨lw_p101, List.forall_mem_cons.mpr ⟨lw_p102, List.forall_mem_cons.mpr ⟨lw_p103, List.forall_mem_cons.mpr ⟨lw_p104, List.forall_mem_cons.mpr ⟨lw_p105, List.forall_mem_cons.mpr ⟨lw_p106, List.forall_mem_cons.mpr ⟨lw_p107, List.forall_mem_cons.mpr ⟨lw_p108, List.forall_mem_cons.mpr ⟨lw_p109, List.forall_mem_cons.mpr ⟨lw_p110, List.forall_mem_cons.mpr ⟨lw_p111, fun _ h => absurd h List.not_mem_nil⟩⟩⟩⟩⟩⟩⟩⟩⟩⟩⟩⟩⟩⟩⟩⟩
theorem lw_p112 : lw_okq (⟨"PackedForestModel", "movesAll", "(IZ)V"⟩, 72) := ⟨⟨by decide +kernel, by decide +kernel⟩, List.mem_of_getElem? (i := 1246) (by decide +kernel), List.mem_of_getElem? (i := 1725) (by decide +kernel), List.mem_of_getElem? (i := 1726) (by decide +kernel)⟩
theorem lw_p113 : lw_okq (⟨"PackedForestModel", "moves", "(I)I"⟩, 72) := ⟨⟨by decide +kernel, by decide +kernel⟩, List.mem_of_getElem? (i := 1246) (by decide +kernel), List.mem_of_getElem? (i := 1729) (by decide +kernel), List.mem_of_getElem? (i := 1730) (by decide +kernel)⟩
theorem lw_p114 : lw_okq (⟨"PackedForestModel", "movesRow", "([I)V"⟩, 72) := ⟨⟨by decide +kernel, by decide +kernel⟩, List.mem_of_getElem? (i := 1246) (by decide +kernel), List.mem_of_getElem? (i := 1733) (by decide +kernel), List.mem_of_getElem? (i := 1734) (by decide +kernel)⟩
theorem lw_p115 : lw_okq (⟨"PackedForestModel", "keepsAct", "()V"⟩, 72) := ⟨⟨by decide +kernel, by decide +kernel⟩, List.mem_of_getElem? (i := 1246) (by decide +kernel), List.mem_of_getElem? (i := 1742) (by decide +kernel), List.mem_of_getElem? (i := 1743) (by decide +kernel)⟩
theorem lw_p116 : lw_okq (⟨"PackedForestModel", "isNew", "()V"⟩, 72) := ⟨⟨by decide +kernel, by decide +kernel⟩, List.mem_of_getElem? (i := 1246) (by decide +kernel), List.mem_of_getElem? (i := 1746) (by decide +kernel), List.mem_of_getElem? (i := 1747) (by decide +kernel)⟩
theorem lw_p117 : lw_okq (⟨"PackedForestModel", "banOf", "(I)I"⟩, 72) := ⟨⟨by decide +kernel, by decide +kernel⟩, List.mem_of_getElem? (i := 1246) (by decide +kernel), List.mem_of_getElem? (i := 1766) (by decide +kernel), List.mem_of_getElem? (i := 1767) (by decide +kernel)⟩
theorem lw_p118 : lw_okq (⟨"PackedForestModel", "isPart", "(II)Z"⟩, 72) := ⟨⟨by decide +kernel, by decide +kernel⟩, List.mem_of_getElem? (i := 1246) (by decide +kernel), List.mem_of_getElem? (i := 1783) (by decide +kernel), List.mem_of_getElem? (i := 1784) (by decide +kernel)⟩
theorem lw_p119 : lw_okq (⟨"PackedForestModel", "laysMade", "(I)V"⟩, 72) := ⟨⟨by decide +kernel, by decide +kernel⟩, List.mem_of_getElem? (i := 1246) (by decide +kernel), List.mem_of_getElem? (i := 1787) (by decide +kernel), List.mem_of_getElem? (i := 1788) (by decide +kernel)⟩
theorem lw_p120 : lw_okq (⟨"PackedForestModel", "makesOf", "(II)Z"⟩, 72) := ⟨⟨by decide +kernel, by decide +kernel⟩, List.mem_of_getElem? (i := 1246) (by decide +kernel), List.mem_of_getElem? (i := 1791) (by decide +kernel), List.mem_of_getElem? (i := 1792) (by decide +kernel)⟩
theorem lw_p121 : lw_okq (⟨"PackedForestModel", "makesOne", "(IIII)Z"⟩, 72) := ⟨⟨by decide +kernel, by decide +kernel⟩, List.mem_of_getElem? (i := 1246) (by decide +kernel), List.mem_of_getElem? (i := 1795) (by decide +kernel), List.mem_of_getElem? (i := 1796) (by decide +kernel)⟩
theorem lw_p122 : lw_okq (⟨"PackedForestModel", "laysAhead", "(IIII)V"⟩, 72) := ⟨⟨by decide +kernel, by decide +kernel⟩, List.mem_of_getElem? (i := 1246) (by decide +kernel), List.mem_of_getElem? (i := 1802) (by decide +kernel), List.mem_of_getElem? (i := 1803) (by decide +kernel)⟩
theorem lw_p123 : lw_okq (⟨"PackedForestModel", "canBe", "(IIIII)Z"⟩, 72) := ⟨⟨by decide +kernel, by decide +kernel⟩, List.mem_of_getElem? (i := 1246) (by decide +kernel), List.mem_of_getElem? (i := 1806) (by decide +kernel), List.mem_of_getElem? (i := 1807) (by decide +kernel)⟩
theorem lw_p124 : lw_okq (⟨"PackedForestModel", "isCapitalAt", "(II)Z"⟩, 72) := ⟨⟨by decide +kernel, by decide +kernel⟩, List.mem_of_getElem? (i := 1246) (by decide +kernel), List.mem_of_getElem? (i := 1810) (by decide +kernel), List.mem_of_getElem? (i := 1811) (by decide +kernel)⟩
theorem lw_p125 : lw_okq (⟨"PackedForestModel", "isSmallAt", "(IIII)Z"⟩, 72) := ⟨⟨by decide +kernel, by decide +kernel⟩, List.mem_of_getElem? (i := 1246) (by decide +kernel), List.mem_of_getElem? (i := 1814) (by decide +kernel), List.mem_of_getElem? (i := 1815) (by decide +kernel)⟩
theorem lw_p126 : lw_okq (⟨"PackedForestModel", "isBelow", "(IIII)Z"⟩, 72) := ⟨⟨by decide +kernel, by decide +kernel⟩, List.mem_of_getElem? (i := 1246) (by decide +kernel), List.mem_of_getElem? (i := 1818) (by decide +kernel), List.mem_of_getElem? (i := 1819) (by decide +kernel)⟩
theorem lw_p127 : lw_okq (⟨"PackedForestModel", "isForbidden", "(III)Z"⟩, 72) := ⟨⟨by decide +kernel, by decide +kernel⟩, List.mem_of_getElem? (i := 1246) (by decide +kernel), List.mem_of_getElem? (i := 1822) (by decide +kernel), List.mem_of_getElem? (i := 1823) (by decide +kernel)⟩
def lw_privs_8 : List (MethodName × Nat) := [(⟨"PackedForestModel", "movesAll", "(IZ)V"⟩, 72), (⟨"PackedForestModel", "moves", "(I)I"⟩, 72), (⟨"PackedForestModel", "movesRow", "([I)V"⟩, 72), (⟨"PackedForestModel", "keepsAct", "()V"⟩, 72), (⟨"PackedForestModel", "isNew", "()V"⟩, 72), (⟨"PackedForestModel", "banOf", "(I)I"⟩, 72), (⟨"PackedForestModel", "isPart", "(II)Z"⟩, 72), (⟨"PackedForestModel", "laysMade", "(I)V"⟩, 72), (⟨"PackedForestModel", "makesOf", "(II)Z"⟩, 72), (⟨"PackedForestModel", "makesOne", "(IIII)Z"⟩, 72), (⟨"PackedForestModel", "laysAhead", "(IIII)V"⟩, 72), (⟨"PackedForestModel", "canBe", "(IIIII)Z"⟩, 72), (⟨"PackedForestModel", "isCapitalAt", "(II)Z"⟩, 72), (⟨"PackedForestModel", "isSmallAt", "(IIII)Z"⟩, 72), (⟨"PackedForestModel", "isBelow", "(IIII)Z"⟩, 72), (⟨"PackedForestModel", "isForbidden", "(III)Z"⟩, 72)]
theorem lw_r8 : ∀ q ∈ lw_privs_8, lw_okq q := List.forall_mem_cons.mpr ⟨lw_p112, List.forall_mem_cons.mpr ⟨lw_p113, List.forall_mem_cons.mpr ⟨lw_p114, List.forall_mem_cons.mpr ⟨lw_p115, List.forall_mem_cons.mpr ⟨lw_p116, List.forall_mem_cons.mpr ⟨lw_p117, List.forall_mem_cons.mpr ⟨lw_p118, List.forall_mem_cons.mpr ⟨lw_p119, List.forall_mem_cons.mpr ⟨lw_p120, List.forall_mem_cons.mpr ⟨lw_p121, List.forall_mem_cons.mpr ⟨lw_p122, List.forall_mem_cons.mpr ⟨lw_p123, List.forall_mem_cons.mpr ⟨lw_p124, List.forall_mem_cons.mpr ⟨lw_p125, List.forall_mem_cons.mpr ⟨lw_p126, List.forall_mem_cons.mpr ⟨lw_p127, fun _ h => absurd h List.not_mem_nil⟩⟩⟩⟩⟩⟩⟩⟩⟩⟩⟩⟩⟩⟩⟩⟩
theorem lw_p128 : lw_okq (⟨"PackedForestModel", "isBySide", "(II)Z"⟩, 72) := ⟨⟨by decide +kernel, by decide +kernel⟩, List.mem_of_getElem? (i := 1246) (by decide +kernel), List.mem_of_getElem? (i := 1826) (by decide +kernel), List.mem_of_getElem? (i := 1827) (by decide +kernel)⟩
theorem lw_p129 : lw_okq (⟨"PackedForestModel", "isMadeOf", "(III)Z"⟩, 72) := ⟨⟨by decide +kernel, by decide +kernel⟩, List.mem_of_getElem? (i := 1246) (by decide +kernel), List.mem_of_getElem? (i := 1830) (by decide +kernel), List.mem_of_getElem? (i := 1831) (by decide +kernel)⟩
theorem lw_p130 : lw_okq (⟨"PackedForestModel", "isLevel", "(I)Z"⟩, 72) := ⟨⟨by decide +kernel, by decide +kernel⟩, List.mem_of_getElem? (i := 1246) (by decide +kernel), List.mem_of_getElem? (i := 1842) (by decide +kernel), List.mem_of_getElem? (i := 1843) (by decide +kernel)⟩
theorem lw_p131 : lw_okq (⟨"PackedForestModel", "laysAlive", "()V"⟩, 72) := ⟨⟨by decide +kernel, by decide +kernel⟩, List.mem_of_getElem? (i := 1246) (by decide +kernel), List.mem_of_getElem? (i := 1846) (by decide +kernel), List.mem_of_getElem? (i := 1847) (by decide +kernel)⟩
theorem lw_p132 : lw_okq (⟨"PackedForestModel", "wakes", "(I)Z"⟩, 72) := ⟨⟨by decide +kernel, by decide +kernel⟩, List.mem_of_getElem? (i := 1246) (by decide +kernel), List.mem_of_getElem? (i := 1850) (by decide +kernel), List.mem_of_getElem? (i := 1851) (by decide +kernel)⟩
theorem lw_p133 : lw_okq (⟨"PackedForestModel", "wakesFrom", "(III)Z"⟩, 72) := ⟨⟨by decide +kernel, by decide +kernel⟩, List.mem_of_getElem? (i := 1246) (by decide +kernel), List.mem_of_getElem? (i := 1854) (by decide +kernel), List.mem_of_getElem? (i := 1855) (by decide +kernel)⟩
theorem lw_p134 : lw_okq (⟨"PackedForestModel", "linksTo", "(IIII)I"⟩, 72) := ⟨⟨by decide +kernel, by decide +kernel⟩, List.mem_of_getElem? (i := 1246) (by decide +kernel), List.mem_of_getElem? (i := 1862) (by decide +kernel), List.mem_of_getElem? (i := 1863) (by decide +kernel)⟩
theorem lw_p135 : lw_okq (⟨"PackedForestModel", "laysTrees", "()V"⟩, 72) := ⟨⟨by decide +kernel, by decide +kernel⟩, List.mem_of_getElem? (i := 1246) (by decide +kernel), List.mem_of_getElem? (i := 1874) (by decide +kernel), List.mem_of_getElem? (i := 1875) (by decide +kernel)⟩
theorem lw_p136 : lw_okq (⟨"PackedForestModel", "laysTreesOf", "(II)V"⟩, 72) := ⟨⟨by decide +kernel, by decide +kernel⟩, List.mem_of_getElem? (i := 1246) (by decide +kernel), List.mem_of_getElem? (i := 1878) (by decide +kernel), List.mem_of_getElem? (i := 1879) (by decide +kernel)⟩
theorem lw_p137 : lw_okq (⟨"PackedForestModel", "laysRings", "(II)V"⟩, 72) := ⟨⟨by decide +kernel, by decide +kernel⟩, List.mem_of_getElem? (i := 1246) (by decide +kernel), List.mem_of_getElem? (i := 1882) (by decide +kernel), List.mem_of_getElem? (i := 1883) (by decide +kernel)⟩
theorem lw_p138 : lw_okq (⟨"PackedForestModel", "sameBelow", "(III)I"⟩, 72) := ⟨⟨by decide +kernel, by decide +kernel⟩, List.mem_of_getElem? (i := 1246) (by decide +kernel), List.mem_of_getElem? (i := 1886) (by decide +kernel), List.mem_of_getElem? (i := 1887) (by decide +kernel)⟩
theorem lw_p139 : lw_okq (⟨"PackedForestModel", "endsNot", "(II)Z"⟩, 72) := ⟨⟨by decide +kernel, by decide +kernel⟩, List.mem_of_getElem? (i := 1246) (by decide +kernel), List.mem_of_getElem? (i := 1890) (by decide +kernel), List.mem_of_getElem? (i := 1891) (by decide +kernel)⟩
theorem lw_p140 : lw_okq (⟨"PackedForestModel", "hasEndless", "(III)Z"⟩, 72) := ⟨⟨by decide +kernel, by decide +kernel⟩, List.mem_of_getElem? (i := 1246) (by decide +kernel), List.mem_of_getElem? (i := 1894) (by decide +kernel), List.mem_of_getElem? (i := 1895) (by decide +kernel)⟩
theorem lw_p141 : lw_okq (⟨"PackedForestModel", "isEndlessBelow", "(IIII)Z"⟩, 72) := ⟨⟨by decide +kernel, by decide +kernel⟩, List.mem_of_getElem? (i := 1246) (by decide +kernel), List.mem_of_getElem? (i := 1898) (by decide +kernel), List.mem_of_getElem? (i := 1899) (by decide +kernel)⟩
theorem lw_p142 : lw_okq (⟨"PackedForestModel", "countsAll", "(II)Z"⟩, 72) := ⟨⟨by decide +kernel, by decide +kernel⟩, List.mem_of_getElem? (i := 1246) (by decide +kernel), List.mem_of_getElem? (i := 1902) (by decide +kernel), List.mem_of_getElem? (i := 1903) (by decide +kernel)⟩
theorem lw_p143 : lw_okq (⟨"PackedForestModel", "countsOf", "(III)J"⟩, 72) := ⟨⟨by decide +kernel, by decide +kernel⟩, List.mem_of_getElem? (i := 1246) (by decide +kernel), List.mem_of_getElem? (i := 1906) (by decide +kernel), List.mem_of_getElem? (i := 1907) (by decide +kernel)⟩
def lw_privs_9 : List (MethodName × Nat) := [(⟨"PackedForestModel", "isBySide", "(II)Z"⟩, 72), (⟨"PackedForestModel", "isMadeOf", "(III)Z"⟩, 72), (⟨"PackedForestModel", "isLevel", "(I)Z"⟩, 72), (⟨"PackedForestModel", "laysAlive", "()V"⟩, 72), (⟨"PackedForestModel", "wakes", "(I)Z"⟩, 72), (⟨"PackedForestModel", "wakesFrom", "(III)Z"⟩, 72), (⟨"PackedForestModel", "linksTo", "(IIII)I"⟩, 72), (⟨"PackedForestModel", "laysTrees", "()V"⟩, 72), (⟨"PackedForestModel", "laysTreesOf", "(II)V"⟩, 72), (⟨"PackedForestModel", "laysRings", "(II)V"⟩, 72), (⟨"PackedForestModel", "sameBelow", "(III)I"⟩, 72), (⟨"PackedForestModel", "endsNot", "(II)Z"⟩, 72), (⟨"PackedForestModel", "hasEndless", "(III)Z"⟩, 72), (⟨"PackedForestModel", "isEndlessBelow", "(IIII)Z"⟩, 72), (⟨"PackedForestModel", "countsAll", "(II)Z"⟩, 72), (⟨"PackedForestModel", "countsOf", "(III)J"⟩, 72)]
theorem lw_r9 : ∀ q ∈ lw_privs_9, lw_okq q := List.forall_mem_cons.mpr ⟨lw_p128, List.forall_mem_cons.mpr ⟨lw_p129, List.forall_mem_cons.mpr ⟨lw_p130, List.forall_mem_cons.mpr ⟨lw_p131, List.forall_mem_cons.mpr ⟨lw_p132, List.forall_mem_cons.mpr ⟨lw_p133, List.forall_mem_cons.mpr ⟨lw_p134, List.forall_mem_cons.mpr ⟨lw_p135, List.forall_mem_cons.mpr ⟨lw_p136, List.forall_mem_cons.mpr ⟨lw_p137, List.forall_mem_cons.mpr ⟨lw_p138, List.forall_mem_cons.mpr ⟨lw_p139, List.forall_mem_cons.mpr ⟨lw_p140, List.forall_mem_cons.mpr ⟨lw_p141, List.forall_mem_cons.mpr ⟨lw_p142, List.forall_mem_cons.mpr ⟨lw_p143, fun _ h => absurd h List.not_mem_nil⟩⟩⟩⟩⟩⟩⟩⟩⟩⟩⟩⟩⟩⟩⟩⟩
theorem lw_p144 : lw_okq (⟨"PackedForestModel", "treesBelow", "(IIII)J"⟩, 72) := ⟨⟨by decide +kernel, by decide +kernel⟩, List.mem_of_getElem? (i := 1246) (by decide +kernel), List.mem_of_getElem? (i := 1910) (by decide +kernel), List.mem_of_getElem? (i := 1911) (by decide +kernel)⟩
theorem lw_p145 : lw_okq (⟨"PackedForestModel", "laysForest", "()V"⟩, 72) := ⟨⟨by decide +kernel, by decide +kernel⟩, List.mem_of_getElem? (i := 1246) (by decide +kernel), List.mem_of_getElem? (i := 1919) (by decide +kernel), List.mem_of_getElem? (i := 1920) (by decide +kernel)⟩
theorem lw_p146 : lw_okq (⟨"PackedForestModel", "goesThrough", "()Z"⟩, 72) := ⟨⟨by decide +kernel, by decide +kernel⟩, List.mem_of_getElem? (i := 1246) (by decide +kernel), List.mem_of_getElem? (i := 1923) (by decide +kernel), List.mem_of_getElem? (i := 1924) (by decide +kernel)⟩
theorem lw_p147 : lw_okq (⟨"PackedForestModel", "marksFrom", "(III)Z"⟩, 72) := ⟨⟨by decide +kernel, by decide +kernel⟩, List.mem_of_getElem? (i := 1246) (by decide +kernel), List.mem_of_getElem? (i := 1927) (by decide +kernel), List.mem_of_getElem? (i := 1928) (by decide +kernel)⟩
theorem lw_p148 : lw_okq (⟨"PackedForestModel", "laysBehind", "(III)V"⟩, 72) := ⟨⟨by decide +kernel, by decide +kernel⟩, List.mem_of_getElem? (i := 1246) (by decide +kernel), List.mem_of_getElem? (i := 1931) (by decide +kernel), List.mem_of_getElem? (i := 1932) (by decide +kernel)⟩
theorem lw_p149 : lw_okq (⟨"PackedForestModel", "marksBelow", "(IIII)Z"⟩, 72) := ⟨⟨by decide +kernel, by decide +kernel⟩, List.mem_of_getElem? (i := 1246) (by decide +kernel), List.mem_of_getElem? (i := 1935) (by decide +kernel), List.mem_of_getElem? (i := 1936) (by decide +kernel)⟩
theorem lw_p150 : lw_okq (⟨"PackedForestModel", "waysOf", "(III)I"⟩, 72) := ⟨⟨by decide +kernel, by decide +kernel⟩, List.mem_of_getElem? (i := 1246) (by decide +kernel), List.mem_of_getElem? (i := 1943) (by decide +kernel), List.mem_of_getElem? (i := 1944) (by decide +kernel)⟩
theorem lw_p151 : lw_okq (⟨"PackedForestModel", "countsForest", "()V"⟩, 72) := ⟨⟨by decide +kernel, by decide +kernel⟩, List.mem_of_getElem? (i := 1246) (by decide +kernel), List.mem_of_getElem? (i := 1952) (by decide +kernel), List.mem_of_getElem? (i := 1953) (by decide +kernel)⟩
theorem lw_p152 : lw_okq (⟨"PackedForestModel", "countsNode", "(III)V"⟩, 72) := ⟨⟨by decide +kernel, by decide +kernel⟩, List.mem_of_getElem? (i := 1246) (by decide +kernel), List.mem_of_getElem? (i := 1956) (by decide +kernel), List.mem_of_getElem? (i := 1957) (by decide +kernel)⟩
theorem lw_p153 : lw_okq (⟨"PackedForestModel", "waysOfNode", "(III)I"⟩, 72) := ⟨⟨by decide +kernel, by decide +kernel⟩, List.mem_of_getElem? (i := 1246) (by decide +kernel), List.mem_of_getElem? (i := 1960) (by decide +kernel), List.mem_of_getElem? (i := 1961) (by decide +kernel)⟩
theorem lw_p154 : lw_okq (⟨"PackedForestModel", "laysSmallest", "()V"⟩, 72) := ⟨⟨by decide +kernel, by decide +kernel⟩, List.mem_of_getElem? (i := 1246) (by decide +kernel), List.mem_of_getElem? (i := 1968) (by decide +kernel), List.mem_of_getElem? (i := 1969) (by decide +kernel)⟩
theorem lw_p155 : lw_okq (⟨"PackedForestModel", "shrinks", "(I)Z"⟩, 72) := ⟨⟨by decide +kernel, by decide +kernel⟩, List.mem_of_getElem? (i := 1246) (by decide +kernel), List.mem_of_getElem? (i := 1972) (by decide +kernel), List.mem_of_getElem? (i := 1973) (by decide +kernel)⟩
theorem lw_p156 : lw_okq (⟨"PackedForestModel", "laysSizes", "(III)V"⟩, 72) := ⟨⟨by decide +kernel, by decide +kernel⟩, List.mem_of_getElem? (i := 1246) (by decide +kernel), List.mem_of_getElem? (i := 1976) (by decide +kernel), List.mem_of_getElem? (i := 1977) (by decide +kernel)⟩
theorem lw_p157 : lw_okq (⟨"PackedForestModel", "sizeBelow", "(IIII)I"⟩, 72) := ⟨⟨by decide +kernel, by decide +kernel⟩, List.mem_of_getElem? (i := 1246) (by decide +kernel), List.mem_of_getElem? (i := 1980) (by decide +kernel), List.mem_of_getElem? (i := 1981) (by decide +kernel)⟩
theorem lw_p158 : lw_okq (⟨"PackedForestModel", "leastBelow", "(IIII)I"⟩, 72) := ⟨⟨by decide +kernel, by decide +kernel⟩, List.mem_of_getElem? (i := 1246) (by decide +kernel), List.mem_of_getElem? (i := 1984) (by decide +kernel), List.mem_of_getElem? (i := 1985) (by decide +kernel)⟩
theorem lw_p159 : lw_okq (⟨"PackedForestModel", "leastRule", "()I"⟩, 72) := ⟨⟨by decide +kernel, by decide +kernel⟩, List.mem_of_getElem? (i := 1246) (by decide +kernel), List.mem_of_getElem? (i := 1988) (by decide +kernel), List.mem_of_getElem? (i := 1989) (by decide +kernel)⟩
def lw_privs_10 : List (MethodName × Nat) := [(⟨"PackedForestModel", "treesBelow", "(IIII)J"⟩, 72), (⟨"PackedForestModel", "laysForest", "()V"⟩, 72), (⟨"PackedForestModel", "goesThrough", "()Z"⟩, 72), (⟨"PackedForestModel", "marksFrom", "(III)Z"⟩, 72), (⟨"PackedForestModel", "laysBehind", "(III)V"⟩, 72), (⟨"PackedForestModel", "marksBelow", "(IIII)Z"⟩, 72), (⟨"PackedForestModel", "waysOf", "(III)I"⟩, 72), (⟨"PackedForestModel", "countsForest", "()V"⟩, 72), (⟨"PackedForestModel", "countsNode", "(III)V"⟩, 72), (⟨"PackedForestModel", "waysOfNode", "(III)I"⟩, 72), (⟨"PackedForestModel", "laysSmallest", "()V"⟩, 72), (⟨"PackedForestModel", "shrinks", "(I)Z"⟩, 72), (⟨"PackedForestModel", "laysSizes", "(III)V"⟩, 72), (⟨"PackedForestModel", "sizeBelow", "(IIII)I"⟩, 72), (⟨"PackedForestModel", "leastBelow", "(IIII)I"⟩, 72), (⟨"PackedForestModel", "leastRule", "()I"⟩, 72)]
theorem lw_r10 : ∀ q ∈ lw_privs_10, lw_okq q := List.forall_mem_cons.mpr ⟨lw_p144, List.forall_mem_cons.mpr ⟨lw_p145, List.forall_mem_cons.mpr ⟨lw_p146, List.forall_mem_cons.mpr ⟨lw_p147, List.forall_mem_cons.mpr ⟨lw_p148, List.forall_mem_cons.mpr ⟨lw_p149, List.forall_mem_cons.mpr ⟨lw_p150, List.forall_mem_cons.mpr ⟨lw_p151, List.forall_mem_cons.mpr ⟨lw_p152, List.forall_mem_cons.mpr ⟨lw_p153, List.forall_mem_cons.mpr ⟨lw_p154, List.forall_mem_cons.mpr ⟨lw_p155, List.forall_mem_cons.mpr ⟨lw_p156, List.forall_mem_cons.mpr ⟨lw_p157, List.forall_mem_cons.mpr ⟨lw_p158, List.forall_mem_cons.mpr ⟨lw_p159, fun _ h => absurd h List.not_mem_nil⟩⟩⟩⟩⟩⟩⟩⟩⟩⟩⟩⟩⟩⟩⟩⟩
theorem lw_p160 : lw_okq (⟨"PackedForestModel", "goesBelow", "()V"⟩, 72) := ⟨⟨by decide +kernel, by decide +kernel⟩, List.mem_of_getElem? (i := 1246) (by decide +kernel), List.mem_of_getElem? (i := 1997) (by decide +kernel), List.mem_of_getElem? (i := 1998) (by decide +kernel)⟩
theorem lw_p161 : lw_okq (⟨"PackedForestModel", "endOf", "(IIII)I"⟩, 72) := ⟨⟨by decide +kernel, by decide +kernel⟩, List.mem_of_getElem? (i := 1246) (by decide +kernel), List.mem_of_getElem? (i := 2001) (by decide +kernel), List.mem_of_getElem? (i := 2002) (by decide +kernel)⟩
theorem lw_p162 : lw_okq (⟨"PackedForestModel", "mendsMore", "(I)Z"⟩, 72) := ⟨⟨by decide +kernel, by decide +kernel⟩, List.mem_of_getElem? (i := 1246) (by decide +kernel), List.mem_of_getElem? (i := 2009) (by decide +kernel), List.mem_of_getElem? (i := 2010) (by decide +kernel)⟩
theorem lw_p163 : lw_okq (⟨"PackedForestModel", "mendsBy", "(III)I"⟩, 72) := ⟨⟨by decide +kernel, by decide +kernel⟩, List.mem_of_getElem? (i := 1246) (by decide +kernel), List.mem_of_getElem? (i := 2013) (by decide +kernel), List.mem_of_getElem? (i := 2014) (by decide +kernel)⟩
theorem lw_p164 : lw_okq (⟨"PackedForestModel", "mendsTo", "(IIII)I"⟩, 72) := ⟨⟨by decide +kernel, by decide +kernel⟩, List.mem_of_getElem? (i := 1246) (by decide +kernel), List.mem_of_getElem? (i := 2017) (by decide +kernel), List.mem_of_getElem? (i := 2018) (by decide +kernel)⟩
theorem lw_p165 : lw_okq (⟨"PackedForestModel", "speaks", "()Z"⟩, 72) := ⟨⟨by decide +kernel, by decide +kernel⟩, List.mem_of_getElem? (i := 1246) (by decide +kernel), List.mem_of_getElem? (i := 2032) (by decide +kernel), List.mem_of_getElem? (i := 2033) (by decide +kernel)⟩
theorem lw_p166 : lw_okq (⟨"PackedForestModel", "capitalAt", "()I"⟩, 72) := ⟨⟨by decide +kernel, by decide +kernel⟩, List.mem_of_getElem? (i := 1246) (by decide +kernel), List.mem_of_getElem? (i := 2036) (by decide +kernel), List.mem_of_getElem? (i := 2037) (by decide +kernel)⟩
theorem lw_p167 : lw_okq (⟨"PackedForestModel", "rulesOf", "(I)I"⟩, 72) := ⟨⟨by decide +kernel, by decide +kernel⟩, List.mem_of_getElem? (i := 1246) (by decide +kernel), List.mem_of_getElem? (i := 2040) (by decide +kernel), List.mem_of_getElem? (i := 2041) (by decide +kernel)⟩
theorem lw_p168 : lw_okq (⟨"PackedForestModel", "draws", "(I)I"⟩, 72) := ⟨⟨by decide +kernel, by decide +kernel⟩, List.mem_of_getElem? (i := 1246) (by decide +kernel), List.mem_of_getElem? (i := 2044) (by decide +kernel), List.mem_of_getElem? (i := 2045) (by decide +kernel)⟩
theorem lw_p169 : lw_okq (⟨"PackedForestModel", "ruleOf", "(II)I"⟩, 72) := ⟨⟨by decide +kernel, by decide +kernel⟩, List.mem_of_getElem? (i := 1246) (by decide +kernel), List.mem_of_getElem? (i := 2051) (by decide +kernel), List.mem_of_getElem? (i := 2052) (by decide +kernel)⟩
theorem lw_p170 : lw_okq (⟨"PackedForestModel", "replaces", "(II)V"⟩, 72) := ⟨⟨by decide +kernel, by decide +kernel⟩, List.mem_of_getElem? (i := 1246) (by decide +kernel), List.mem_of_getElem? (i := 2055) (by decide +kernel), List.mem_of_getElem? (i := 2056) (by decide +kernel)⟩
theorem lw_p171 : lw_okq (⟨"PackedForestModel", "carriesAll", "(IZ)V"⟩, 72) := ⟨⟨by decide +kernel, by decide +kernel⟩, List.mem_of_getElem? (i := 1246) (by decide +kernel), List.mem_of_getElem? (i := 2067) (by decide +kernel), List.mem_of_getElem? (i := 2068) (by decide +kernel)⟩
theorem lw_p172 : lw_okq (⟨"PackedForestModel", "carryRow", "([I)V"⟩, 72) := ⟨⟨by decide +kernel, by decide +kernel⟩, List.mem_of_getElem? (i := 1246) (by decide +kernel), List.mem_of_getElem? (i := 2071) (by decide +kernel), List.mem_of_getElem? (i := 2072) (by decide +kernel)⟩
def lw_privs_11 : List (MethodName × Nat) := [(⟨"PackedForestModel", "goesBelow", "()V"⟩, 72), (⟨"PackedForestModel", "endOf", "(IIII)I"⟩, 72), (⟨"PackedForestModel", "mendsMore", "(I)Z"⟩, 72), (⟨"PackedForestModel", "mendsBy", "(III)I"⟩, 72), (⟨"PackedForestModel", "mendsTo", "(IIII)I"⟩, 72), (⟨"PackedForestModel", "speaks", "()Z"⟩, 72), (⟨"PackedForestModel", "capitalAt", "()I"⟩, 72), (⟨"PackedForestModel", "rulesOf", "(I)I"⟩, 72), (⟨"PackedForestModel", "draws", "(I)I"⟩, 72), (⟨"PackedForestModel", "ruleOf", "(II)I"⟩, 72), (⟨"PackedForestModel", "replaces", "(II)V"⟩, 72), (⟨"PackedForestModel", "carriesAll", "(IZ)V"⟩, 72), (⟨"PackedForestModel", "carryRow", "([I)V"⟩, 72)]
theorem lw_r11 : ∀ q ∈ lw_privs_11, lw_okq q := List.forall_mem_cons.mpr ⟨lw_p160, List.forall_mem_cons.mpr ⟨lw_p161, List.forall_mem_cons.mpr ⟨lw_p162, List.forall_mem_cons.mpr ⟨lw_p163, List.forall_mem_cons.mpr ⟨lw_p164, List.forall_mem_cons.mpr ⟨lw_p165, List.forall_mem_cons.mpr ⟨lw_p166, List.forall_mem_cons.mpr ⟨lw_p167, List.forall_mem_cons.mpr ⟨lw_p168, List.forall_mem_cons.mpr ⟨lw_p169, List.forall_mem_cons.mpr ⟨lw_p170, List.forall_mem_cons.mpr ⟨lw_p171, List.forall_mem_cons.mpr ⟨lw_p172, fun _ h => absurd h List.not_mem_nil⟩⟩⟩⟩⟩⟩⟩⟩⟩⟩⟩⟩⟩
def lw_privs : List (MethodName × Nat) := lw_privs_1 ++ (lw_privs_2 ++ (lw_privs_3 ++ (lw_privs_4 ++ (lw_privs_5 ++ (lw_privs_6 ++ (lw_privs_7 ++ (lw_privs_8 ++ (lw_privs_9 ++ (lw_privs_10 ++ (lw_privs_11))))))))))
def lw_tbl : List Cond := k2_sels lw_privs ++ tables_1
theorem lw_privs_ok : ∀ q ∈ lw_privs, lw_okq q := by
  show ∀ q ∈ lw_privs_1 ++ (lw_privs_2 ++ (lw_privs_3 ++ (lw_privs_4 ++ (lw_privs_5 ++ (lw_privs_6 ++ (lw_privs_7 ++ (lw_privs_8 ++ (lw_privs_9 ++ (lw_privs_10 ++ (lw_privs_11)))))))))), lw_okq q
  exact List.forall_mem_append.mpr ⟨lw_r1, List.forall_mem_append.mpr ⟨lw_r2, List.forall_mem_append.mpr ⟨lw_r3, List.forall_mem_append.mpr ⟨lw_r4, List.forall_mem_append.mpr ⟨lw_r5, List.forall_mem_append.mpr ⟨lw_r6, List.forall_mem_append.mpr ⟨lw_r7, List.forall_mem_append.mpr ⟨lw_r8, List.forall_mem_append.mpr ⟨lw_r9, List.forall_mem_append.mpr ⟨lw_r10, lw_r11⟩⟩⟩⟩⟩⟩⟩⟩⟩⟩
end
section
def zzR0 : String := "PackedForest$Chart"
def zzT0 : u_T := fun k => match k with
  | 0 => ("PackedForest$Chart", "now", "LPackedForest$Setting;", true)
  | 1 => ("PackedForest$Chart", "filtered", "Z", true)
  | 2 => ("PackedForest$Chart", "columns", "I", false)
  | 3 => ("PackedForest$Chart", "fitting", "[I", true)
  | 4 => ("PackedForest$Chart", "rooted", "[I", true)
  | 5 => ("PackedForest$Chart", "ends", "[I", true)
  | _ => ("PackedForest$Chart", "row", "[I", true)
def zzt0 : Nat → FieldType := fun k => match k with
  | 0 => .object "PackedForest$Setting"
  | 1 => .boolean
  | 2 => .int
  | 3 => .array .int
  | 4 => .array .int
  | 5 => .array .int
  | _ => .array .int
theorem zzt0_ok : ∀ k, k < 7 → parseFieldDescriptor (zzT0 k).2.2.1 = some (zzt0 k) := by decide +kernel
theorem zzn0 : ∀ a, a < 7 → ∀ b, b < 7 → a ≠ b → (zzT0 a).2.1 ≠ (zzT0 b).2.1 := by decide +kernel
def zzR1 : String := "PackedForest$Counts"
def zzT1 : u_T := fun k => match k with
  | 0 => ("PackedForest$Counts", "now", "LPackedForest$Setting;", true)
  | 1 => ("PackedForest$Counts", "chart", "LPackedForest$Chart;", true)
  | 2 => ("PackedForest$Counts", "columns", "I", false)
  | 3 => ("PackedForest$Counts", "trees", "[J", true)
  | _ => ("PackedForest$Counts", "row", "[J", true)
def zzt1 : Nat → FieldType := fun k => match k with
  | 0 => .object "PackedForest$Setting"
  | 1 => .object "PackedForest$Chart"
  | 2 => .int
  | 3 => .array .long
  | _ => .array .long
theorem zzt1_ok : ∀ k, k < 5 → parseFieldDescriptor (zzT1 k).2.2.1 = some (zzt1 k) := by decide +kernel
theorem zzn1 : ∀ a, a < 5 → ∀ b, b < 5 → a ≠ b → (zzT1 a).2.1 ≠ (zzT1 b).2.1 := by decide +kernel
def zzR2 : String := "PackedForest$Facts"
def zzT2 : u_T := fun k => match k with
  | 0 => ("PackedForest$Facts", "now", "LPackedForest$Setting;", true)
  | 1 => ("PackedForest$Facts", "stand", "Z", false)
  | 2 => ("PackedForest$Facts", "empty", "I", false)
  | 3 => ("PackedForest$Facts", "ends", "I", false)
  | 4 => ("PackedForest$Facts", "reached", "I", false)
  | 5 => ("PackedForest$Facts", "loops", "I", false)
  | 6 => ("PackedForest$Facts", "recurs", "I", false)
  | 7 => ("PackedForest$Facts", "first", "[I", true)
  | 8 => ("PackedForest$Facts", "follow", "[I", true)
  | 9 => ("PackedForest$Facts", "shortRow", "[I", true)
  | _ => ("PackedForest$Facts", "steps", "[I", true)
def zzt2 : Nat → FieldType := fun k => match k with
  | 0 => .object "PackedForest$Setting"
  | 1 => .boolean
  | 2 => .int
  | 3 => .int
  | 4 => .int
  | 5 => .int
  | 6 => .int
  | 7 => .array .int
  | 8 => .array .int
  | 9 => .array .int
  | _ => .array .int
theorem zzt2_ok : ∀ k, k < 11 → parseFieldDescriptor (zzT2 k).2.2.1 = some (zzt2 k) := by decide +kernel
theorem zzn2 : ∀ a, a < 11 → ∀ b, b < 11 → a ≠ b → (zzT2 a).2.1 ≠ (zzT2 b).2.1 := by decide +kernel
def zzR3 : String := "PackedForest$Forest"
def zzT3 : u_T := fun k => match k with
  | 0 => ("PackedForest$Forest", "now", "LPackedForest$Setting;", true)
  | 1 => ("PackedForest$Forest", "chart", "LPackedForest$Chart;", true)
  | 2 => ("PackedForest$Forest", "stand", "Z", false)
  | 3 => ("PackedForest$Forest", "tallied", "Z", false)
  | 4 => ("PackedForest$Forest", "pieces", "[I", true)
  | 5 => ("PackedForest$Forest", "nodes", "I", false)
  | 6 => ("PackedForest$Forest", "ambiguous", "I", false)
  | 7 => ("PackedForest$Forest", "narrow", "I", false)
  | 8 => ("PackedForest$Forest", "reachable", "[I", true)
  | _ => ("PackedForest$Forest", "hopeful", "[I", true)
def zzt3 : Nat → FieldType := fun k => match k with
  | 0 => .object "PackedForest$Setting"
  | 1 => .object "PackedForest$Chart"
  | 2 => .boolean
  | 3 => .boolean
  | 4 => .array .int
  | 5 => .int
  | 6 => .int
  | 7 => .int
  | 8 => .array .int
  | _ => .array .int
theorem zzt3_ok : ∀ k, k < 10 → parseFieldDescriptor (zzT3 k).2.2.1 = some (zzt3 k) := by decide +kernel
theorem zzn3 : ∀ a, a < 10 → ∀ b, b < 10 → a ≠ b → (zzT3 a).2.1 ≠ (zzT3 b).2.1 := by decide +kernel
def zzR4 : String := "PackedForest$Grammar"
def zzT4 : u_T := fun k => match k with
  | 0 => ("PackedForest$Grammar", "rules", "I", false)
  | 1 => ("PackedForest$Grammar", "lefts", "I", false)
  | 2 => ("PackedForest$Grammar", "left", "[I", true)
  | 3 => ("PackedForest$Grammar", "size", "[I", true)
  | 4 => ("PackedForest$Grammar", "rank", "[I", true)
  | 5 => ("PackedForest$Grammar", "side", "[I", true)
  | 6 => ("PackedForest$Grammar", "symbols", "[I", true)
  | _ => ("PackedForest$Grammar", "rulesOf", "[I", true)
def zzt4 : Nat → FieldType := fun k => match k with
  | 0 => .int
  | 1 => .int
  | 2 => .array .int
  | 3 => .array .int
  | 4 => .array .int
  | 5 => .array .int
  | 6 => .array .int
  | _ => .array .int
theorem zzt4_ok : ∀ k, k < 8 → parseFieldDescriptor (zzT4 k).2.2.1 = some (zzt4 k) := by decide +kernel
theorem zzn4 : ∀ a, a < 8 → ∀ b, b < 8 → a ≠ b → (zzT4 a).2.1 ≠ (zzT4 b).2.1 := by decide +kernel
def zzR5 : String := "PackedForest$Levels"
def zzT5 : u_T := fun k => match k with
  | 0 => ("PackedForest$Levels", "now", "LPackedForest$Setting;", true)
  | 1 => ("PackedForest$Levels", "states", "LPackedForest$States;", true)
  | 2 => ("PackedForest$Levels", "plain", "LPackedForest$Chart;", true)
  | 3 => ("PackedForest$Levels", "stand", "Z", false)
  | 4 => ("PackedForest$Levels", "lives", "[Z", true)
  | 5 => ("PackedForest$Levels", "linkCounts", "[I", true)
  | 6 => ("PackedForest$Levels", "waiting", "[I", true)
  | _ => ("PackedForest$Levels", "waitingCount", "I", false)
def zzt5 : Nat → FieldType := fun k => match k with
  | 0 => .object "PackedForest$Setting"
  | 1 => .object "PackedForest$States"
  | 2 => .object "PackedForest$Chart"
  | 3 => .boolean
  | 4 => .array .boolean
  | 5 => .array .int
  | 6 => .array .int
  | _ => .int
theorem zzt5_ok : ∀ k, k < 8 → parseFieldDescriptor (zzT5 k).2.2.1 = some (zzt5 k) := by decide +kernel
theorem zzn5 : ∀ a, a < 8 → ∀ b, b < 8 → a ≠ b → (zzT5 a).2.1 ≠ (zzT5 b).2.1 := by decide +kernel
def zzR6 : String := "PackedForest$Mender"
def zzT6 : u_T := fun k => match k with
  | 0 => ("PackedForest$Mender", "now", "LPackedForest$Setting;", true)
  | 1 => ("PackedForest$Mender", "columns", "I", false)
  | 2 => ("PackedForest$Mender", "costs", "[I", true)
  | _ => ("PackedForest$Mender", "row", "[I", true)
def zzt6 : Nat → FieldType := fun k => match k with
  | 0 => .object "PackedForest$Setting"
  | 1 => .int
  | 2 => .array .int
  | _ => .array .int
theorem zzt6_ok : ∀ k, k < 4 → parseFieldDescriptor (zzT6 k).2.2.1 = some (zzt6 k) := by decide +kernel
theorem zzn6 : ∀ a, a < 4 → ∀ b, b < 4 → a ≠ b → (zzT6 a).2.1 ≠ (zzT6 b).2.1 := by decide +kernel
def zzR7 : String := "PackedForest$Setting"
def zzT7 : u_T := fun k => match k with
  | 0 => ("PackedForest$Setting", "grammar", "LPackedForest$Grammar;", true)
  | 1 => ("PackedForest$Setting", "letters", "[I", true)
  | 2 => ("PackedForest$Setting", "length", "I", false)
  | 3 => ("PackedForest$Setting", "struck", "I", false)
  | 4 => ("PackedForest$Setting", "banned", "[I", true)
  | 5 => ("PackedForest$Setting", "bans", "I", false)
  | 6 => ("PackedForest$Setting", "filters", "I", false)
  | 7 => ("PackedForest$Setting", "acts", "[I", true)
  | 8 => ("PackedForest$Setting", "actCount", "I", false)
  | 9 => ("PackedForest$Setting", "x", "I", false)
  | _ => ("PackedForest$Setting", "made", "Z", false)
def zzt7 : Nat → FieldType := fun k => match k with
  | 0 => .object "PackedForest$Grammar"
  | 1 => .array .int
  | 2 => .int
  | 3 => .int
  | 4 => .array .int
  | 5 => .int
  | 6 => .int
  | 7 => .array .int
  | 8 => .int
  | 9 => .int
  | _ => .boolean
theorem zzt7_ok : ∀ k, k < 11 → parseFieldDescriptor (zzT7 k).2.2.1 = some (zzt7 k) := by decide +kernel
theorem zzn7 : ∀ a, a < 11 → ∀ b, b < 11 → a ≠ b → (zzT7 a).2.1 ≠ (zzT7 b).2.1 := by decide +kernel
def zzR8 : String := "PackedForest$Sizes"
def zzT8 : u_T := fun k => match k with
  | 0 => ("PackedForest$Sizes", "now", "LPackedForest$Setting;", true)
  | 1 => ("PackedForest$Sizes", "chart", "LPackedForest$Chart;", true)
  | 2 => ("PackedForest$Sizes", "columns", "I", false)
  | 3 => ("PackedForest$Sizes", "rule", "I", false)
  | 4 => ("PackedForest$Sizes", "from", "I", false)
  | 5 => ("PackedForest$Sizes", "to", "I", false)
  | 6 => ("PackedForest$Sizes", "least", "[J", true)
  | 7 => ("PackedForest$Sizes", "parts", "[J", true)
  | _ => ("PackedForest$Sizes", "rest", "[J", true)
def zzt8 : Nat → FieldType := fun k => match k with
  | 0 => .object "PackedForest$Setting"
  | 1 => .object "PackedForest$Chart"
  | 2 => .int
  | 3 => .int
  | 4 => .int
  | 5 => .int
  | 6 => .array .long
  | 7 => .array .long
  | _ => .array .long
theorem zzt8_ok : ∀ k, k < 9 → parseFieldDescriptor (zzT8 k).2.2.1 = some (zzt8 k) := by decide +kernel
theorem zzn8 : ∀ a, a < 9 → ∀ b, b < 9 → a ≠ b → (zzT8 a).2.1 ≠ (zzT8 b).2.1 := by decide +kernel
def zzR9 : String := "PackedForest$Speaker"
def zzT9 : u_T := fun k => match k with
  | 0 => ("PackedForest$Speaker", "now", "LPackedForest$Setting;", true)
  | 1 => ("PackedForest$Speaker", "row", "[I", true)
  | 2 => ("PackedForest$Speaker", "length", "I", false)
  | _ => ("PackedForest$Speaker", "x", "J", false)
def zzt9 : Nat → FieldType := fun k => match k with
  | 0 => .object "PackedForest$Setting"
  | 1 => .array .int
  | 2 => .int
  | _ => .long
theorem zzt9_ok : ∀ k, k < 4 → parseFieldDescriptor (zzT9 k).2.2.1 = some (zzt9 k) := by decide +kernel
theorem zzn9 : ∀ a, a < 4 → ∀ b, b < 4 → a ≠ b → (zzT9 a).2.1 ≠ (zzT9 b).2.1 := by decide +kernel
def zzR10 : String := "PackedForest$States"
def zzT10 : u_T := fun k => match k with
  | 0 => ("PackedForest$States", "stand", "Z", false)
  | 1 => ("PackedForest$States", "found", "I", false)
  | 2 => ("PackedForest$States", "sets", "[J", true)
  | 3 => ("PackedForest$States", "targets", "[I", true)
  | 4 => ("PackedForest$States", "ahead", "[J", true)
  | _ => ("PackedForest$States", "brought", "[J", true)
def zzt10 : Nat → FieldType := fun k => match k with
  | 0 => .boolean
  | 1 => .int
  | 2 => .array .long
  | 3 => .array .int
  | 4 => .array .long
  | _ => .array .long
theorem zzt10_ok : ∀ k, k < 6 → parseFieldDescriptor (zzT10 k).2.2.1 = some (zzt10 k) := by decide +kernel
theorem zzn10 : ∀ a, a < 6 → ∀ b, b < 6 → a ≠ b → (zzT10 a).2.1 ≠ (zzT10 b).2.1 := by decide +kernel
def zzR11 : String := "PackedForest"
def zzT11 : u_T := fun k => match k with
  | 0 => ("PackedForest", "tape", "[I", true)
  | 1 => ("PackedForest", "tapeBytes", "I", false)
  | 2 => ("PackedForest", "now", "LPackedForest$Setting;", true)
  | 3 => ("PackedForest", "images", "[LPackedForest$Setting;", true)
  | 4 => ("PackedForest", "spare", "LPackedForest$Grammar;", true)
  | 5 => ("PackedForest", "facts", "LPackedForest$Facts;", true)
  | 6 => ("PackedForest", "states", "LPackedForest$States;", true)
  | 7 => ("PackedForest", "plain", "LPackedForest$Chart;", true)
  | 8 => ("PackedForest", "allowed", "LPackedForest$Chart;", true)
  | 9 => ("PackedForest", "levels", "LPackedForest$Levels;", true)
  | 10 => ("PackedForest", "counts", "LPackedForest$Counts;", true)
  | 11 => ("PackedForest", "sizes", "LPackedForest$Sizes;", true)
  | 12 => ("PackedForest", "forest", "LPackedForest$Forest;", true)
  | 13 => ("PackedForest", "mender", "LPackedForest$Mender;", true)
  | _ => ("PackedForest", "speaker", "LPackedForest$Speaker;", true)
def zzt11 : Nat → FieldType := fun k => match k with
  | 0 => .array .int
  | 1 => .int
  | 2 => .object "PackedForest$Setting"
  | 3 => .array (.object "PackedForest$Setting")
  | 4 => .object "PackedForest$Grammar"
  | 5 => .object "PackedForest$Facts"
  | 6 => .object "PackedForest$States"
  | 7 => .object "PackedForest$Chart"
  | 8 => .object "PackedForest$Chart"
  | 9 => .object "PackedForest$Levels"
  | 10 => .object "PackedForest$Counts"
  | 11 => .object "PackedForest$Sizes"
  | 12 => .object "PackedForest$Forest"
  | 13 => .object "PackedForest$Mender"
  | _ => .object "PackedForest$Speaker"
theorem zzt11_ok : ∀ k, k < 15 → parseFieldDescriptor (zzT11 k).2.2.1 = some (zzt11 k) := by decide +kernel
theorem zzn11 : ∀ a, a < 15 → ∀ b, b < 15 → a ≠ b → (zzT11 a).2.1 ≠ (zzT11 b).2.1 := by decide +kernel
def zzR12 : String := "PackedForestModel"
def zzT12 : u_T := fun k => match k with
  | 0 => ("PackedForestModel", "thrown", "I", false)
  | 1 => ("PackedForestModel", "scalar", "[I", true)
  | 2 => ("PackedForestModel", "left", "[I", true)
  | 3 => ("PackedForestModel", "size", "[I", true)
  | 4 => ("PackedForestModel", "sym", "[I", true)
  | 5 => ("PackedForestModel", "rank", "[I", true)
  | 6 => ("PackedForestModel", "side", "[I", true)
  | 7 => ("PackedForestModel", "text", "[I", true)
  | 8 => ("PackedForestModel", "bans", "[I", true)
  | 9 => ("PackedForestModel", "newLeft", "[I", true)
  | 10 => ("PackedForestModel", "newSize", "[I", true)
  | 11 => ("PackedForestModel", "newSym", "[I", true)
  | 12 => ("PackedForestModel", "newRank", "[I", true)
  | 13 => ("PackedForestModel", "newSide", "[I", true)
  | 14 => ("PackedForestModel", "symAt", "[I", true)
  | 15 => ("PackedForestModel", "newMany", "I", false)
  | 16 => ("PackedForestModel", "taped", "I", false)
  | 17 => ("PackedForestModel", "p", "I", false)
  | 18 => ("PackedForestModel", "fault", "I", false)
  | 19 => ("PackedForestModel", "tape", "[B", true)
  | 20 => ("PackedForestModel", "oldScalar", "[I", true)
  | 21 => ("PackedForestModel", "oldLeft", "[I", true)
  | 22 => ("PackedForestModel", "oldSize", "[I", true)
  | 23 => ("PackedForestModel", "oldSym", "[I", true)
  | 24 => ("PackedForestModel", "oldRank", "[I", true)
  | 25 => ("PackedForestModel", "oldSide", "[I", true)
  | 26 => ("PackedForestModel", "empties", "I", false)
  | 27 => ("PackedForestModel", "ending", "I", false)
  | 28 => ("PackedForestModel", "reached", "I", false)
  | 29 => ("PackedForestModel", "all", "I", false)
  | 30 => ("PackedForestModel", "first", "[I", true)
  | 31 => ("PackedForestModel", "follow", "[I", true)
  | 32 => ("PackedForestModel", "fewest", "[I", true)
  | 33 => ("PackedForestModel", "stateOf", "[J", true)
  | 34 => ("PackedForestModel", "goTo", "[I", true)
  | 35 => ("PackedForestModel", "manyStates", "I", false)
  | 36 => ("PackedForestModel", "isLaid", "I", false)
  | 37 => ("PackedForestModel", "past", "[I", true)
  | 38 => ("PackedForestModel", "pastOf", "[I", true)
  | 39 => ("PackedForestModel", "pastMany", "I", false)
  | 40 => ("PackedForestModel", "pastAt", "I", false)
  | 41 => ("PackedForestModel", "takesBack", "Z", false)
  | 42 => ("PackedForestModel", "made", "[Z", true)
  | 43 => ("PackedForestModel", "ahead", "[Z", true)
  | 44 => ("PackedForestModel", "behind", "[Z", true)
  | 45 => ("PackedForestModel", "isAlive", "[Z", true)
  | 46 => ("PackedForestModel", "isEndless", "[Z", true)
  | 47 => ("PackedForestModel", "manyTrees", "[J", true)
  | 48 => ("PackedForestModel", "counts", "[J", true)
  | 49 => ("PackedForestModel", "endlessAhead", "[Z", true)
  | 50 => ("PackedForestModel", "below", "[I", true)
  | 51 => ("PackedForestModel", "isPiece", "[Z", true)
  | 52 => ("PackedForestModel", "isGone", "[Z", true)
  | 53 => ("PackedForestModel", "waysAhead", "[I", true)
  | 54 => ("PackedForestModel", "pieces", "I", false)
  | 55 => ("PackedForestModel", "nodes", "I", false)
  | 56 => ("PackedForestModel", "unsure", "I", false)
  | 57 => ("PackedForestModel", "narrow", "I", false)
  | 58 => ("PackedForestModel", "sizeOf", "[I", true)
  | 59 => ("PackedForestModel", "sizesBehind", "[I", true)
  | 60 => ("PackedForestModel", "treeRule", "I", false)
  | 61 => ("PackedForestModel", "treeFrom", "I", false)
  | 62 => ("PackedForestModel", "treeTo", "I", false)
  | 63 => ("PackedForestModel", "treeLeft", "I", false)
  | 64 => ("PackedForestModel", "mended", "[I", true)
  | 65 => ("PackedForestModel", "mendedAhead", "[I", true)
  | 66 => ("PackedForestModel", "row", "[I", true)
  | 67 => ("PackedForestModel", "rowMany", "I", false)
  | 68 => ("PackedForestModel", "images", "[I", true)
  | 69 => ("PackedForestModel", "isKept", "[Z", true)
  | 70 => ("PackedForestModel", "imageAt", "I", false)
  | _ => ("PackedForestModel", "goesBack", "Z", false)
def zzt12 : Nat → FieldType := fun k => match k with
  | 0 => .int
  | 1 => .array .int
  | 2 => .array .int
  | 3 => .array .int
  | 4 => .array .int
  | 5 => .array .int
  | 6 => .array .int
  | 7 => .array .int
  | 8 => .array .int
  | 9 => .array .int
  | 10 => .array .int
  | 11 => .array .int
  | 12 => .array .int
  | 13 => .array .int
  | 14 => .array .int
  | 15 => .int
  | 16 => .int
  | 17 => .int
  | 18 => .int
  | 19 => .array .byte
  | 20 => .array .int
  | 21 => .array .int
  | 22 => .array .int
  | 23 => .array .int
  | 24 => .array .int
  | 25 => .array .int
  | 26 => .int
  | 27 => .int
  | 28 => .int
  | 29 => .int
  | 30 => .array .int
  | 31 => .array .int
  | 32 => .array .int
  | 33 => .array .long
  | 34 => .array .int
  | 35 => .int
  | 36 => .int
  | 37 => .array .int
  | 38 => .array .int
  | 39 => .int
  | 40 => .int
  | 41 => .boolean
  | 42 => .array .boolean
  | 43 => .array .boolean
  | 44 => .array .boolean
  | 45 => .array .boolean
  | 46 => .array .boolean
  | 47 => .array .long
  | 48 => .array .long
  | 49 => .array .boolean
  | 50 => .array .int
  | 51 => .array .boolean
  | 52 => .array .boolean
  | 53 => .array .int
  | 54 => .int
  | 55 => .int
  | 56 => .int
  | 57 => .int
  | 58 => .array .int
  | 59 => .array .int
  | 60 => .int
  | 61 => .int
  | 62 => .int
  | 63 => .int
  | 64 => .array .int
  | 65 => .array .int
  | 66 => .array .int
  | 67 => .int
  | 68 => .array .int
  | 69 => .array .boolean
  | 70 => .int
  | _ => .boolean
theorem zzt12_ok : ∀ k, k < 72 → parseFieldDescriptor (zzT12 k).2.2.1 = some (zzt12 k) := by decide +kernel
theorem zzn12 : ∀ a, a < 72 → ∀ b, b < 72 → a ≠ b → (zzT12 a).2.1 ≠ (zzT12 b).2.1 := by decide +kernel
def zzcl : List vw_C := [(zzR0, zzT0, 7), (zzR1, zzT1, 5), (zzR2, zzT2, 11), (zzR3, zzT3, 10), (zzR4, zzT4, 8), (zzR5, zzT5, 8), (zzR6, zzT6, 4), (zzR7, zzT7, 11), (zzR8, zzT8, 9), (zzR9, zzT9, 4), (zzR10, zzT10, 6), (zzR11, zzT11, 15), (zzR12, zzT12, 72)]
/-- the cells: an object by its class and fields (0 int, 1 boolean, 2 long, 3 the cell that it names), an array by its kind (0 int, 1 boolean, 2 byte, 3 long, 4 references), length, cells named -/
abbrev zzD : Type := (Nat × List (Nat × Nat)) ⊕ (Nat × Nat × List Nat)
def zzcells : List zzD := [
  .inl (11, [(3, 1), (0, 0), (3, 2), (3, 13), (3, 14), (3, 21), (3, 26), (3, 31), (3, 36), (3, 41), (3, 45), (3, 48), (3, 52), (3, 56), (3, 59)]),
  .inr (0, 400, []),
  .inl (7, [(3, 3), (3, 10), (0, 0), (0, 0), (3, 11), (0, 0), (0, 0), (3, 12), (0, 0), (0, 0), (1, 0)]),
  .inl (4, [(0, 0), (0, 0), (3, 4), (3, 5), (3, 6), (3, 7), (3, 8), (3, 9)]),
  .inr (0, 12, []),
  .inr (0, 12, []),
  .inr (0, 12, []),
  .inr (0, 12, []),
  .inr (0, 48, []),
  .inr (0, 26, []),
  .inr (0, 12, []),
  .inr (0, 48, []),
  .inr (0, 20, []),
  .inr (4, 4, [61, 72, 83, 94]),
  .inl (4, [(0, 0), (0, 0), (3, 15), (3, 16), (3, 17), (3, 18), (3, 19), (3, 20)]),
  .inr (0, 12, []),
  .inr (0, 12, []),
  .inr (0, 12, []),
  .inr (0, 12, []),
  .inr (0, 48, []),
  .inr (0, 26, []),
  .inl (2, [(3, 2), (1, 0), (0, 0), (0, 0), (0, 0), (0, 0), (0, 0), (3, 22), (3, 23), (3, 24), (3, 25)]),
  .inr (0, 26, []),
  .inr (0, 26, []),
  .inr (0, 26, []),
  .inr (0, 26, []),
  .inl (10, [(1, 0), (0, 0), (3, 27), (3, 28), (3, 29), (3, 30)]),
  .inr (3, 90, []),
  .inr (0, 4680, []),
  .inr (3, 52, []),
  .inr (3, 26, []),
  .inl (0, [(3, 2), (1, 0), (0, 0), (3, 32), (3, 33), (3, 34), (3, 35)]),
  .inr (0, 48, []),
  .inr (0, 91, []),
  .inr (0, 624, []),
  .inr (0, 13, []),
  .inl (0, [(3, 2), (1, 0), (0, 0), (3, 37), (3, 38), (3, 39), (3, 40)]),
  .inr (0, 48, []),
  .inr (0, 91, []),
  .inr (0, 624, []),
  .inr (0, 13, []),
  .inl (5, [(3, 2), (3, 26), (3, 31), (1, 0), (3, 42), (3, 43), (3, 44), (0, 0)]),
  .inr (1, 1170, []),
  .inr (0, 1170, []),
  .inr (0, 90, []),
  .inl (1, [(3, 2), (3, 36), (0, 0), (3, 46), (3, 47)]),
  .inr (3, 1092, []),
  .inr (3, 13, []),
  .inl (8, [(3, 2), (3, 36), (0, 0), (0, 0), (0, 0), (0, 0), (3, 49), (3, 50), (3, 51)]),
  .inr (3, 1092, []),
  .inr (3, 4368, []),
  .inr (3, 65, []),
  .inl (3, [(3, 2), (3, 36), (1, 0), (1, 0), (3, 53), (0, 0), (0, 0), (0, 0), (3, 54), (3, 55)]),
  .inr (0, 91, []),
  .inr (0, 5, []),
  .inr (0, 5, []),
  .inl (6, [(3, 2), (0, 0), (3, 57), (3, 58)]),
  .inr (0, 2366, []),
  .inr (0, 13, []),
  .inl (9, [(3, 2), (3, 60), (0, 0), (2, 0)]),
  .inr (0, 24, []),
  .inl (7, [(3, 62), (3, 69), (0, 0), (0, 0), (3, 70), (0, 0), (0, 0), (3, 71), (0, 0), (0, 0), (1, 0)]),
  .inl (4, [(0, 0), (0, 0), (3, 63), (3, 64), (3, 65), (3, 66), (3, 67), (3, 68)]),
  .inr (0, 12, []),
  .inr (0, 12, []),
  .inr (0, 12, []),
  .inr (0, 12, []),
  .inr (0, 48, []),
  .inr (0, 26, []),
  .inr (0, 12, []),
  .inr (0, 48, []),
  .inr (0, 20, []),
  .inl (7, [(3, 73), (3, 80), (0, 0), (0, 0), (3, 81), (0, 0), (0, 0), (3, 82), (0, 0), (0, 0), (1, 0)]),
  .inl (4, [(0, 0), (0, 0), (3, 74), (3, 75), (3, 76), (3, 77), (3, 78), (3, 79)]),
  .inr (0, 12, []),
  .inr (0, 12, []),
  .inr (0, 12, []),
  .inr (0, 12, []),
  .inr (0, 48, []),
  .inr (0, 26, []),
  .inr (0, 12, []),
  .inr (0, 48, []),
  .inr (0, 20, []),
  .inl (7, [(3, 84), (3, 91), (0, 0), (0, 0), (3, 92), (0, 0), (0, 0), (3, 93), (0, 0), (0, 0), (1, 0)]),
  .inl (4, [(0, 0), (0, 0), (3, 85), (3, 86), (3, 87), (3, 88), (3, 89), (3, 90)]),
  .inr (0, 12, []),
  .inr (0, 12, []),
  .inr (0, 12, []),
  .inr (0, 12, []),
  .inr (0, 48, []),
  .inr (0, 26, []),
  .inr (0, 12, []),
  .inr (0, 48, []),
  .inr (0, 20, []),
  .inl (7, [(3, 95), (3, 102), (0, 0), (0, 0), (3, 103), (0, 0), (0, 0), (3, 104), (0, 0), (0, 0), (1, 0)]),
  .inl (4, [(0, 0), (0, 0), (3, 96), (3, 97), (3, 98), (3, 99), (3, 100), (3, 101)]),
  .inr (0, 12, []),
  .inr (0, 12, []),
  .inr (0, 12, []),
  .inr (0, 12, []),
  .inr (0, 48, []),
  .inr (0, 26, []),
  .inr (0, 12, []),
  .inr (0, 48, []),
  .inr (0, 20, []),
  .inl (12, [(0, 0), (3, 106), (3, 107), (3, 108), (3, 109), (3, 110), (3, 111), (3, 112), (3, 113), (3, 114), (3, 115), (3, 116), (3, 117), (3, 118), (3, 119), (0, 0), (0, 0), (0, 0), (0, 0), (3, 120), (3, 121), (3, 122), (3, 123), (3, 124), (3, 125), (3, 126), (0, 0), (0, 0), (0, 0), (0, 0), (3, 127), (3, 128), (3, 129), (3, 130), (3, 131), (0, 0), (0, 0), (3, 132), (3, 133), (0, 0), (0, 0), (1, 0), (3, 134), (3, 135), (3, 136), (3, 137), (3, 138), (3, 139), (3, 140), (3, 141), (3, 142), (3, 143), (3, 144), (3, 145), (0, 0), (0, 0), (0, 0), (0, 0), (3, 146), (3, 147), (0, 0), (0, 0), (0, 0), (0, 0), (3, 148), (3, 149), (3, 150), (0, 0), (3, 151), (3, 152), (0, 0), (1, 0)]),
  .inr (0, 7, []),
  .inr (0, 12, []),
  .inr (0, 12, []),
  .inr (0, 48, []),
  .inr (0, 12, []),
  .inr (0, 12, []),
  .inr (0, 12, []),
  .inr (0, 8, []),
  .inr (0, 12, []),
  .inr (0, 12, []),
  .inr (0, 48, []),
  .inr (0, 12, []),
  .inr (0, 12, []),
  .inr (0, 48, []),
  .inr (2, 400, []),
  .inr (0, 7, []),
  .inr (0, 12, []),
  .inr (0, 12, []),
  .inr (0, 48, []),
  .inr (0, 12, []),
  .inr (0, 12, []),
  .inr (0, 26, []),
  .inr (0, 26, []),
  .inr (0, 26, []),
  .inr (3, 90, []),
  .inr (0, 4680, []),
  .inr (0, 480, []),
  .inr (0, 1, []),
  .inr (1, 4056, []),
  .inr (1, 65, []),
  .inr (1, 65, []),
  .inr (1, 1170, []),
  .inr (1, 2028, []),
  .inr (3, 2028, []),
  .inr (3, 65, []),
  .inr (1, 65, []),
  .inr (0, 12, []),
  .inr (1, 2028, []),
  .inr (1, 2028, []),
  .inr (0, 65, []),
  .inr (0, 2028, []),
  .inr (0, 65, []),
  .inr (0, 2028, []),
  .inr (0, 65, []),
  .inr (0, 28, []),
  .inr (0, 2560, []),
  .inr (1, 4, [])]
theorem zzlen : zzcells.length = 153 := by decide +kernel
end
section
/-! THE SMALL MACHINE: memory, values, one instruction, a method's code with its loops, calls -/
/-- the memory: of each cell the ints (fields or elements; booleans and bytes too) and the longs, by their places -/
abbrev zzM : Type := (Nat → Nat → Int32) × (Nat → Nat → Int64)
/-- an answer (int, long, cell) and the memory behind it -/
abbrev zzR : Type := (Int32 × Int64 × Nat) × zzM
/-- a row of code: pc, length (0: here a loop begins), instruction, what a program looked up for it -/
abbrev zzI : Type := Nat × Nat × Instr × List (Nat × Nat)
abbrev zzL : Type := List (Nat × Value)
/-- a loop's state: ints, longs, memory -/
abbrev zzS : Type := List Int32 × List Int64 × zzM
def zzwI (μ : zzM) (c k : Nat) (v : Int32) : zzM := (fun c' k' => if c' = c ∧ k' = k then v else μ.1 c' k', μ.2)
def zzwL (μ : zzM) (c k : Nat) (v : Int64) : zzM := (μ.1, fun c' k' => if c' = c ∧ k' = k then v else μ.2 c' k')
def zzri (μ : zzM) (c n : Nat) (i : Int32) : Option Int32 := if i < 0 ∨ n ≤ i.toNatClampNeg then none else some (μ.1 c i.toNatClampNeg)
def zzrl (μ : zzM) (c n : Nat) (i : Int32) : Option Int64 := if i < 0 ∨ n ≤ i.toNatClampNeg then none else some (μ.2 c i.toNatClampNeg)
def zzsi (μ : zzM) (c n : Nat) (i v : Int32) : Option zzM := if i < 0 ∨ n ≤ i.toNatClampNeg then none else some (zzwI μ c i.toNatClampNeg v)
def zzsl (μ : zzM) (c n : Nat) (i : Int32) (v : Int64) : Option zzM := if i < 0 ∨ n ≤ i.toNatClampNeg then none else some (zzwL μ c i.toNatClampNeg v)
/-- a row of references -/
def zzsr (i : Int32) (f : Nat → Option zzR) : Nat → List Nat → Option zzR
  | _, [] => none
  | k, t :: ts => if i = nI k then f t else zzsr i f (k + 1) ts
def zzcp (μ : zzM) (a n0 : Nat) (sp : Int32) (b n1 : Nat) (dp n : Int32) : Option zzM :=
  if sp < 0 ∨ dp < 0 ∨ n < 0 ∨ n0 < sp.toNatClampNeg + n.toNatClampNeg ∨ n1 < dp.toNatClampNeg + n.toNatClampNeg then none
  else some (fun c k => if c = b then va_cpy (μ.1 a) (μ.1 b) sp.toNatClampNeg dp.toNatClampNeg n.toNatClampNeg k else μ.1 c k, μ.2)
/-- a loop -/
def zzl (body : zzS → (zzS → Option zzR) → Option zzR) : Nat → zzS → Option zzR
  | 0, _ => none
  | n + 1, v => body v (zzl body n)
-- the stack's tops
def zzp1 (st : List Value) (f : Int32 → List Value → Option zzR) : Option zzR := match st with
  | .int x :: r => f x r
  | _ => none
def zzp2 (st : List Value) (f : Int32 → Int32 → List Value → Option zzR) : Option zzR := match st with
  | .int y :: .int x :: r => f x y r
  | _ => none
def zzq1 (st : List Value) (f : Int64 → List Value → Option zzR) : Option zzR := match st with
  | .long x :: r => f x r
  | _ => none
def zzq2 (st : List Value) (f : Int64 → Int64 → List Value → Option zzR) : Option zzR := match st with
  | .long y :: .long x :: r => f x y r
  | _ => none
def zzqs (st : List Value) (f : Int64 → Int32 → List Value → Option zzR) : Option zzR := match st with
  | .int y :: .long x :: r => f x y r
  | _ => none
def zza1 (st : List Value) (f : Nat → List Value → Option zzR) : Option zzR := match st with
  | .ref c :: r => f c r
  | _ => none
def zzai (st : List Value) (f : Nat → Int32 → List Value → Option zzR) : Option zzR := match st with
  | .int i :: .ref c :: r => f c i r
  | _ => none
def zzas (st : List Value) (f : Nat → Int32 → Int32 → List Value → Option zzR) : Option zzR := match st with
  | .int v :: .int i :: .ref c :: r => f c i v r
  | _ => none
def zzal (st : List Value) (f : Nat → Int32 → Int64 → List Value → Option zzR) : Option zzR := match st with
  | .long v :: .int i :: .ref c :: r => f c i v r
  | _ => none
/-- an array: its kind, length, cells named -/
def zzar (c : Nat) (f : Nat → Nat → List Nat → Option zzR) : Option zzR := match zzcells[c]? with
  | some (.inr (k, n, ts)) => f k n ts
  | _ => none
/-- a field of an object: its kind, the cell named -/
def zzfd (c ci k : Nat) (f : Nat → Nat → Option zzR) : Option zzR := match zzcells[c]? with
  | some (.inl (cj, fs)) => bif cj.beq ci then (match fs[k]? with
    | some (a, b) => f a b
    | none => none) else none
  | _ => none
def zzlk : zzL → Nat → Option Value
  | [], _ => none
  | q :: r, i => bif q.1.beq i then some q.2 else zzlk r i
def zzset1 (i : Nat) (v : Value) (ls : zzL) : zzL := (i, v) :: ls.filter (fun q => !(q.1 == i) && !(q.1 + 1 == i && q.2.category == 2))
def zzset2 (i : Nat) (v : Value) (ls : zzL) : zzL := (i, v) :: ls.filter (fun q => !(q.1 == i) && (!(q.1 == i + 1) && !(q.1 + 1 == i && q.2.category == 2)))
/-- arguments off the stack (the last on top), and the rest -/
def zzcut : Nat → List Value → List Value → Option (List Value × List Value)
  | 0, st, acc => some (acc, st)
  | n + 1, v :: st, acc => zzcut n st (v :: acc)
  | _ + 1, [], _ => none
def zzcat : List Value → Nat
  | [] => 0
  | v :: r => v.category + zzcat r
def zzfst (aux : List (Nat × Nat)) : Nat × Nat := match aux with
  | q :: _ => q
  | [] => (0, 0)
def zzsnd (aux : List (Nat × Nat)) : Nat × Nat := match aux with
  | _ :: q :: _ => q
  | _ => (0, 0)
def zzthd (aux : List (Nat × Nat)) : Nat × Nat := match aux with
  | _ :: _ :: q :: _ => q
  | _ => (0, 0)
/-- an int that the code names: n, or minus n -/
def zzkon (q : Nat × Nat) : Int32 := match q.2 with
  | 0 => nI q.1
  | _ => -(nI q.1)
def zzkol (q : Nat × Nat) : Int64 := match q.2 with
  | 0 => lN q.1
  | _ => -(lN q.1)
def zzinc (x : Int32) (q : Nat × Nat) : Int32 := match q.2 with
  | 0 => x + nI q.1
  | _ => x - nI q.1
def zzdp (st : List Value) (f : List Value → Option zzR) : Option zzR := match st with
  | .int x :: r => f (.int x :: .int x :: r)
  | .ref x :: r => f (.ref x :: .ref x :: r)
  | _ => none
def zzd2 (st : List Value) (f : List Value → Option zzR) : Option zzR := match st with
  | .int x :: .ref c :: r => f (.int x :: .ref c :: .int x :: .ref c :: r)
  | _ => none
def zzpo (st : List Value) (f : List Value → Option zzR) : Option zzR := match st with
  | .int _ :: r => f r
  | .ref _ :: r => f r
  | _ => none
def zzpf (st : List Value) (f : Nat → Int32 → List Value → Option zzR) (g : Nat → Int64 → List Value → Option zzR) : Option zzR := match st with
  | .int v :: .ref c :: r => f c v r
  | .long v :: .ref c :: r => g c v r
  | _ => none
/-- nothing is left on the stack -/
def zzno (st : List Value) (f : Option zzR) : Option zzR := match st with
  | [] => f
  | _ => none
/-- a switch: keys with targets, else the last -/
def zzsw (x : Int32) (jump : Nat → Option zzR) (d : Nat) : List (Nat × Nat) → Option zzR
  | [] => jump d
  | q :: r => if x = nI q.1 then jump q.2 else zzsw x jump d r
/-- what a call leaves on the stack -/
def zzres (q : Nat × Nat) (o : zzR) (f : List Value → Option zzR) : Option zzR := match q.1 with
  | 0 => f []
  | 2 => f [.long o.1.2.1]
  | 3 => if o.1.2.2 = q.2 then f [.ref q.2] else none
  | _ => f [.int o.1.1]
/-- ONE INSTRUCTION, goal first: 'next' at the next row, 'jump' elsewhere -/
def zzstep (call : Nat → List Value → zzM → Option zzR) (rk : Nat) (i : Instr) (aux : List (Nat × Nat)) (ls : zzL) (st : List Value) (μ : zzM)
    (next : zzL → List Value → zzM → Option zzR) (jump : Nat → List Value → Option zzR) : Option zzR :=
  match i with
  | .iconst _ => next ls (.int (zzkon (zzfst aux)) :: st) μ
  | .bipush _ => next ls (.int (zzkon (zzfst aux)) :: st) μ
  | .sipush _ => next ls (.int (zzkon (zzfst aux)) :: st) μ
  | .ldc _ => next ls (.int (zzkon (zzfst aux)) :: st) μ
  | .ldc_w _ => next ls (.int (zzkon (zzfst aux)) :: st) μ
  | .lconst _ => next ls (.long (zzkol (zzfst aux)) :: st) μ
  | .ldc2_w _ => next ls (.long (zzkol (zzfst aux)) :: st) μ
  | .iload k => (match zzlk ls k with
    | some (.int x) => next ls (.int x :: st) μ
    | _ => none)
  | .iload_n k => (match zzlk ls (zzfst aux).1 with
    | some (.int x) => next ls (.int x :: st) μ
    | _ => none)
  | .lload k => (match zzlk ls k with
    | some (.long x) => next ls (.long x :: st) μ
    | _ => none)
  | .lload_n k => (match zzlk ls (zzfst aux).1 with
    | some (.long x) => next ls (.long x :: st) μ
    | _ => none)
  | .aload k => (match zzlk ls k with
    | some (.ref x) => next ls (.ref x :: st) μ
    | _ => none)
  | .aload_n k => (match zzlk ls (zzfst aux).1 with
    | some (.ref x) => next ls (.ref x :: st) μ
    | _ => none)
  | .istore k => zzp1 st fun x st => next (zzset1 k (.int x) ls) st μ
  | .istore_n k => zzp1 st fun x st => next (zzset1 (zzfst aux).1 (.int x) ls) st μ
  | .lstore k => zzq1 st fun x st => next (zzset2 k (.long x) ls) st μ
  | .lstore_n k => zzq1 st fun x st => next (zzset2 (zzfst aux).1 (.long x) ls) st μ
  | .iinc k _ => (match zzlk ls k with
    | some (.int x) => next (zzset1 k (.int (zzinc x (zzfst aux))) ls) st μ
    | _ => none)
  | .iadd => zzp2 st fun x y st => next ls (.int (x + y) :: st) μ
  | .isub => zzp2 st fun x y st => next ls (.int (x - y) :: st) μ
  | .imul => zzp2 st fun x y st => next ls (.int (x * y) :: st) μ
  | .iand => zzp2 st fun x y st => next ls (.int (x &&& y) :: st) μ
  | .ior => zzp2 st fun x y st => next ls (.int (x ||| y) :: st) μ
  | .ixor => zzp2 st fun x y st => next ls (.int (x ^^^ y) :: st) μ
  | .ishl => zzp2 st fun x y st => next ls (.int (x <<< (y &&& 31)) :: st) μ
  | .ishr => zzp2 st fun x y st => next ls (.int (x >>> (y &&& 31)) :: st) μ
  | .iushr => zzp2 st fun x y st => next ls (.int (x.toUInt32 >>> (y.toUInt32 &&& Int32.toUInt32 31)).toInt32 :: st) μ
  | .idiv => zzp2 st fun x y st => if y = 0 then none else next ls (.int (x / y) :: st) μ
  | .irem => zzp2 st fun x y st => if y = 0 then none else next ls (.int (x - x / y * y) :: st) μ
  | .ladd => zzq2 st fun x y st => next ls (.long (x + y) :: st) μ
  | .lsub => zzq2 st fun x y st => next ls (.long (x - y) :: st) μ
  | .lmul => zzq2 st fun x y st => next ls (.long (x * y) :: st) μ
  | .land => zzq2 st fun x y st => next ls (.long (x &&& y) :: st) μ
  | .lor => zzq2 st fun x y st => next ls (.long (x ||| y) :: st) μ
  | .lrem => zzq2 st fun x y st => if y = 0 then none else next ls (.long (x - x / y * y) :: st) μ
  | .lshl => zzqs st fun x y st => next ls (.long (x <<< (y.toInt64 &&& 63)) :: st) μ
  | .lshr => zzqs st fun x y st => next ls (.long (x >>> (y.toInt64 &&& 63)) :: st) μ
  | .lcmp => zzq2 st fun x y st => next ls (.int (lg_cmp x y) :: st) μ
  | .i2l => zzp1 st fun x st => next ls (.long x.toInt64 :: st) μ
  | .l2i => zzq1 st fun x st => next ls (.int x.toInt32 :: st) μ
  | .i2b => zzp1 st fun x st => next ls (.int x.toInt8.toInt32 :: st) μ
  | .dup => zzdp st fun r => next ls r μ
  | .dup2 => zzd2 st fun r => next ls r μ
  | .pop => zzpo st fun r => next ls r μ
  | .goto _ => jump (zzfst aux).1 st
  | .ifCond .eq _ => zzp1 st fun x st => if x = 0 then jump (zzfst aux).1 st else next ls st μ
  | .ifCond .ne _ => zzp1 st fun x st => if x = 0 then next ls st μ else jump (zzfst aux).1 st
  | .ifCond .lt _ => zzp1 st fun x st => if x < 0 then jump (zzfst aux).1 st else next ls st μ
  | .ifCond .ge _ => zzp1 st fun x st => if 0 ≤ x then jump (zzfst aux).1 st else next ls st μ
  | .ifCond .gt _ => zzp1 st fun x st => if 0 < x then jump (zzfst aux).1 st else next ls st μ
  | .ifCond .le _ => zzp1 st fun x st => if x ≤ 0 then jump (zzfst aux).1 st else next ls st μ
  | .if_icmp .eq _ => zzp2 st fun x y st => if x = y then jump (zzfst aux).1 st else next ls st μ
  | .if_icmp .ne _ => zzp2 st fun x y st => if x = y then next ls st μ else jump (zzfst aux).1 st
  | .if_icmp .lt _ => zzp2 st fun x y st => if x < y then jump (zzfst aux).1 st else next ls st μ
  | .if_icmp .ge _ => zzp2 st fun x y st => if y ≤ x then jump (zzfst aux).1 st else next ls st μ
  | .if_icmp .gt _ => zzp2 st fun x y st => if y < x then jump (zzfst aux).1 st else next ls st μ
  | .if_icmp .le _ => zzp2 st fun x y st => if x ≤ y then jump (zzfst aux).1 st else next ls st μ
  | .tableswitch _ _ _ _ => zzp1 st fun x st => zzsw x (fun t => jump t st) (zzfst aux).1 (aux.drop 1)
  | .lookupswitch _ _ => zzp1 st fun x st => zzsw x (fun t => jump t st) (zzfst aux).1 (aux.drop 1)
  | .getfield _ => zza1 st fun c st => zzfd c (zzfst aux).1 (zzfst aux).2 fun a b => (match a with
    | 0 => next ls (.int (μ.1 c (zzfst aux).2) :: st) μ
    | 1 => next ls (.int (μ.1 c (zzfst aux).2) :: st) μ
    | 2 => next ls (.long (μ.2 c (zzfst aux).2) :: st) μ
    | _ => next ls (.ref b :: st) μ)
  | .putfield _ => zzpf st (fun c v r => zzfd c (zzfst aux).1 (zzfst aux).2 fun a _ => (match a with
      | 0 => next ls r (zzwI μ c (zzfst aux).2 v)
      | 1 => if v = 0 ∨ v = 1 then next ls r (zzwI μ c (zzfst aux).2 v) else none
      | _ => none))
    (fun c v r => zzfd c (zzfst aux).1 (zzfst aux).2 fun a _ => (match a with
      | 2 => next ls r (zzwL μ c (zzfst aux).2 v)
      | _ => none))
  | .arraylength => zza1 st fun c st => zzar c fun _ n _ => next ls (.int (nI n) :: st) μ
  | .iaload => zzai st fun c i st => zzar c fun k n _ => (match k with
    | 0 => (zzri μ c n i).bind fun v => next ls (.int v :: st) μ
    | _ => none)
  | .baload => zzai st fun c i st => zzar c fun k n _ => (match k with
    | 1 => (zzri μ c n i).bind fun v => next ls (.int v :: st) μ
    | 2 => (zzri μ c n i).bind fun v => next ls (.int v :: st) μ
    | _ => none)
  | .laload => zzai st fun c i st => zzar c fun k n _ => (match k with
    | 3 => (zzrl μ c n i).bind fun v => next ls (.long v :: st) μ
    | _ => none)
  | .aaload => zzai st fun c i st => zzar c fun k _ ts => (match k with
    | 4 => zzsr i (fun t => next ls (.ref t :: st) μ) 0 ts
    | _ => none)
  | .iastore => zzas st fun c i v st => zzar c fun k n _ => (match k with
    | 0 => (zzsi μ c n i v).bind fun μ => next ls st μ
    | _ => none)
  | .bastore => zzas st fun c i v st => zzar c fun k n _ => (match k with
    | 1 => if v = 0 ∨ v = 1 then (zzsi μ c n i v).bind fun μ => next ls st μ else none
    | 2 => (zzsi μ c n i v.toInt8.toInt32).bind fun μ => next ls st μ
    | _ => none)
  | .lastore => zzal st fun c i v st => zzar c fun k n _ => (match k with
    | 3 => (zzsl μ c n i v).bind fun μ => next ls st μ
    | _ => none)
  | .ireturn => zzp1 st fun x st => zzno st (match rk with
    | 1 => some ((x, 0, 0), μ)
    | 4 => if x = 0 ∨ x = 1 then some ((x, 0, 0), μ) else none
    | _ => none)
  | .lreturn => zzq1 st fun x st => zzno st (match rk with
    | 2 => some ((0, x, 0), μ)
    | _ => none)
  | .areturn => zza1 st fun c st => zzno st (match rk with
    | 3 => some ((0, 0, c), μ)
    | _ => none)
  | .return_ => zzno st (match rk with
    | 0 => some ((0, 0, 0), μ)
    | _ => none)
  | .invokestatic _ => (zzcut (zzfst aux).2 st []).bind fun q => bif (zzcat q.2).ble 8 then
      (call (zzfst aux).1 q.1 μ).bind fun o => zzres (zzsnd aux) o fun t => next ls (t ++ q.2) o.2 else none
  | .invokevirtual _ => (zzcut (zzfst aux).2 st []).bind fun q => zza1 q.2 fun c r => bif (zzcat r).ble 8 then zzfd c (zzthd aux).1 (zzthd aux).2 fun _ _ =>
      (call (zzfst aux).1 (.ref c :: q.1) μ).bind fun o => zzres (zzsnd aux) o fun t => next ls (t ++ r) o.2 else none
  | _ => none
def zzpk : List (Nat × Nat) → zzL → zzL → Option (List Int32 × List Int64)
  | [], _, _ => some ([], [])
  | (i, 1) :: r, l0, ls => (match zzlk ls i with
    | some (.int x) => (zzpk r l0 ls).bind fun v => some (x :: v.1, v.2)
    | _ => none)
  | (i, 2) :: r, l0, ls => (match zzlk ls i with
    | some (.long x) => (zzpk r l0 ls).bind fun v => some (v.1, x :: v.2)
    | _ => none)
  | (i, _) :: r, l0, ls => (match zzlk l0 i, zzlk ls i with
    | some (.ref a), some (.ref b) => bif a.beq b then zzpk r l0 ls else none
    | _, _ => none)
def zzup : List (Nat × Nat) → zzL → List Int32 → List Int64 → zzL
  | [], _, _, _ => []
  | (i, 1) :: r, l0, a, b => (i, .int (a.headD 0)) :: zzup r l0 a.tail b
  | (i, 2) :: r, l0, a, b => (i, .long (b.headD 0)) :: zzup r l0 a b.tail
  | (i, _) :: r, l0, a, b => (match zzlk l0 i with
    | some v => (i, v) :: zzup r l0 a b
    | none => zzup r l0 a b)
def zzdrop (t : Nat) : List zzI → List zzI
  | [] => []
  | q :: r => bif q.1.beq t then q :: r else zzdrop t r
def zzfind (t : Nat) : List (Nat × (zzL → zzM → Option zzR)) → Option (zzL → zzM → Option zzR)
  | [] => none
  | q :: r => bif q.1.beq t then some q.2 else zzfind t r
/-- A METHOD's CODE from a row on: 'open' loops with their way back; a loop is a zzl with N turns at most -/
def zzx (call : Nat → List Value → zzM → Option zzR) (N rk : Nat) : Nat → List (Nat × (zzL → zzM → Option zzR)) → List zzI → zzL → List Value → zzM → Option zzR
  | 0, _, _, _, _, _ => none
  | _ + 1, _, [], _, _, _ => none
  | f + 1, ctx, (pc, len, i, aux) :: is, ls, st, μ => (match len with
    | 0 => (match st with
      | [] => (zzpk aux ls ls).bind fun v0 => zzl (fun v again => zzx call N rk f ((pc, fun ls' μ' => (zzpk aux ls ls').bind fun v' => again (v'.1, v'.2, μ')) :: ctx) is (zzup aux ls v.1 v.2.1) [] v.2.2) N (v0.1, v0.2, μ)
      | _ => none)
    | _ => zzstep call rk i aux ls st μ (fun ls st μ => zzx call N rk f ctx is ls st μ)
        (fun t st => match zzfind t ctx with
          | some k => (match st with
            | [] => k ls μ
            | _ => none)
          | none => zzx call N rk f ctx (zzdrop t is) ls st μ))
/-- a method: name, bytes, locals, return type, kind of its answer (0 none, 1 int, 2 long, 3 cell, 4 boolean), rows -/
abbrev zzT : Type := MethodName × ByteArray × Nat × Option FieldType × Nat × List zzI
/-- CALLS, d deep at most; method 0 is System.arraycopy -/
def zzf (P : List zzT) (N : Nat) : Nat → Nat → List Value → zzM → Option zzR
  | 0, _, _, _ => none
  | d + 1, y, as, μ => (match y with
    | 0 => (match as with
      | [.ref a, .int sp, .ref b, .int dp, .int n] => (match zzcells[a]?, zzcells[b]? with
        | some (.inr (0, n0, _)), some (.inr (0, n1, _)) => (zzcp μ a n0 sp b n1 dp n).bind fun μ => some ((0, 0, 0), μ)
        | _, _ => none)
      | _ => none)
    | y + 1 => (match P[y]? with
      | some q => bif (zzcat as).ble q.2.2.1 then zzx (zzf P N d) N q.2.2.2.2.1 400 [] q.2.2.2.2.2 (lv_args 0 as) [] μ else none
      | none => none))
-- a loop's ints and longs, by their places
def zi0 (v : zzS) : Int32 := v.1.headD 0
def zi1 (v : zzS) : Int32 := v.1.tail.headD 0
def zi2 (v : zzS) : Int32 := v.1.tail.tail.headD 0
def zi3 (v : zzS) : Int32 := v.1.tail.tail.tail.headD 0
def zi4 (v : zzS) : Int32 := v.1.tail.tail.tail.tail.headD 0
def zi5 (v : zzS) : Int32 := v.1.tail.tail.tail.tail.tail.headD 0
def zi6 (v : zzS) : Int32 := v.1.tail.tail.tail.tail.tail.tail.headD 0
def zi7 (v : zzS) : Int32 := v.1.tail.tail.tail.tail.tail.tail.tail.headD 0
def zi8 (v : zzS) : Int32 := v.1.tail.tail.tail.tail.tail.tail.tail.tail.headD 0
def zj0 (v : zzS) : Int64 := v.2.1.headD 0
def zj1 (v : zzS) : Int64 := v.2.1.tail.headD 0
def zj2 (v : zzS) : Int64 := v.2.1.tail.tail.headD 0
def zm (v : zzS) : zzM := v.2.2
end
section
/-! THE WORLD OF THE SMALL MACHINE: its cells in the heap; what a row of code must have; what a state of it says of the machine -/
def zzcv (ad : Nat → Nat) : Value → Value
  | .ref x => .ref (ad x)
  | v => v
theorem zzcv_cat (ad : Nat → Nat) (v : Value) : (zzcv ad v).category = v.category := by cases v <;> rfl
def zzfv (ad : Nat → Nat) (μ : zzM) (i k : Nat) (q : Nat × Nat) : Value := match q.1 with
  | 0 => .int (μ.1 i k)
  | 1 => .int (μ.1 i k)
  | 2 => .long (μ.2 i k)
  | _ => .ref (ad q.2)
def zzav (ad : Nat → Nat) (μ : zzM) (i k : Nat) (ts : List Nat) : (Nat → Int32) ⊕ (Nat → Int64) ⊕ (Nat → UInt32) ⊕ (Nat → UInt64) ⊕ (Nat → Option Nat) := match k with
  | 3 => .inr (.inl (μ.2 i))
  | 4 => .inr (.inr (.inr (.inr (fun j => (ts[j]?).map ad))))
  | _ => .inl (μ.1 i)
def zzcell (dA : Nat → ClassId) (ad : Nat → Nat) (μ : zzM) (i : Nat) (d : zzD) : va_E := match d with
  | .inl q => .inr (q.1, q.2.mapIdx fun k x => zzfv ad μ i k x)
  | .inr q => .inl (dA q.1, q.2.1, zzav ad μ i q.1 q.2.2)
def zzworld (dA : Nat → ClassId) (ad : Nat → Nat) (μ : zzM) : va_W := zzcells.mapIdx fun i d => (ad i, zzcell dA ad μ i d)
theorem zzworld_at {dA : Nat → ClassId} {ad : Nat → Nat} {μ : zzM} {i : Nat} {d : zzD} (h : zzcells[i]? = some d) : (zzworld dA ad μ)[i]? = some (ad i, zzcell dA ad μ i d) := by
  unfold zzworld
  rw [List.getElem?_mapIdx, h]
  rfl
theorem zzworld_inv {dA : Nat → ClassId} {ad : Nat → Nat} {μ : zzM} {i : Nat} {q : Nat × va_E} (h : (zzworld dA ad μ)[i]? = some q) : ∃ d, zzcells[i]? = some d ∧ q = (ad i, zzcell dA ad μ i d) := by
  unfold zzworld at h
  rw [List.getElem?_mapIdx] at h
  cases hd : zzcells[i]? with
  | none => rw [hd] at h; cases h
  | some d => rw [hd] at h; exact ⟨d, rfl, (Option.some.inj h).symm⟩
theorem zzset_eq {dA : Nat → ClassId} {ad : Nat → Nat} {μ μ' : zzM} {i : Nat} {d : zzD} {e : va_E} (hd : zzcells[i]? = some d) (he : zzcell dA ad μ' i d = e) (ho : ∀ j d', j ≠ i → zzcell dA ad μ' j d' = zzcell dA ad μ j d') : (zzworld dA ad μ).set i (ad i, e) = zzworld dA ad μ' := by
  apply List.ext_getElem?
  intro j
  rw [List.getElem?_set]
  by_cases hj : i = j
  · subst hj
    have hl : i < (zzworld dA ad μ).length := (List.getElem?_eq_some_iff.mp (zzworld_at hd)).1
    rw [if_pos rfl, if_pos hl, zzworld_at hd, he]
  · rw [if_neg hj]
    unfold zzworld
    rw [List.getElem?_mapIdx, List.getElem?_mapIdx]
    cases zzcells[j]? with
    | none => rfl
    | some d' => simp only [Option.map_some, ho j d' (fun h => hj h.symm)]
theorem zzcell_wI {dA : Nat → ClassId} {ad : Nat → Nat} {μ : zzM} {i k : Nat} {v : Int32} (j : Nat) (d : zzD) (h : j ≠ i) : zzcell dA ad (zzwI μ i k v) j d = zzcell dA ad μ j d := by
  have h1 : (zzwI μ i k v).1 j = μ.1 j := by
    funext x
    show (if j = i ∧ x = k then v else μ.1 j x) = μ.1 j x
    rw [if_neg (fun q => h q.1)]
  have h2 : (zzwI μ i k v).2 = μ.2 := rfl
  cases d with
  | inl q =>
    show (Sum.inr (q.1, q.2.mapIdx fun k' x => zzfv ad (zzwI μ i k v) j k' x) : va_E) = Sum.inr (q.1, q.2.mapIdx fun k' x => zzfv ad μ j k' x)
    have : (fun k' x => zzfv ad (zzwI μ i k v) j k' x) = (fun k' x => zzfv ad μ j k' x) := by
      funext k' x
      unfold zzfv
      rw [h1, h2]
    rw [this]
  | inr q =>
    show (Sum.inl (dA q.1, q.2.1, zzav ad (zzwI μ i k v) j q.1 q.2.2) : va_E) = Sum.inl (dA q.1, q.2.1, zzav ad μ j q.1 q.2.2)
    unfold zzav
    rw [h1, h2]
theorem zzcell_wL {dA : Nat → ClassId} {ad : Nat → Nat} {μ : zzM} {i k : Nat} {v : Int64} (j : Nat) (d : zzD) (h : j ≠ i) : zzcell dA ad (zzwL μ i k v) j d = zzcell dA ad μ j d := by
  have h1 : (zzwL μ i k v).2 j = μ.2 j := by
    funext x
    show (if j = i ∧ x = k then v else μ.2 j x) = μ.2 j x
    rw [if_neg (fun q => h q.1)]
  have h2 : (zzwL μ i k v).1 = μ.1 := rfl
  cases d with
  | inl q =>
    show (Sum.inr (q.1, q.2.mapIdx fun k' x => zzfv ad (zzwL μ i k v) j k' x) : va_E) = Sum.inr (q.1, q.2.mapIdx fun k' x => zzfv ad μ j k' x)
    have : (fun k' x => zzfv ad (zzwL μ i k v) j k' x) = (fun k' x => zzfv ad μ j k' x) := by
      funext k' x
      unfold zzfv
      rw [h1, h2]
    rw [this]
  | inr q =>
    show (Sum.inl (dA q.1, q.2.1, zzav ad (zzwL μ i k v) j q.1 q.2.2) : va_E) = Sum.inl (dA q.1, q.2.1, zzav ad μ j q.1 q.2.2)
    unfold zzav
    rw [h1, h2]
theorem zzwI_row (μ : zzM) (i k : Nat) (v : Int32) : (zzwI μ i k v).1 i = upd (μ.1 i) k v := by
  funext x
  show (if i = i ∧ x = k then v else μ.1 i x) = if x = k then v else μ.1 i x
  by_cases h : x = k <;> simp [h]
theorem zzwL_row (μ : zzM) (i k : Nat) (v : Int64) : (zzwL μ i k v).2 i = vp_updL (μ.2 i) k v := by
  funext x
  show (if i = i ∧ x = k then v else μ.2 i x) = if x = k then v else μ.2 i x
  by_cases h : x = k <;> simp [h]
theorem zzav_int {ad : Nat → Nat} {μ : zzM} {i k : Nat} {ts : List Nat} (h : k = 0 ∨ k = 1 ∨ k = 2) : zzav ad μ i k ts = .inl (μ.1 i) := by
  rcases h with rfl | rfl | rfl <;> rfl
theorem zzput_fs {ad : Nat → Nat} {μ μ' : zzM} {i k : Nat} {fs : List (Nat × Nat)} {a b : Nat} {v : Value} (hk : fs[k]? = some (a, b)) (hv : zzfv ad μ' i k (a, b) = v) (ho : ∀ k' q, k' ≠ k → zzfv ad μ' i k' q = zzfv ad μ i k' q) : (fs.mapIdx fun k x => zzfv ad μ i k x).set k v = fs.mapIdx fun k x => zzfv ad μ' i k x := by
  apply List.ext_getElem?
  intro j
  rw [List.getElem?_set]
  by_cases hj : k = j
  · subst hj
    have hl : k < fs.length := (List.getElem?_eq_some_iff.mp hk).1
    rw [if_pos rfl, if_pos (by rw [List.length_mapIdx]; exact hl), List.getElem?_mapIdx, hk]
    simp only [Option.map_some, hv]
  · rw [if_neg hj, List.getElem?_mapIdx, List.getElem?_mapIdx]
    cases fs[j]? with
    | none => rfl
    | some d' => simp only [Option.map_some, ho j d' (fun h => hj h.symm)]
def zzn : Nat := zzcells.length
/-- the cells of the world and those that are new -/
def zzA (ad : Nat → Nat) (sz : Nat) : Nat → Prop := fun q => (∃ i, i < zzn ∧ q = ad i) ∨ sz ≤ q
def zzinj (ad : Nat → Nat) : Prop := ∀ i j, i < zzn → j < zzn → ad i = ad j → i = j
theorem zzD_of {dA : Nat → ClassId} {ad : Nat → Nat} {μ : zzM} {A : Nat → Prop} (hi : zzinj ad) (hA : ∀ i, i < zzn → A (ad i)) : va_D A (zzworld dA ad μ) := by
  refine ⟨fun i j p q hp hq he => ?_, fun k q hq => ?_⟩
  · obtain ⟨d, h1, rfl⟩ := zzworld_inv hp
    obtain ⟨d', h2, rfl⟩ := zzworld_inv hq
    exact hi i j (List.getElem?_eq_some_iff.mp h1).1 (List.getElem?_eq_some_iff.mp h2).1 he
  · obtain ⟨d, h1, rfl⟩ := zzworld_inv hq
    exact hA k (List.getElem?_eq_some_iff.mp h1).1
def zztys (dA : Nat → ClassId) : List (ClassId × FieldType) := [(dA 0, .int), (dA 1, .boolean), (dA 2, .byte), (dA 3, .long), (dA 4, .object "PackedForest$Setting")]
-- the tables' words that hold on over calls
def zzTb : List Cond := lw_tbl.filter goodWord
theorem zzTb_of {w : Cond} (h : w ∈ lw_tbl) (hg : goodWord w = true) : w ∈ zzTb := List.mem_filter.mpr ⟨h, hg⟩
theorem zzTb_in {w : Cond} (h : w ∈ zzTb) : w ∈ lw_tbl ∧ goodWord w = true := List.mem_filter.mp h
-- the classes
theorem zzws0 : ∀ w ∈ u_ws zzR0 zzT0 7, w ∈ zzTb := fun w h => zzTb_of ((by decide +kernel : ∀ w ∈ u_ws zzR0 zzT0 7, w ∈ lw_tbl) w h) ((by decide +kernel : ∀ w ∈ u_ws zzR0 zzT0 7, goodWord w = true) w h)
theorem zzws1 : ∀ w ∈ u_ws zzR1 zzT1 5, w ∈ zzTb := fun w h => zzTb_of ((by decide +kernel : ∀ w ∈ u_ws zzR1 zzT1 5, w ∈ lw_tbl) w h) ((by decide +kernel : ∀ w ∈ u_ws zzR1 zzT1 5, goodWord w = true) w h)
theorem zzws2 : ∀ w ∈ u_ws zzR2 zzT2 11, w ∈ zzTb := fun w h => zzTb_of ((by decide +kernel : ∀ w ∈ u_ws zzR2 zzT2 11, w ∈ lw_tbl) w h) ((by decide +kernel : ∀ w ∈ u_ws zzR2 zzT2 11, goodWord w = true) w h)
theorem zzws3 : ∀ w ∈ u_ws zzR3 zzT3 10, w ∈ zzTb := fun w h => zzTb_of ((by decide +kernel : ∀ w ∈ u_ws zzR3 zzT3 10, w ∈ lw_tbl) w h) ((by decide +kernel : ∀ w ∈ u_ws zzR3 zzT3 10, goodWord w = true) w h)
theorem zzws4 : ∀ w ∈ u_ws zzR4 zzT4 8, w ∈ zzTb := fun w h => zzTb_of ((by decide +kernel : ∀ w ∈ u_ws zzR4 zzT4 8, w ∈ lw_tbl) w h) ((by decide +kernel : ∀ w ∈ u_ws zzR4 zzT4 8, goodWord w = true) w h)
theorem zzws5 : ∀ w ∈ u_ws zzR5 zzT5 8, w ∈ zzTb := fun w h => zzTb_of ((by decide +kernel : ∀ w ∈ u_ws zzR5 zzT5 8, w ∈ lw_tbl) w h) ((by decide +kernel : ∀ w ∈ u_ws zzR5 zzT5 8, goodWord w = true) w h)
theorem zzws6 : ∀ w ∈ u_ws zzR6 zzT6 4, w ∈ zzTb := fun w h => zzTb_of ((by decide +kernel : ∀ w ∈ u_ws zzR6 zzT6 4, w ∈ lw_tbl) w h) ((by decide +kernel : ∀ w ∈ u_ws zzR6 zzT6 4, goodWord w = true) w h)
theorem zzws7 : ∀ w ∈ u_ws zzR7 zzT7 11, w ∈ zzTb := fun w h => zzTb_of ((by decide +kernel : ∀ w ∈ u_ws zzR7 zzT7 11, w ∈ lw_tbl) w h) ((by decide +kernel : ∀ w ∈ u_ws zzR7 zzT7 11, goodWord w = true) w h)
theorem zzws8 : ∀ w ∈ u_ws zzR8 zzT8 9, w ∈ zzTb := fun w h => zzTb_of ((by decide +kernel : ∀ w ∈ u_ws zzR8 zzT8 9, w ∈ lw_tbl) w h) ((by decide +kernel : ∀ w ∈ u_ws zzR8 zzT8 9, goodWord w = true) w h)
theorem zzws9 : ∀ w ∈ u_ws zzR9 zzT9 4, w ∈ zzTb := fun w h => zzTb_of ((by decide +kernel : ∀ w ∈ u_ws zzR9 zzT9 4, w ∈ lw_tbl) w h) ((by decide +kernel : ∀ w ∈ u_ws zzR9 zzT9 4, goodWord w = true) w h)
theorem zzws10 : ∀ w ∈ u_ws zzR10 zzT10 6, w ∈ zzTb := fun w h => zzTb_of ((by decide +kernel : ∀ w ∈ u_ws zzR10 zzT10 6, w ∈ lw_tbl) w h) ((by decide +kernel : ∀ w ∈ u_ws zzR10 zzT10 6, goodWord w = true) w h)
theorem zzws11 : ∀ w ∈ u_ws zzR11 zzT11 15, w ∈ zzTb := fun w h => zzTb_of ((by decide +kernel : ∀ w ∈ u_ws zzR11 zzT11 15, w ∈ lw_tbl) w h) ((by decide +kernel : ∀ w ∈ u_ws zzR11 zzT11 15, goodWord w = true) w h)
theorem zzws12 : ∀ w ∈ u_ws zzR12 zzT12 72, w ∈ zzTb := fun w h => zzTb_of ((by decide +kernel : ∀ w ∈ u_ws zzR12 zzT12 72, w ∈ lw_tbl) w h) ((by decide +kernel : ∀ w ∈ u_ws zzR12 zzT12 72, goodWord w = true) w h)
/-- a class of the table: its types, names apart, its words -/
def zzok_cl (q : vw_C) (ty : Nat → FieldType) : Prop := (∀ k, k < q.2.2 → parseFieldDescriptor (q.2.1 k).2.2.1 = some (ty k)) ∧ (∀ a, a < q.2.2 → ∀ b, b < q.2.2 → a ≠ b → (q.2.1 a).2.1 ≠ (q.2.1 b).2.1) ∧ ∀ w ∈ u_ws q.1 q.2.1 q.2.2, w ∈ zzTb
theorem zzcls : ∀ (ci : Nat) (q : vw_C), zzcl[ci]? = some q → ∃ ty, zzok_cl q ty := by
  intro ci q h
  match ci, h with
  | 0, h => exact ⟨zzt0, by cases h; exact ⟨zzt0_ok, zzn0, zzws0⟩⟩
  | 1, h => exact ⟨zzt1, by cases h; exact ⟨zzt1_ok, zzn1, zzws1⟩⟩
  | 2, h => exact ⟨zzt2, by cases h; exact ⟨zzt2_ok, zzn2, zzws2⟩⟩
  | 3, h => exact ⟨zzt3, by cases h; exact ⟨zzt3_ok, zzn3, zzws3⟩⟩
  | 4, h => exact ⟨zzt4, by cases h; exact ⟨zzt4_ok, zzn4, zzws4⟩⟩
  | 5, h => exact ⟨zzt5, by cases h; exact ⟨zzt5_ok, zzn5, zzws5⟩⟩
  | 6, h => exact ⟨zzt6, by cases h; exact ⟨zzt6_ok, zzn6, zzws6⟩⟩
  | 7, h => exact ⟨zzt7, by cases h; exact ⟨zzt7_ok, zzn7, zzws7⟩⟩
  | 8, h => exact ⟨zzt8, by cases h; exact ⟨zzt8_ok, zzn8, zzws8⟩⟩
  | 9, h => exact ⟨zzt9, by cases h; exact ⟨zzt9_ok, zzn9, zzws9⟩⟩
  | 10, h => exact ⟨zzt10, by cases h; exact ⟨zzt10_ok, zzn10, zzws10⟩⟩
  | 11, h => exact ⟨zzt11, by cases h; exact ⟨zzt11_ok, zzn11, zzws11⟩⟩
  | 12, h => exact ⟨zzt12, by cases h; exact ⟨zzt12_ok, zzn12, zzws12⟩⟩
  | n + 13, h => cases h
/-- a field's kind is its type's -/
def zzkd (t : Option FieldType) (a : Nat) : Bool := match a, t with
  | 0, some .int => true
  | 1, some .boolean => true
  | 2, some .long => true
  | 3, some (.object _) => true
  | 3, some (.array _) => true
  | _, _ => false
def zzkd_row (d : zzD) : Bool := match d with
  | .inl q => (match zzcl[q.1]? with
    | some r => q.2.length.beq r.2.2 && (List.range r.2.2).all fun k => zzkd (parseFieldDescriptor (r.2.1 k).2.2.1) (q.2.getD k (9, 9)).1
    | none => false)
  | .inr q => q.1.ble 4 && (q.2.2.length.ble q.2.1 && q.2.1.ble 100000)
theorem zzkd_all : zzcells.all zzkd_row = true := by decide +kernel
theorem zzkd_arr {c k n : Nat} {ts : List Nat} (h : zzcells[c]? = some (.inr (k, n, ts))) : k ≤ 4 ∧ ts.length ≤ n ∧ n ≤ 100000 := by
  have h1 := List.all_eq_true.mp zzkd_all _ (List.mem_of_getElem? h)
  have h2 : (k.ble 4 && (ts.length.ble n && n.ble 100000)) = true := h1
  simp only [Bool.and_eq_true] at h2
  exact ⟨Nat.le_of_ble_eq_true h2.1, Nat.le_of_ble_eq_true h2.2.1, Nat.le_of_ble_eq_true h2.2.2⟩
theorem zztys_at (dA : Nat → ClassId) {k : Nat} (hk : k ≤ 4) : ∃ ty, (zztys dA)[k]? = some (dA k, ty) := by
  match k, hk with
  | 0, _ => exact ⟨_, rfl⟩
  | 1, _ => exact ⟨_, rfl⟩
  | 2, _ => exact ⟨_, rfl⟩
  | 3, _ => exact ⟨_, rfl⟩
  | 4, _ => exact ⟨_, rfl⟩
theorem zzcell_congr {dA : Nat → ClassId} {ad : Nat → Nat} {μ μ' : zzM} {j : Nat} (d : zzD) (h1 : μ'.1 j = μ.1 j) (h2 : μ'.2 j = μ.2 j) : zzcell dA ad μ' j d = zzcell dA ad μ j d := by
  cases d with
  | inl q =>
    show (Sum.inr (q.1, q.2.mapIdx fun k' x => zzfv ad μ' j k' x) : va_E) = Sum.inr (q.1, q.2.mapIdx fun k' x => zzfv ad μ j k' x)
    have : (fun k' x => zzfv ad μ' j k' x) = (fun k' x => zzfv ad μ j k' x) := by
      funext k' x
      unfold zzfv
      rw [h1, h2]
    rw [this]
  | inr q =>
    show (Sum.inl (dA q.1, q.2.1, zzav ad μ' j q.1 q.2.2) : va_E) = Sum.inl (dA q.1, q.2.1, zzav ad μ j q.1 q.2.2)
    unfold zzav
    rw [h1, h2]
theorem zzcpw : Cond.native arraycopyName ∈ zzTb ∧ Cond.static arraycopyName ∈ zzTb ∧ Cond.initialized "java/lang/System" ∈ zzTb := ⟨zzTb_of (by decide +kernel) rfl, zzTb_of (by decide +kernel) rfl, zzTb_of (by decide +kernel) rfl⟩
end
section
/-! ONE INSTRUCTION of the small machine is one of the machine -/
-- what an answer says
theorem zzp1_s {st : List Value} {f : Int32 → List Value → Option zzR} {r : zzR} (h : zzp1 st f = some r) : ∃ x st', st = .int x :: st' ∧ f x st' = some r := by
  unfold zzp1 at h
  split at h
  · exact ⟨_, _, rfl, h⟩
  · cases h
theorem zzp2_s {st : List Value} {f : Int32 → Int32 → List Value → Option zzR} {r : zzR} (h : zzp2 st f = some r) : ∃ x y st', st = .int y :: .int x :: st' ∧ f x y st' = some r := by
  unfold zzp2 at h
  split at h
  · exact ⟨_, _, _, rfl, h⟩
  · cases h
theorem zzq1_s {st : List Value} {f : Int64 → List Value → Option zzR} {r : zzR} (h : zzq1 st f = some r) : ∃ x st', st = .long x :: st' ∧ f x st' = some r := by
  unfold zzq1 at h
  split at h
  · exact ⟨_, _, rfl, h⟩
  · cases h
theorem zzq2_s {st : List Value} {f : Int64 → Int64 → List Value → Option zzR} {r : zzR} (h : zzq2 st f = some r) : ∃ x y st', st = .long y :: .long x :: st' ∧ f x y st' = some r := by
  unfold zzq2 at h
  split at h
  · exact ⟨_, _, _, rfl, h⟩
  · cases h
theorem zzqs_s {st : List Value} {f : Int64 → Int32 → List Value → Option zzR} {r : zzR} (h : zzqs st f = some r) : ∃ x y st', st = .int y :: .long x :: st' ∧ f x y st' = some r := by
  unfold zzqs at h
  split at h
  · exact ⟨_, _, _, rfl, h⟩
  · cases h
theorem zza1_s {st : List Value} {f : Nat → List Value → Option zzR} {r : zzR} (h : zza1 st f = some r) : ∃ x st', st = .ref x :: st' ∧ f x st' = some r := by
  unfold zza1 at h
  split at h
  · exact ⟨_, _, rfl, h⟩
  · cases h
theorem zzai_s {st : List Value} {f : Nat → Int32 → List Value → Option zzR} {r : zzR} (h : zzai st f = some r) : ∃ c i st', st = .int i :: .ref c :: st' ∧ f c i st' = some r := by
  unfold zzai at h
  split at h
  · exact ⟨_, _, _, rfl, h⟩
  · cases h
theorem zzas_s {st : List Value} {f : Nat → Int32 → Int32 → List Value → Option zzR} {r : zzR} (h : zzas st f = some r) : ∃ c i v st', st = .int v :: .int i :: .ref c :: st' ∧ f c i v st' = some r := by
  unfold zzas at h
  split at h
  · exact ⟨_, _, _, _, rfl, h⟩
  · cases h
theorem zzal_s {st : List Value} {f : Nat → Int32 → Int64 → List Value → Option zzR} {r : zzR} (h : zzal st f = some r) : ∃ c i v st', st = .long v :: .int i :: .ref c :: st' ∧ f c i v st' = some r := by
  unfold zzal at h
  split at h
  · exact ⟨_, _, _, _, rfl, h⟩
  · cases h
theorem zzdp_s {st : List Value} {f : List Value → Option zzR} {r : zzR} (h : zzdp st f = some r) : ∃ v st', st = v :: st' ∧ v.category = 1 ∧ f (v :: v :: st') = some r := by
  unfold zzdp at h
  split at h
  · exact ⟨_, _, rfl, rfl, h⟩
  · exact ⟨_, _, rfl, rfl, h⟩
  · cases h
theorem zzd2_s {st : List Value} {f : List Value → Option zzR} {r : zzR} (h : zzd2 st f = some r) : ∃ v w st', st = v :: w :: st' ∧ v.category = 1 ∧ w.category = 1 ∧ f (v :: w :: v :: w :: st') = some r := by
  unfold zzd2 at h
  split at h
  · exact ⟨_, _, _, rfl, rfl, rfl, h⟩
  · cases h
theorem zzpo_s {st : List Value} {f : List Value → Option zzR} {r : zzR} (h : zzpo st f = some r) : ∃ v st', st = v :: st' ∧ v.category = 1 ∧ f st' = some r := by
  unfold zzpo at h
  split at h
  · exact ⟨_, _, rfl, rfl, h⟩
  · exact ⟨_, _, rfl, rfl, h⟩
  · cases h
theorem zzpf_s {st : List Value} {f : Nat → Int32 → List Value → Option zzR} {g : Nat → Int64 → List Value → Option zzR} {r : zzR} (h : zzpf st f g = some r) : (∃ c v st', st = .int v :: .ref c :: st' ∧ f c v st' = some r) ∨ ∃ c v st', st = .long v :: .ref c :: st' ∧ g c v st' = some r := by
  unfold zzpf at h
  split at h
  · exact Or.inl ⟨_, _, _, rfl, h⟩
  · exact Or.inr ⟨_, _, _, rfl, h⟩
  · cases h
theorem zzno_s {st : List Value} {f : Option zzR} {r : zzR} (h : zzno st f = some r) : st = [] ∧ f = some r := by
  unfold zzno at h
  split at h
  · exact ⟨rfl, h⟩
  · cases h
theorem zzinc_eq (x : Int32) (q : Nat × Nat) : x + zzkon q = zzinc x q := by
  obtain ⟨a, b⟩ := q
  cases b with
  | zero => rfl
  | succ b => exact (Int32.sub_eq_add_neg _ _).symm
theorem zzar_s {c : Nat} {f : Nat → Nat → List Nat → Option zzR} {r : zzR} (h : zzar c f = some r) : ∃ k n ts, zzcells[c]? = some (.inr (k, n, ts)) ∧ f k n ts = some r := by
  unfold zzar at h
  split at h
  · exact ⟨_, _, _, by assumption, h⟩
  · cases h
theorem zzfd_s {c ci k : Nat} {f : Nat → Nat → Option zzR} {r : zzR} (h : zzfd c ci k f = some r) : ∃ fs a b, zzcells[c]? = some (.inl (ci, fs)) ∧ fs[k]? = some (a, b) ∧ f a b = some r := by
  unfold zzfd at h
  split at h
  · rename_i cj fs hc
    cases hb : cj.beq ci with
    | false => rw [hb] at h; cases h
    | true =>
      rw [hb] at h
      have : cj = ci := Nat.eq_of_beq_eq_true hb
      subst this
      simp only [cond_true] at h
      split at h
      · exact ⟨_, _, _, hc, by assumption, h⟩
      · cases h
  · cases h
theorem zzlk_mem {ls : zzL} {k : Nat} {v : Value} (h : zzlk ls k = some v) : (k, v) ∈ ls := by
  induction ls with
  | nil => cases h
  | cons q r ih =>
    unfold zzlk at h
    cases hb : q.1.beq k with
    | false => rw [hb] at h; exact List.mem_cons_of_mem _ (ih h)
    | true =>
      rw [hb] at h
      have h1 : q.1 = k := Nat.eq_of_beq_eq_true hb
      have h2 : q.2 = v := Option.some.inj h
      rw [← h1, ← h2]
      exact List.mem_cons_self
def zzlc (ad : Nat → Nat) (ls : zzL) : List (Nat × Value) := ls.map fun q => (q.1, zzcv ad q.2)
theorem zzlc_at {ad : Nat → Nat} {lc : Array Slot} {nL k : Nat} {ls : zzL} {v : Value} (hl : lv_has lc nL (zzlc ad ls)) (h : zzlk ls k = some v) : lc[k]? = some (.val (zzcv ad v)) :=
  hl.2.2 (k, zzcv ad v) (List.mem_map.mpr ⟨(k, v), zzlk_mem h, rfl⟩)
theorem zzlc_set1 {ad : Nat → Nat} {i : Nat} {v : Value} {ls : zzL} : (i, zzcv ad v) :: (zzlc ad ls).filter (fun q => !(q.1 == i) && !(q.1 + 1 == i && q.2.category == 2)) = zzlc ad (zzset1 i v ls) := by
  unfold zzlc zzset1
  rw [List.map_cons, List.filter_map]
  congr 2
  apply List.filter_congr
  intro q _
  simp only [Function.comp, zzcv_cat]
theorem zzlc_set2 {ad : Nat → Nat} {i : Nat} {v : Value} {ls : zzL} : (i, zzcv ad v) :: (zzlc ad ls).filter (fun q => !(q.1 == i) && (!(q.1 == i + 1) && !(q.1 + 1 == i && q.2.category == 2))) = zzlc ad (zzset2 i v ls) := by
  unfold zzlc zzset2
  rw [List.map_cons, List.filter_map]
  congr 2
  apply List.filter_congr
  intro q _
  simp only [Function.comp, zzcv_cat]
theorem zzri_s {μ : zzM} {c n : Nat} {i : Int32} {v : Int32} (h : zzri μ c n i = some v) : vp_in i n ∧ v = μ.1 c i.toNatClampNeg := by
  unfold zzri at h
  split at h
  · cases h
  · exact ⟨by assumption, (Option.some.inj h).symm⟩
theorem zzrl_s {μ : zzM} {c n : Nat} {i : Int32} {v : Int64} (h : zzrl μ c n i = some v) : vp_in i n ∧ v = μ.2 c i.toNatClampNeg := by
  unfold zzrl at h
  split at h
  · cases h
  · exact ⟨by assumption, (Option.some.inj h).symm⟩
theorem zzsi_s {μ μ' : zzM} {c n : Nat} {i v : Int32} (h : zzsi μ c n i v = some μ') : vp_in i n ∧ μ' = zzwI μ c i.toNatClampNeg v := by
  unfold zzsi at h
  split at h
  · cases h
  · exact ⟨by assumption, (Option.some.inj h).symm⟩
theorem zzsl_s {μ μ' : zzM} {c n : Nat} {i : Int32} {v : Int64} (h : zzsl μ c n i v = some μ') : vp_in i n ∧ μ' = zzwL μ c i.toNatClampNeg v := by
  unfold zzsl at h
  split at h
  · cases h
  · exact ⟨by assumption, (Option.some.inj h).symm⟩
-- what a row of code must have
def zztab (pc : Nat) : Nat → List Int → List (Nat × Nat) → Bool
  | _, [], [] => true
  | lo, o :: os, q :: qs => q.1.beq lo && decide ((pc : Int) + o = (q.2 : Int)) && zztab pc (lo + 1) os qs
  | _, _, _ => false
def zzlkp (pc : Nat) : List (Int × Int) → List (Nat × Nat) → Bool
  | [], [] => true
  | a :: os, q :: qs => decide (a.1 = (q.1 : Int)) && decide ((nI q.1).toInt = (q.1 : Int)) && decide ((pc : Int) + a.2 = (q.2 : Int)) && zzlkp pc os qs
  | _, _ => false
/-- a method's words, for whom calls it -/
def zzmw (q : zzT) : Prop := Cond.code q.1 q.2.1 q.2.2.1 q.2.2.2.1 ∈ zzTb ∧ Cond.initialized q.1.cls ∈ zzTb ∧ q.1.cls ≠ "java/lang/invoke/MethodHandle" ∧ q.1.cls ≠ "java/lang/invoke/VarHandle" ∧ q.2.2.1 ≤ 21
/-- calls of a private static method of the outer class -/
def zznest : List (String × Nat × MethodName) := [("PackedForest$Grammar", 60, ⟨"PackedForest", "faultAt", "(II)I"⟩), ("PackedForest$Chart", 32, ⟨"PackedForest", "span", "(II)I"⟩), ("PackedForest$Counts", 61, ⟨"PackedForest", "span", "(II)I"⟩), ("PackedForest$Forest", 35, ⟨"PackedForest", "span", "(II)I"⟩), ("PackedForest$Sizes", 54, ⟨"PackedForest", "span", "(II)I"⟩), ("PackedForest$Mender", 44, ⟨"PackedForest", "span", "(II)I"⟩)]
def zznw (U : State) : Prop := ∀ q ∈ zznest, va_Nw (.methodLinkNest q.1 q.2.1 q.2.2 "PackedForest") U
def zzwd (P : List zzT) (own : String) (nL len pc : Nat) (i : Instr) (aux : List (Nat × Nat)) : Prop := match i with
  | .iconst n => len = 1 ∧ Int32.ofInt n = zzkon (zzfst aux)
  | .bipush n => len = 2 ∧ (Int8.ofInt n).toInt32 = zzkon (zzfst aux)
  | .sipush n => len = 3 ∧ (Int16.ofInt n).toInt32 = zzkon (zzfst aux)
  | .ldc j => len = 2 ∧ Cond.constant own j (zzkon (zzfst aux)) ∈ zzTb
  | .ldc_w j => len = 3 ∧ Cond.constant own j (zzkon (zzfst aux)) ∈ zzTb
  | .lconst n => len = 1 ∧ Int64.ofNat (n : Nat) = zzkol (zzfst aux)
  | .ldc2_w j => len = 3 ∧ Cond.constantLong own j (zzkol (zzfst aux)) ∈ zzTb
  | .iload _ => len = 2
  | .lload _ => len = 2
  | .aload _ => len = 2
  | .iload_n k => len = 1 ∧ (k : Nat) = (zzfst aux).1
  | .lload_n k => len = 1 ∧ (k : Nat) = (zzfst aux).1
  | .aload_n k => len = 1 ∧ (k : Nat) = (zzfst aux).1
  | .istore k => len = 2 ∧ k < nL
  | .lstore k => len = 2 ∧ k + 1 < nL
  | .istore_n k => len = 1 ∧ (k : Nat) = (zzfst aux).1 ∧ (zzfst aux).1 < nL
  | .lstore_n k => len = 1 ∧ (k : Nat) = (zzfst aux).1 ∧ (zzfst aux).1 + 1 < nL
  | .iinc k n => len = 3 ∧ k < nL ∧ Int32.ofInt n = zzkon (zzfst aux)
  | .goto o => len = 3 ∧ (pc : Int) + o = ((zzfst aux).1 : Int)
  | .ifCond _ o => len = 3 ∧ (pc : Int) + o = ((zzfst aux).1 : Int)
  | .if_icmp _ o => len = 3 ∧ (pc : Int) + o = ((zzfst aux).1 : Int)
  | .tableswitch d lo hi os => (pc : Int) + d = ((zzfst aux).1 : Int) ∧ zztab pc lo.toNat os.toList (aux.drop 1) = true ∧ lo = (lo.toNat : Int) ∧ hi + 1 = lo + (os.size : Int) ∧ lo.toNat + os.size < 2147483648
  | .lookupswitch d ps => (pc : Int) + d = ((zzfst aux).1 : Int) ∧ zzlkp pc ps.toList (aux.drop 1) = true ∧ (ps.toList.zip (ps.toList.drop 1)).all (fun (a, next) => a.1 < next.1) = true
  | .getfield j => len = 3 ∧ ∃ r, zzcl[(zzfst aux).1]? = some r ∧ (zzfst aux).2 < r.2.2 ∧ Cond.fieldLink own j (r.2.1 (zzfst aux).2).1 (r.2.1 (zzfst aux).2).2.1 (r.2.1 (zzfst aux).2).2.2.1 ∈ zzTb
  | .putfield j => len = 3 ∧ ∃ r, zzcl[(zzfst aux).1]? = some r ∧ (zzfst aux).2 < r.2.2 ∧ Cond.fieldLink own j (r.2.1 (zzfst aux).2).1 (r.2.1 (zzfst aux).2).2.1 (r.2.1 (zzfst aux).2).2.2.1 ∈ zzTb ∧ (r.2.1 (zzfst aux).2).2.2.2 = false
  | .invokestatic j => len = 3 ∧ (match (zzfst aux).1 with
    | 0 => Cond.methodLink own j arraycopyName ∈ zzTb ∧ (zzfst aux).2 = 5 ∧ (zzsnd aux).1 = 0
    | y + 1 => ∃ q, P[y]? = some q ∧ zzmw q ∧ Cond.static q.1 ∈ zzTb ∧ (zzsnd aux).1 = q.2.2.2.2.1 ∧ (parseMethodDescriptor q.1.desc).map (fun d => d.parameters.length) = some (zzfst aux).2 ∧ (Cond.methodLink own j q.1 ∈ zzTb ∨ (own, j, q.1) ∈ zznest))
  | .invokevirtual j => len = 3 ∧ (match (zzfst aux).1 with
    | 0 => False
    | y + 1 => ∃ q r, P[y]? = some q ∧ zzmw q ∧ zzcl[(zzthd aux).1]? = some r ∧ r.1 = q.1.cls ∧ Cond.instanceMethod q.1 ∈ zzTb ∧ Cond.selects q.1.cls q.1 q.1 ∈ zzTb ∧ (zzsnd aux).1 = q.2.2.2.2.1 ∧ (parseMethodDescriptor q.1.desc).map (fun d => d.parameters.length) = some (zzfst aux).2 ∧ Cond.methodLink own j q.1 ∈ zzTb)
  | _ => len = 1
end
section
def zzrt (rk : Nat) (ret : Option FieldType) : Prop := match rk with
  | 0 => ret = none
  | 1 => ret = some .int
  | 2 => ret = some .long
  | 3 => ∃ n, ret = some (.object n)
  | _ => ret = some .boolean
def zzroom (d : Nat) : Room := { frames := d, cells := 0, slots := 0, locals := 40 * d }
def zzPc (D : va_G) (dA : Nat → ClassId) (ad : Nat → Nat) (as : List Value) (μ : zzM) (sz : Nat) : Array Value → State → Prop := va_Pc (as.map (zzcv ad)) (fun U => U.heap.size = sz ∧ va_P D zzcl (zzworld dA ad μ) U.heap ∧ va_K D zzcl (zztys dA) U ∧ zznw U)
def zzval (ad : Nat → Nat) (rk : Nat) (rr : zzR) : Option Value := match rk with
  | 0 => none
  | 2 => some (.long rr.1.2.1)
  | 3 => some (.ref (ad rr.1.2.2))
  | _ => some (.int rr.1.1)
def zzQ (D : va_G) (dA : Nat → ClassId) (ad : Nat → Nat) (A : Nat → Prop) (rk : Nat) (rr : zzR) : Array Value → State → Outcome → State → Prop := fun _ st oc t => oc = .returned (zzval ad rk rr) ∧ va_P D zzcl (zzworld dA ad rr.2) t.heap ∧ va_K D zzcl (zztys dA) t ∧ va_F A st t
/-- a method's contract -/
def zzMet (l : Launch) (D : va_G) (dA : Nat → ClassId) (ad : Nat → Nat) (d : Nat) (q : zzT) (as : List Value) (μ : zzM) (rr : zzR) : Prop := ∀ sz, Met l q.1 (Cond.code q.1 q.2.1 q.2.2.1 q.2.2.2.1 :: zzTb) (zzroom d) (zzPc D dA ad as μ sz) (zzQ D dA ad (zzA ad sz) q.2.2.2.2.1 rr) 0 0 (zzA ad sz)
/-- what holds all through a method's body -/
def zzX (p : Program) (s : State) (m : MethodId) (args : Array Value) (meth : Method) (c : Code) (cc : ByteArray) (own : String) (nL : Nat) (rk : Nat) (D : va_G) (dA : Nat → ClassId) (ad : Nat → Nat) (A : Nat → Prop) : Prop :=
  p.tables.exec = Jvm.exec ∧ c.code = cc ∧ c.maxLocals = nL ∧ s.vm.findClass own = some m.cls ∧ (∀ w ∈ zzTb, w.before args s = true) ∧ va_K D zzcl (zztys dA) s ∧ zznw s ∧ zzinj ad ∧ (∀ q, zzA ad s.heap.size q → A q) ∧ meth.locks = false ∧ zzrt rk meth.sig.returnType
def zzW (p : Program) (l : Launch) (e : Env) (R : Room) (s : State) (m : MethodId) (args : Array Value) (below : List Frame) (meth : Method) (c : Code) (Q : State → Prop) (D : va_G) (dA : Nat → ClassId) (ad : Nat → Nat) (A : Nat → Prop) (nL pc : Nat) (ls : zzL) (st : List Value) (μ : zzM) : Prop :=
  ∀ (H : Heap) (locs : List Loc) (lc : Array Slot), va_P D zzcl (zzworld dA ad μ) H → va_S A s.heap H locs → lv_has lc nL (zzlc ad ls) → W p l e R s m args below meth c H locs 0 0 Q (F0 m pc lc (st.map (zzcv ad)))
theorem zzgoodIn {y : MethodName} {b : ByteArray} {n : Nat} {r : Option FieldType} (h : Cond.code y b n r ∈ zzTb) : GoodIn zzTb (Cond.code y b n r :: zzTb) := by
  intro w hw
  have hm : w ∈ zzTb := by
    rcases List.mem_cons.mp hw with h1 | h1
    · rw [h1]; exact h
    · exact h1
  exact ⟨hm, good_of_word (zzTb_in hm).2⟩
theorem zzgoodL {l0 ws : List Cond} (h : ∀ w ∈ l0, w ∈ zzTb) (hw : GoodIn zzTb ws) : GoodIn zzTb (l0 ++ ws) := by
  intro w h1
  rcases List.mem_append.mp h1 with h2 | h2
  · exact ⟨h w h2, good_of_word (zzTb_in (h w h2)).2⟩
  · exact hw w h2
theorem zzkd_at {c ci k a b : Nat} {fs : List (Nat × Nat)} {r : vw_C} (hc : zzcells[c]? = some (.inl (ci, fs))) (hr : zzcl[ci]? = some r) (hk : fs[k]? = some (a, b)) : zzkd (parseFieldDescriptor (r.2.1 k).2.2.1) a = true := by
  have h := List.all_eq_true.mp zzkd_all _ (List.mem_of_getElem? hc)
  unfold zzkd_row at h
  simp only [hr, Bool.and_eq_true] at h
  have hl : fs.length = r.2.2 := Nat.eq_of_beq_eq_true h.1
  have hkl : k < fs.length := (List.getElem?_eq_some_iff.mp hk).1
  have h2 := List.all_eq_true.mp h.2 k (List.mem_range.mpr (by rw [← hl]; exact hkl))
  simp only [List.getD_eq_getElem?_getD, hk, Option.getD_some] at h2
  exact h2
theorem zzkd0 {t : Option FieldType} (h : zzkd t 0 = true) : t = some .int := by
  unfold zzkd at h
  split at h <;> first | rfl | (simp_all; done) | cases h
theorem zzkd1 {t : Option FieldType} (h : zzkd t 1 = true) : t = some .boolean := by
  unfold zzkd at h
  split at h <;> first | rfl | (simp_all; done) | cases h
theorem zzkd2 {t : Option FieldType} (h : zzkd t 2 = true) : t = some .long := by
  unfold zzkd at h
  split at h <;> first | rfl | (simp_all; done) | cases h
theorem zznar {v : Int32} (h : v = 0 ∨ v = 1) : vp_nar .boolean v = v := by
  rcases h with rfl | rfl <;> decide
theorem zznarB {v : Int32} (h : v = 0 ∨ v = 1) : narrow .boolean (.int v) = .int v := by
  rcases h with rfl | rfl <;> decide
theorem zzfitB {v : Int32} (h : v = 0 ∨ v = 1) : fits .boolean (.int v) = true := by
  rcases h with rfl | rfl <;> decide
section
variable {p : Program} {l : Launch} {e : Env} {R : Room} {s : State} {m : MethodId} {args : Array Value} {below : List Frame} {meth : Method} {c : Code} {Q : State → Prop} {D : va_G} {dA : Nat → ClassId} {ad : Nat → Nat} {A : Nat → Prop} {nL : Nat} {H : Heap} {locs : List Loc} {lc : Array Slot}
/-- behind a call -/
theorem zzcall {pc rk : Nat} {rr : zzR} {A1 : Nat → Prop} {a : Array Value} {rest st0 : List Value} (hr : va_Run p l e R s m args below meth c H locs 0 0 0 0 (F0 m pc lc st0) rest (zzQ D dA ad A1 rk rr a) A1) (hS : va_S A s.heap H locs) (hA : ∀ q, A1 q → A q)
    (kk : ∀ (H1 : Heap) (locs1 : List Loc), va_P D zzcl (zzworld dA ad rr.2) H1 → va_S A s.heap H1 locs1 → W p l e R s m args below meth c H1 locs1 0 0 Q (F0 m (pc + 3) lc ((zzval ad rk rr).toList ++ rest))) : W p l e R s m args below meth c H locs 0 0 Q (F0 m pc lc st0) := by
  intro T hT X
  obtain ⟨v, st₀, t, T', L, h0, X', hL, e1, e2, ⟨hv, hp, hk, hz, hkk⟩, st⟩ := hr T hT X
  cases hv
  rw [h0] at hz hkk
  obtain ⟨t2, a1, b1⟩ := kk T'.heap (locs ++ L) (by rw [e1]; exact hp)
    ⟨Nat.le_trans hS.1 (by rw [e1]; exact hz), fun q h1 h2 => by rw [e1, hkk q (Nat.lt_of_lt_of_le h1 hS.1) (fun z => h2 (hA q z))]; exact hS.2.1 q h1 h2, fun q hq => by
      rcases List.mem_append.mp hq with h | h
      · exact hS.2.2 q h
      · exact hA _ (hL q h)⟩ T' rfl X'
  exact ⟨t2, st t2 a1, b1⟩
theorem zzAsub {ad : Nat → Nat} {a b : Nat} (h : a ≤ b) : ∀ q, zzA ad b q → zzA ad a q := fun q hq => hq.elim Or.inl (fun z => Or.inr (Nat.le_trans h z))
theorem zzcut_s : ∀ (n : Nat) (st acc as rest : List Value), zzcut n st acc = some (as, rest) → ∃ bs : List Value, bs.length = n ∧ st = bs.reverse ++ rest ∧ as = bs ++ acc
  | 0, st, acc, as, rest, h => by
    obtain ⟨h1, h2⟩ := Prod.mk.inj (Option.some.inj h)
    exact ⟨[], rfl, h2, by rw [← h1]; rfl⟩
  | n + 1, v :: st, acc, as, rest, h => by
    obtain ⟨bs, h1, h2, h3⟩ := zzcut_s n st (v :: acc) as rest h
    refine ⟨bs ++ [v], by rw [List.length_append, h1]; rfl, by rw [List.reverse_append, h2]; rfl, by rw [h3, List.append_assoc]; rfl⟩
  | _ + 1, [], _, _, _, h => by cases h
theorem zzcat_s (ad : Nat → Nat) : ∀ st : List Value, ((st.map (zzcv ad)).map fun v => v.category).sum = zzcat st
  | [] => rfl
  | v :: r => by
    rw [List.map_cons, List.map_cons, List.sum_cons, zzcv_cat, zzcat_s ad r]
    rfl
theorem zzres_s {q : Nat × Nat} {o rr : zzR} {f : List Value → Option zzR} (h : zzres q o f = some rr) : ∃ t, t.map (zzcv ad) = (zzval ad q.1 o).toList ∧ f t = some rr := by
  obtain ⟨k, rc⟩ := q
  unfold zzres at h
  dsimp only at h
  split at h
  · exact ⟨_, rfl, h⟩
  · exact ⟨_, rfl, h⟩
  · split at h
    · rename_i he
      exact ⟨_, by rw [← he]; rfl, h⟩
    · cases h
  · rename_i n h0 h2 h3
    refine ⟨_, ?_, h⟩
    unfold zzval
    split
    next hq => exact (h0 hq).elim
    next hq => exact (h2 hq).elim
    next hq => exact (h3 hq).elim
    next => rfl
end
end
section
/-! ONE INSTRUCTION of the small machine, over the machine -/
theorem zzsw_tab {pc : Nat} {x : Int32} {jump : Nat → Option zzR} {d : Nat} {rr : zzR} : ∀ (os : List Int) (qs : List (Nat × Nat)) (lo : Nat), zztab pc lo os qs = true → zzsw x jump d qs = some rr →
    (∃ (j : Nat) (o : Int) (t : Nat), x = nI (lo + j) ∧ os[j]? = some o ∧ (pc : Int) + o = (t : Int) ∧ jump t = some rr) ∨ ((∀ j, j < os.length → x ≠ nI (lo + j)) ∧ jump d = some rr)
  | [], [], lo, _, h => Or.inr ⟨fun j hj => absurd hj (Nat.not_lt_zero _), h⟩
  | [], _ :: _, _, ht, _ => by cases ht
  | _ :: _, [], _, ht, _ => by cases ht
  | o :: os, q :: qs, lo, ht, h => by
    unfold zztab at ht
    simp only [Bool.and_eq_true, decide_eq_true_eq] at ht
    obtain ⟨⟨h1, h2⟩, h3⟩ := ht
    have h1 := Nat.eq_of_beq_eq_true h1
    unfold zzsw at h
    split at h
    · rename_i hx
      exact Or.inl ⟨0, o, q.2, by rw [hx, h1]; rfl, rfl, h2, h⟩
    · rename_i hx
      rcases zzsw_tab os qs (lo + 1) h3 h with ⟨j, o', t, a, b, c, g⟩ | ⟨a, b⟩
      · exact Or.inl ⟨j + 1, o', t, by rw [a]; congr 1; omega, b, c, g⟩
      · refine Or.inr ⟨fun j hj => ?_, b⟩
        cases j with
        | zero => rw [Nat.add_zero, ← h1]; exact hx
        | succ j =>
          have := a j (by simpa using hj)
          rw [show lo + (j + 1) = lo + 1 + j by omega]
          exact this
theorem zzsw_lkp {pc : Nat} {x : Int32} {jump : Nat → Option zzR} {d : Nat} {dd : Int} {rr : zzR} (hd : (pc : Int) + dd = (d : Int)) : ∀ (ps : List (Int × Int)) (qs : List (Nat × Nat)), zzlkp pc ps qs = true → zzsw x jump d qs = some rr →
    ∃ (t : Nat), (pc : Int) + Op.lookupswitch.offset ps dd x.toInt = (t : Int) ∧ jump t = some rr
  | [], [], _, h => ⟨d, hd, h⟩
  | [], _ :: _, ht, _ => by cases ht
  | _ :: _, [], ht, _ => by cases ht
  | a :: ps, q :: qs, ht, h => by
    unfold zzlkp at ht
    simp only [Bool.and_eq_true, decide_eq_true_eq] at ht
    obtain ⟨⟨⟨h1, h2⟩, h3⟩, h4⟩ := ht
    unfold zzsw at h
    rw [Op.lookupswitch.offset_cons]
    split at h
    · rename_i hx
      refine ⟨q.2, ?_, h⟩
      rw [if_pos (by rw [hx, h2, h1])]
      exact h3
    · rename_i hx
      rw [if_neg (fun g => hx (Int32.toInt_inj.mp (by rw [← g, h1, h2])))]
      exact zzsw_lkp hd ps qs h4 h
theorem zzsr_s {i : Int32} {f : Nat → Option zzR} {rr : zzR} : ∀ (ts : List Nat) (k : Nat), zzsr i f k ts = some rr → ∃ (j t : Nat), i = nI (k + j) ∧ ts[j]? = some t ∧ f t = some rr
  | [], _, h => by cases h
  | t :: ts, k, h => by
    unfold zzsr at h
    split at h
    · rename_i hx
      exact ⟨0, t, hx, rfl, h⟩
    · obtain ⟨j, t', a, b, g⟩ := zzsr_s ts (k + 1) h
      exact ⟨j + 1, t', by rw [a]; congr 1; omega, b, g⟩
/-- a call that is no copy: at one room more -/
def zzCl (l : Launch) (D : va_G) (dA : Nat → ClassId) (ad : Nat → Nat) (P : List zzT) (R : Room) (call : Nat → List Value → zzM → Option zzR) : Prop :=
  (∀ y as μ o, call (y + 1) as μ = some o → ∀ q, P[y]? = some q → ∃ d, R = zzroom (d + 1) ∧ zzMet l D dA ad d q as μ o) ∧
  ∀ as μ o, call 0 as μ = some o → (∃ d, R = zzroom (d + 1)) ∧ ∃ (a b n0 n1 : Nat) (t0 t1 : List Nat) (sp dp n : Int32) (μ' : zzM), as = [.ref a, .int sp, .ref b, .int dp, .int n] ∧ zzcells[a]? = some (.inr (0, n0, t0)) ∧ zzcells[b]? = some (.inr (0, n1, t1)) ∧ zzcp μ a n0 sp b n1 dp n = some μ' ∧ o = ((0, 0, 0), μ')
section
variable {p : Program} {l : Launch} {e : Env} {R : Room} {s : State} {m : MethodId} {args : Array Value} {below : List Frame} {meth : Method} {c : Code} {Q : State → Prop} {D : va_G} {dA : Nat → ClassId} {ad : Nat → Nat} {A : Nat → Prop} {nL rk : Nat} {cc : ByteArray} {own : String} {P : List zzT}
theorem zzcp_cell {μ μ' : zzM} {a b n0 n1 : Nat} {sp dp n : Int32} (h : zzcp μ a n0 sp b n1 dp n = some μ') : (¬ sp < 0 ∧ ¬ dp < 0 ∧ ¬ n < 0 ∧ sp.toNatClampNeg + n.toNatClampNeg ≤ n0 ∧ dp.toNatClampNeg + n.toNatClampNeg ≤ n1) ∧ μ'.1 b = va_cpy (μ.1 a) (μ.1 b) sp.toNatClampNeg dp.toNatClampNeg n.toNatClampNeg ∧ (∀ j, j ≠ b → μ'.1 j = μ.1 j) ∧ μ'.2 = μ.2 := by
  unfold zzcp at h
  split at h
  · cases h
  · rename_i hc
    have h := (Option.some.inj h).symm
    subst h
    refine ⟨⟨fun z => hc (Or.inl z), fun z => hc (Or.inr (Or.inl z)), fun z => hc (Or.inr (Or.inr (Or.inl z))), Nat.not_lt.mp fun z => hc (Or.inr (Or.inr (Or.inr (Or.inl z)))), Nat.not_lt.mp fun z => hc (Or.inr (Or.inr (Or.inr (Or.inr z))))⟩, ?_, fun j hj => ?_, rfl⟩
    · funext x; show (if b = b then _ else _) = _; rw [if_pos rfl]
    · funext x; show (if j = b then _ else _) = _; rw [if_neg hj]
set_option maxHeartbeats 400000 in
set_option maxRecDepth 20000 in
theorem zs_iadd {rr : zzR} (hX : zzX p s m args meth c cc own nL rk D dA ad A) (hQ : Q = MQ below (zzQ D dA ad A rk rr) args s 0 0 A) {call : Nat → List Value → zzM → Option zzR} (hcall : zzCl l D dA ad P R call)
    {pc len : Nat} {aux : List (Nat × Nat)} (hdg : decode cc pc = .ok (.iadd, len)) (hw : zzwd P own nL len pc (.iadd) aux) {ls : zzL} {st : List Value} {μ : zzM} {next : zzL → List Value → zzM → Option zzR} {jump : Nat → List Value → Option zzR}
    (h : zzstep call rk (.iadd) aux ls st μ next jump = some rr)
    (hn : ∀ ls' st' μ', next ls' st' μ' = some rr → zzW p l e R s m args below meth c Q D dA ad A nL (pc + len) ls' st' μ')
    (hj : ∀ t st', jump t st' = some rr → zzW p l e R s m args below meth c Q D dA ad A nL t ls st' μ) : zzW p l e R s m args below meth c Q D dA ad A nL pc ls st μ := by
  intro H locs lc hP hS hl
  obtain ⟨hx, hb, hml, hown, hts, hK, hnw, hinj, hA, hlocks, hrt⟩ := hX
  have hD : ∀ μ, va_D A (zzworld dA ad μ) := fun μ => zzD_of hinj (fun i hi => hA _ (Or.inl ⟨i, hi, rfl⟩))
  obtain ⟨x, y, r, he9, h9⟩ := zzp2_s h
  clear h
  subst he9
  have h := h9
  clear h9
  try dsimp only at h
  cases hw
  exact lv_iadd hx hb hdg (hn _ _ _ h H locs lc hP hS hl)
set_option maxHeartbeats 400000 in
set_option maxRecDepth 20000 in
theorem zs_isub {rr : zzR} (hX : zzX p s m args meth c cc own nL rk D dA ad A) (hQ : Q = MQ below (zzQ D dA ad A rk rr) args s 0 0 A) {call : Nat → List Value → zzM → Option zzR} (hcall : zzCl l D dA ad P R call)
    {pc len : Nat} {aux : List (Nat × Nat)} (hdg : decode cc pc = .ok (.isub, len)) (hw : zzwd P own nL len pc (.isub) aux) {ls : zzL} {st : List Value} {μ : zzM} {next : zzL → List Value → zzM → Option zzR} {jump : Nat → List Value → Option zzR}
    (h : zzstep call rk (.isub) aux ls st μ next jump = some rr)
    (hn : ∀ ls' st' μ', next ls' st' μ' = some rr → zzW p l e R s m args below meth c Q D dA ad A nL (pc + len) ls' st' μ')
    (hj : ∀ t st', jump t st' = some rr → zzW p l e R s m args below meth c Q D dA ad A nL t ls st' μ) : zzW p l e R s m args below meth c Q D dA ad A nL pc ls st μ := by
  intro H locs lc hP hS hl
  obtain ⟨hx, hb, hml, hown, hts, hK, hnw, hinj, hA, hlocks, hrt⟩ := hX
  have hD : ∀ μ, va_D A (zzworld dA ad μ) := fun μ => zzD_of hinj (fun i hi => hA _ (Or.inl ⟨i, hi, rfl⟩))
  obtain ⟨x, y, r, he9, h9⟩ := zzp2_s h
  clear h
  subst he9
  have h := h9
  clear h9
  try dsimp only at h
  cases hw
  exact lv_isub hx hb hdg (hn _ _ _ h H locs lc hP hS hl)
set_option maxHeartbeats 400000 in
set_option maxRecDepth 20000 in
theorem zs_imul {rr : zzR} (hX : zzX p s m args meth c cc own nL rk D dA ad A) (hQ : Q = MQ below (zzQ D dA ad A rk rr) args s 0 0 A) {call : Nat → List Value → zzM → Option zzR} (hcall : zzCl l D dA ad P R call)
    {pc len : Nat} {aux : List (Nat × Nat)} (hdg : decode cc pc = .ok (.imul, len)) (hw : zzwd P own nL len pc (.imul) aux) {ls : zzL} {st : List Value} {μ : zzM} {next : zzL → List Value → zzM → Option zzR} {jump : Nat → List Value → Option zzR}
    (h : zzstep call rk (.imul) aux ls st μ next jump = some rr)
    (hn : ∀ ls' st' μ', next ls' st' μ' = some rr → zzW p l e R s m args below meth c Q D dA ad A nL (pc + len) ls' st' μ')
    (hj : ∀ t st', jump t st' = some rr → zzW p l e R s m args below meth c Q D dA ad A nL t ls st' μ) : zzW p l e R s m args below meth c Q D dA ad A nL pc ls st μ := by
  intro H locs lc hP hS hl
  obtain ⟨hx, hb, hml, hown, hts, hK, hnw, hinj, hA, hlocks, hrt⟩ := hX
  have hD : ∀ μ, va_D A (zzworld dA ad μ) := fun μ => zzD_of hinj (fun i hi => hA _ (Or.inl ⟨i, hi, rfl⟩))
  obtain ⟨x, y, r, he9, h9⟩ := zzp2_s h
  clear h
  subst he9
  have h := h9
  clear h9
  try dsimp only at h
  cases hw
  exact lv_imul hx hb hdg (hn _ _ _ h H locs lc hP hS hl)
set_option maxHeartbeats 400000 in
set_option maxRecDepth 20000 in
theorem zs_iand {rr : zzR} (hX : zzX p s m args meth c cc own nL rk D dA ad A) (hQ : Q = MQ below (zzQ D dA ad A rk rr) args s 0 0 A) {call : Nat → List Value → zzM → Option zzR} (hcall : zzCl l D dA ad P R call)
    {pc len : Nat} {aux : List (Nat × Nat)} (hdg : decode cc pc = .ok (.iand, len)) (hw : zzwd P own nL len pc (.iand) aux) {ls : zzL} {st : List Value} {μ : zzM} {next : zzL → List Value → zzM → Option zzR} {jump : Nat → List Value → Option zzR}
    (h : zzstep call rk (.iand) aux ls st μ next jump = some rr)
    (hn : ∀ ls' st' μ', next ls' st' μ' = some rr → zzW p l e R s m args below meth c Q D dA ad A nL (pc + len) ls' st' μ')
    (hj : ∀ t st', jump t st' = some rr → zzW p l e R s m args below meth c Q D dA ad A nL t ls st' μ) : zzW p l e R s m args below meth c Q D dA ad A nL pc ls st μ := by
  intro H locs lc hP hS hl
  obtain ⟨hx, hb, hml, hown, hts, hK, hnw, hinj, hA, hlocks, hrt⟩ := hX
  have hD : ∀ μ, va_D A (zzworld dA ad μ) := fun μ => zzD_of hinj (fun i hi => hA _ (Or.inl ⟨i, hi, rfl⟩))
  obtain ⟨x, y, r, he9, h9⟩ := zzp2_s h
  clear h
  subst he9
  have h := h9
  clear h9
  try dsimp only at h
  cases hw
  exact lv_iand hx hb hdg (hn _ _ _ h H locs lc hP hS hl)
set_option maxHeartbeats 400000 in
set_option maxRecDepth 20000 in
theorem zs_ior {rr : zzR} (hX : zzX p s m args meth c cc own nL rk D dA ad A) (hQ : Q = MQ below (zzQ D dA ad A rk rr) args s 0 0 A) {call : Nat → List Value → zzM → Option zzR} (hcall : zzCl l D dA ad P R call)
    {pc len : Nat} {aux : List (Nat × Nat)} (hdg : decode cc pc = .ok (.ior, len)) (hw : zzwd P own nL len pc (.ior) aux) {ls : zzL} {st : List Value} {μ : zzM} {next : zzL → List Value → zzM → Option zzR} {jump : Nat → List Value → Option zzR}
    (h : zzstep call rk (.ior) aux ls st μ next jump = some rr)
    (hn : ∀ ls' st' μ', next ls' st' μ' = some rr → zzW p l e R s m args below meth c Q D dA ad A nL (pc + len) ls' st' μ')
    (hj : ∀ t st', jump t st' = some rr → zzW p l e R s m args below meth c Q D dA ad A nL t ls st' μ) : zzW p l e R s m args below meth c Q D dA ad A nL pc ls st μ := by
  intro H locs lc hP hS hl
  obtain ⟨hx, hb, hml, hown, hts, hK, hnw, hinj, hA, hlocks, hrt⟩ := hX
  have hD : ∀ μ, va_D A (zzworld dA ad μ) := fun μ => zzD_of hinj (fun i hi => hA _ (Or.inl ⟨i, hi, rfl⟩))
  obtain ⟨x, y, r, he9, h9⟩ := zzp2_s h
  clear h
  subst he9
  have h := h9
  clear h9
  try dsimp only at h
  cases hw
  exact lv_ior hx hb hdg (hn _ _ _ h H locs lc hP hS hl)
set_option maxHeartbeats 400000 in
set_option maxRecDepth 20000 in
theorem zs_ixor {rr : zzR} (hX : zzX p s m args meth c cc own nL rk D dA ad A) (hQ : Q = MQ below (zzQ D dA ad A rk rr) args s 0 0 A) {call : Nat → List Value → zzM → Option zzR} (hcall : zzCl l D dA ad P R call)
    {pc len : Nat} {aux : List (Nat × Nat)} (hdg : decode cc pc = .ok (.ixor, len)) (hw : zzwd P own nL len pc (.ixor) aux) {ls : zzL} {st : List Value} {μ : zzM} {next : zzL → List Value → zzM → Option zzR} {jump : Nat → List Value → Option zzR}
    (h : zzstep call rk (.ixor) aux ls st μ next jump = some rr)
    (hn : ∀ ls' st' μ', next ls' st' μ' = some rr → zzW p l e R s m args below meth c Q D dA ad A nL (pc + len) ls' st' μ')
    (hj : ∀ t st', jump t st' = some rr → zzW p l e R s m args below meth c Q D dA ad A nL t ls st' μ) : zzW p l e R s m args below meth c Q D dA ad A nL pc ls st μ := by
  intro H locs lc hP hS hl
  obtain ⟨hx, hb, hml, hown, hts, hK, hnw, hinj, hA, hlocks, hrt⟩ := hX
  have hD : ∀ μ, va_D A (zzworld dA ad μ) := fun μ => zzD_of hinj (fun i hi => hA _ (Or.inl ⟨i, hi, rfl⟩))
  obtain ⟨x, y, r, he9, h9⟩ := zzp2_s h
  clear h
  subst he9
  have h := h9
  clear h9
  try dsimp only at h
  cases hw
  exact lv_ixor hx hb hdg (hn _ _ _ h H locs lc hP hS hl)
set_option maxHeartbeats 400000 in
set_option maxRecDepth 20000 in
theorem zs_ishl {rr : zzR} (hX : zzX p s m args meth c cc own nL rk D dA ad A) (hQ : Q = MQ below (zzQ D dA ad A rk rr) args s 0 0 A) {call : Nat → List Value → zzM → Option zzR} (hcall : zzCl l D dA ad P R call)
    {pc len : Nat} {aux : List (Nat × Nat)} (hdg : decode cc pc = .ok (.ishl, len)) (hw : zzwd P own nL len pc (.ishl) aux) {ls : zzL} {st : List Value} {μ : zzM} {next : zzL → List Value → zzM → Option zzR} {jump : Nat → List Value → Option zzR}
    (h : zzstep call rk (.ishl) aux ls st μ next jump = some rr)
    (hn : ∀ ls' st' μ', next ls' st' μ' = some rr → zzW p l e R s m args below meth c Q D dA ad A nL (pc + len) ls' st' μ')
    (hj : ∀ t st', jump t st' = some rr → zzW p l e R s m args below meth c Q D dA ad A nL t ls st' μ) : zzW p l e R s m args below meth c Q D dA ad A nL pc ls st μ := by
  intro H locs lc hP hS hl
  obtain ⟨hx, hb, hml, hown, hts, hK, hnw, hinj, hA, hlocks, hrt⟩ := hX
  have hD : ∀ μ, va_D A (zzworld dA ad μ) := fun μ => zzD_of hinj (fun i hi => hA _ (Or.inl ⟨i, hi, rfl⟩))
  obtain ⟨x, y, r, he9, h9⟩ := zzp2_s h
  clear h
  subst he9
  have h := h9
  clear h9
  try dsimp only at h
  cases hw
  exact lv_ishl hx hb hdg (hn _ _ _ h H locs lc hP hS hl)
set_option maxHeartbeats 400000 in
set_option maxRecDepth 20000 in
theorem zs_ishr {rr : zzR} (hX : zzX p s m args meth c cc own nL rk D dA ad A) (hQ : Q = MQ below (zzQ D dA ad A rk rr) args s 0 0 A) {call : Nat → List Value → zzM → Option zzR} (hcall : zzCl l D dA ad P R call)
    {pc len : Nat} {aux : List (Nat × Nat)} (hdg : decode cc pc = .ok (.ishr, len)) (hw : zzwd P own nL len pc (.ishr) aux) {ls : zzL} {st : List Value} {μ : zzM} {next : zzL → List Value → zzM → Option zzR} {jump : Nat → List Value → Option zzR}
    (h : zzstep call rk (.ishr) aux ls st μ next jump = some rr)
    (hn : ∀ ls' st' μ', next ls' st' μ' = some rr → zzW p l e R s m args below meth c Q D dA ad A nL (pc + len) ls' st' μ')
    (hj : ∀ t st', jump t st' = some rr → zzW p l e R s m args below meth c Q D dA ad A nL t ls st' μ) : zzW p l e R s m args below meth c Q D dA ad A nL pc ls st μ := by
  intro H locs lc hP hS hl
  obtain ⟨hx, hb, hml, hown, hts, hK, hnw, hinj, hA, hlocks, hrt⟩ := hX
  have hD : ∀ μ, va_D A (zzworld dA ad μ) := fun μ => zzD_of hinj (fun i hi => hA _ (Or.inl ⟨i, hi, rfl⟩))
  obtain ⟨x, y, r, he9, h9⟩ := zzp2_s h
  clear h
  subst he9
  have h := h9
  clear h9
  try dsimp only at h
  cases hw
  exact lv_ishr hx hb hdg (hn _ _ _ h H locs lc hP hS hl)
set_option maxHeartbeats 400000 in
set_option maxRecDepth 20000 in
theorem zs_iushr {rr : zzR} (hX : zzX p s m args meth c cc own nL rk D dA ad A) (hQ : Q = MQ below (zzQ D dA ad A rk rr) args s 0 0 A) {call : Nat → List Value → zzM → Option zzR} (hcall : zzCl l D dA ad P R call)
    {pc len : Nat} {aux : List (Nat × Nat)} (hdg : decode cc pc = .ok (.iushr, len)) (hw : zzwd P own nL len pc (.iushr) aux) {ls : zzL} {st : List Value} {μ : zzM} {next : zzL → List Value → zzM → Option zzR} {jump : Nat → List Value → Option zzR}
    (h : zzstep call rk (.iushr) aux ls st μ next jump = some rr)
    (hn : ∀ ls' st' μ', next ls' st' μ' = some rr → zzW p l e R s m args below meth c Q D dA ad A nL (pc + len) ls' st' μ')
    (hj : ∀ t st', jump t st' = some rr → zzW p l e R s m args below meth c Q D dA ad A nL t ls st' μ) : zzW p l e R s m args below meth c Q D dA ad A nL pc ls st μ := by
  intro H locs lc hP hS hl
  obtain ⟨hx, hb, hml, hown, hts, hK, hnw, hinj, hA, hlocks, hrt⟩ := hX
  have hD : ∀ μ, va_D A (zzworld dA ad μ) := fun μ => zzD_of hinj (fun i hi => hA _ (Or.inl ⟨i, hi, rfl⟩))
  obtain ⟨x, y, r, he9, h9⟩ := zzp2_s h
  clear h
  subst he9
  have h := h9
  clear h9
  try dsimp only at h
  cases hw
  exact lv_iushr hx hb hdg rfl (hn _ _ _ h H locs lc hP hS hl)
set_option maxHeartbeats 400000 in
set_option maxRecDepth 20000 in
theorem zs_idiv {rr : zzR} (hX : zzX p s m args meth c cc own nL rk D dA ad A) (hQ : Q = MQ below (zzQ D dA ad A rk rr) args s 0 0 A) {call : Nat → List Value → zzM → Option zzR} (hcall : zzCl l D dA ad P R call)
    {pc len : Nat} {aux : List (Nat × Nat)} (hdg : decode cc pc = .ok (.idiv, len)) (hw : zzwd P own nL len pc (.idiv) aux) {ls : zzL} {st : List Value} {μ : zzM} {next : zzL → List Value → zzM → Option zzR} {jump : Nat → List Value → Option zzR}
    (h : zzstep call rk (.idiv) aux ls st μ next jump = some rr)
    (hn : ∀ ls' st' μ', next ls' st' μ' = some rr → zzW p l e R s m args below meth c Q D dA ad A nL (pc + len) ls' st' μ')
    (hj : ∀ t st', jump t st' = some rr → zzW p l e R s m args below meth c Q D dA ad A nL t ls st' μ) : zzW p l e R s m args below meth c Q D dA ad A nL pc ls st μ := by
  intro H locs lc hP hS hl
  obtain ⟨hx, hb, hml, hown, hts, hK, hnw, hinj, hA, hlocks, hrt⟩ := hX
  have hD : ∀ μ, va_D A (zzworld dA ad μ) := fun μ => zzD_of hinj (fun i hi => hA _ (Or.inl ⟨i, hi, rfl⟩))
  obtain ⟨x, y, r, he9, h9⟩ := zzp2_s h
  clear h
  subst he9
  have h := h9
  clear h9
  try dsimp only at h
  cases hw
  split at h
  · cases h
  · rename_i hne
    exact lv_idiv hx hb hdg hne (hn _ _ _ h H locs lc hP hS hl)
set_option maxHeartbeats 400000 in
set_option maxRecDepth 20000 in
theorem zs_irem {rr : zzR} (hX : zzX p s m args meth c cc own nL rk D dA ad A) (hQ : Q = MQ below (zzQ D dA ad A rk rr) args s 0 0 A) {call : Nat → List Value → zzM → Option zzR} (hcall : zzCl l D dA ad P R call)
    {pc len : Nat} {aux : List (Nat × Nat)} (hdg : decode cc pc = .ok (.irem, len)) (hw : zzwd P own nL len pc (.irem) aux) {ls : zzL} {st : List Value} {μ : zzM} {next : zzL → List Value → zzM → Option zzR} {jump : Nat → List Value → Option zzR}
    (h : zzstep call rk (.irem) aux ls st μ next jump = some rr)
    (hn : ∀ ls' st' μ', next ls' st' μ' = some rr → zzW p l e R s m args below meth c Q D dA ad A nL (pc + len) ls' st' μ')
    (hj : ∀ t st', jump t st' = some rr → zzW p l e R s m args below meth c Q D dA ad A nL t ls st' μ) : zzW p l e R s m args below meth c Q D dA ad A nL pc ls st μ := by
  intro H locs lc hP hS hl
  obtain ⟨hx, hb, hml, hown, hts, hK, hnw, hinj, hA, hlocks, hrt⟩ := hX
  have hD : ∀ μ, va_D A (zzworld dA ad μ) := fun μ => zzD_of hinj (fun i hi => hA _ (Or.inl ⟨i, hi, rfl⟩))
  obtain ⟨x, y, r, he9, h9⟩ := zzp2_s h
  clear h
  subst he9
  have h := h9
  clear h9
  try dsimp only at h
  cases hw
  split at h
  · cases h
  · rename_i hne
    exact lv_irem hx hb hdg hne (hn _ _ _ h H locs lc hP hS hl)
set_option maxHeartbeats 400000 in
set_option maxRecDepth 20000 in
theorem zs_ladd {rr : zzR} (hX : zzX p s m args meth c cc own nL rk D dA ad A) (hQ : Q = MQ below (zzQ D dA ad A rk rr) args s 0 0 A) {call : Nat → List Value → zzM → Option zzR} (hcall : zzCl l D dA ad P R call)
    {pc len : Nat} {aux : List (Nat × Nat)} (hdg : decode cc pc = .ok (.ladd, len)) (hw : zzwd P own nL len pc (.ladd) aux) {ls : zzL} {st : List Value} {μ : zzM} {next : zzL → List Value → zzM → Option zzR} {jump : Nat → List Value → Option zzR}
    (h : zzstep call rk (.ladd) aux ls st μ next jump = some rr)
    (hn : ∀ ls' st' μ', next ls' st' μ' = some rr → zzW p l e R s m args below meth c Q D dA ad A nL (pc + len) ls' st' μ')
    (hj : ∀ t st', jump t st' = some rr → zzW p l e R s m args below meth c Q D dA ad A nL t ls st' μ) : zzW p l e R s m args below meth c Q D dA ad A nL pc ls st μ := by
  intro H locs lc hP hS hl
  obtain ⟨hx, hb, hml, hown, hts, hK, hnw, hinj, hA, hlocks, hrt⟩ := hX
  have hD : ∀ μ, va_D A (zzworld dA ad μ) := fun μ => zzD_of hinj (fun i hi => hA _ (Or.inl ⟨i, hi, rfl⟩))
  obtain ⟨x, y, r, he9, h9⟩ := zzq2_s h
  clear h
  subst he9
  have h := h9
  clear h9
  try dsimp only at h
  cases hw
  exact lv_ladd hx hb hdg (hn _ _ _ h H locs lc hP hS hl)
set_option maxHeartbeats 400000 in
set_option maxRecDepth 20000 in
theorem zs_lsub {rr : zzR} (hX : zzX p s m args meth c cc own nL rk D dA ad A) (hQ : Q = MQ below (zzQ D dA ad A rk rr) args s 0 0 A) {call : Nat → List Value → zzM → Option zzR} (hcall : zzCl l D dA ad P R call)
    {pc len : Nat} {aux : List (Nat × Nat)} (hdg : decode cc pc = .ok (.lsub, len)) (hw : zzwd P own nL len pc (.lsub) aux) {ls : zzL} {st : List Value} {μ : zzM} {next : zzL → List Value → zzM → Option zzR} {jump : Nat → List Value → Option zzR}
    (h : zzstep call rk (.lsub) aux ls st μ next jump = some rr)
    (hn : ∀ ls' st' μ', next ls' st' μ' = some rr → zzW p l e R s m args below meth c Q D dA ad A nL (pc + len) ls' st' μ')
    (hj : ∀ t st', jump t st' = some rr → zzW p l e R s m args below meth c Q D dA ad A nL t ls st' μ) : zzW p l e R s m args below meth c Q D dA ad A nL pc ls st μ := by
  intro H locs lc hP hS hl
  obtain ⟨hx, hb, hml, hown, hts, hK, hnw, hinj, hA, hlocks, hrt⟩ := hX
  have hD : ∀ μ, va_D A (zzworld dA ad μ) := fun μ => zzD_of hinj (fun i hi => hA _ (Or.inl ⟨i, hi, rfl⟩))
  obtain ⟨x, y, r, he9, h9⟩ := zzq2_s h
  clear h
  subst he9
  have h := h9
  clear h9
  try dsimp only at h
  cases hw
  exact lv_lsub hx hb hdg (hn _ _ _ h H locs lc hP hS hl)
set_option maxHeartbeats 400000 in
set_option maxRecDepth 20000 in
theorem zs_lmul {rr : zzR} (hX : zzX p s m args meth c cc own nL rk D dA ad A) (hQ : Q = MQ below (zzQ D dA ad A rk rr) args s 0 0 A) {call : Nat → List Value → zzM → Option zzR} (hcall : zzCl l D dA ad P R call)
    {pc len : Nat} {aux : List (Nat × Nat)} (hdg : decode cc pc = .ok (.lmul, len)) (hw : zzwd P own nL len pc (.lmul) aux) {ls : zzL} {st : List Value} {μ : zzM} {next : zzL → List Value → zzM → Option zzR} {jump : Nat → List Value → Option zzR}
    (h : zzstep call rk (.lmul) aux ls st μ next jump = some rr)
    (hn : ∀ ls' st' μ', next ls' st' μ' = some rr → zzW p l e R s m args below meth c Q D dA ad A nL (pc + len) ls' st' μ')
    (hj : ∀ t st', jump t st' = some rr → zzW p l e R s m args below meth c Q D dA ad A nL t ls st' μ) : zzW p l e R s m args below meth c Q D dA ad A nL pc ls st μ := by
  intro H locs lc hP hS hl
  obtain ⟨hx, hb, hml, hown, hts, hK, hnw, hinj, hA, hlocks, hrt⟩ := hX
  have hD : ∀ μ, va_D A (zzworld dA ad μ) := fun μ => zzD_of hinj (fun i hi => hA _ (Or.inl ⟨i, hi, rfl⟩))
  obtain ⟨x, y, r, he9, h9⟩ := zzq2_s h
  clear h
  subst he9
  have h := h9
  clear h9
  try dsimp only at h
  cases hw
  exact lv_lmul hx hb hdg (hn _ _ _ h H locs lc hP hS hl)
set_option maxHeartbeats 400000 in
set_option maxRecDepth 20000 in
theorem zs_land {rr : zzR} (hX : zzX p s m args meth c cc own nL rk D dA ad A) (hQ : Q = MQ below (zzQ D dA ad A rk rr) args s 0 0 A) {call : Nat → List Value → zzM → Option zzR} (hcall : zzCl l D dA ad P R call)
    {pc len : Nat} {aux : List (Nat × Nat)} (hdg : decode cc pc = .ok (.land, len)) (hw : zzwd P own nL len pc (.land) aux) {ls : zzL} {st : List Value} {μ : zzM} {next : zzL → List Value → zzM → Option zzR} {jump : Nat → List Value → Option zzR}
    (h : zzstep call rk (.land) aux ls st μ next jump = some rr)
    (hn : ∀ ls' st' μ', next ls' st' μ' = some rr → zzW p l e R s m args below meth c Q D dA ad A nL (pc + len) ls' st' μ')
    (hj : ∀ t st', jump t st' = some rr → zzW p l e R s m args below meth c Q D dA ad A nL t ls st' μ) : zzW p l e R s m args below meth c Q D dA ad A nL pc ls st μ := by
  intro H locs lc hP hS hl
  obtain ⟨hx, hb, hml, hown, hts, hK, hnw, hinj, hA, hlocks, hrt⟩ := hX
  have hD : ∀ μ, va_D A (zzworld dA ad μ) := fun μ => zzD_of hinj (fun i hi => hA _ (Or.inl ⟨i, hi, rfl⟩))
  obtain ⟨x, y, r, he9, h9⟩ := zzq2_s h
  clear h
  subst he9
  have h := h9
  clear h9
  try dsimp only at h
  cases hw
  exact lv_land hx hb hdg (hn _ _ _ h H locs lc hP hS hl)
set_option maxHeartbeats 400000 in
set_option maxRecDepth 20000 in
theorem zs_lor {rr : zzR} (hX : zzX p s m args meth c cc own nL rk D dA ad A) (hQ : Q = MQ below (zzQ D dA ad A rk rr) args s 0 0 A) {call : Nat → List Value → zzM → Option zzR} (hcall : zzCl l D dA ad P R call)
    {pc len : Nat} {aux : List (Nat × Nat)} (hdg : decode cc pc = .ok (.lor, len)) (hw : zzwd P own nL len pc (.lor) aux) {ls : zzL} {st : List Value} {μ : zzM} {next : zzL → List Value → zzM → Option zzR} {jump : Nat → List Value → Option zzR}
    (h : zzstep call rk (.lor) aux ls st μ next jump = some rr)
    (hn : ∀ ls' st' μ', next ls' st' μ' = some rr → zzW p l e R s m args below meth c Q D dA ad A nL (pc + len) ls' st' μ')
    (hj : ∀ t st', jump t st' = some rr → zzW p l e R s m args below meth c Q D dA ad A nL t ls st' μ) : zzW p l e R s m args below meth c Q D dA ad A nL pc ls st μ := by
  intro H locs lc hP hS hl
  obtain ⟨hx, hb, hml, hown, hts, hK, hnw, hinj, hA, hlocks, hrt⟩ := hX
  have hD : ∀ μ, va_D A (zzworld dA ad μ) := fun μ => zzD_of hinj (fun i hi => hA _ (Or.inl ⟨i, hi, rfl⟩))
  obtain ⟨x, y, r, he9, h9⟩ := zzq2_s h
  clear h
  subst he9
  have h := h9
  clear h9
  try dsimp only at h
  cases hw
  exact lv_lor hx hb hdg (hn _ _ _ h H locs lc hP hS hl)
set_option maxHeartbeats 400000 in
set_option maxRecDepth 20000 in
theorem zs_lrem {rr : zzR} (hX : zzX p s m args meth c cc own nL rk D dA ad A) (hQ : Q = MQ below (zzQ D dA ad A rk rr) args s 0 0 A) {call : Nat → List Value → zzM → Option zzR} (hcall : zzCl l D dA ad P R call)
    {pc len : Nat} {aux : List (Nat × Nat)} (hdg : decode cc pc = .ok (.lrem, len)) (hw : zzwd P own nL len pc (.lrem) aux) {ls : zzL} {st : List Value} {μ : zzM} {next : zzL → List Value → zzM → Option zzR} {jump : Nat → List Value → Option zzR}
    (h : zzstep call rk (.lrem) aux ls st μ next jump = some rr)
    (hn : ∀ ls' st' μ', next ls' st' μ' = some rr → zzW p l e R s m args below meth c Q D dA ad A nL (pc + len) ls' st' μ')
    (hj : ∀ t st', jump t st' = some rr → zzW p l e R s m args below meth c Q D dA ad A nL t ls st' μ) : zzW p l e R s m args below meth c Q D dA ad A nL pc ls st μ := by
  intro H locs lc hP hS hl
  obtain ⟨hx, hb, hml, hown, hts, hK, hnw, hinj, hA, hlocks, hrt⟩ := hX
  have hD : ∀ μ, va_D A (zzworld dA ad μ) := fun μ => zzD_of hinj (fun i hi => hA _ (Or.inl ⟨i, hi, rfl⟩))
  obtain ⟨x, y, r, he9, h9⟩ := zzq2_s h
  clear h
  subst he9
  have h := h9
  clear h9
  try dsimp only at h
  cases hw
  split at h
  · cases h
  · rename_i hne
    exact lv_lrem hx hb hdg hne (hn _ _ _ h H locs lc hP hS hl)
set_option maxHeartbeats 400000 in
set_option maxRecDepth 20000 in
theorem zs_lcmp {rr : zzR} (hX : zzX p s m args meth c cc own nL rk D dA ad A) (hQ : Q = MQ below (zzQ D dA ad A rk rr) args s 0 0 A) {call : Nat → List Value → zzM → Option zzR} (hcall : zzCl l D dA ad P R call)
    {pc len : Nat} {aux : List (Nat × Nat)} (hdg : decode cc pc = .ok (.lcmp, len)) (hw : zzwd P own nL len pc (.lcmp) aux) {ls : zzL} {st : List Value} {μ : zzM} {next : zzL → List Value → zzM → Option zzR} {jump : Nat → List Value → Option zzR}
    (h : zzstep call rk (.lcmp) aux ls st μ next jump = some rr)
    (hn : ∀ ls' st' μ', next ls' st' μ' = some rr → zzW p l e R s m args below meth c Q D dA ad A nL (pc + len) ls' st' μ')
    (hj : ∀ t st', jump t st' = some rr → zzW p l e R s m args below meth c Q D dA ad A nL t ls st' μ) : zzW p l e R s m args below meth c Q D dA ad A nL pc ls st μ := by
  intro H locs lc hP hS hl
  obtain ⟨hx, hb, hml, hown, hts, hK, hnw, hinj, hA, hlocks, hrt⟩ := hX
  have hD : ∀ μ, va_D A (zzworld dA ad μ) := fun μ => zzD_of hinj (fun i hi => hA _ (Or.inl ⟨i, hi, rfl⟩))
  obtain ⟨x, y, r, he9, h9⟩ := zzq2_s h
  clear h
  subst he9
  have h := h9
  clear h9
  try dsimp only at h
  cases hw
  exact W.lcmp hx hb hdg (hn _ _ _ h H locs lc hP hS hl)
set_option maxHeartbeats 400000 in
set_option maxRecDepth 20000 in
theorem zs_lshl {rr : zzR} (hX : zzX p s m args meth c cc own nL rk D dA ad A) (hQ : Q = MQ below (zzQ D dA ad A rk rr) args s 0 0 A) {call : Nat → List Value → zzM → Option zzR} (hcall : zzCl l D dA ad P R call)
    {pc len : Nat} {aux : List (Nat × Nat)} (hdg : decode cc pc = .ok (.lshl, len)) (hw : zzwd P own nL len pc (.lshl) aux) {ls : zzL} {st : List Value} {μ : zzM} {next : zzL → List Value → zzM → Option zzR} {jump : Nat → List Value → Option zzR}
    (h : zzstep call rk (.lshl) aux ls st μ next jump = some rr)
    (hn : ∀ ls' st' μ', next ls' st' μ' = some rr → zzW p l e R s m args below meth c Q D dA ad A nL (pc + len) ls' st' μ')
    (hj : ∀ t st', jump t st' = some rr → zzW p l e R s m args below meth c Q D dA ad A nL t ls st' μ) : zzW p l e R s m args below meth c Q D dA ad A nL pc ls st μ := by
  intro H locs lc hP hS hl
  obtain ⟨hx, hb, hml, hown, hts, hK, hnw, hinj, hA, hlocks, hrt⟩ := hX
  have hD : ∀ μ, va_D A (zzworld dA ad μ) := fun μ => zzD_of hinj (fun i hi => hA _ (Or.inl ⟨i, hi, rfl⟩))
  obtain ⟨x, y, r, he9, h9⟩ := zzqs_s h
  clear h
  subst he9
  have h := h9
  clear h9
  try dsimp only at h
  cases hw
  exact lv_lshl hx hb hdg rfl (hn _ _ _ h H locs lc hP hS hl)
set_option maxHeartbeats 400000 in
set_option maxRecDepth 20000 in
theorem zs_lshr {rr : zzR} (hX : zzX p s m args meth c cc own nL rk D dA ad A) (hQ : Q = MQ below (zzQ D dA ad A rk rr) args s 0 0 A) {call : Nat → List Value → zzM → Option zzR} (hcall : zzCl l D dA ad P R call)
    {pc len : Nat} {aux : List (Nat × Nat)} (hdg : decode cc pc = .ok (.lshr, len)) (hw : zzwd P own nL len pc (.lshr) aux) {ls : zzL} {st : List Value} {μ : zzM} {next : zzL → List Value → zzM → Option zzR} {jump : Nat → List Value → Option zzR}
    (h : zzstep call rk (.lshr) aux ls st μ next jump = some rr)
    (hn : ∀ ls' st' μ', next ls' st' μ' = some rr → zzW p l e R s m args below meth c Q D dA ad A nL (pc + len) ls' st' μ')
    (hj : ∀ t st', jump t st' = some rr → zzW p l e R s m args below meth c Q D dA ad A nL t ls st' μ) : zzW p l e R s m args below meth c Q D dA ad A nL pc ls st μ := by
  intro H locs lc hP hS hl
  obtain ⟨hx, hb, hml, hown, hts, hK, hnw, hinj, hA, hlocks, hrt⟩ := hX
  have hD : ∀ μ, va_D A (zzworld dA ad μ) := fun μ => zzD_of hinj (fun i hi => hA _ (Or.inl ⟨i, hi, rfl⟩))
  obtain ⟨x, y, r, he9, h9⟩ := zzqs_s h
  clear h
  subst he9
  have h := h9
  clear h9
  try dsimp only at h
  cases hw
  exact lv_lshr hx hb hdg rfl (hn _ _ _ h H locs lc hP hS hl)
set_option maxHeartbeats 400000 in
set_option maxRecDepth 20000 in
theorem zs_i2l {rr : zzR} (hX : zzX p s m args meth c cc own nL rk D dA ad A) (hQ : Q = MQ below (zzQ D dA ad A rk rr) args s 0 0 A) {call : Nat → List Value → zzM → Option zzR} (hcall : zzCl l D dA ad P R call)
    {pc len : Nat} {aux : List (Nat × Nat)} (hdg : decode cc pc = .ok (.i2l, len)) (hw : zzwd P own nL len pc (.i2l) aux) {ls : zzL} {st : List Value} {μ : zzM} {next : zzL → List Value → zzM → Option zzR} {jump : Nat → List Value → Option zzR}
    (h : zzstep call rk (.i2l) aux ls st μ next jump = some rr)
    (hn : ∀ ls' st' μ', next ls' st' μ' = some rr → zzW p l e R s m args below meth c Q D dA ad A nL (pc + len) ls' st' μ')
    (hj : ∀ t st', jump t st' = some rr → zzW p l e R s m args below meth c Q D dA ad A nL t ls st' μ) : zzW p l e R s m args below meth c Q D dA ad A nL pc ls st μ := by
  intro H locs lc hP hS hl
  obtain ⟨hx, hb, hml, hown, hts, hK, hnw, hinj, hA, hlocks, hrt⟩ := hX
  have hD : ∀ μ, va_D A (zzworld dA ad μ) := fun μ => zzD_of hinj (fun i hi => hA _ (Or.inl ⟨i, hi, rfl⟩))
  obtain ⟨x, r, he9, h9⟩ := zzp1_s h
  clear h
  subst he9
  have h := h9
  clear h9
  try dsimp only at h
  cases hw
  exact lv_i2l hx hb hdg rfl (hn _ _ _ h H locs lc hP hS hl)
set_option maxHeartbeats 400000 in
set_option maxRecDepth 20000 in
theorem zs_l2i {rr : zzR} (hX : zzX p s m args meth c cc own nL rk D dA ad A) (hQ : Q = MQ below (zzQ D dA ad A rk rr) args s 0 0 A) {call : Nat → List Value → zzM → Option zzR} (hcall : zzCl l D dA ad P R call)
    {pc len : Nat} {aux : List (Nat × Nat)} (hdg : decode cc pc = .ok (.l2i, len)) (hw : zzwd P own nL len pc (.l2i) aux) {ls : zzL} {st : List Value} {μ : zzM} {next : zzL → List Value → zzM → Option zzR} {jump : Nat → List Value → Option zzR}
    (h : zzstep call rk (.l2i) aux ls st μ next jump = some rr)
    (hn : ∀ ls' st' μ', next ls' st' μ' = some rr → zzW p l e R s m args below meth c Q D dA ad A nL (pc + len) ls' st' μ')
    (hj : ∀ t st', jump t st' = some rr → zzW p l e R s m args below meth c Q D dA ad A nL t ls st' μ) : zzW p l e R s m args below meth c Q D dA ad A nL pc ls st μ := by
  intro H locs lc hP hS hl
  obtain ⟨hx, hb, hml, hown, hts, hK, hnw, hinj, hA, hlocks, hrt⟩ := hX
  have hD : ∀ μ, va_D A (zzworld dA ad μ) := fun μ => zzD_of hinj (fun i hi => hA _ (Or.inl ⟨i, hi, rfl⟩))
  obtain ⟨x, r, he9, h9⟩ := zzq1_s h
  clear h
  subst he9
  have h := h9
  clear h9
  try dsimp only at h
  cases hw
  exact lv_l2i hx hb hdg rfl (hn _ _ _ h H locs lc hP hS hl)
set_option maxHeartbeats 400000 in
set_option maxRecDepth 20000 in
theorem zs_i2b {rr : zzR} (hX : zzX p s m args meth c cc own nL rk D dA ad A) (hQ : Q = MQ below (zzQ D dA ad A rk rr) args s 0 0 A) {call : Nat → List Value → zzM → Option zzR} (hcall : zzCl l D dA ad P R call)
    {pc len : Nat} {aux : List (Nat × Nat)} (hdg : decode cc pc = .ok (.i2b, len)) (hw : zzwd P own nL len pc (.i2b) aux) {ls : zzL} {st : List Value} {μ : zzM} {next : zzL → List Value → zzM → Option zzR} {jump : Nat → List Value → Option zzR}
    (h : zzstep call rk (.i2b) aux ls st μ next jump = some rr)
    (hn : ∀ ls' st' μ', next ls' st' μ' = some rr → zzW p l e R s m args below meth c Q D dA ad A nL (pc + len) ls' st' μ')
    (hj : ∀ t st', jump t st' = some rr → zzW p l e R s m args below meth c Q D dA ad A nL t ls st' μ) : zzW p l e R s m args below meth c Q D dA ad A nL pc ls st μ := by
  intro H locs lc hP hS hl
  obtain ⟨hx, hb, hml, hown, hts, hK, hnw, hinj, hA, hlocks, hrt⟩ := hX
  have hD : ∀ μ, va_D A (zzworld dA ad μ) := fun μ => zzD_of hinj (fun i hi => hA _ (Or.inl ⟨i, hi, rfl⟩))
  obtain ⟨x, r, he9, h9⟩ := zzp1_s h
  clear h
  subst he9
  have h := h9
  clear h9
  try dsimp only at h
  cases hw
  exact lv_i2b hx hb hdg rfl (hn _ _ _ h H locs lc hP hS hl)
set_option maxHeartbeats 400000 in
set_option maxRecDepth 20000 in
theorem zs_iconst {n : Int} {rr : zzR} (hX : zzX p s m args meth c cc own nL rk D dA ad A) (hQ : Q = MQ below (zzQ D dA ad A rk rr) args s 0 0 A) {call : Nat → List Value → zzM → Option zzR} (hcall : zzCl l D dA ad P R call)
    {pc len : Nat} {aux : List (Nat × Nat)} (hdg : decode cc pc = .ok (.iconst n, len)) (hw : zzwd P own nL len pc (.iconst n) aux) {ls : zzL} {st : List Value} {μ : zzM} {next : zzL → List Value → zzM → Option zzR} {jump : Nat → List Value → Option zzR}
    (h : zzstep call rk (.iconst n) aux ls st μ next jump = some rr)
    (hn : ∀ ls' st' μ', next ls' st' μ' = some rr → zzW p l e R s m args below meth c Q D dA ad A nL (pc + len) ls' st' μ')
    (hj : ∀ t st', jump t st' = some rr → zzW p l e R s m args below meth c Q D dA ad A nL t ls st' μ) : zzW p l e R s m args below meth c Q D dA ad A nL pc ls st μ := by
  intro H locs lc hP hS hl
  obtain ⟨hx, hb, hml, hown, hts, hK, hnw, hinj, hA, hlocks, hrt⟩ := hX
  have hD : ∀ μ, va_D A (zzworld dA ad μ) := fun μ => zzD_of hinj (fun i hi => hA _ (Or.inl ⟨i, hi, rfl⟩))
  obtain ⟨rfl, hv⟩ := hw
  exact lv_iconst hx hb hdg hv (hn _ _ _ h H locs lc hP hS hl)
set_option maxHeartbeats 400000 in
set_option maxRecDepth 20000 in
theorem zs_bipush {n : Int} {rr : zzR} (hX : zzX p s m args meth c cc own nL rk D dA ad A) (hQ : Q = MQ below (zzQ D dA ad A rk rr) args s 0 0 A) {call : Nat → List Value → zzM → Option zzR} (hcall : zzCl l D dA ad P R call)
    {pc len : Nat} {aux : List (Nat × Nat)} (hdg : decode cc pc = .ok (.bipush n, len)) (hw : zzwd P own nL len pc (.bipush n) aux) {ls : zzL} {st : List Value} {μ : zzM} {next : zzL → List Value → zzM → Option zzR} {jump : Nat → List Value → Option zzR}
    (h : zzstep call rk (.bipush n) aux ls st μ next jump = some rr)
    (hn : ∀ ls' st' μ', next ls' st' μ' = some rr → zzW p l e R s m args below meth c Q D dA ad A nL (pc + len) ls' st' μ')
    (hj : ∀ t st', jump t st' = some rr → zzW p l e R s m args below meth c Q D dA ad A nL t ls st' μ) : zzW p l e R s m args below meth c Q D dA ad A nL pc ls st μ := by
  intro H locs lc hP hS hl
  obtain ⟨hx, hb, hml, hown, hts, hK, hnw, hinj, hA, hlocks, hrt⟩ := hX
  have hD : ∀ μ, va_D A (zzworld dA ad μ) := fun μ => zzD_of hinj (fun i hi => hA _ (Or.inl ⟨i, hi, rfl⟩))
  obtain ⟨rfl, hv⟩ := hw
  exact lv_bipush hx hb hdg hv (hn _ _ _ h H locs lc hP hS hl)
set_option maxHeartbeats 400000 in
set_option maxRecDepth 20000 in
theorem zs_sipush {n : Int} {rr : zzR} (hX : zzX p s m args meth c cc own nL rk D dA ad A) (hQ : Q = MQ below (zzQ D dA ad A rk rr) args s 0 0 A) {call : Nat → List Value → zzM → Option zzR} (hcall : zzCl l D dA ad P R call)
    {pc len : Nat} {aux : List (Nat × Nat)} (hdg : decode cc pc = .ok (.sipush n, len)) (hw : zzwd P own nL len pc (.sipush n) aux) {ls : zzL} {st : List Value} {μ : zzM} {next : zzL → List Value → zzM → Option zzR} {jump : Nat → List Value → Option zzR}
    (h : zzstep call rk (.sipush n) aux ls st μ next jump = some rr)
    (hn : ∀ ls' st' μ', next ls' st' μ' = some rr → zzW p l e R s m args below meth c Q D dA ad A nL (pc + len) ls' st' μ')
    (hj : ∀ t st', jump t st' = some rr → zzW p l e R s m args below meth c Q D dA ad A nL t ls st' μ) : zzW p l e R s m args below meth c Q D dA ad A nL pc ls st μ := by
  intro H locs lc hP hS hl
  obtain ⟨hx, hb, hml, hown, hts, hK, hnw, hinj, hA, hlocks, hrt⟩ := hX
  have hD : ∀ μ, va_D A (zzworld dA ad μ) := fun μ => zzD_of hinj (fun i hi => hA _ (Or.inl ⟨i, hi, rfl⟩))
  obtain ⟨rfl, hv⟩ := hw
  exact lv_sipush hx hb hdg hv (hn _ _ _ h H locs lc hP hS hl)
set_option maxHeartbeats 400000 in
set_option maxRecDepth 20000 in
theorem zs_lconst {n : Fin 2} {rr : zzR} (hX : zzX p s m args meth c cc own nL rk D dA ad A) (hQ : Q = MQ below (zzQ D dA ad A rk rr) args s 0 0 A) {call : Nat → List Value → zzM → Option zzR} (hcall : zzCl l D dA ad P R call)
    {pc len : Nat} {aux : List (Nat × Nat)} (hdg : decode cc pc = .ok (.lconst n, len)) (hw : zzwd P own nL len pc (.lconst n) aux) {ls : zzL} {st : List Value} {μ : zzM} {next : zzL → List Value → zzM → Option zzR} {jump : Nat → List Value → Option zzR}
    (h : zzstep call rk (.lconst n) aux ls st μ next jump = some rr)
    (hn : ∀ ls' st' μ', next ls' st' μ' = some rr → zzW p l e R s m args below meth c Q D dA ad A nL (pc + len) ls' st' μ')
    (hj : ∀ t st', jump t st' = some rr → zzW p l e R s m args below meth c Q D dA ad A nL t ls st' μ) : zzW p l e R s m args below meth c Q D dA ad A nL pc ls st μ := by
  intro H locs lc hP hS hl
  obtain ⟨hx, hb, hml, hown, hts, hK, hnw, hinj, hA, hlocks, hrt⟩ := hX
  have hD : ∀ μ, va_D A (zzworld dA ad μ) := fun μ => zzD_of hinj (fun i hi => hA _ (Or.inl ⟨i, hi, rfl⟩))
  obtain ⟨rfl, hv⟩ := hw
  exact lv_lconst hx hb hdg hv (hn _ _ _ h H locs lc hP hS hl)
set_option maxHeartbeats 400000 in
set_option maxRecDepth 20000 in
theorem zs_ldc {n : Nat} {rr : zzR} (hX : zzX p s m args meth c cc own nL rk D dA ad A) (hQ : Q = MQ below (zzQ D dA ad A rk rr) args s 0 0 A) {call : Nat → List Value → zzM → Option zzR} (hcall : zzCl l D dA ad P R call)
    {pc len : Nat} {aux : List (Nat × Nat)} (hdg : decode cc pc = .ok (.ldc n, len)) (hw : zzwd P own nL len pc (.ldc n) aux) {ls : zzL} {st : List Value} {μ : zzM} {next : zzL → List Value → zzM → Option zzR} {jump : Nat → List Value → Option zzR}
    (h : zzstep call rk (.ldc n) aux ls st μ next jump = some rr)
    (hn : ∀ ls' st' μ', next ls' st' μ' = some rr → zzW p l e R s m args below meth c Q D dA ad A nL (pc + len) ls' st' μ')
    (hj : ∀ t st', jump t st' = some rr → zzW p l e R s m args below meth c Q D dA ad A nL t ls st' μ) : zzW p l e R s m args below meth c Q D dA ad A nL pc ls st μ := by
  intro H locs lc hP hS hl
  obtain ⟨hx, hb, hml, hown, hts, hK, hnw, hinj, hA, hlocks, hrt⟩ := hX
  have hD : ∀ μ, va_D A (zzworld dA ad μ) := fun μ => zzD_of hinj (fun i hi => hA _ (Or.inl ⟨i, hi, rfl⟩))
  obtain ⟨rfl, hv⟩ := hw
  exact lv_ldc hx hb hown (hts _ hv) hdg (hn _ _ _ h H locs lc hP hS hl)
set_option maxHeartbeats 400000 in
set_option maxRecDepth 20000 in
theorem zs_ldc_w {n : Nat} {rr : zzR} (hX : zzX p s m args meth c cc own nL rk D dA ad A) (hQ : Q = MQ below (zzQ D dA ad A rk rr) args s 0 0 A) {call : Nat → List Value → zzM → Option zzR} (hcall : zzCl l D dA ad P R call)
    {pc len : Nat} {aux : List (Nat × Nat)} (hdg : decode cc pc = .ok (.ldc_w n, len)) (hw : zzwd P own nL len pc (.ldc_w n) aux) {ls : zzL} {st : List Value} {μ : zzM} {next : zzL → List Value → zzM → Option zzR} {jump : Nat → List Value → Option zzR}
    (h : zzstep call rk (.ldc_w n) aux ls st μ next jump = some rr)
    (hn : ∀ ls' st' μ', next ls' st' μ' = some rr → zzW p l e R s m args below meth c Q D dA ad A nL (pc + len) ls' st' μ')
    (hj : ∀ t st', jump t st' = some rr → zzW p l e R s m args below meth c Q D dA ad A nL t ls st' μ) : zzW p l e R s m args below meth c Q D dA ad A nL pc ls st μ := by
  intro H locs lc hP hS hl
  obtain ⟨hx, hb, hml, hown, hts, hK, hnw, hinj, hA, hlocks, hrt⟩ := hX
  have hD : ∀ μ, va_D A (zzworld dA ad μ) := fun μ => zzD_of hinj (fun i hi => hA _ (Or.inl ⟨i, hi, rfl⟩))
  obtain ⟨rfl, hv⟩ := hw
  exact lv_ldcw hx hb hown (hts _ hv) hdg (hn _ _ _ h H locs lc hP hS hl)
set_option maxHeartbeats 400000 in
set_option maxRecDepth 20000 in
theorem zs_ldc2_w {n : Nat} {rr : zzR} (hX : zzX p s m args meth c cc own nL rk D dA ad A) (hQ : Q = MQ below (zzQ D dA ad A rk rr) args s 0 0 A) {call : Nat → List Value → zzM → Option zzR} (hcall : zzCl l D dA ad P R call)
    {pc len : Nat} {aux : List (Nat × Nat)} (hdg : decode cc pc = .ok (.ldc2_w n, len)) (hw : zzwd P own nL len pc (.ldc2_w n) aux) {ls : zzL} {st : List Value} {μ : zzM} {next : zzL → List Value → zzM → Option zzR} {jump : Nat → List Value → Option zzR}
    (h : zzstep call rk (.ldc2_w n) aux ls st μ next jump = some rr)
    (hn : ∀ ls' st' μ', next ls' st' μ' = some rr → zzW p l e R s m args below meth c Q D dA ad A nL (pc + len) ls' st' μ')
    (hj : ∀ t st', jump t st' = some rr → zzW p l e R s m args below meth c Q D dA ad A nL t ls st' μ) : zzW p l e R s m args below meth c Q D dA ad A nL pc ls st μ := by
  intro H locs lc hP hS hl
  obtain ⟨hx, hb, hml, hown, hts, hK, hnw, hinj, hA, hlocks, hrt⟩ := hX
  have hD : ∀ μ, va_D A (zzworld dA ad μ) := fun μ => zzD_of hinj (fun i hi => hA _ (Or.inl ⟨i, hi, rfl⟩))
  obtain ⟨rfl, hv⟩ := hw
  exact lv_ldc2 hx hb hown (hts _ hv) hdg (hn _ _ _ h H locs lc hP hS hl)
set_option maxHeartbeats 400000 in
set_option maxRecDepth 20000 in
theorem zs_iload {k : Nat} {rr : zzR} (hX : zzX p s m args meth c cc own nL rk D dA ad A) (hQ : Q = MQ below (zzQ D dA ad A rk rr) args s 0 0 A) {call : Nat → List Value → zzM → Option zzR} (hcall : zzCl l D dA ad P R call)
    {pc len : Nat} {aux : List (Nat × Nat)} (hdg : decode cc pc = .ok (.iload k, len)) (hw : zzwd P own nL len pc (.iload k) aux) {ls : zzL} {st : List Value} {μ : zzM} {next : zzL → List Value → zzM → Option zzR} {jump : Nat → List Value → Option zzR}
    (h : zzstep call rk (.iload k) aux ls st μ next jump = some rr)
    (hn : ∀ ls' st' μ', next ls' st' μ' = some rr → zzW p l e R s m args below meth c Q D dA ad A nL (pc + len) ls' st' μ')
    (hj : ∀ t st', jump t st' = some rr → zzW p l e R s m args below meth c Q D dA ad A nL t ls st' μ) : zzW p l e R s m args below meth c Q D dA ad A nL pc ls st μ := by
  intro H locs lc hP hS hl
  obtain ⟨hx, hb, hml, hown, hts, hK, hnw, hinj, hA, hlocks, hrt⟩ := hX
  have hD : ∀ μ, va_D A (zzworld dA ad μ) := fun μ => zzD_of hinj (fun i hi => hA _ (Or.inl ⟨i, hi, rfl⟩))
  cases hw
  have h : (match zzlk ls k with
    | some (.int x) => next ls (.int x :: st) μ
    | _ => none) = some rr := h
  split at h
  · rename_i x hv
    exact lv_iload hx hb hdg (zzlc_at hl hv) (hn _ _ _ h H locs lc hP hS hl)
  · cases h
set_option maxHeartbeats 400000 in
set_option maxRecDepth 20000 in
theorem zs_iload_n {k : Fin 4} {rr : zzR} (hX : zzX p s m args meth c cc own nL rk D dA ad A) (hQ : Q = MQ below (zzQ D dA ad A rk rr) args s 0 0 A) {call : Nat → List Value → zzM → Option zzR} (hcall : zzCl l D dA ad P R call)
    {pc len : Nat} {aux : List (Nat × Nat)} (hdg : decode cc pc = .ok (.iload_n k, len)) (hw : zzwd P own nL len pc (.iload_n k) aux) {ls : zzL} {st : List Value} {μ : zzM} {next : zzL → List Value → zzM → Option zzR} {jump : Nat → List Value → Option zzR}
    (h : zzstep call rk (.iload_n k) aux ls st μ next jump = some rr)
    (hn : ∀ ls' st' μ', next ls' st' μ' = some rr → zzW p l e R s m args below meth c Q D dA ad A nL (pc + len) ls' st' μ')
    (hj : ∀ t st', jump t st' = some rr → zzW p l e R s m args below meth c Q D dA ad A nL t ls st' μ) : zzW p l e R s m args below meth c Q D dA ad A nL pc ls st μ := by
  intro H locs lc hP hS hl
  obtain ⟨hx, hb, hml, hown, hts, hK, hnw, hinj, hA, hlocks, hrt⟩ := hX
  have hD : ∀ μ, va_D A (zzworld dA ad μ) := fun μ => zzD_of hinj (fun i hi => hA _ (Or.inl ⟨i, hi, rfl⟩))
  obtain ⟨rfl, hk⟩ := hw
  have h : (match zzlk ls (zzfst aux).1 with
    | some (.int x) => next ls (.int x :: st) μ
    | _ => none) = some rr := h
  split at h
  · rename_i x hv
    exact lv_iload_n hx hb hdg hk (zzlc_at hl hv) (hn _ _ _ h H locs lc hP hS hl)
  · cases h
set_option maxHeartbeats 400000 in
set_option maxRecDepth 20000 in
theorem zs_lload {k : Nat} {rr : zzR} (hX : zzX p s m args meth c cc own nL rk D dA ad A) (hQ : Q = MQ below (zzQ D dA ad A rk rr) args s 0 0 A) {call : Nat → List Value → zzM → Option zzR} (hcall : zzCl l D dA ad P R call)
    {pc len : Nat} {aux : List (Nat × Nat)} (hdg : decode cc pc = .ok (.lload k, len)) (hw : zzwd P own nL len pc (.lload k) aux) {ls : zzL} {st : List Value} {μ : zzM} {next : zzL → List Value → zzM → Option zzR} {jump : Nat → List Value → Option zzR}
    (h : zzstep call rk (.lload k) aux ls st μ next jump = some rr)
    (hn : ∀ ls' st' μ', next ls' st' μ' = some rr → zzW p l e R s m args below meth c Q D dA ad A nL (pc + len) ls' st' μ')
    (hj : ∀ t st', jump t st' = some rr → zzW p l e R s m args below meth c Q D dA ad A nL t ls st' μ) : zzW p l e R s m args below meth c Q D dA ad A nL pc ls st μ := by
  intro H locs lc hP hS hl
  obtain ⟨hx, hb, hml, hown, hts, hK, hnw, hinj, hA, hlocks, hrt⟩ := hX
  have hD : ∀ μ, va_D A (zzworld dA ad μ) := fun μ => zzD_of hinj (fun i hi => hA _ (Or.inl ⟨i, hi, rfl⟩))
  cases hw
  have h : (match zzlk ls k with
    | some (.long x) => next ls (.long x :: st) μ
    | _ => none) = some rr := h
  split at h
  · rename_i x hv
    exact lv_lload hx hb hdg (zzlc_at hl hv) (hn _ _ _ h H locs lc hP hS hl)
  · cases h
set_option maxHeartbeats 400000 in
set_option maxRecDepth 20000 in
theorem zs_lload_n {k : Fin 4} {rr : zzR} (hX : zzX p s m args meth c cc own nL rk D dA ad A) (hQ : Q = MQ below (zzQ D dA ad A rk rr) args s 0 0 A) {call : Nat → List Value → zzM → Option zzR} (hcall : zzCl l D dA ad P R call)
    {pc len : Nat} {aux : List (Nat × Nat)} (hdg : decode cc pc = .ok (.lload_n k, len)) (hw : zzwd P own nL len pc (.lload_n k) aux) {ls : zzL} {st : List Value} {μ : zzM} {next : zzL → List Value → zzM → Option zzR} {jump : Nat → List Value → Option zzR}
    (h : zzstep call rk (.lload_n k) aux ls st μ next jump = some rr)
    (hn : ∀ ls' st' μ', next ls' st' μ' = some rr → zzW p l e R s m args below meth c Q D dA ad A nL (pc + len) ls' st' μ')
    (hj : ∀ t st', jump t st' = some rr → zzW p l e R s m args below meth c Q D dA ad A nL t ls st' μ) : zzW p l e R s m args below meth c Q D dA ad A nL pc ls st μ := by
  intro H locs lc hP hS hl
  obtain ⟨hx, hb, hml, hown, hts, hK, hnw, hinj, hA, hlocks, hrt⟩ := hX
  have hD : ∀ μ, va_D A (zzworld dA ad μ) := fun μ => zzD_of hinj (fun i hi => hA _ (Or.inl ⟨i, hi, rfl⟩))
  obtain ⟨rfl, hk⟩ := hw
  have h : (match zzlk ls (zzfst aux).1 with
    | some (.long x) => next ls (.long x :: st) μ
    | _ => none) = some rr := h
  split at h
  · rename_i x hv
    exact lv_lload_n hx hb hdg hk (zzlc_at hl hv) (hn _ _ _ h H locs lc hP hS hl)
  · cases h
set_option maxHeartbeats 400000 in
set_option maxRecDepth 20000 in
theorem zs_aload {k : Nat} {rr : zzR} (hX : zzX p s m args meth c cc own nL rk D dA ad A) (hQ : Q = MQ below (zzQ D dA ad A rk rr) args s 0 0 A) {call : Nat → List Value → zzM → Option zzR} (hcall : zzCl l D dA ad P R call)
    {pc len : Nat} {aux : List (Nat × Nat)} (hdg : decode cc pc = .ok (.aload k, len)) (hw : zzwd P own nL len pc (.aload k) aux) {ls : zzL} {st : List Value} {μ : zzM} {next : zzL → List Value → zzM → Option zzR} {jump : Nat → List Value → Option zzR}
    (h : zzstep call rk (.aload k) aux ls st μ next jump = some rr)
    (hn : ∀ ls' st' μ', next ls' st' μ' = some rr → zzW p l e R s m args below meth c Q D dA ad A nL (pc + len) ls' st' μ')
    (hj : ∀ t st', jump t st' = some rr → zzW p l e R s m args below meth c Q D dA ad A nL t ls st' μ) : zzW p l e R s m args below meth c Q D dA ad A nL pc ls st μ := by
  intro H locs lc hP hS hl
  obtain ⟨hx, hb, hml, hown, hts, hK, hnw, hinj, hA, hlocks, hrt⟩ := hX
  have hD : ∀ μ, va_D A (zzworld dA ad μ) := fun μ => zzD_of hinj (fun i hi => hA _ (Or.inl ⟨i, hi, rfl⟩))
  cases hw
  have h : (match zzlk ls k with
    | some (.ref x) => next ls (.ref x :: st) μ
    | _ => none) = some rr := h
  split at h
  · rename_i x hv
    exact lv_aload hx hb hdg (zzlc_at hl hv) (hn _ _ _ h H locs lc hP hS hl)
  · cases h
set_option maxHeartbeats 400000 in
set_option maxRecDepth 20000 in
theorem zs_aload_n {k : Fin 4} {rr : zzR} (hX : zzX p s m args meth c cc own nL rk D dA ad A) (hQ : Q = MQ below (zzQ D dA ad A rk rr) args s 0 0 A) {call : Nat → List Value → zzM → Option zzR} (hcall : zzCl l D dA ad P R call)
    {pc len : Nat} {aux : List (Nat × Nat)} (hdg : decode cc pc = .ok (.aload_n k, len)) (hw : zzwd P own nL len pc (.aload_n k) aux) {ls : zzL} {st : List Value} {μ : zzM} {next : zzL → List Value → zzM → Option zzR} {jump : Nat → List Value → Option zzR}
    (h : zzstep call rk (.aload_n k) aux ls st μ next jump = some rr)
    (hn : ∀ ls' st' μ', next ls' st' μ' = some rr → zzW p l e R s m args below meth c Q D dA ad A nL (pc + len) ls' st' μ')
    (hj : ∀ t st', jump t st' = some rr → zzW p l e R s m args below meth c Q D dA ad A nL t ls st' μ) : zzW p l e R s m args below meth c Q D dA ad A nL pc ls st μ := by
  intro H locs lc hP hS hl
  obtain ⟨hx, hb, hml, hown, hts, hK, hnw, hinj, hA, hlocks, hrt⟩ := hX
  have hD : ∀ μ, va_D A (zzworld dA ad μ) := fun μ => zzD_of hinj (fun i hi => hA _ (Or.inl ⟨i, hi, rfl⟩))
  obtain ⟨rfl, hk⟩ := hw
  have h : (match zzlk ls (zzfst aux).1 with
    | some (.ref x) => next ls (.ref x :: st) μ
    | _ => none) = some rr := h
  split at h
  · rename_i x hv
    exact lv_aload_n hx hb hdg hk (zzlc_at hl hv) (hn _ _ _ h H locs lc hP hS hl)
  · cases h
set_option maxHeartbeats 400000 in
set_option maxRecDepth 20000 in
theorem zs_istore {k : Nat} {rr : zzR} (hX : zzX p s m args meth c cc own nL rk D dA ad A) (hQ : Q = MQ below (zzQ D dA ad A rk rr) args s 0 0 A) {call : Nat → List Value → zzM → Option zzR} (hcall : zzCl l D dA ad P R call)
    {pc len : Nat} {aux : List (Nat × Nat)} (hdg : decode cc pc = .ok (.istore k, len)) (hw : zzwd P own nL len pc (.istore k) aux) {ls : zzL} {st : List Value} {μ : zzM} {next : zzL → List Value → zzM → Option zzR} {jump : Nat → List Value → Option zzR}
    (h : zzstep call rk (.istore k) aux ls st μ next jump = some rr)
    (hn : ∀ ls' st' μ', next ls' st' μ' = some rr → zzW p l e R s m args below meth c Q D dA ad A nL (pc + len) ls' st' μ')
    (hj : ∀ t st', jump t st' = some rr → zzW p l e R s m args below meth c Q D dA ad A nL t ls st' μ) : zzW p l e R s m args below meth c Q D dA ad A nL pc ls st μ := by
  intro H locs lc hP hS hl
  obtain ⟨hx, hb, hml, hown, hts, hK, hnw, hinj, hA, hlocks, hrt⟩ := hX
  have hD : ∀ μ, va_D A (zzworld dA ad μ) := fun μ => zzD_of hinj (fun i hi => hA _ (Or.inl ⟨i, hi, rfl⟩))
  obtain ⟨rfl, hk⟩ := hw
  obtain ⟨x, r, he9, h9⟩ := zzp1_s h
  clear h
  subst he9
  have h := h9
  clear h9
  try dsimp only at h
  exact lv_istore hx hb hdg hl hk (zzlc_set1 (ad := ad) (v := .int x)) (fun lc' hl' => hn _ _ _ h H locs lc' hP hS hl')
set_option maxHeartbeats 400000 in
set_option maxRecDepth 20000 in
theorem zs_istore_n {k : Fin 4} {rr : zzR} (hX : zzX p s m args meth c cc own nL rk D dA ad A) (hQ : Q = MQ below (zzQ D dA ad A rk rr) args s 0 0 A) {call : Nat → List Value → zzM → Option zzR} (hcall : zzCl l D dA ad P R call)
    {pc len : Nat} {aux : List (Nat × Nat)} (hdg : decode cc pc = .ok (.istore_n k, len)) (hw : zzwd P own nL len pc (.istore_n k) aux) {ls : zzL} {st : List Value} {μ : zzM} {next : zzL → List Value → zzM → Option zzR} {jump : Nat → List Value → Option zzR}
    (h : zzstep call rk (.istore_n k) aux ls st μ next jump = some rr)
    (hn : ∀ ls' st' μ', next ls' st' μ' = some rr → zzW p l e R s m args below meth c Q D dA ad A nL (pc + len) ls' st' μ')
    (hj : ∀ t st', jump t st' = some rr → zzW p l e R s m args below meth c Q D dA ad A nL t ls st' μ) : zzW p l e R s m args below meth c Q D dA ad A nL pc ls st μ := by
  intro H locs lc hP hS hl
  obtain ⟨hx, hb, hml, hown, hts, hK, hnw, hinj, hA, hlocks, hrt⟩ := hX
  have hD : ∀ μ, va_D A (zzworld dA ad μ) := fun μ => zzD_of hinj (fun i hi => hA _ (Or.inl ⟨i, hi, rfl⟩))
  obtain ⟨rfl, hk, hk2⟩ := hw
  obtain ⟨x, r, he9, h9⟩ := zzp1_s h
  clear h
  subst he9
  have h := h9
  clear h9
  try dsimp only at h
  exact lv_istore_n hx hb hdg hk hl hk2 (zzlc_set1 (ad := ad) (v := .int x)) (fun lc' hl' => hn _ _ _ h H locs lc' hP hS hl')
set_option maxHeartbeats 400000 in
set_option maxRecDepth 20000 in
theorem zs_lstore {k : Nat} {rr : zzR} (hX : zzX p s m args meth c cc own nL rk D dA ad A) (hQ : Q = MQ below (zzQ D dA ad A rk rr) args s 0 0 A) {call : Nat → List Value → zzM → Option zzR} (hcall : zzCl l D dA ad P R call)
    {pc len : Nat} {aux : List (Nat × Nat)} (hdg : decode cc pc = .ok (.lstore k, len)) (hw : zzwd P own nL len pc (.lstore k) aux) {ls : zzL} {st : List Value} {μ : zzM} {next : zzL → List Value → zzM → Option zzR} {jump : Nat → List Value → Option zzR}
    (h : zzstep call rk (.lstore k) aux ls st μ next jump = some rr)
    (hn : ∀ ls' st' μ', next ls' st' μ' = some rr → zzW p l e R s m args below meth c Q D dA ad A nL (pc + len) ls' st' μ')
    (hj : ∀ t st', jump t st' = some rr → zzW p l e R s m args below meth c Q D dA ad A nL t ls st' μ) : zzW p l e R s m args below meth c Q D dA ad A nL pc ls st μ := by
  intro H locs lc hP hS hl
  obtain ⟨hx, hb, hml, hown, hts, hK, hnw, hinj, hA, hlocks, hrt⟩ := hX
  have hD : ∀ μ, va_D A (zzworld dA ad μ) := fun μ => zzD_of hinj (fun i hi => hA _ (Or.inl ⟨i, hi, rfl⟩))
  obtain ⟨rfl, hk⟩ := hw
  obtain ⟨x, r, he9, h9⟩ := zzq1_s h
  clear h
  subst he9
  have h := h9
  clear h9
  try dsimp only at h
  exact lv_lstore hx hb hdg hl hk (zzlc_set2 (ad := ad) (v := .long x)) (fun lc' hl' => hn _ _ _ h H locs lc' hP hS hl')
set_option maxHeartbeats 400000 in
set_option maxRecDepth 20000 in
theorem zs_lstore_n {k : Fin 4} {rr : zzR} (hX : zzX p s m args meth c cc own nL rk D dA ad A) (hQ : Q = MQ below (zzQ D dA ad A rk rr) args s 0 0 A) {call : Nat → List Value → zzM → Option zzR} (hcall : zzCl l D dA ad P R call)
    {pc len : Nat} {aux : List (Nat × Nat)} (hdg : decode cc pc = .ok (.lstore_n k, len)) (hw : zzwd P own nL len pc (.lstore_n k) aux) {ls : zzL} {st : List Value} {μ : zzM} {next : zzL → List Value → zzM → Option zzR} {jump : Nat → List Value → Option zzR}
    (h : zzstep call rk (.lstore_n k) aux ls st μ next jump = some rr)
    (hn : ∀ ls' st' μ', next ls' st' μ' = some rr → zzW p l e R s m args below meth c Q D dA ad A nL (pc + len) ls' st' μ')
    (hj : ∀ t st', jump t st' = some rr → zzW p l e R s m args below meth c Q D dA ad A nL t ls st' μ) : zzW p l e R s m args below meth c Q D dA ad A nL pc ls st μ := by
  intro H locs lc hP hS hl
  obtain ⟨hx, hb, hml, hown, hts, hK, hnw, hinj, hA, hlocks, hrt⟩ := hX
  have hD : ∀ μ, va_D A (zzworld dA ad μ) := fun μ => zzD_of hinj (fun i hi => hA _ (Or.inl ⟨i, hi, rfl⟩))
  obtain ⟨rfl, hk, hk2⟩ := hw
  obtain ⟨x, r, he9, h9⟩ := zzq1_s h
  clear h
  subst he9
  have h := h9
  clear h9
  try dsimp only at h
  exact lv_lstore_n hx hb hdg hk hl hk2 (zzlc_set2 (ad := ad) (v := .long x)) (fun lc' hl' => hn _ _ _ h H locs lc' hP hS hl')
set_option maxHeartbeats 400000 in
set_option maxRecDepth 20000 in
theorem zs_iinc {k : Nat} {n : Int} {rr : zzR} (hX : zzX p s m args meth c cc own nL rk D dA ad A) (hQ : Q = MQ below (zzQ D dA ad A rk rr) args s 0 0 A) {call : Nat → List Value → zzM → Option zzR} (hcall : zzCl l D dA ad P R call)
    {pc len : Nat} {aux : List (Nat × Nat)} (hdg : decode cc pc = .ok (.iinc k n, len)) (hw : zzwd P own nL len pc (.iinc k n) aux) {ls : zzL} {st : List Value} {μ : zzM} {next : zzL → List Value → zzM → Option zzR} {jump : Nat → List Value → Option zzR}
    (h : zzstep call rk (.iinc k n) aux ls st μ next jump = some rr)
    (hn : ∀ ls' st' μ', next ls' st' μ' = some rr → zzW p l e R s m args below meth c Q D dA ad A nL (pc + len) ls' st' μ')
    (hj : ∀ t st', jump t st' = some rr → zzW p l e R s m args below meth c Q D dA ad A nL t ls st' μ) : zzW p l e R s m args below meth c Q D dA ad A nL pc ls st μ := by
  intro H locs lc hP hS hl
  obtain ⟨hx, hb, hml, hown, hts, hK, hnw, hinj, hA, hlocks, hrt⟩ := hX
  have hD : ∀ μ, va_D A (zzworld dA ad μ) := fun μ => zzD_of hinj (fun i hi => hA _ (Or.inl ⟨i, hi, rfl⟩))
  obtain ⟨rfl, hk, hv⟩ := hw
  have h : (match zzlk ls k with
    | some (.int x) => next (zzset1 k (.int (zzinc x (zzfst aux))) ls) st μ
    | _ => none) = some rr := h
  split at h
  · rename_i x hv2
    obtain ⟨j, hj2⟩ := List.getElem?_of_mem (show (k, Value.int x) ∈ zzlc ad ls from List.mem_map.mpr ⟨(k, .int x), zzlk_mem hv2, rfl⟩)
    exact lv_iinc (v := zzinc x (zzfst aux)) hx hb hdg hl hj2 (by rw [hv]; exact zzinc_eq _ _) hk (zzlc_set1 (ad := ad) (v := .int (zzinc x (zzfst aux)))) (fun lc' hl' => hn _ _ _ h H locs lc' hP hS hl')
  · cases h
set_option maxHeartbeats 400000 in
set_option maxRecDepth 20000 in
theorem zs_dup {rr : zzR} (hX : zzX p s m args meth c cc own nL rk D dA ad A) (hQ : Q = MQ below (zzQ D dA ad A rk rr) args s 0 0 A) {call : Nat → List Value → zzM → Option zzR} (hcall : zzCl l D dA ad P R call)
    {pc len : Nat} {aux : List (Nat × Nat)} (hdg : decode cc pc = .ok (.dup, len)) (hw : zzwd P own nL len pc (.dup) aux) {ls : zzL} {st : List Value} {μ : zzM} {next : zzL → List Value → zzM → Option zzR} {jump : Nat → List Value → Option zzR}
    (h : zzstep call rk (.dup) aux ls st μ next jump = some rr)
    (hn : ∀ ls' st' μ', next ls' st' μ' = some rr → zzW p l e R s m args below meth c Q D dA ad A nL (pc + len) ls' st' μ')
    (hj : ∀ t st', jump t st' = some rr → zzW p l e R s m args below meth c Q D dA ad A nL t ls st' μ) : zzW p l e R s m args below meth c Q D dA ad A nL pc ls st μ := by
  intro H locs lc hP hS hl
  obtain ⟨hx, hb, hml, hown, hts, hK, hnw, hinj, hA, hlocks, hrt⟩ := hX
  have hD : ∀ μ, va_D A (zzworld dA ad μ) := fun μ => zzD_of hinj (fun i hi => hA _ (Or.inl ⟨i, hi, rfl⟩))
  cases hw
  obtain ⟨v, r, he9, hc, h9⟩ := zzdp_s (st := st) (f := fun r => next ls r μ) h
  subst he9
  exact lv_dup hx hb hdg (by rw [zzcv_cat]; exact hc) (hn _ _ _ h9 H locs lc hP hS hl)
set_option maxHeartbeats 400000 in
set_option maxRecDepth 20000 in
theorem zs_dup2 {rr : zzR} (hX : zzX p s m args meth c cc own nL rk D dA ad A) (hQ : Q = MQ below (zzQ D dA ad A rk rr) args s 0 0 A) {call : Nat → List Value → zzM → Option zzR} (hcall : zzCl l D dA ad P R call)
    {pc len : Nat} {aux : List (Nat × Nat)} (hdg : decode cc pc = .ok (.dup2, len)) (hw : zzwd P own nL len pc (.dup2) aux) {ls : zzL} {st : List Value} {μ : zzM} {next : zzL → List Value → zzM → Option zzR} {jump : Nat → List Value → Option zzR}
    (h : zzstep call rk (.dup2) aux ls st μ next jump = some rr)
    (hn : ∀ ls' st' μ', next ls' st' μ' = some rr → zzW p l e R s m args below meth c Q D dA ad A nL (pc + len) ls' st' μ')
    (hj : ∀ t st', jump t st' = some rr → zzW p l e R s m args below meth c Q D dA ad A nL t ls st' μ) : zzW p l e R s m args below meth c Q D dA ad A nL pc ls st μ := by
  intro H locs lc hP hS hl
  obtain ⟨hx, hb, hml, hown, hts, hK, hnw, hinj, hA, hlocks, hrt⟩ := hX
  have hD : ∀ μ, va_D A (zzworld dA ad μ) := fun μ => zzD_of hinj (fun i hi => hA _ (Or.inl ⟨i, hi, rfl⟩))
  cases hw
  obtain ⟨v, w, r, he9, hc, hc2, h9⟩ := zzd2_s (st := st) (f := fun r => next ls r μ) h
  subst he9
  exact lv_dup2_11 hx hb hdg (by rw [zzcv_cat]; exact hc) (by rw [zzcv_cat]; exact hc2) (hn _ _ _ h9 H locs lc hP hS hl)
set_option maxHeartbeats 400000 in
set_option maxRecDepth 20000 in
theorem zs_pop {rr : zzR} (hX : zzX p s m args meth c cc own nL rk D dA ad A) (hQ : Q = MQ below (zzQ D dA ad A rk rr) args s 0 0 A) {call : Nat → List Value → zzM → Option zzR} (hcall : zzCl l D dA ad P R call)
    {pc len : Nat} {aux : List (Nat × Nat)} (hdg : decode cc pc = .ok (.pop, len)) (hw : zzwd P own nL len pc (.pop) aux) {ls : zzL} {st : List Value} {μ : zzM} {next : zzL → List Value → zzM → Option zzR} {jump : Nat → List Value → Option zzR}
    (h : zzstep call rk (.pop) aux ls st μ next jump = some rr)
    (hn : ∀ ls' st' μ', next ls' st' μ' = some rr → zzW p l e R s m args below meth c Q D dA ad A nL (pc + len) ls' st' μ')
    (hj : ∀ t st', jump t st' = some rr → zzW p l e R s m args below meth c Q D dA ad A nL t ls st' μ) : zzW p l e R s m args below meth c Q D dA ad A nL pc ls st μ := by
  intro H locs lc hP hS hl
  obtain ⟨hx, hb, hml, hown, hts, hK, hnw, hinj, hA, hlocks, hrt⟩ := hX
  have hD : ∀ μ, va_D A (zzworld dA ad μ) := fun μ => zzD_of hinj (fun i hi => hA _ (Or.inl ⟨i, hi, rfl⟩))
  cases hw
  obtain ⟨v, r, he9, hc, h9⟩ := zzpo_s h
  subst he9
  exact lv_pop hx hb hdg (by rw [zzcv_cat]; exact hc) (hn _ _ _ h9 H locs lc hP hS hl)
set_option maxHeartbeats 400000 in
set_option maxRecDepth 20000 in
theorem zs_goto {o : Int} {rr : zzR} (hX : zzX p s m args meth c cc own nL rk D dA ad A) (hQ : Q = MQ below (zzQ D dA ad A rk rr) args s 0 0 A) {call : Nat → List Value → zzM → Option zzR} (hcall : zzCl l D dA ad P R call)
    {pc len : Nat} {aux : List (Nat × Nat)} (hdg : decode cc pc = .ok (.goto o, len)) (hw : zzwd P own nL len pc (.goto o) aux) {ls : zzL} {st : List Value} {μ : zzM} {next : zzL → List Value → zzM → Option zzR} {jump : Nat → List Value → Option zzR}
    (h : zzstep call rk (.goto o) aux ls st μ next jump = some rr)
    (hn : ∀ ls' st' μ', next ls' st' μ' = some rr → zzW p l e R s m args below meth c Q D dA ad A nL (pc + len) ls' st' μ')
    (hj : ∀ t st', jump t st' = some rr → zzW p l e R s m args below meth c Q D dA ad A nL t ls st' μ) : zzW p l e R s m args below meth c Q D dA ad A nL pc ls st μ := by
  intro H locs lc hP hS hl
  obtain ⟨hx, hb, hml, hown, hts, hK, hnw, hinj, hA, hlocks, hrt⟩ := hX
  have hD : ∀ μ, va_D A (zzworld dA ad μ) := fun μ => zzD_of hinj (fun i hi => hA _ (Or.inl ⟨i, hi, rfl⟩))
  obtain ⟨rfl, ht⟩ := hw
  exact lv_goto hx hb hdg ht (hj _ _ h H locs lc hP hS hl)
set_option maxHeartbeats 400000 in
set_option maxRecDepth 20000 in
theorem zs_ifCond_eq {o : Int} {rr : zzR} (hX : zzX p s m args meth c cc own nL rk D dA ad A) (hQ : Q = MQ below (zzQ D dA ad A rk rr) args s 0 0 A) {call : Nat → List Value → zzM → Option zzR} (hcall : zzCl l D dA ad P R call)
    {pc len : Nat} {aux : List (Nat × Nat)} (hdg : decode cc pc = .ok (.ifCond .eq o, len)) (hw : zzwd P own nL len pc (.ifCond .eq o) aux) {ls : zzL} {st : List Value} {μ : zzM} {next : zzL → List Value → zzM → Option zzR} {jump : Nat → List Value → Option zzR}
    (h : zzstep call rk (.ifCond .eq o) aux ls st μ next jump = some rr)
    (hn : ∀ ls' st' μ', next ls' st' μ' = some rr → zzW p l e R s m args below meth c Q D dA ad A nL (pc + len) ls' st' μ')
    (hj : ∀ t st', jump t st' = some rr → zzW p l e R s m args below meth c Q D dA ad A nL t ls st' μ) : zzW p l e R s m args below meth c Q D dA ad A nL pc ls st μ := by
  intro H locs lc hP hS hl
  obtain ⟨hx, hb, hml, hown, hts, hK, hnw, hinj, hA, hlocks, hrt⟩ := hX
  have hD : ∀ μ, va_D A (zzworld dA ad μ) := fun μ => zzD_of hinj (fun i hi => hA _ (Or.inl ⟨i, hi, rfl⟩))
  obtain ⟨rfl, ht⟩ := hw
  obtain ⟨x, r, he9, h9⟩ := zzp1_s h
  clear h
  subst he9
  have h := h9
  clear h9
  try dsimp only at h
  split at h
  · rename_i hc
    exact lv_if_eq hx hb hdg ht (fun z => hj _ _ h H locs lc hP hS hl) (fun z => absurd hc z)
  · rename_i hc
    exact lv_if_eq hx hb hdg ht (fun z => absurd z hc) (fun z => hn _ _ _ h H locs lc hP hS hl)
set_option maxHeartbeats 400000 in
set_option maxRecDepth 20000 in
theorem zs_ifCond_ne {o : Int} {rr : zzR} (hX : zzX p s m args meth c cc own nL rk D dA ad A) (hQ : Q = MQ below (zzQ D dA ad A rk rr) args s 0 0 A) {call : Nat → List Value → zzM → Option zzR} (hcall : zzCl l D dA ad P R call)
    {pc len : Nat} {aux : List (Nat × Nat)} (hdg : decode cc pc = .ok (.ifCond .ne o, len)) (hw : zzwd P own nL len pc (.ifCond .ne o) aux) {ls : zzL} {st : List Value} {μ : zzM} {next : zzL → List Value → zzM → Option zzR} {jump : Nat → List Value → Option zzR}
    (h : zzstep call rk (.ifCond .ne o) aux ls st μ next jump = some rr)
    (hn : ∀ ls' st' μ', next ls' st' μ' = some rr → zzW p l e R s m args below meth c Q D dA ad A nL (pc + len) ls' st' μ')
    (hj : ∀ t st', jump t st' = some rr → zzW p l e R s m args below meth c Q D dA ad A nL t ls st' μ) : zzW p l e R s m args below meth c Q D dA ad A nL pc ls st μ := by
  intro H locs lc hP hS hl
  obtain ⟨hx, hb, hml, hown, hts, hK, hnw, hinj, hA, hlocks, hrt⟩ := hX
  have hD : ∀ μ, va_D A (zzworld dA ad μ) := fun μ => zzD_of hinj (fun i hi => hA _ (Or.inl ⟨i, hi, rfl⟩))
  obtain ⟨rfl, ht⟩ := hw
  obtain ⟨x, r, he9, h9⟩ := zzp1_s h
  clear h
  subst he9
  have h := h9
  clear h9
  try dsimp only at h
  split at h
  · rename_i hc
    exact lv_if_ne hx hb hdg ht (fun z => absurd hc z) (fun z => hn _ _ _ h H locs lc hP hS hl)
  · rename_i hc
    exact lv_if_ne hx hb hdg ht (fun z => hj _ _ h H locs lc hP hS hl) (fun z => absurd z hc)
set_option maxHeartbeats 400000 in
set_option maxRecDepth 20000 in
theorem zs_ifCond_lt {o : Int} {rr : zzR} (hX : zzX p s m args meth c cc own nL rk D dA ad A) (hQ : Q = MQ below (zzQ D dA ad A rk rr) args s 0 0 A) {call : Nat → List Value → zzM → Option zzR} (hcall : zzCl l D dA ad P R call)
    {pc len : Nat} {aux : List (Nat × Nat)} (hdg : decode cc pc = .ok (.ifCond .lt o, len)) (hw : zzwd P own nL len pc (.ifCond .lt o) aux) {ls : zzL} {st : List Value} {μ : zzM} {next : zzL → List Value → zzM → Option zzR} {jump : Nat → List Value → Option zzR}
    (h : zzstep call rk (.ifCond .lt o) aux ls st μ next jump = some rr)
    (hn : ∀ ls' st' μ', next ls' st' μ' = some rr → zzW p l e R s m args below meth c Q D dA ad A nL (pc + len) ls' st' μ')
    (hj : ∀ t st', jump t st' = some rr → zzW p l e R s m args below meth c Q D dA ad A nL t ls st' μ) : zzW p l e R s m args below meth c Q D dA ad A nL pc ls st μ := by
  intro H locs lc hP hS hl
  obtain ⟨hx, hb, hml, hown, hts, hK, hnw, hinj, hA, hlocks, hrt⟩ := hX
  have hD : ∀ μ, va_D A (zzworld dA ad μ) := fun μ => zzD_of hinj (fun i hi => hA _ (Or.inl ⟨i, hi, rfl⟩))
  obtain ⟨rfl, ht⟩ := hw
  obtain ⟨x, r, he9, h9⟩ := zzp1_s h
  clear h
  subst he9
  have h := h9
  clear h9
  try dsimp only at h
  split at h
  · rename_i hc
    exact lv_if_lt hx hb hdg ht (fun z => hj _ _ h H locs lc hP hS hl) (fun z => absurd hc z)
  · rename_i hc
    exact lv_if_lt hx hb hdg ht (fun z => absurd z hc) (fun z => hn _ _ _ h H locs lc hP hS hl)
set_option maxHeartbeats 400000 in
set_option maxRecDepth 20000 in
theorem zs_ifCond_ge {o : Int} {rr : zzR} (hX : zzX p s m args meth c cc own nL rk D dA ad A) (hQ : Q = MQ below (zzQ D dA ad A rk rr) args s 0 0 A) {call : Nat → List Value → zzM → Option zzR} (hcall : zzCl l D dA ad P R call)
    {pc len : Nat} {aux : List (Nat × Nat)} (hdg : decode cc pc = .ok (.ifCond .ge o, len)) (hw : zzwd P own nL len pc (.ifCond .ge o) aux) {ls : zzL} {st : List Value} {μ : zzM} {next : zzL → List Value → zzM → Option zzR} {jump : Nat → List Value → Option zzR}
    (h : zzstep call rk (.ifCond .ge o) aux ls st μ next jump = some rr)
    (hn : ∀ ls' st' μ', next ls' st' μ' = some rr → zzW p l e R s m args below meth c Q D dA ad A nL (pc + len) ls' st' μ')
    (hj : ∀ t st', jump t st' = some rr → zzW p l e R s m args below meth c Q D dA ad A nL t ls st' μ) : zzW p l e R s m args below meth c Q D dA ad A nL pc ls st μ := by
  intro H locs lc hP hS hl
  obtain ⟨hx, hb, hml, hown, hts, hK, hnw, hinj, hA, hlocks, hrt⟩ := hX
  have hD : ∀ μ, va_D A (zzworld dA ad μ) := fun μ => zzD_of hinj (fun i hi => hA _ (Or.inl ⟨i, hi, rfl⟩))
  obtain ⟨rfl, ht⟩ := hw
  obtain ⟨x, r, he9, h9⟩ := zzp1_s h
  clear h
  subst he9
  have h := h9
  clear h9
  try dsimp only at h
  split at h
  · rename_i hc
    exact lv_if_ge hx hb hdg ht (fun z => hj _ _ h H locs lc hP hS hl) (fun z => absurd hc z)
  · rename_i hc
    exact lv_if_ge hx hb hdg ht (fun z => absurd z hc) (fun z => hn _ _ _ h H locs lc hP hS hl)
set_option maxHeartbeats 400000 in
set_option maxRecDepth 20000 in
theorem zs_ifCond_gt {o : Int} {rr : zzR} (hX : zzX p s m args meth c cc own nL rk D dA ad A) (hQ : Q = MQ below (zzQ D dA ad A rk rr) args s 0 0 A) {call : Nat → List Value → zzM → Option zzR} (hcall : zzCl l D dA ad P R call)
    {pc len : Nat} {aux : List (Nat × Nat)} (hdg : decode cc pc = .ok (.ifCond .gt o, len)) (hw : zzwd P own nL len pc (.ifCond .gt o) aux) {ls : zzL} {st : List Value} {μ : zzM} {next : zzL → List Value → zzM → Option zzR} {jump : Nat → List Value → Option zzR}
    (h : zzstep call rk (.ifCond .gt o) aux ls st μ next jump = some rr)
    (hn : ∀ ls' st' μ', next ls' st' μ' = some rr → zzW p l e R s m args below meth c Q D dA ad A nL (pc + len) ls' st' μ')
    (hj : ∀ t st', jump t st' = some rr → zzW p l e R s m args below meth c Q D dA ad A nL t ls st' μ) : zzW p l e R s m args below meth c Q D dA ad A nL pc ls st μ := by
  intro H locs lc hP hS hl
  obtain ⟨hx, hb, hml, hown, hts, hK, hnw, hinj, hA, hlocks, hrt⟩ := hX
  have hD : ∀ μ, va_D A (zzworld dA ad μ) := fun μ => zzD_of hinj (fun i hi => hA _ (Or.inl ⟨i, hi, rfl⟩))
  obtain ⟨rfl, ht⟩ := hw
  obtain ⟨x, r, he9, h9⟩ := zzp1_s h
  clear h
  subst he9
  have h := h9
  clear h9
  try dsimp only at h
  split at h
  · rename_i hc
    exact lv_if_gt hx hb hdg ht (fun z => hj _ _ h H locs lc hP hS hl) (fun z => absurd hc z)
  · rename_i hc
    exact lv_if_gt hx hb hdg ht (fun z => absurd z hc) (fun z => hn _ _ _ h H locs lc hP hS hl)
set_option maxHeartbeats 400000 in
set_option maxRecDepth 20000 in
theorem zs_ifCond_le {o : Int} {rr : zzR} (hX : zzX p s m args meth c cc own nL rk D dA ad A) (hQ : Q = MQ below (zzQ D dA ad A rk rr) args s 0 0 A) {call : Nat → List Value → zzM → Option zzR} (hcall : zzCl l D dA ad P R call)
    {pc len : Nat} {aux : List (Nat × Nat)} (hdg : decode cc pc = .ok (.ifCond .le o, len)) (hw : zzwd P own nL len pc (.ifCond .le o) aux) {ls : zzL} {st : List Value} {μ : zzM} {next : zzL → List Value → zzM → Option zzR} {jump : Nat → List Value → Option zzR}
    (h : zzstep call rk (.ifCond .le o) aux ls st μ next jump = some rr)
    (hn : ∀ ls' st' μ', next ls' st' μ' = some rr → zzW p l e R s m args below meth c Q D dA ad A nL (pc + len) ls' st' μ')
    (hj : ∀ t st', jump t st' = some rr → zzW p l e R s m args below meth c Q D dA ad A nL t ls st' μ) : zzW p l e R s m args below meth c Q D dA ad A nL pc ls st μ := by
  intro H locs lc hP hS hl
  obtain ⟨hx, hb, hml, hown, hts, hK, hnw, hinj, hA, hlocks, hrt⟩ := hX
  have hD : ∀ μ, va_D A (zzworld dA ad μ) := fun μ => zzD_of hinj (fun i hi => hA _ (Or.inl ⟨i, hi, rfl⟩))
  obtain ⟨rfl, ht⟩ := hw
  obtain ⟨x, r, he9, h9⟩ := zzp1_s h
  clear h
  subst he9
  have h := h9
  clear h9
  try dsimp only at h
  split at h
  · rename_i hc
    exact lv_if_le hx hb hdg ht (fun z => hj _ _ h H locs lc hP hS hl) (fun z => absurd hc z)
  · rename_i hc
    exact lv_if_le hx hb hdg ht (fun z => absurd z hc) (fun z => hn _ _ _ h H locs lc hP hS hl)
set_option maxHeartbeats 400000 in
set_option maxRecDepth 20000 in
theorem zs_if_icmp_eq {o : Int} {rr : zzR} (hX : zzX p s m args meth c cc own nL rk D dA ad A) (hQ : Q = MQ below (zzQ D dA ad A rk rr) args s 0 0 A) {call : Nat → List Value → zzM → Option zzR} (hcall : zzCl l D dA ad P R call)
    {pc len : Nat} {aux : List (Nat × Nat)} (hdg : decode cc pc = .ok (.if_icmp .eq o, len)) (hw : zzwd P own nL len pc (.if_icmp .eq o) aux) {ls : zzL} {st : List Value} {μ : zzM} {next : zzL → List Value → zzM → Option zzR} {jump : Nat → List Value → Option zzR}
    (h : zzstep call rk (.if_icmp .eq o) aux ls st μ next jump = some rr)
    (hn : ∀ ls' st' μ', next ls' st' μ' = some rr → zzW p l e R s m args below meth c Q D dA ad A nL (pc + len) ls' st' μ')
    (hj : ∀ t st', jump t st' = some rr → zzW p l e R s m args below meth c Q D dA ad A nL t ls st' μ) : zzW p l e R s m args below meth c Q D dA ad A nL pc ls st μ := by
  intro H locs lc hP hS hl
  obtain ⟨hx, hb, hml, hown, hts, hK, hnw, hinj, hA, hlocks, hrt⟩ := hX
  have hD : ∀ μ, va_D A (zzworld dA ad μ) := fun μ => zzD_of hinj (fun i hi => hA _ (Or.inl ⟨i, hi, rfl⟩))
  obtain ⟨rfl, ht⟩ := hw
  obtain ⟨x, y, r, he9, h9⟩ := zzp2_s h
  clear h
  subst he9
  have h := h9
  clear h9
  try dsimp only at h
  split at h
  · rename_i hc
    exact lv_icmp_eq hx hb hdg ht (fun z => hj _ _ h H locs lc hP hS hl) (fun z => absurd hc z)
  · rename_i hc
    exact lv_icmp_eq hx hb hdg ht (fun z => absurd z hc) (fun z => hn _ _ _ h H locs lc hP hS hl)
set_option maxHeartbeats 400000 in
set_option maxRecDepth 20000 in
theorem zs_if_icmp_ne {o : Int} {rr : zzR} (hX : zzX p s m args meth c cc own nL rk D dA ad A) (hQ : Q = MQ below (zzQ D dA ad A rk rr) args s 0 0 A) {call : Nat → List Value → zzM → Option zzR} (hcall : zzCl l D dA ad P R call)
    {pc len : Nat} {aux : List (Nat × Nat)} (hdg : decode cc pc = .ok (.if_icmp .ne o, len)) (hw : zzwd P own nL len pc (.if_icmp .ne o) aux) {ls : zzL} {st : List Value} {μ : zzM} {next : zzL → List Value → zzM → Option zzR} {jump : Nat → List Value → Option zzR}
    (h : zzstep call rk (.if_icmp .ne o) aux ls st μ next jump = some rr)
    (hn : ∀ ls' st' μ', next ls' st' μ' = some rr → zzW p l e R s m args below meth c Q D dA ad A nL (pc + len) ls' st' μ')
    (hj : ∀ t st', jump t st' = some rr → zzW p l e R s m args below meth c Q D dA ad A nL t ls st' μ) : zzW p l e R s m args below meth c Q D dA ad A nL pc ls st μ := by
  intro H locs lc hP hS hl
  obtain ⟨hx, hb, hml, hown, hts, hK, hnw, hinj, hA, hlocks, hrt⟩ := hX
  have hD : ∀ μ, va_D A (zzworld dA ad μ) := fun μ => zzD_of hinj (fun i hi => hA _ (Or.inl ⟨i, hi, rfl⟩))
  obtain ⟨rfl, ht⟩ := hw
  obtain ⟨x, y, r, he9, h9⟩ := zzp2_s h
  clear h
  subst he9
  have h := h9
  clear h9
  try dsimp only at h
  split at h
  · rename_i hc
    exact lv_icmp_ne hx hb hdg ht (fun z => absurd hc z) (fun z => hn _ _ _ h H locs lc hP hS hl)
  · rename_i hc
    exact lv_icmp_ne hx hb hdg ht (fun z => hj _ _ h H locs lc hP hS hl) (fun z => absurd z hc)
set_option maxHeartbeats 400000 in
set_option maxRecDepth 20000 in
theorem zs_if_icmp_lt {o : Int} {rr : zzR} (hX : zzX p s m args meth c cc own nL rk D dA ad A) (hQ : Q = MQ below (zzQ D dA ad A rk rr) args s 0 0 A) {call : Nat → List Value → zzM → Option zzR} (hcall : zzCl l D dA ad P R call)
    {pc len : Nat} {aux : List (Nat × Nat)} (hdg : decode cc pc = .ok (.if_icmp .lt o, len)) (hw : zzwd P own nL len pc (.if_icmp .lt o) aux) {ls : zzL} {st : List Value} {μ : zzM} {next : zzL → List Value → zzM → Option zzR} {jump : Nat → List Value → Option zzR}
    (h : zzstep call rk (.if_icmp .lt o) aux ls st μ next jump = some rr)
    (hn : ∀ ls' st' μ', next ls' st' μ' = some rr → zzW p l e R s m args below meth c Q D dA ad A nL (pc + len) ls' st' μ')
    (hj : ∀ t st', jump t st' = some rr → zzW p l e R s m args below meth c Q D dA ad A nL t ls st' μ) : zzW p l e R s m args below meth c Q D dA ad A nL pc ls st μ := by
  intro H locs lc hP hS hl
  obtain ⟨hx, hb, hml, hown, hts, hK, hnw, hinj, hA, hlocks, hrt⟩ := hX
  have hD : ∀ μ, va_D A (zzworld dA ad μ) := fun μ => zzD_of hinj (fun i hi => hA _ (Or.inl ⟨i, hi, rfl⟩))
  obtain ⟨rfl, ht⟩ := hw
  obtain ⟨x, y, r, he9, h9⟩ := zzp2_s h
  clear h
  subst he9
  have h := h9
  clear h9
  try dsimp only at h
  split at h
  · rename_i hc
    exact lv_icmp_lt hx hb hdg ht (fun z => hj _ _ h H locs lc hP hS hl) (fun z => absurd hc z)
  · rename_i hc
    exact lv_icmp_lt hx hb hdg ht (fun z => absurd z hc) (fun z => hn _ _ _ h H locs lc hP hS hl)
set_option maxHeartbeats 400000 in
set_option maxRecDepth 20000 in
theorem zs_if_icmp_ge {o : Int} {rr : zzR} (hX : zzX p s m args meth c cc own nL rk D dA ad A) (hQ : Q = MQ below (zzQ D dA ad A rk rr) args s 0 0 A) {call : Nat → List Value → zzM → Option zzR} (hcall : zzCl l D dA ad P R call)
    {pc len : Nat} {aux : List (Nat × Nat)} (hdg : decode cc pc = .ok (.if_icmp .ge o, len)) (hw : zzwd P own nL len pc (.if_icmp .ge o) aux) {ls : zzL} {st : List Value} {μ : zzM} {next : zzL → List Value → zzM → Option zzR} {jump : Nat → List Value → Option zzR}
    (h : zzstep call rk (.if_icmp .ge o) aux ls st μ next jump = some rr)
    (hn : ∀ ls' st' μ', next ls' st' μ' = some rr → zzW p l e R s m args below meth c Q D dA ad A nL (pc + len) ls' st' μ')
    (hj : ∀ t st', jump t st' = some rr → zzW p l e R s m args below meth c Q D dA ad A nL t ls st' μ) : zzW p l e R s m args below meth c Q D dA ad A nL pc ls st μ := by
  intro H locs lc hP hS hl
  obtain ⟨hx, hb, hml, hown, hts, hK, hnw, hinj, hA, hlocks, hrt⟩ := hX
  have hD : ∀ μ, va_D A (zzworld dA ad μ) := fun μ => zzD_of hinj (fun i hi => hA _ (Or.inl ⟨i, hi, rfl⟩))
  obtain ⟨rfl, ht⟩ := hw
  obtain ⟨x, y, r, he9, h9⟩ := zzp2_s h
  clear h
  subst he9
  have h := h9
  clear h9
  try dsimp only at h
  split at h
  · rename_i hc
    exact lv_icmp_ge hx hb hdg ht (fun z => hj _ _ h H locs lc hP hS hl) (fun z => absurd hc z)
  · rename_i hc
    exact lv_icmp_ge hx hb hdg ht (fun z => absurd z hc) (fun z => hn _ _ _ h H locs lc hP hS hl)
set_option maxHeartbeats 400000 in
set_option maxRecDepth 20000 in
theorem zs_if_icmp_gt {o : Int} {rr : zzR} (hX : zzX p s m args meth c cc own nL rk D dA ad A) (hQ : Q = MQ below (zzQ D dA ad A rk rr) args s 0 0 A) {call : Nat → List Value → zzM → Option zzR} (hcall : zzCl l D dA ad P R call)
    {pc len : Nat} {aux : List (Nat × Nat)} (hdg : decode cc pc = .ok (.if_icmp .gt o, len)) (hw : zzwd P own nL len pc (.if_icmp .gt o) aux) {ls : zzL} {st : List Value} {μ : zzM} {next : zzL → List Value → zzM → Option zzR} {jump : Nat → List Value → Option zzR}
    (h : zzstep call rk (.if_icmp .gt o) aux ls st μ next jump = some rr)
    (hn : ∀ ls' st' μ', next ls' st' μ' = some rr → zzW p l e R s m args below meth c Q D dA ad A nL (pc + len) ls' st' μ')
    (hj : ∀ t st', jump t st' = some rr → zzW p l e R s m args below meth c Q D dA ad A nL t ls st' μ) : zzW p l e R s m args below meth c Q D dA ad A nL pc ls st μ := by
  intro H locs lc hP hS hl
  obtain ⟨hx, hb, hml, hown, hts, hK, hnw, hinj, hA, hlocks, hrt⟩ := hX
  have hD : ∀ μ, va_D A (zzworld dA ad μ) := fun μ => zzD_of hinj (fun i hi => hA _ (Or.inl ⟨i, hi, rfl⟩))
  obtain ⟨rfl, ht⟩ := hw
  obtain ⟨x, y, r, he9, h9⟩ := zzp2_s h
  clear h
  subst he9
  have h := h9
  clear h9
  try dsimp only at h
  split at h
  · rename_i hc
    exact lv_icmp_gt hx hb hdg ht (fun z => hj _ _ h H locs lc hP hS hl) (fun z => absurd hc z)
  · rename_i hc
    exact lv_icmp_gt hx hb hdg ht (fun z => absurd z hc) (fun z => hn _ _ _ h H locs lc hP hS hl)
set_option maxHeartbeats 400000 in
set_option maxRecDepth 20000 in
theorem zs_if_icmp_le {o : Int} {rr : zzR} (hX : zzX p s m args meth c cc own nL rk D dA ad A) (hQ : Q = MQ below (zzQ D dA ad A rk rr) args s 0 0 A) {call : Nat → List Value → zzM → Option zzR} (hcall : zzCl l D dA ad P R call)
    {pc len : Nat} {aux : List (Nat × Nat)} (hdg : decode cc pc = .ok (.if_icmp .le o, len)) (hw : zzwd P own nL len pc (.if_icmp .le o) aux) {ls : zzL} {st : List Value} {μ : zzM} {next : zzL → List Value → zzM → Option zzR} {jump : Nat → List Value → Option zzR}
    (h : zzstep call rk (.if_icmp .le o) aux ls st μ next jump = some rr)
    (hn : ∀ ls' st' μ', next ls' st' μ' = some rr → zzW p l e R s m args below meth c Q D dA ad A nL (pc + len) ls' st' μ')
    (hj : ∀ t st', jump t st' = some rr → zzW p l e R s m args below meth c Q D dA ad A nL t ls st' μ) : zzW p l e R s m args below meth c Q D dA ad A nL pc ls st μ := by
  intro H locs lc hP hS hl
  obtain ⟨hx, hb, hml, hown, hts, hK, hnw, hinj, hA, hlocks, hrt⟩ := hX
  have hD : ∀ μ, va_D A (zzworld dA ad μ) := fun μ => zzD_of hinj (fun i hi => hA _ (Or.inl ⟨i, hi, rfl⟩))
  obtain ⟨rfl, ht⟩ := hw
  obtain ⟨x, y, r, he9, h9⟩ := zzp2_s h
  clear h
  subst he9
  have h := h9
  clear h9
  try dsimp only at h
  split at h
  · rename_i hc
    exact lv_icmp_le hx hb hdg ht (fun z => hj _ _ h H locs lc hP hS hl) (fun z => absurd hc z)
  · rename_i hc
    exact lv_icmp_le hx hb hdg ht (fun z => absurd z hc) (fun z => hn _ _ _ h H locs lc hP hS hl)
set_option maxHeartbeats 400000 in
set_option maxRecDepth 20000 in
theorem zs_tableswitch {d : Int} {lo : Int} {hi : Int} {os : Array Int} {rr : zzR} (hX : zzX p s m args meth c cc own nL rk D dA ad A) (hQ : Q = MQ below (zzQ D dA ad A rk rr) args s 0 0 A) {call : Nat → List Value → zzM → Option zzR} (hcall : zzCl l D dA ad P R call)
    {pc len : Nat} {aux : List (Nat × Nat)} (hdg : decode cc pc = .ok (.tableswitch d lo hi os, len)) (hw : zzwd P own nL len pc (.tableswitch d lo hi os) aux) {ls : zzL} {st : List Value} {μ : zzM} {next : zzL → List Value → zzM → Option zzR} {jump : Nat → List Value → Option zzR}
    (h : zzstep call rk (.tableswitch d lo hi os) aux ls st μ next jump = some rr)
    (hn : ∀ ls' st' μ', next ls' st' μ' = some rr → zzW p l e R s m args below meth c Q D dA ad A nL (pc + len) ls' st' μ')
    (hj : ∀ t st', jump t st' = some rr → zzW p l e R s m args below meth c Q D dA ad A nL t ls st' μ) : zzW p l e R s m args below meth c Q D dA ad A nL pc ls st μ := by
  intro H locs lc hP hS hl
  obtain ⟨hx, hb, hml, hown, hts, hK, hnw, hinj, hA, hlocks, hrt⟩ := hX
  have hD : ∀ μ, va_D A (zzworld dA ad μ) := fun μ => zzD_of hinj (fun i hi => hA _ (Or.inl ⟨i, hi, rfl⟩))
  obtain ⟨ht, htab, hlo, hhi, hsz⟩ := hw
  obtain ⟨x, r, he9, h9⟩ := zzp1_s h
  clear h
  subst he9
  have h := h9
  clear h9
  try dsimp only at h
  rcases zzsw_tab _ _ _ htab h with ⟨j, o, t, e1, e2, e3, g⟩ | ⟨e1, g⟩
  · have hjl : j < os.toList.length := (List.getElem?_eq_some_iff.mp e2).1
    rw [Array.length_toList] at hjl
    have hxi : x.toInt = ((lo.toNat + j : Nat) : Int) := by rw [e1]; exact nI_toInt (by omega)
    refine lv_tableIn hx hb hdg (off := o) (by omega) (by omega) ?_ e3 (hj _ _ g H locs lc hP hS hl)
    rw [show (x.toInt - lo).toNat = j by omega, ← Array.getElem?_toList]
    exact e2
  · refine lv_tableOut hx hb hdg ?_ ht (hj _ _ g H locs lc hP hS hl)
    by_cases z1 : x.toInt < lo
    · exact Or.inl z1
    · refine Or.inr ?_
      by_cases z2 : hi < x.toInt
      · exact z2
      · refine absurd ?_ (e1 (x.toInt - lo).toNat (by rw [Array.length_toList]; omega))
        apply Int32.toInt_inj.mp
        rw [nI_toInt (by omega)]
        omega
set_option maxHeartbeats 400000 in
set_option maxRecDepth 20000 in
theorem zs_lookupswitch {d : Int} {ps : Array (Int × Int)} {rr : zzR} (hX : zzX p s m args meth c cc own nL rk D dA ad A) (hQ : Q = MQ below (zzQ D dA ad A rk rr) args s 0 0 A) {call : Nat → List Value → zzM → Option zzR} (hcall : zzCl l D dA ad P R call)
    {pc len : Nat} {aux : List (Nat × Nat)} (hdg : decode cc pc = .ok (.lookupswitch d ps, len)) (hw : zzwd P own nL len pc (.lookupswitch d ps) aux) {ls : zzL} {st : List Value} {μ : zzM} {next : zzL → List Value → zzM → Option zzR} {jump : Nat → List Value → Option zzR}
    (h : zzstep call rk (.lookupswitch d ps) aux ls st μ next jump = some rr)
    (hn : ∀ ls' st' μ', next ls' st' μ' = some rr → zzW p l e R s m args below meth c Q D dA ad A nL (pc + len) ls' st' μ')
    (hj : ∀ t st', jump t st' = some rr → zzW p l e R s m args below meth c Q D dA ad A nL t ls st' μ) : zzW p l e R s m args below meth c Q D dA ad A nL pc ls st μ := by
  intro H locs lc hP hS hl
  obtain ⟨hx, hb, hml, hown, hts, hK, hnw, hinj, hA, hlocks, hrt⟩ := hX
  have hD : ∀ μ, va_D A (zzworld dA ad μ) := fun μ => zzD_of hinj (fun i hi => hA _ (Or.inl ⟨i, hi, rfl⟩))
  obtain ⟨ht, htab, hz⟩ := hw
  obtain ⟨x, r, he9, h9⟩ := zzp1_s h
  clear h
  subst he9
  have h := h9
  clear h9
  try dsimp only at h
  obtain ⟨t, e1, g⟩ := zzsw_lkp ht _ _ htab h
  exact lv_lookup hx hb hdg hz rfl e1 (hj _ _ g H locs lc hP hS hl)
set_option maxHeartbeats 400000 in
set_option maxRecDepth 20000 in
theorem zs_getfield {j : Nat} {rr : zzR} (hX : zzX p s m args meth c cc own nL rk D dA ad A) (hQ : Q = MQ below (zzQ D dA ad A rk rr) args s 0 0 A) {call : Nat → List Value → zzM → Option zzR} (hcall : zzCl l D dA ad P R call)
    {pc len : Nat} {aux : List (Nat × Nat)} (hdg : decode cc pc = .ok (.getfield j, len)) (hw : zzwd P own nL len pc (.getfield j) aux) {ls : zzL} {st : List Value} {μ : zzM} {next : zzL → List Value → zzM → Option zzR} {jump : Nat → List Value → Option zzR}
    (h : zzstep call rk (.getfield j) aux ls st μ next jump = some rr)
    (hn : ∀ ls' st' μ', next ls' st' μ' = some rr → zzW p l e R s m args below meth c Q D dA ad A nL (pc + len) ls' st' μ')
    (hj : ∀ t st', jump t st' = some rr → zzW p l e R s m args below meth c Q D dA ad A nL t ls st' μ) : zzW p l e R s m args below meth c Q D dA ad A nL pc ls st μ := by
  intro H locs lc hP hS hl
  obtain ⟨hx, hb, hml, hown, hts, hK, hnw, hinj, hA, hlocks, hrt⟩ := hX
  have hD : ∀ μ, va_D A (zzworld dA ad μ) := fun μ => zzD_of hinj (fun i hi => hA _ (Or.inl ⟨i, hi, rfl⟩))
  obtain ⟨rfl, q, hq, hk, hlk⟩ := hw
  obtain ⟨a, r, he9, h9⟩ := zza1_s h
  clear h
  subst he9
  have h := h9
  clear h9
  try dsimp only at h
  obtain ⟨fs, ka, kb, hc, hf, h⟩ := zzfd_s h
  obtain ⟨ty, hty, hnm, hin⟩ := zzcls _ _ hq
  have he := zzworld_at (dA := dA) (ad := ad) (μ := μ) hc
  have hv : (fs.mapIdx fun k x => zzfv ad μ a k x)[(zzfst aux).2]? = some (zzfv ad μ a (zzfst aux).2 (ka, kb)) := by
    rw [List.getElem?_mapIdx, hf]; rfl
  refine va_get (C := q.1) (T := q.2.1) (N := q.2.2) hx hb hts hin hown hK hP a he hq (zzfst aux).2 hk (hts _ hlk) (fun _ h9 => h9) hv hdg ?_
  try dsimp only at h
  split at h
  · exact hn _ _ _ h H locs lc hP hS hl
  · exact hn _ _ _ h H locs lc hP hS hl
  · exact hn _ _ _ h H locs lc hP hS hl
  · rename_i h0 h1 h2
    have : zzfv ad μ a (zzfst aux).2 (ka, kb) = .ref (ad kb) := by
      unfold zzfv
      split
      next hz => exact (h0 hz).elim
      next hz => exact (h1 hz).elim
      next hz => exact (h2 hz).elim
      next => rfl
    rw [this]
    exact hn _ _ _ h H locs lc hP hS hl
set_option maxHeartbeats 400000 in
set_option maxRecDepth 20000 in
theorem zs_putfield {j : Nat} {rr : zzR} (hX : zzX p s m args meth c cc own nL rk D dA ad A) (hQ : Q = MQ below (zzQ D dA ad A rk rr) args s 0 0 A) {call : Nat → List Value → zzM → Option zzR} (hcall : zzCl l D dA ad P R call)
    {pc len : Nat} {aux : List (Nat × Nat)} (hdg : decode cc pc = .ok (.putfield j, len)) (hw : zzwd P own nL len pc (.putfield j) aux) {ls : zzL} {st : List Value} {μ : zzM} {next : zzL → List Value → zzM → Option zzR} {jump : Nat → List Value → Option zzR}
    (h : zzstep call rk (.putfield j) aux ls st μ next jump = some rr)
    (hn : ∀ ls' st' μ', next ls' st' μ' = some rr → zzW p l e R s m args below meth c Q D dA ad A nL (pc + len) ls' st' μ')
    (hj : ∀ t st', jump t st' = some rr → zzW p l e R s m args below meth c Q D dA ad A nL t ls st' μ) : zzW p l e R s m args below meth c Q D dA ad A nL pc ls st μ := by
  intro H locs lc hP hS hl
  obtain ⟨hx, hb, hml, hown, hts, hK, hnw, hinj, hA, hlocks, hrt⟩ := hX
  have hD : ∀ μ, va_D A (zzworld dA ad μ) := fun μ => zzD_of hinj (fun i hi => hA _ (Or.inl ⟨i, hi, rfl⟩))
  obtain ⟨rfl, q, hq, hk, hlk, hfin⟩ := hw
  obtain ⟨ty, hty, hnm, hin⟩ := zzcls _ _ hq
  rcases zzpf_s h with ⟨a, v, r, he9, h9⟩ | ⟨a, v, r, he9, h9⟩
  · clear h
    subst he9
    have h := h9
    clear h9
    obtain ⟨fs, ka, kb, hc, hf, h⟩ := zzfd_s h
    have he := zzworld_at (dA := dA) (ad := ad) (μ := μ) hc
    have hkd := zzkd_at hc hq hf
    have hlen : (zzfst aux).2 < (fs.mapIdx fun k x => zzfv ad μ a k x).length := by rw [List.length_mapIdx]; exact (List.getElem?_eq_some_iff.mp hf).1
    have hset : (ka = 0 ∨ ka = 1) → (zzworld dA ad μ).set a (ad a, .inr ((zzfst aux).1, (fs.mapIdx fun k x => zzfv ad μ a k x).set (zzfst aux).2 (.int v))) = zzworld dA ad (zzwI μ a (zzfst aux).2 v) := by
      intro hka
      refine zzset_eq hc ?_ (fun j d' hne => zzcell_wI j d' hne)
      show (Sum.inr ((zzfst aux).1, fs.mapIdx fun k x => zzfv ad (zzwI μ a (zzfst aux).2 v) a k x) : va_E) = _
      rw [zzput_fs hf]
      · rcases hka with rfl | rfl <;> (show Value.int (if a = a ∧ (zzfst aux).2 = (zzfst aux).2 then v else _) = _; rw [if_pos ⟨rfl, rfl⟩])
      · intro k' q' hne
        have : (zzwI μ a (zzfst aux).2 v).1 a k' = μ.1 a k' := by
          show (if a = a ∧ k' = (zzfst aux).2 then v else _) = _
          rw [if_neg (fun z => hne z.2)]
        unfold zzfv
        rw [this]
        rfl
    try dsimp only at h
    split at h
    · exact va_put (C := q.1) (T := q.2.1) (N := q.2.2) (ty := .int) (v := .int v) hx hb hts hin ty hty hnm hown hK hP (hD μ) hS a he hq (zzfst aux).2 hk (hts _ hlk) (fun _ h9 => h9) hfin (zzkd0 hkd) rfl rfl hlen hdg (fun H1 locs1 hP1 _ hS1 => hn _ _ _ h H1 locs1 lc (by rw [hset (Or.inl rfl)] at hP1; exact hP1) hS1 hl)
    · split at h
      · rename_i hv
        exact va_put (C := q.1) (T := q.2.1) (N := q.2.2) (ty := .boolean) (v := .int v) hx hb hts hin ty hty hnm hown hK hP (hD μ) hS a he hq (zzfst aux).2 hk (hts _ hlk) (fun _ h9 => h9) hfin (zzkd1 hkd) (zznarB hv) (zzfitB hv) hlen hdg (fun H1 locs1 hP1 _ hS1 => hn _ _ _ h H1 locs1 lc (by rw [hset (Or.inr rfl)] at hP1; exact hP1) hS1 hl)
      · cases h
    · cases h
  · clear h
    subst he9
    have h := h9
    clear h9
    obtain ⟨fs, ka, kb, hc, hf, h⟩ := zzfd_s h
    have he := zzworld_at (dA := dA) (ad := ad) (μ := μ) hc
    have hkd := zzkd_at hc hq hf
    have hlen : (zzfst aux).2 < (fs.mapIdx fun k x => zzfv ad μ a k x).length := by rw [List.length_mapIdx]; exact (List.getElem?_eq_some_iff.mp hf).1
    try dsimp only at h
    split at h
    · have hset : (zzworld dA ad μ).set a (ad a, .inr ((zzfst aux).1, (fs.mapIdx fun k x => zzfv ad μ a k x).set (zzfst aux).2 (.long v))) = zzworld dA ad (zzwL μ a (zzfst aux).2 v) := by
        refine zzset_eq hc ?_ (fun j d' hne => zzcell_wL j d' hne)
        show (Sum.inr ((zzfst aux).1, fs.mapIdx fun k x => zzfv ad (zzwL μ a (zzfst aux).2 v) a k x) : va_E) = _
        rw [zzput_fs hf]
        · show Value.long (if a = a ∧ (zzfst aux).2 = (zzfst aux).2 then v else _) = _
          rw [if_pos ⟨rfl, rfl⟩]
        · intro k' q' hne
          have : (zzwL μ a (zzfst aux).2 v).2 a k' = μ.2 a k' := by
            show (if a = a ∧ k' = (zzfst aux).2 then v else _) = _
            rw [if_neg (fun z => hne z.2)]
          unfold zzfv
          rw [this]
          rfl
      exact va_put (C := q.1) (T := q.2.1) (N := q.2.2) (ty := .long) (v := .long v) hx hb hts hin ty hty hnm hown hK hP (hD μ) hS a he hq (zzfst aux).2 hk (hts _ hlk) (fun _ h9 => h9) hfin (zzkd2 hkd) rfl rfl hlen hdg (fun H1 locs1 hP1 _ hS1 => hn _ _ _ h H1 locs1 lc (by rw [hset] at hP1; exact hP1) hS1 hl)
    · cases h
set_option maxHeartbeats 400000 in
set_option maxRecDepth 20000 in
theorem zs_arraylength {rr : zzR} (hX : zzX p s m args meth c cc own nL rk D dA ad A) (hQ : Q = MQ below (zzQ D dA ad A rk rr) args s 0 0 A) {call : Nat → List Value → zzM → Option zzR} (hcall : zzCl l D dA ad P R call)
    {pc len : Nat} {aux : List (Nat × Nat)} (hdg : decode cc pc = .ok (.arraylength, len)) (hw : zzwd P own nL len pc (.arraylength) aux) {ls : zzL} {st : List Value} {μ : zzM} {next : zzL → List Value → zzM → Option zzR} {jump : Nat → List Value → Option zzR}
    (h : zzstep call rk (.arraylength) aux ls st μ next jump = some rr)
    (hn : ∀ ls' st' μ', next ls' st' μ' = some rr → zzW p l e R s m args below meth c Q D dA ad A nL (pc + len) ls' st' μ')
    (hj : ∀ t st', jump t st' = some rr → zzW p l e R s m args below meth c Q D dA ad A nL t ls st' μ) : zzW p l e R s m args below meth c Q D dA ad A nL pc ls st μ := by
  intro H locs lc hP hS hl
  obtain ⟨hx, hb, hml, hown, hts, hK, hnw, hinj, hA, hlocks, hrt⟩ := hX
  have hD : ∀ μ, va_D A (zzworld dA ad μ) := fun μ => zzD_of hinj (fun i hi => hA _ (Or.inl ⟨i, hi, rfl⟩))
  cases hw
  obtain ⟨a, r, he9, h9⟩ := zza1_s h
  clear h
  subst he9
  have h := h9
  clear h9
  try dsimp only at h
  obtain ⟨k, n, ts, hc, h⟩ := zzar_s h
  have he := zzworld_at (dA := dA) (ad := ad) (μ := μ) hc
  obtain ⟨ty, ht⟩ := zztys_at dA (zzkd_arr hc).1
  exact va_alen hx hb hK hP a k he ht rfl hdg (hn _ _ _ h H locs lc hP hS hl)
set_option maxHeartbeats 400000 in
set_option maxRecDepth 20000 in
theorem zs_iaload {rr : zzR} (hX : zzX p s m args meth c cc own nL rk D dA ad A) (hQ : Q = MQ below (zzQ D dA ad A rk rr) args s 0 0 A) {call : Nat → List Value → zzM → Option zzR} (hcall : zzCl l D dA ad P R call)
    {pc len : Nat} {aux : List (Nat × Nat)} (hdg : decode cc pc = .ok (.iaload, len)) (hw : zzwd P own nL len pc (.iaload) aux) {ls : zzL} {st : List Value} {μ : zzM} {next : zzL → List Value → zzM → Option zzR} {jump : Nat → List Value → Option zzR}
    (h : zzstep call rk (.iaload) aux ls st μ next jump = some rr)
    (hn : ∀ ls' st' μ', next ls' st' μ' = some rr → zzW p l e R s m args below meth c Q D dA ad A nL (pc + len) ls' st' μ')
    (hj : ∀ t st', jump t st' = some rr → zzW p l e R s m args below meth c Q D dA ad A nL t ls st' μ) : zzW p l e R s m args below meth c Q D dA ad A nL pc ls st μ := by
  intro H locs lc hP hS hl
  obtain ⟨hx, hb, hml, hown, hts, hK, hnw, hinj, hA, hlocks, hrt⟩ := hX
  have hD : ∀ μ, va_D A (zzworld dA ad μ) := fun μ => zzD_of hinj (fun i hi => hA _ (Or.inl ⟨i, hi, rfl⟩))
  cases hw
  obtain ⟨a, i, r, he9, h9⟩ := zzai_s h
  clear h
  subst he9
  have h := h9
  clear h9
  try dsimp only at h
  obtain ⟨k, n, ts, hc, h⟩ := zzar_s h
  try dsimp only at h
  split at h
  · obtain ⟨v, h1, h⟩ := Option.bind_eq_some_iff.mp h
    obtain ⟨hi, rfl⟩ := zzri_s h1
    exact va_iald hx hb hK hP a 0 (zzworld_at hc) rfl hi hdg (hn _ _ _ h H locs lc hP hS hl)
  · cases h
set_option maxHeartbeats 400000 in
set_option maxRecDepth 20000 in
theorem zs_baload {rr : zzR} (hX : zzX p s m args meth c cc own nL rk D dA ad A) (hQ : Q = MQ below (zzQ D dA ad A rk rr) args s 0 0 A) {call : Nat → List Value → zzM → Option zzR} (hcall : zzCl l D dA ad P R call)
    {pc len : Nat} {aux : List (Nat × Nat)} (hdg : decode cc pc = .ok (.baload, len)) (hw : zzwd P own nL len pc (.baload) aux) {ls : zzL} {st : List Value} {μ : zzM} {next : zzL → List Value → zzM → Option zzR} {jump : Nat → List Value → Option zzR}
    (h : zzstep call rk (.baload) aux ls st μ next jump = some rr)
    (hn : ∀ ls' st' μ', next ls' st' μ' = some rr → zzW p l e R s m args below meth c Q D dA ad A nL (pc + len) ls' st' μ')
    (hj : ∀ t st', jump t st' = some rr → zzW p l e R s m args below meth c Q D dA ad A nL t ls st' μ) : zzW p l e R s m args below meth c Q D dA ad A nL pc ls st μ := by
  intro H locs lc hP hS hl
  obtain ⟨hx, hb, hml, hown, hts, hK, hnw, hinj, hA, hlocks, hrt⟩ := hX
  have hD : ∀ μ, va_D A (zzworld dA ad μ) := fun μ => zzD_of hinj (fun i hi => hA _ (Or.inl ⟨i, hi, rfl⟩))
  cases hw
  obtain ⟨a, i, r, he9, h9⟩ := zzai_s h
  clear h
  subst he9
  have h := h9
  clear h9
  try dsimp only at h
  obtain ⟨k, n, ts, hc, h⟩ := zzar_s h
  try dsimp only at h
  split at h
  · obtain ⟨v, h1, h⟩ := Option.bind_eq_some_iff.mp h
    obtain ⟨hi, rfl⟩ := zzri_s h1
    exact va_zald hx hb hK hP a 1 (zzworld_at hc) rfl hi hdg (hn _ _ _ h H locs lc hP hS hl)
  · obtain ⟨v, h1, h⟩ := Option.bind_eq_some_iff.mp h
    obtain ⟨hi, rfl⟩ := zzri_s h1
    exact va_bald hx hb hK hP a 2 (zzworld_at hc) rfl hi hdg (hn _ _ _ h H locs lc hP hS hl)
  · cases h
set_option maxHeartbeats 400000 in
set_option maxRecDepth 20000 in
theorem zs_laload {rr : zzR} (hX : zzX p s m args meth c cc own nL rk D dA ad A) (hQ : Q = MQ below (zzQ D dA ad A rk rr) args s 0 0 A) {call : Nat → List Value → zzM → Option zzR} (hcall : zzCl l D dA ad P R call)
    {pc len : Nat} {aux : List (Nat × Nat)} (hdg : decode cc pc = .ok (.laload, len)) (hw : zzwd P own nL len pc (.laload) aux) {ls : zzL} {st : List Value} {μ : zzM} {next : zzL → List Value → zzM → Option zzR} {jump : Nat → List Value → Option zzR}
    (h : zzstep call rk (.laload) aux ls st μ next jump = some rr)
    (hn : ∀ ls' st' μ', next ls' st' μ' = some rr → zzW p l e R s m args below meth c Q D dA ad A nL (pc + len) ls' st' μ')
    (hj : ∀ t st', jump t st' = some rr → zzW p l e R s m args below meth c Q D dA ad A nL t ls st' μ) : zzW p l e R s m args below meth c Q D dA ad A nL pc ls st μ := by
  intro H locs lc hP hS hl
  obtain ⟨hx, hb, hml, hown, hts, hK, hnw, hinj, hA, hlocks, hrt⟩ := hX
  have hD : ∀ μ, va_D A (zzworld dA ad μ) := fun μ => zzD_of hinj (fun i hi => hA _ (Or.inl ⟨i, hi, rfl⟩))
  cases hw
  obtain ⟨a, i, r, he9, h9⟩ := zzai_s h
  clear h
  subst he9
  have h := h9
  clear h9
  try dsimp only at h
  obtain ⟨k, n, ts, hc, h⟩ := zzar_s h
  try dsimp only at h
  split at h
  · obtain ⟨v, h1, h⟩ := Option.bind_eq_some_iff.mp h
    obtain ⟨hi, rfl⟩ := zzrl_s h1
    exact va_lald hx hb hK hP a 3 (zzworld_at hc) rfl hi hdg (hn _ _ _ h H locs lc hP hS hl)
  · cases h
set_option maxHeartbeats 400000 in
set_option maxRecDepth 20000 in
theorem zs_aaload {rr : zzR} (hX : zzX p s m args meth c cc own nL rk D dA ad A) (hQ : Q = MQ below (zzQ D dA ad A rk rr) args s 0 0 A) {call : Nat → List Value → zzM → Option zzR} (hcall : zzCl l D dA ad P R call)
    {pc len : Nat} {aux : List (Nat × Nat)} (hdg : decode cc pc = .ok (.aaload, len)) (hw : zzwd P own nL len pc (.aaload) aux) {ls : zzL} {st : List Value} {μ : zzM} {next : zzL → List Value → zzM → Option zzR} {jump : Nat → List Value → Option zzR}
    (h : zzstep call rk (.aaload) aux ls st μ next jump = some rr)
    (hn : ∀ ls' st' μ', next ls' st' μ' = some rr → zzW p l e R s m args below meth c Q D dA ad A nL (pc + len) ls' st' μ')
    (hj : ∀ t st', jump t st' = some rr → zzW p l e R s m args below meth c Q D dA ad A nL t ls st' μ) : zzW p l e R s m args below meth c Q D dA ad A nL pc ls st μ := by
  intro H locs lc hP hS hl
  obtain ⟨hx, hb, hml, hown, hts, hK, hnw, hinj, hA, hlocks, hrt⟩ := hX
  have hD : ∀ μ, va_D A (zzworld dA ad μ) := fun μ => zzD_of hinj (fun i hi => hA _ (Or.inl ⟨i, hi, rfl⟩))
  cases hw
  obtain ⟨a, i, r, he9, h9⟩ := zzai_s h
  clear h
  subst he9
  have h := h9
  clear h9
  try dsimp only at h
  obtain ⟨k, n, ts, hc, h⟩ := zzar_s h
  try dsimp only at h
  split at h
  · obtain ⟨j, t, e1, e2, h9⟩ := zzsr_s _ _ h
    clear h
    obtain ⟨_, hn1, hn2⟩ := zzkd_arr hc
    have hj2 : j < ts.length := (List.getElem?_eq_some_iff.mp e2).1
    rw [Nat.zero_add] at e1
    subst e1
    have hcl : (nI j).toNatClampNeg = j := nI_clamp (by omega)
    refine va_aldq (C := "PackedForest$Setting") hx hb hK hP a 4 (zzworld_at hc) rfl (vp_in_nI (show j < n by omega) (show n < 2 ^ 31 by omega)) hdg ?_
    show W p l e R s m args below meth c H locs 0 0 Q (F0 m (pc + 1) lc (va_rf ((ts[(nI j).toNatClampNeg]?).map ad) :: List.map (zzcv ad) r))
    rw [hcl, e2]
    exact hn _ _ _ h9 H locs lc hP hS hl
  · cases h
set_option maxHeartbeats 400000 in
set_option maxRecDepth 20000 in
theorem zs_iastore {rr : zzR} (hX : zzX p s m args meth c cc own nL rk D dA ad A) (hQ : Q = MQ below (zzQ D dA ad A rk rr) args s 0 0 A) {call : Nat → List Value → zzM → Option zzR} (hcall : zzCl l D dA ad P R call)
    {pc len : Nat} {aux : List (Nat × Nat)} (hdg : decode cc pc = .ok (.iastore, len)) (hw : zzwd P own nL len pc (.iastore) aux) {ls : zzL} {st : List Value} {μ : zzM} {next : zzL → List Value → zzM → Option zzR} {jump : Nat → List Value → Option zzR}
    (h : zzstep call rk (.iastore) aux ls st μ next jump = some rr)
    (hn : ∀ ls' st' μ', next ls' st' μ' = some rr → zzW p l e R s m args below meth c Q D dA ad A nL (pc + len) ls' st' μ')
    (hj : ∀ t st', jump t st' = some rr → zzW p l e R s m args below meth c Q D dA ad A nL t ls st' μ) : zzW p l e R s m args below meth c Q D dA ad A nL pc ls st μ := by
  intro H locs lc hP hS hl
  obtain ⟨hx, hb, hml, hown, hts, hK, hnw, hinj, hA, hlocks, hrt⟩ := hX
  have hD : ∀ μ, va_D A (zzworld dA ad μ) := fun μ => zzD_of hinj (fun i hi => hA _ (Or.inl ⟨i, hi, rfl⟩))
  cases hw
  obtain ⟨a, i, v, r, he9, h9⟩ := zzas_s h
  clear h
  subst he9
  have h := h9
  clear h9
  try dsimp only at h
  obtain ⟨k, n, ts, hc, h⟩ := zzar_s h
  try dsimp only at h
  split at h
  · obtain ⟨μ', h1, h⟩ := Option.bind_eq_some_iff.mp h
    obtain ⟨hi, rfl⟩ := zzsi_s h1
    refine va_iast hx hb hK hP (hD μ) hS a 0 (zzworld_at hc) rfl hi hdg (fun H1 locs1 hP1 _ hS1 => hn _ _ _ h H1 locs1 lc ?_ hS1 hl)
    rw [zzset_eq hc ?_ (fun j d' hne => zzcell_wI j d' hne)] at hP1
    · exact hP1
    · show (Sum.inl (dA 0, n, .inl ((zzwI μ a i.toNatClampNeg v).1 a)) : va_E) = _
      rw [zzwI_row]
  · cases h
set_option maxHeartbeats 400000 in
set_option maxRecDepth 20000 in
theorem zs_bastore {rr : zzR} (hX : zzX p s m args meth c cc own nL rk D dA ad A) (hQ : Q = MQ below (zzQ D dA ad A rk rr) args s 0 0 A) {call : Nat → List Value → zzM → Option zzR} (hcall : zzCl l D dA ad P R call)
    {pc len : Nat} {aux : List (Nat × Nat)} (hdg : decode cc pc = .ok (.bastore, len)) (hw : zzwd P own nL len pc (.bastore) aux) {ls : zzL} {st : List Value} {μ : zzM} {next : zzL → List Value → zzM → Option zzR} {jump : Nat → List Value → Option zzR}
    (h : zzstep call rk (.bastore) aux ls st μ next jump = some rr)
    (hn : ∀ ls' st' μ', next ls' st' μ' = some rr → zzW p l e R s m args below meth c Q D dA ad A nL (pc + len) ls' st' μ')
    (hj : ∀ t st', jump t st' = some rr → zzW p l e R s m args below meth c Q D dA ad A nL t ls st' μ) : zzW p l e R s m args below meth c Q D dA ad A nL pc ls st μ := by
  intro H locs lc hP hS hl
  obtain ⟨hx, hb, hml, hown, hts, hK, hnw, hinj, hA, hlocks, hrt⟩ := hX
  have hD : ∀ μ, va_D A (zzworld dA ad μ) := fun μ => zzD_of hinj (fun i hi => hA _ (Or.inl ⟨i, hi, rfl⟩))
  cases hw
  obtain ⟨a, i, v, r, he9, h9⟩ := zzas_s h
  clear h
  subst he9
  have h := h9
  clear h9
  try dsimp only at h
  obtain ⟨k, n, ts, hc, h⟩ := zzar_s h
  try dsimp only at h
  split at h
  · split at h
    · rename_i hv
      obtain ⟨μ', h1, h⟩ := Option.bind_eq_some_iff.mp h
      obtain ⟨hi, rfl⟩ := zzsi_s h1
      refine va_zast hx hb hK hP (hD μ) hS a 1 (zzworld_at hc) rfl hi hdg (fun H1 locs1 hP1 _ hS1 => hn _ _ _ h H1 locs1 lc ?_ hS1 hl)
      rw [zznar hv, zzset_eq hc ?_ (fun j d' hne => zzcell_wI j d' hne)] at hP1
      · exact hP1
      · show (Sum.inl (dA 1, n, .inl ((zzwI μ a i.toNatClampNeg v).1 a)) : va_E) = _
        rw [zzwI_row]
    · cases h
  · obtain ⟨μ', h1, h⟩ := Option.bind_eq_some_iff.mp h
    obtain ⟨hi, rfl⟩ := zzsi_s h1
    refine va_bast hx hb hK hP (hD μ) hS a 2 (zzworld_at hc) rfl hi hdg (fun H1 locs1 hP1 _ hS1 => hn _ _ _ h H1 locs1 lc ?_ hS1 hl)
    rw [vp_nar_byte, zzset_eq hc ?_ (fun j d' hne => zzcell_wI j d' hne)] at hP1
    · exact hP1
    · show (Sum.inl (dA 2, n, .inl ((zzwI μ a i.toNatClampNeg v.toInt8.toInt32).1 a)) : va_E) = _
      rw [zzwI_row]
  · cases h
set_option maxHeartbeats 400000 in
set_option maxRecDepth 20000 in
theorem zs_lastore {rr : zzR} (hX : zzX p s m args meth c cc own nL rk D dA ad A) (hQ : Q = MQ below (zzQ D dA ad A rk rr) args s 0 0 A) {call : Nat → List Value → zzM → Option zzR} (hcall : zzCl l D dA ad P R call)
    {pc len : Nat} {aux : List (Nat × Nat)} (hdg : decode cc pc = .ok (.lastore, len)) (hw : zzwd P own nL len pc (.lastore) aux) {ls : zzL} {st : List Value} {μ : zzM} {next : zzL → List Value → zzM → Option zzR} {jump : Nat → List Value → Option zzR}
    (h : zzstep call rk (.lastore) aux ls st μ next jump = some rr)
    (hn : ∀ ls' st' μ', next ls' st' μ' = some rr → zzW p l e R s m args below meth c Q D dA ad A nL (pc + len) ls' st' μ')
    (hj : ∀ t st', jump t st' = some rr → zzW p l e R s m args below meth c Q D dA ad A nL t ls st' μ) : zzW p l e R s m args below meth c Q D dA ad A nL pc ls st μ := by
  intro H locs lc hP hS hl
  obtain ⟨hx, hb, hml, hown, hts, hK, hnw, hinj, hA, hlocks, hrt⟩ := hX
  have hD : ∀ μ, va_D A (zzworld dA ad μ) := fun μ => zzD_of hinj (fun i hi => hA _ (Or.inl ⟨i, hi, rfl⟩))
  cases hw
  obtain ⟨a, i, v, r, he9, h9⟩ := zzal_s h
  clear h
  subst he9
  have h := h9
  clear h9
  try dsimp only at h
  obtain ⟨k, n, ts, hc, h⟩ := zzar_s h
  try dsimp only at h
  split at h
  · obtain ⟨μ', h1, h⟩ := Option.bind_eq_some_iff.mp h
    obtain ⟨hi, rfl⟩ := zzsl_s h1
    refine va_last hx hb hK hP (hD μ) hS a 3 (zzworld_at hc) rfl hi hdg (fun H1 locs1 hP1 _ hS1 => hn _ _ _ h H1 locs1 lc ?_ hS1 hl)
    rw [zzset_eq hc ?_ (fun j d' hne => zzcell_wL j d' hne)] at hP1
    · exact hP1
    · show (Sum.inl (dA 3, n, .inr (.inl ((zzwL μ a i.toNatClampNeg v).2 a))) : va_E) = _
      rw [zzwL_row]
  · cases h
set_option maxHeartbeats 400000 in
set_option maxRecDepth 20000 in
theorem zs_ireturn {rr : zzR} (hX : zzX p s m args meth c cc own nL rk D dA ad A) (hQ : Q = MQ below (zzQ D dA ad A rk rr) args s 0 0 A) {call : Nat → List Value → zzM → Option zzR} (hcall : zzCl l D dA ad P R call)
    {pc len : Nat} {aux : List (Nat × Nat)} (hdg : decode cc pc = .ok (.ireturn, len)) (hw : zzwd P own nL len pc (.ireturn) aux) {ls : zzL} {st : List Value} {μ : zzM} {next : zzL → List Value → zzM → Option zzR} {jump : Nat → List Value → Option zzR}
    (h : zzstep call rk (.ireturn) aux ls st μ next jump = some rr)
    (hn : ∀ ls' st' μ', next ls' st' μ' = some rr → zzW p l e R s m args below meth c Q D dA ad A nL (pc + len) ls' st' μ')
    (hj : ∀ t st', jump t st' = some rr → zzW p l e R s m args below meth c Q D dA ad A nL t ls st' μ) : zzW p l e R s m args below meth c Q D dA ad A nL pc ls st μ := by
  intro H locs lc hP hS hl
  obtain ⟨hx, hb, hml, hown, hts, hK, hnw, hinj, hA, hlocks, hrt⟩ := hX
  have hD : ∀ μ, va_D A (zzworld dA ad μ) := fun μ => zzD_of hinj (fun i hi => hA _ (Or.inl ⟨i, hi, rfl⟩))
  cases hw
  obtain ⟨x, r, he9, h9⟩ := zzp1_s h
  clear h
  subst he9
  have h := h9
  clear h9
  try dsimp only at h
  obtain ⟨he8, h8⟩ := zzno_s h
  clear h
  subst he8
  have h := h8
  clear h8
  subst hQ
  try dsimp only at h
  split at h
  · cases h
    exact W.iret hx hb hrt (fun t ht hW => ⟨rfl, by rw [ht]; exact hP, va_K.moved hW.alike hK, hS.F ht⟩) hS.2.2 hdg hlocks
  · split at h
    · rename_i hv
      cases h
      exact W.zret hx hb hrt (zznarB hv) (fun t ht hW => ⟨rfl, by rw [ht]; exact hP, va_K.moved hW.alike hK, hS.F ht⟩) hS.2.2 hdg hlocks
    · cases h
  · cases h
set_option maxHeartbeats 400000 in
set_option maxRecDepth 20000 in
theorem zs_lreturn {rr : zzR} (hX : zzX p s m args meth c cc own nL rk D dA ad A) (hQ : Q = MQ below (zzQ D dA ad A rk rr) args s 0 0 A) {call : Nat → List Value → zzM → Option zzR} (hcall : zzCl l D dA ad P R call)
    {pc len : Nat} {aux : List (Nat × Nat)} (hdg : decode cc pc = .ok (.lreturn, len)) (hw : zzwd P own nL len pc (.lreturn) aux) {ls : zzL} {st : List Value} {μ : zzM} {next : zzL → List Value → zzM → Option zzR} {jump : Nat → List Value → Option zzR}
    (h : zzstep call rk (.lreturn) aux ls st μ next jump = some rr)
    (hn : ∀ ls' st' μ', next ls' st' μ' = some rr → zzW p l e R s m args below meth c Q D dA ad A nL (pc + len) ls' st' μ')
    (hj : ∀ t st', jump t st' = some rr → zzW p l e R s m args below meth c Q D dA ad A nL t ls st' μ) : zzW p l e R s m args below meth c Q D dA ad A nL pc ls st μ := by
  intro H locs lc hP hS hl
  obtain ⟨hx, hb, hml, hown, hts, hK, hnw, hinj, hA, hlocks, hrt⟩ := hX
  have hD : ∀ μ, va_D A (zzworld dA ad μ) := fun μ => zzD_of hinj (fun i hi => hA _ (Or.inl ⟨i, hi, rfl⟩))
  cases hw
  obtain ⟨x, r, he9, h9⟩ := zzq1_s h
  clear h
  subst he9
  have h := h9
  clear h9
  try dsimp only at h
  obtain ⟨he8, h8⟩ := zzno_s h
  clear h
  subst he8
  have h := h8
  clear h8
  subst hQ
  try dsimp only at h
  split at h
  · cases h
    exact W.lret hx hb hrt (fun t ht hW => ⟨rfl, by rw [ht]; exact hP, va_K.moved hW.alike hK, hS.F ht⟩) hS.2.2 hdg hlocks
  · cases h
set_option maxHeartbeats 400000 in
set_option maxRecDepth 20000 in
theorem zs_areturn {rr : zzR} (hX : zzX p s m args meth c cc own nL rk D dA ad A) (hQ : Q = MQ below (zzQ D dA ad A rk rr) args s 0 0 A) {call : Nat → List Value → zzM → Option zzR} (hcall : zzCl l D dA ad P R call)
    {pc len : Nat} {aux : List (Nat × Nat)} (hdg : decode cc pc = .ok (.areturn, len)) (hw : zzwd P own nL len pc (.areturn) aux) {ls : zzL} {st : List Value} {μ : zzM} {next : zzL → List Value → zzM → Option zzR} {jump : Nat → List Value → Option zzR}
    (h : zzstep call rk (.areturn) aux ls st μ next jump = some rr)
    (hn : ∀ ls' st' μ', next ls' st' μ' = some rr → zzW p l e R s m args below meth c Q D dA ad A nL (pc + len) ls' st' μ')
    (hj : ∀ t st', jump t st' = some rr → zzW p l e R s m args below meth c Q D dA ad A nL t ls st' μ) : zzW p l e R s m args below meth c Q D dA ad A nL pc ls st μ := by
  intro H locs lc hP hS hl
  obtain ⟨hx, hb, hml, hown, hts, hK, hnw, hinj, hA, hlocks, hrt⟩ := hX
  have hD : ∀ μ, va_D A (zzworld dA ad μ) := fun μ => zzD_of hinj (fun i hi => hA _ (Or.inl ⟨i, hi, rfl⟩))
  cases hw
  obtain ⟨x, r, he9, h9⟩ := zza1_s h
  clear h
  subst he9
  have h := h9
  clear h9
  try dsimp only at h
  obtain ⟨he8, h8⟩ := zzno_s h
  clear h
  subst he8
  have h := h8
  clear h8
  subst hQ
  try dsimp only at h
  split at h
  · cases h
    obtain ⟨n, hrt⟩ := hrt
    exact W.aret hx hb hrt (Or.inl ⟨n, rfl⟩) (Or.inr ⟨_, rfl⟩) (fun t ht hW => ⟨rfl, by rw [ht]; exact hP, va_K.moved hW.alike hK, hS.F ht⟩) hS.2.2 hdg hlocks
  · cases h
set_option maxHeartbeats 400000 in
set_option maxRecDepth 20000 in
theorem zs_return_ {rr : zzR} (hX : zzX p s m args meth c cc own nL rk D dA ad A) (hQ : Q = MQ below (zzQ D dA ad A rk rr) args s 0 0 A) {call : Nat → List Value → zzM → Option zzR} (hcall : zzCl l D dA ad P R call)
    {pc len : Nat} {aux : List (Nat × Nat)} (hdg : decode cc pc = .ok (.return_, len)) (hw : zzwd P own nL len pc (.return_) aux) {ls : zzL} {st : List Value} {μ : zzM} {next : zzL → List Value → zzM → Option zzR} {jump : Nat → List Value → Option zzR}
    (h : zzstep call rk (.return_) aux ls st μ next jump = some rr)
    (hn : ∀ ls' st' μ', next ls' st' μ' = some rr → zzW p l e R s m args below meth c Q D dA ad A nL (pc + len) ls' st' μ')
    (hj : ∀ t st', jump t st' = some rr → zzW p l e R s m args below meth c Q D dA ad A nL t ls st' μ) : zzW p l e R s m args below meth c Q D dA ad A nL pc ls st μ := by
  intro H locs lc hP hS hl
  obtain ⟨hx, hb, hml, hown, hts, hK, hnw, hinj, hA, hlocks, hrt⟩ := hX
  have hD : ∀ μ, va_D A (zzworld dA ad μ) := fun μ => zzD_of hinj (fun i hi => hA _ (Or.inl ⟨i, hi, rfl⟩))
  cases hw
  obtain ⟨he8, h8⟩ := zzno_s h
  clear h
  subst he8
  have h := h8
  clear h8
  subst hQ
  split at h
  · cases h
    exact W.vret hx hb hrt (fun t ht hW => ⟨rfl, by rw [ht]; exact hP, va_K.moved hW.alike hK, hS.F ht⟩) hS.2.2 hdg hlocks
  · cases h
set_option maxHeartbeats 400000 in
set_option maxRecDepth 20000 in
theorem zs_invokestatic {j : Nat} {rr : zzR} (hX : zzX p s m args meth c cc own nL rk D dA ad A) (hQ : Q = MQ below (zzQ D dA ad A rk rr) args s 0 0 A) {call : Nat → List Value → zzM → Option zzR} (hcall : zzCl l D dA ad P R call)
    {pc len : Nat} {aux : List (Nat × Nat)} (hdg : decode cc pc = .ok (.invokestatic j, len)) (hw : zzwd P own nL len pc (.invokestatic j) aux) {ls : zzL} {st : List Value} {μ : zzM} {next : zzL → List Value → zzM → Option zzR} {jump : Nat → List Value → Option zzR}
    (h : zzstep call rk (.invokestatic j) aux ls st μ next jump = some rr)
    (hn : ∀ ls' st' μ', next ls' st' μ' = some rr → zzW p l e R s m args below meth c Q D dA ad A nL (pc + len) ls' st' μ')
    (hj : ∀ t st', jump t st' = some rr → zzW p l e R s m args below meth c Q D dA ad A nL t ls st' μ) : zzW p l e R s m args below meth c Q D dA ad A nL pc ls st μ := by
  intro H locs lc hP hS hl
  obtain ⟨hx, hb, hml, hown, hts, hK, hnw, hinj, hA, hlocks, hrt⟩ := hX
  have hD : ∀ μ, va_D A (zzworld dA ad μ) := fun μ => zzD_of hinj (fun i hi => hA _ (Or.inl ⟨i, hi, rfl⟩))
  obtain ⟨rfl, hw⟩ := hw
  have h : ((zzcut (zzfst aux).2 st []).bind fun q => bif (zzcat q.2).ble 8 then
      (call (zzfst aux).1 q.1 μ).bind fun o => zzres (zzsnd aux) o fun t => next ls (t ++ q.2) o.2 else none) = some rr := h
  obtain ⟨⟨as, rest⟩, hq, h⟩ := Option.bind_eq_some_iff.mp h
  obtain ⟨bs, hbl, hst, has⟩ := zzcut_s _ _ _ _ _ hq
  rw [List.append_nil] at has
  subst has
  cases hb8 : (zzcat rest).ble 8 with
  | false => rw [hb8] at h; cases h
  | true =>
    simp only [hb8, cond_true] at h
    have hr8 : ((rest.map (zzcv ad)).map fun v => v.category).sum ≤ 8 := by rw [zzcat_s]; exact Nat.le_of_ble_eq_true hb8
    obtain ⟨o, ho, h⟩ := Option.bind_eq_some_iff.mp h
    obtain ⟨t, ht, h⟩ := zzres_s (ad := ad) h
    have hA1 : ∀ q, zzA ad H.size q → A q := fun q hq => hA q (zzAsub hS.1 q hq)
    have hgo : ∀ (H1 : Heap) (locs1 : List Loc), va_P D zzcl (zzworld dA ad o.2) H1 → va_S A s.heap H1 locs1 → W p l e R s m args below meth c H1 locs1 0 0 Q (F0 m (pc + 3) lc ((zzval ad (zzsnd aux).1 o).toList ++ rest.map (zzcv ad))) := by
      intro H1 locs1 hP1 hS1
      have := hn _ _ _ h H1 locs1 lc hP1 hS1 hl
      rw [List.map_append, ht] at this
      exact this
    have hstk : st.map (zzcv ad) = (as.map (zzcv ad)).reverse ++ rest.map (zzcv ad) := by rw [hst, List.map_append, List.map_reverse]
    cases hy : (zzfst aux).1 with
    | zero =>
      rw [hy] at ho hw
      obtain ⟨hlk, hn5, hk0⟩ := hw
      obtain ⟨⟨d, hR⟩, a, b, n0, n1, t0, t1, sp, dp, n, μ', rfl, ha, hb2, hcp, ho2⟩ := hcall.2 _ _ _ ho
      subst ho2
      obtain ⟨⟨g1, g2, g3, g4, g5⟩, e1, e2, e3⟩ := zzcp_cell hcp
      rw [hk0] at hgo
      rw [hstk]
      refine va_copyi (rest := rest.map (zzcv ad)) hx hb (hml.trans hl.1.symm) hown (hts _ hlk) (hts _ zzcpw.1) (hts _ zzcpw.2.1) (hts _ zzcpw.2.2) hK hP (hD μ) hS a b 0 0 (zzworld_at ha) (zzworld_at hb2) rfl rfl rfl g1 g2 g3 g4 g5 (fun i _ => rfl) (by rw [hR]; exact Nat.le_add_left _ _) (by rw [hR]; show _ + (7 + 11) ≤ 40 * (d + 1); omega) hdg (fun H1 locs1 hP1 _ hS1 => (show W p l e R s m args below meth c H1 locs1 0 0 Q (F0 m (pc + 3) lc (rest.map (zzcv ad))) from hgo H1 locs1 ?_ hS1))
      rw [zzset_eq hb2 ?_ (fun j d' hne => zzcell_congr d' (e2 j hne) (by rw [e3]))] at hP1
      · exact hP1
      · show (Sum.inl (dA 0, n1, .inl (μ'.1 b)) : va_E) = _
        rw [e1]
    | succ y =>
      rw [hy] at ho hw
      obtain ⟨q, hPq, ⟨hcode, hini, hc1, hc2, hmL⟩, hstat, hrk, hpar, hlink⟩ := hw
      obtain ⟨d, hR, hM⟩ := hcall.1 y _ _ _ ho q hPq
      subst hR
      rw [hrk] at hgo
      have hroom : (zzroom d).frames + 1 ≤ (zzroom (d + 1)).frames ∧ 8 + (q.2.2.1 + 11) + (zzroom d).locals ≤ (zzroom (d + 1)).locals := ⟨Nat.le_refl _, by show 8 + (q.2.2.1 + 11) + 40 * d ≤ 40 * (d + 1); omega⟩
      have hpre : PreS s H (zzPc D dA ad as μ H.size) (as.map (zzcv ad)) := ⟨fun a U g mk q => by
          obtain ⟨q0, q1, qP, qK, qN⟩ := q
          exact ⟨q0, q1, qP, va_K.moved (u := U) (U := U.calling g mk a) (Vm.Alike.refl U.vm) qK, fun z hz => va_Nw.same rfl rfl (qN z hz)⟩,
        fun U hU hW => ⟨rfl, by rw [hU], by rw [hU]; exact hP, va_K.moved hW.alike hK, fun z hz => va_Nw.warmM hW (hnw z hz)⟩⟩
      rcases hlink with hlink | hlink
      · exact zzcall (va_runS (As := as.map (zzcv ad)) (rest := rest.map (zzcv ad)) ⟨hx, hb, hml, hown, hts⟩ (hM H.size) (va_cwS (zzfst aux).2 hts (zzgoodL (fun w hw => by
            rcases List.mem_cons.mp hw with rfl | hw
            · exact hlink
            rcases List.mem_cons.mp hw with rfl | hw
            · exact hstat
            rcases List.mem_cons.mp hw with rfl | hw
            · exact hini
            · cases hw) (zzgoodIn hcode)) rfl rfl rfl ⟨hc1, hc2, hpar⟩ hroom) hpre rfl (by rw [List.length_map, hbl]) hl.1 hstk (lv_room hr8) hdg ⟨Nat.le_refl _, Nat.le_refl _⟩) hS hA1 hgo
      · exact zzcall (va_runSN (As := as.map (zzcv ad)) (rest := rest.map (zzcv ad)) ⟨hx, hb, hml, hown, hts⟩ (hM H.size) ⟨va_cnB (zzfst aux).2 hts (zzgoodIn hcode) rfl rfl rfl (hnw _ hlink) (hts _ hini) ⟨hc1, hc2, hpar⟩ hroom, hts _ hstat, trivial⟩ hpre rfl (by rw [List.length_map, hbl]) hl.1 hstk (lv_room hr8) hdg ⟨Nat.le_refl _, Nat.le_refl _⟩) hS hA1 hgo
set_option maxHeartbeats 400000 in
set_option maxRecDepth 20000 in
theorem zs_invokevirtual {j : Nat} {rr : zzR} (hX : zzX p s m args meth c cc own nL rk D dA ad A) (hQ : Q = MQ below (zzQ D dA ad A rk rr) args s 0 0 A) {call : Nat → List Value → zzM → Option zzR} (hcall : zzCl l D dA ad P R call)
    {pc len : Nat} {aux : List (Nat × Nat)} (hdg : decode cc pc = .ok (.invokevirtual j, len)) (hw : zzwd P own nL len pc (.invokevirtual j) aux) {ls : zzL} {st : List Value} {μ : zzM} {next : zzL → List Value → zzM → Option zzR} {jump : Nat → List Value → Option zzR}
    (h : zzstep call rk (.invokevirtual j) aux ls st μ next jump = some rr)
    (hn : ∀ ls' st' μ', next ls' st' μ' = some rr → zzW p l e R s m args below meth c Q D dA ad A nL (pc + len) ls' st' μ')
    (hj : ∀ t st', jump t st' = some rr → zzW p l e R s m args below meth c Q D dA ad A nL t ls st' μ) : zzW p l e R s m args below meth c Q D dA ad A nL pc ls st μ := by
  intro H locs lc hP hS hl
  obtain ⟨hx, hb, hml, hown, hts, hK, hnw, hinj, hA, hlocks, hrt⟩ := hX
  have hD : ∀ μ, va_D A (zzworld dA ad μ) := fun μ => zzD_of hinj (fun i hi => hA _ (Or.inl ⟨i, hi, rfl⟩))
  obtain ⟨rfl, hw⟩ := hw
  have h : ((zzcut (zzfst aux).2 st []).bind fun q => zza1 q.2 fun c r => bif (zzcat r).ble 8 then zzfd c (zzthd aux).1 (zzthd aux).2 fun _ _ =>
      (call (zzfst aux).1 (.ref c :: q.1) μ).bind fun o => zzres (zzsnd aux) o fun t => next ls (t ++ r) o.2 else none) = some rr := h
  obtain ⟨⟨as, rest0⟩, hq, h⟩ := Option.bind_eq_some_iff.mp h
  obtain ⟨bs, hbl, hst, has⟩ := zzcut_s _ _ _ _ _ hq
  rw [List.append_nil] at has
  subst has
  obtain ⟨a, rest, he9, h⟩ := zza1_s h
  have he9 : rest0 = .ref a :: rest := he9
  subst he9
  cases hb8 : (zzcat rest).ble 8 with
  | false => rw [hb8] at h; cases h
  | true =>
    simp only [hb8, cond_true] at h
    have hr8 : ((rest.map (zzcv ad)).map fun v => v.category).sum ≤ 8 := by rw [zzcat_s]; exact Nat.le_of_ble_eq_true hb8
    obtain ⟨fs, ka, kb, hcc, hf, h⟩ := zzfd_s h
    obtain ⟨o, ho, h⟩ := Option.bind_eq_some_iff.mp h
    obtain ⟨t, ht, h⟩ := zzres_s (ad := ad) h
    have hA1 : ∀ q, zzA ad H.size q → A q := fun q hq => hA q (zzAsub hS.1 q hq)
    have hgo : ∀ (H1 : Heap) (locs1 : List Loc), va_P D zzcl (zzworld dA ad o.2) H1 → va_S A s.heap H1 locs1 → W p l e R s m args below meth c H1 locs1 0 0 Q (F0 m (pc + 3) lc ((zzval ad (zzsnd aux).1 o).toList ++ rest.map (zzcv ad))) := by
      intro H1 locs1 hP1 hS1
      have := hn _ _ _ h H1 locs1 lc hP1 hS1 hl
      rw [List.map_append, ht] at this
      exact this
    have hstk : st.map (zzcv ad) = (as.map (zzcv ad)).reverse ++ .ref (ad a) :: rest.map (zzcv ad) := by rw [hst, List.map_append, List.map_reverse]; rfl
    cases hy : (zzfst aux).1 with
    | zero =>
      rw [hy] at hw
      exact hw.elim
    | succ y =>
      rw [hy] at ho hw
      obtain ⟨q, r, hPq, ⟨hcode, hini, hc1, hc2, hmL⟩, hcr, hrn, hins, hsel, hrk, hpar, hlink⟩ := hw
      obtain ⟨d, hR, hM⟩ := hcall.1 y _ _ _ ho q hPq
      subst hR
      rw [hrk] at hgo
      have hroom : (zzroom d).frames + 1 ≤ (zzroom (d + 1)).frames ∧ 8 + (q.2.2.1 + 11) + (zzroom d).locals ≤ (zzroom (d + 1)).locals := ⟨Nat.le_refl _, by show 8 + (q.2.2.1 + 11) + 40 * d ≤ 40 * (d + 1); omega⟩
      have hrecv : ∃ cell : Cell, H[ad a]? = some cell ∧ cell.vm.isStatics = false ∧ s.vm.findClass q.1.cls = some cell.cls := by
        rw [← hrn]
        exact va_recv hK hP hcr (zzworld_at hcc)
      have hpre : PreV s H q.1.cls (ad a) (zzPc D dA ad (.ref a :: as) μ H.size) (as.map (zzcv ad)) := ⟨fun a U g mk q => by
          obtain ⟨q0, q1, qP, qK, qN⟩ := q
          exact ⟨q0, q1, qP, va_K.moved (u := U) (U := U.calling g mk a) (Vm.Alike.refl U.vm) qK, fun z hz => va_Nw.same rfl rfl (qN z hz)⟩, hrecv,
        fun U hU hW => ⟨rfl, by rw [hU], by rw [hU]; exact hP, va_K.moved hW.alike hK, fun z hz => va_Nw.warmM hW (hnw z hz)⟩⟩
      exact zzcall (va_runV (As := as.map (zzcv ad)) (rest := rest.map (zzcv ad)) ⟨hx, hb, hml, hown, hts⟩ (hM H.size) (cwV (zzfst aux).2 hts (zzgoodL (fun w hw => by
            rcases List.mem_cons.mp hw with rfl | hw
            · exact hlink
            rcases List.mem_cons.mp hw with rfl | hw
            · exact hins
            rcases List.mem_cons.mp hw with rfl | hw
            · exact hsel
            rcases List.mem_cons.mp hw with rfl | hw
            · exact hini
            · cases hw) (zzgoodIn hcode)) rfl rfl rfl ⟨rfl, hc1, hc2, hpar⟩ hroom) hpre rfl (by rw [List.length_map, hbl]) hl.1 hstk (lv_room hr8) hdg ⟨Nat.le_refl _, Nat.le_refl _⟩) hS hA1 hgo
end
end
section
/-! A METHOD of the small machine, over the machine: rows in a row, loops, calls -/
section
variable {p : Program} {l : Launch} {e : Env} {R : Room} {s : State} {m : MethodId} {args : Array Value} {below : List Frame} {meth : Method} {c : Code} {Q : State → Prop} {D : va_G} {dA : Nat → ClassId} {ad : Nat → Nat} {A : Nat → Prop} {nL rk : Nat} {cc : ByteArray} {own : String} {P : List zzT}
set_option maxHeartbeats 4000000 in
theorem zzstep_ok {rr : zzR} (hX : zzX p s m args meth c cc own nL rk D dA ad A) (hQ : Q = MQ below (zzQ D dA ad A rk rr) args s 0 0 A) {call : Nat → List Value → zzM → Option zzR} (hcall : zzCl l D dA ad P R call)
    {pc len : Nat} {aux : List (Nat × Nat)} {ls : zzL} {st : List Value} {μ : zzM} {next : zzL → List Value → zzM → Option zzR} {jump : Nat → List Value → Option zzR}
    (hn : ∀ ls' st' μ', next ls' st' μ' = some rr → zzW p l e R s m args below meth c Q D dA ad A nL (pc + len) ls' st' μ')
    (hj : ∀ t st', jump t st' = some rr → zzW p l e R s m args below meth c Q D dA ad A nL t ls st' μ) : ∀ (i : Instr), decode cc pc = .ok (i, len) → zzwd P own nL len pc i aux → zzstep call rk i aux ls st μ next jump = some rr → zzW p l e R s m args below meth c Q D dA ad A nL pc ls st μ := by
  intro i
  cases i with
  | iadd => exact fun hdg hw h => zs_iadd hX hQ hcall hdg hw h hn hj
  | isub => exact fun hdg hw h => zs_isub hX hQ hcall hdg hw h hn hj
  | imul => exact fun hdg hw h => zs_imul hX hQ hcall hdg hw h hn hj
  | iand => exact fun hdg hw h => zs_iand hX hQ hcall hdg hw h hn hj
  | ior => exact fun hdg hw h => zs_ior hX hQ hcall hdg hw h hn hj
  | ixor => exact fun hdg hw h => zs_ixor hX hQ hcall hdg hw h hn hj
  | ishl => exact fun hdg hw h => zs_ishl hX hQ hcall hdg hw h hn hj
  | ishr => exact fun hdg hw h => zs_ishr hX hQ hcall hdg hw h hn hj
  | iushr => exact fun hdg hw h => zs_iushr hX hQ hcall hdg hw h hn hj
  | idiv => exact fun hdg hw h => zs_idiv hX hQ hcall hdg hw h hn hj
  | irem => exact fun hdg hw h => zs_irem hX hQ hcall hdg hw h hn hj
  | ladd => exact fun hdg hw h => zs_ladd hX hQ hcall hdg hw h hn hj
  | lsub => exact fun hdg hw h => zs_lsub hX hQ hcall hdg hw h hn hj
  | lmul => exact fun hdg hw h => zs_lmul hX hQ hcall hdg hw h hn hj
  | land => exact fun hdg hw h => zs_land hX hQ hcall hdg hw h hn hj
  | lor => exact fun hdg hw h => zs_lor hX hQ hcall hdg hw h hn hj
  | lrem => exact fun hdg hw h => zs_lrem hX hQ hcall hdg hw h hn hj
  | lcmp => exact fun hdg hw h => zs_lcmp hX hQ hcall hdg hw h hn hj
  | lshl => exact fun hdg hw h => zs_lshl hX hQ hcall hdg hw h hn hj
  | lshr => exact fun hdg hw h => zs_lshr hX hQ hcall hdg hw h hn hj
  | i2l => exact fun hdg hw h => zs_i2l hX hQ hcall hdg hw h hn hj
  | l2i => exact fun hdg hw h => zs_l2i hX hQ hcall hdg hw h hn hj
  | i2b => exact fun hdg hw h => zs_i2b hX hQ hcall hdg hw h hn hj
  | iconst n => exact fun hdg hw h => zs_iconst hX hQ hcall hdg hw h hn hj
  | bipush n => exact fun hdg hw h => zs_bipush hX hQ hcall hdg hw h hn hj
  | sipush n => exact fun hdg hw h => zs_sipush hX hQ hcall hdg hw h hn hj
  | lconst n => exact fun hdg hw h => zs_lconst hX hQ hcall hdg hw h hn hj
  | ldc n => exact fun hdg hw h => zs_ldc hX hQ hcall hdg hw h hn hj
  | ldc_w n => exact fun hdg hw h => zs_ldc_w hX hQ hcall hdg hw h hn hj
  | ldc2_w n => exact fun hdg hw h => zs_ldc2_w hX hQ hcall hdg hw h hn hj
  | iload k => exact fun hdg hw h => zs_iload hX hQ hcall hdg hw h hn hj
  | iload_n k => exact fun hdg hw h => zs_iload_n hX hQ hcall hdg hw h hn hj
  | lload k => exact fun hdg hw h => zs_lload hX hQ hcall hdg hw h hn hj
  | lload_n k => exact fun hdg hw h => zs_lload_n hX hQ hcall hdg hw h hn hj
  | aload k => exact fun hdg hw h => zs_aload hX hQ hcall hdg hw h hn hj
  | aload_n k => exact fun hdg hw h => zs_aload_n hX hQ hcall hdg hw h hn hj
  | istore k => exact fun hdg hw h => zs_istore hX hQ hcall hdg hw h hn hj
  | istore_n k => exact fun hdg hw h => zs_istore_n hX hQ hcall hdg hw h hn hj
  | lstore k => exact fun hdg hw h => zs_lstore hX hQ hcall hdg hw h hn hj
  | lstore_n k => exact fun hdg hw h => zs_lstore_n hX hQ hcall hdg hw h hn hj
  | iinc k n => exact fun hdg hw h => zs_iinc hX hQ hcall hdg hw h hn hj
  | dup => exact fun hdg hw h => zs_dup hX hQ hcall hdg hw h hn hj
  | dup2 => exact fun hdg hw h => zs_dup2 hX hQ hcall hdg hw h hn hj
  | pop => exact fun hdg hw h => zs_pop hX hQ hcall hdg hw h hn hj
  | goto o => exact fun hdg hw h => zs_goto hX hQ hcall hdg hw h hn hj
  | tableswitch d lo hi os => exact fun hdg hw h => zs_tableswitch hX hQ hcall hdg hw h hn hj
  | lookupswitch d ps => exact fun hdg hw h => zs_lookupswitch hX hQ hcall hdg hw h hn hj
  | getfield j => exact fun hdg hw h => zs_getfield hX hQ hcall hdg hw h hn hj
  | putfield j => exact fun hdg hw h => zs_putfield hX hQ hcall hdg hw h hn hj
  | arraylength => exact fun hdg hw h => zs_arraylength hX hQ hcall hdg hw h hn hj
  | iaload => exact fun hdg hw h => zs_iaload hX hQ hcall hdg hw h hn hj
  | baload => exact fun hdg hw h => zs_baload hX hQ hcall hdg hw h hn hj
  | laload => exact fun hdg hw h => zs_laload hX hQ hcall hdg hw h hn hj
  | aaload => exact fun hdg hw h => zs_aaload hX hQ hcall hdg hw h hn hj
  | iastore => exact fun hdg hw h => zs_iastore hX hQ hcall hdg hw h hn hj
  | bastore => exact fun hdg hw h => zs_bastore hX hQ hcall hdg hw h hn hj
  | lastore => exact fun hdg hw h => zs_lastore hX hQ hcall hdg hw h hn hj
  | ireturn => exact fun hdg hw h => zs_ireturn hX hQ hcall hdg hw h hn hj
  | lreturn => exact fun hdg hw h => zs_lreturn hX hQ hcall hdg hw h hn hj
  | areturn => exact fun hdg hw h => zs_areturn hX hQ hcall hdg hw h hn hj
  | return_ => exact fun hdg hw h => zs_return_ hX hQ hcall hdg hw h hn hj
  | invokestatic j => exact fun hdg hw h => zs_invokestatic hX hQ hcall hdg hw h hn hj
  | invokevirtual j => exact fun hdg hw h => zs_invokevirtual hX hQ hcall hdg hw h hn hj
  | ifCond cd o =>
    cases cd with
    | eq => exact fun hdg hw h => zs_ifCond_eq hX hQ hcall hdg hw h hn hj
    | ne => exact fun hdg hw h => zs_ifCond_ne hX hQ hcall hdg hw h hn hj
    | lt => exact fun hdg hw h => zs_ifCond_lt hX hQ hcall hdg hw h hn hj
    | ge => exact fun hdg hw h => zs_ifCond_ge hX hQ hcall hdg hw h hn hj
    | gt => exact fun hdg hw h => zs_ifCond_gt hX hQ hcall hdg hw h hn hj
    | le => exact fun hdg hw h => zs_ifCond_le hX hQ hcall hdg hw h hn hj
  | if_icmp cd o =>
    cases cd with
    | eq => exact fun hdg hw h => zs_if_icmp_eq hX hQ hcall hdg hw h hn hj
    | ne => exact fun hdg hw h => zs_if_icmp_ne hX hQ hcall hdg hw h hn hj
    | lt => exact fun hdg hw h => zs_if_icmp_lt hX hQ hcall hdg hw h hn hj
    | ge => exact fun hdg hw h => zs_if_icmp_ge hX hQ hcall hdg hw h hn hj
    | gt => exact fun hdg hw h => zs_if_icmp_gt hX hQ hcall hdg hw h hn hj
    | le => exact fun hdg hw h => zs_if_icmp_le hX hQ hcall hdg hw h hn hj
  | _ => exact fun _ _ h => absurd (show (none : Option zzR) = some rr from h) (fun z => by cases z)
def zzrow (P : List zzT) (own : String) (nL : Nat) (cc : ByteArray) (q : zzI) : Prop := q.2.1 = 0 ∨ (decode cc q.1 = .ok (q.2.2.1, q.2.1) ∧ zzwd P own nL q.2.1 q.1 q.2.2.1 q.2.2.2)
def zzseq : List zzI → Bool
  | [] => true
  | [_] => true
  | q :: r :: t => r.1.beq (q.1 + q.2.1) && zzseq (r :: t)
theorem zzseq_tail {q : zzI} {r : List zzI} (h : zzseq (q :: r) = true) : zzseq r = true := by
  cases r with
  | nil => rfl
  | cons a t =>
    unfold zzseq at h
    exact (Bool.and_eq_true_iff.mp h).2
theorem zzseq_head {q a : zzI} {t : List zzI} (h : zzseq (q :: a :: t) = true) : a.1 = q.1 + q.2.1 := by
  unfold zzseq at h
  exact Nat.eq_of_beq_eq_true (Bool.and_eq_true_iff.mp h).1
theorem zzdrop_s (t : Nat) : ∀ (r : List zzI) (q : zzI) (r' : List zzI), zzdrop t r = q :: r' → q.1 = t ∧ (∀ x ∈ q :: r', x ∈ r) ∧ (zzseq r = true → zzseq (q :: r') = true)
  | [], _, _, h => by cases h
  | a :: r, q, r', h => by
    unfold zzdrop at h
    cases hb : a.1.beq t with
    | true =>
      rw [hb] at h
      have h : a :: r = q :: r' := h
      cases h
      exact ⟨Nat.eq_of_beq_eq_true hb, fun x hx => hx, fun h => h⟩
    | false =>
      rw [hb] at h
      obtain ⟨h1, h2, h3⟩ := zzdrop_s t r q r' h
      exact ⟨h1, fun x hx => List.mem_cons_of_mem _ (h2 x hx), fun h => h3 (zzseq_tail h)⟩
theorem zzfind_s (t : Nat) : ∀ (ctx : List (Nat × (zzL → zzM → Option zzR))) (k : zzL → zzM → Option zzR), zzfind t ctx = some k → (t, k) ∈ ctx
  | [], _, h => by cases h
  | q :: r, k, h => by
    unfold zzfind at h
    cases hb : q.1.beq t with
    | true =>
      rw [hb] at h
      have h1 : q.1 = t := Nat.eq_of_beq_eq_true hb
      have h2 : q.2 = k := Option.some.inj h
      rw [← h1, ← h2]
      exact List.mem_cons_self
    | false =>
      rw [hb] at h
      exact List.mem_cons_of_mem _ (zzfind_s t r k h)
theorem zzup_sub3 (i : Nat) (r : List (Nat × Nat)) (l0 ls : zzL) (v : List Int32 × List Int64) (ih : ∀ q ∈ zzup r l0 v.1 v.2, zzpk r l0 ls = some v → q ∈ ls) (h : (match zzlk l0 i, zzlk ls i with
    | some (.ref a), some (.ref b) => bif a.beq b then zzpk r l0 ls else none
    | _, _ => none) = some v) (q : Nat × Value) (hq : q ∈ (match zzlk l0 i with
    | some x => (i, x) :: zzup r l0 v.1 v.2
    | none => zzup r l0 v.1 v.2)) : q ∈ ls := by
  split at h
  · rename_i a b ha hb
    cases hab : a.beq b with
    | false => rw [hab] at h; cases h
    | true =>
      rw [hab] at h
      have hab := Nat.eq_of_beq_eq_true hab
      subst hab
      rw [ha] at hq
      rcases List.mem_cons.mp hq with hq | hq
      · subst hq; exact zzlk_mem hb
      · exact ih q hq h
  · cases h
theorem zzup_sub : ∀ (aux : List (Nat × Nat)) (l0 ls : zzL) (v : List Int32 × List Int64), zzpk aux l0 ls = some v → ∀ q ∈ zzup aux l0 v.1 v.2, q ∈ ls
  | [], _, _, _, _, q, hq => by cases hq
  | (i, 1) :: r, l0, ls, v, h, q, hq => by
    have h : (match zzlk ls i with
      | some (.int x) => (zzpk r l0 ls).bind fun v => some (x :: v.1, v.2)
      | _ => none) = some v := h
    split at h
    · rename_i x hx
      obtain ⟨v', h1, h2⟩ := Option.bind_eq_some_iff.mp h
      cases h2
      rcases List.mem_cons.mp hq with hq | hq
      · subst hq; exact zzlk_mem hx
      · exact zzup_sub r l0 ls v' h1 q hq
    · cases h
  | (i, 2) :: r, l0, ls, v, h, q, hq => by
    have h : (match zzlk ls i with
      | some (.long x) => (zzpk r l0 ls).bind fun v => some (v.1, x :: v.2)
      | _ => none) = some v := h
    split at h
    · rename_i x hx
      obtain ⟨v', h1, h2⟩ := Option.bind_eq_some_iff.mp h
      cases h2
      rcases List.mem_cons.mp hq with hq | hq
      · subst hq; exact zzlk_mem hx
      · exact zzup_sub r l0 ls v' h1 q hq
    · cases h
  | (i, 0) :: r, l0, ls, v, h, q, hq => zzup_sub3 i r l0 ls v (fun q hq h => zzup_sub r l0 ls v h q hq) h q hq
  | (i, k + 3) :: r, l0, ls, v, h, q, hq => zzup_sub3 i r l0 ls v (fun q hq h => zzup_sub r l0 ls v h q hq) h q hq
theorem zzW_sub {pc : Nat} {ls ls' : zzL} {st : List Value} {μ : zzM} (hs : ∀ q ∈ ls', q ∈ ls) (h : zzW p l e R s m args below meth c Q D dA ad A nL pc ls' st μ) : zzW p l e R s m args below meth c Q D dA ad A nL pc ls st μ := by
  intro H locs lc hP hS hl
  refine h H locs lc hP hS ⟨hl.1, hl.2.1, fun q hq => hl.2.2 q ?_⟩
  obtain ⟨x, hx, rfl⟩ := List.mem_map.mp hq
  exact List.mem_map.mpr ⟨x, hs x hx, rfl⟩
set_option maxHeartbeats 4000000 in
theorem zzx_ok {rr : zzR} {N : Nat} (hX : zzX p s m args meth c cc own nL rk D dA ad A) (hQ : Q = MQ below (zzQ D dA ad A rk rr) args s 0 0 A) {call : Nat → List Value → zzM → Option zzR} (hcall : zzCl l D dA ad P R call) : ∀ (f : Nat) (ctx : List (Nat × (zzL → zzM → Option zzR))) (q : zzI) (is : List zzI) (ls : zzL) (st : List Value) (μ : zzM), zzx call N rk f ctx (q :: is) ls st μ = some rr → (∀ x ∈ q :: is, zzrow P own nL cc x) → zzseq (q :: is) = true →
    (∀ x ∈ ctx, ∀ ls' μ', x.2 ls' μ' = some rr → zzW p l e R s m args below meth c Q D dA ad A nL x.1 ls' [] μ') → zzW p l e R s m args below meth c Q D dA ad A nL q.1 ls st μ := by
  intro f
  induction f with
  | zero => intro ctx q is ls st μ h; cases h
  | succ f ih =>
    intro ctx q is ls st μ h hr hs hc
    obtain ⟨pc, len, i, aux⟩ := q
    -- the rest of the code, with any open loops
    have go : ∀ (ctx' : List (Nat × (zzL → zzM → Option zzR))) (ls' : zzL) (st' : List Value) (μ' : zzM), zzx call N rk f ctx' is ls' st' μ' = some rr → (∀ x ∈ ctx', ∀ ls' μ', x.2 ls' μ' = some rr → zzW p l e R s m args below meth c Q D dA ad A nL x.1 ls' [] μ') → zzW p l e R s m args below meth c Q D dA ad A nL (pc + len) ls' st' μ' := by
      intro ctx' ls' st' μ' h' hc'
      cases his : is with
      | nil => rw [his] at h'; cases f <;> cases h'
      | cons a t =>
        subst his
        have := ih ctx' a t ls' st' μ' h' (fun x hx => hr x (List.mem_cons_of_mem _ hx)) (zzseq_tail hs) hc'
        rw [zzseq_head hs] at this
        exact this
    cases len with
    | zero =>
      have h : (match st with
        | [] => (zzpk aux ls ls).bind fun v0 => zzl (fun v again => zzx call N rk f ((pc, fun ls' μ' => (zzpk aux ls ls').bind fun v' => again (v'.1, v'.2, μ')) :: ctx) is (zzup aux ls v.1 v.2.1) [] v.2.2) N (v0.1, v0.2, μ)
        | _ => none) = some rr := by
        cases st <;> exact h
      cases st with
      | cons a t => cases h
      | nil =>
        obtain ⟨v0, hv0, h⟩ := Option.bind_eq_some_iff.mp h
        have lp : ∀ (n : Nat) (v : zzS), zzl (fun v again => zzx call N rk f ((pc, fun ls' μ' => (zzpk aux ls ls').bind fun v' => again (v'.1, v'.2, μ')) :: ctx) is (zzup aux ls v.1 v.2.1) [] v.2.2) n v = some rr → zzW p l e R s m args below meth c Q D dA ad A nL pc (zzup aux ls v.1 v.2.1) [] v.2.2 := by
          intro n
          induction n with
          | zero => intro v hv; cases hv
          | succ n ihn =>
            intro v hv
            refine go _ _ _ _ hv ?_
            intro x hx ls' μ' hk
            rcases List.mem_cons.mp hx with rfl | hx
            · obtain ⟨v', hv', hk⟩ := Option.bind_eq_some_iff.mp hk
              exact zzW_sub (zzup_sub aux ls ls' v' hv') (ihn (v'.1, v'.2, μ') hk)
            · exact hc x hx ls' μ' hk
        exact zzW_sub (zzup_sub aux ls ls v0 hv0) (lp N (v0.1, v0.2, μ) h)
    | succ len =>
      rcases hr _ List.mem_cons_self with h0 | ⟨hdg, hw⟩
      · cases h0
      · refine zzstep_ok (aux := aux) (next := fun ls st μ => zzx call N rk f ctx is ls st μ) (jump := fun t st => match zzfind t ctx with
          | some k => (match st with
            | [] => k ls μ
            | _ => none)
          | none => zzx call N rk f ctx (zzdrop t is) ls st μ) hX hQ hcall (fun ls' st' μ' h' => go ctx ls' st' μ' h' hc) (fun t st' h' => ?_) i hdg hw h
        cases hf : zzfind t ctx with
        | some k =>
          simp only [hf] at h'
          cases st' with
          | cons a b => cases h'
          | nil => exact hc (t, k) (zzfind_s t ctx k hf) ls μ h'
        | none =>
          simp only [hf] at h'
          cases hd : zzdrop t is with
          | nil => rw [hd] at h'; cases f <;> cases h'
          | cons a b =>
            rw [hd] at h'
            obtain ⟨h1, h2, h3⟩ := zzdrop_s t is a b hd
            have := ih ctx a b ls st' μ h' (fun x hx => hr x (List.mem_cons_of_mem _ (h2 x hx))) (h3 (zzseq_tail hs)) hc
            rw [h1] at this
            exact this
end
end
section
/-! EVERY METHOD's CONTRACT: what the small machine answers, the machine answers -/
def zzhd (rows : List zzI) : Bool := match rows with
  | r :: _ => r.1.beq 0
  | [] => false
/-- a method's rows are its code's -/
def zzmg (P : List zzT) (q : zzT) : Prop := plainName q.1.cls = true ∧ zzrt q.2.2.2.2.1 q.2.2.2.1 ∧ (∀ r ∈ q.2.2.2.2.2, zzrow P q.1.cls q.2.2.1 q.2.1 r) ∧ zzseq q.2.2.2.2.2 = true ∧ zzhd q.2.2.2.2.2 = true
theorem zzargs_map (ad : Nat → Nat) : ∀ (as : List Value) (k : Nat), lv_args k (as.map (zzcv ad)) = zzlc ad (lv_args k as)
  | [], _ => rfl
  | v :: as, k => by
    show (k, zzcv ad v) :: lv_args (if (zzcv ad v).category = 2 then k + 2 else k + 1) (as.map (zzcv ad)) = (k, zzcv ad v) :: zzlc ad (lv_args (if v.category = 2 then k + 2 else k + 1) as)
    rw [zzcv_cat, zzargs_map ad as]
theorem zzsl_len (ad : Nat → Nat) : ∀ (as : List Value), (lg_sl (as.map (zzcv ad))).length = zzcat as
  | [] => rfl
  | v :: as => by
    have h := zzsl_len ad as
    unfold lg_sl at h ⊢
    rw [List.map_cons, List.flatMap_cons, List.length_append, h, zzcv_cat]
    show _ = v.category + zzcat as
    rcases lv_cat v with h1 | h1
    · rw [h1]; rfl
    · rw [h1]; rfl
theorem zzcopy_s {P : List zzT} {N d : Nat} {as : List Value} {μ : zzM} {o : zzR} (h : zzf P N (d + 1) 0 as μ = some o) : ∃ (a b n0 n1 : Nat) (t0 t1 : List Nat) (sp dp n : Int32) (μ' : zzM), as = [.ref a, .int sp, .ref b, .int dp, .int n] ∧ zzcells[a]? = some (.inr (0, n0, t0)) ∧ zzcells[b]? = some (.inr (0, n1, t1)) ∧ zzcp μ a n0 sp b n1 dp n = some μ' ∧ o = ((0, 0, 0), μ') := by
  have h : (match (generalizing := false) as with
      | [.ref a, .int sp, .ref b, .int dp, .int n] => (match zzcells[a]?, zzcells[b]? with
        | some (.inr (0, n0, _)), some (.inr (0, n1, _)) => (zzcp μ a n0 sp b n1 dp n).bind fun μ => some ((0, 0, 0), μ)
        | _, _ => none)
      | _ => none) = some o := h
  split at h
  · split at h
    · rename_i ha hb
      obtain ⟨μ', h1, h2⟩ := Option.bind_eq_some_iff.mp h
      exact ⟨_, _, _, _, _, _, _, _, _, μ', rfl, ha, hb, h1, (Option.some.inj h2).symm⟩
    · cases h
  · cases h
set_option maxHeartbeats 4000000 in
theorem zzf_one (l : Launch) (D : va_G) (dA : Nat → ClassId) (ad : Nat → Nat) (hinj : zzinj ad) {P : List zzT} (hg : ∀ q ∈ P, zzmg P q) {N d y : Nat} {as : List Value} {μ : zzM} {rr : zzR} {q : zzT} (hcl : zzCl l D dA ad P (zzroom d) (zzf P N d)) (h : zzf P N (d + 1) (y + 1) as μ = some rr) (hq : P[y]? = some q) : zzMet l D dA ad d q as μ rr := by
  intro sz
  obtain ⟨hpl, hrt, hrows, hseq, hhd⟩ := hg q (List.mem_of_getElem? hq)
  have h : (match P[y]? with
      | some q => bif (zzcat as).ble q.2.2.1 then zzx (zzf P N d) N q.2.2.2.2.1 400 [] q.2.2.2.2.2 (lv_args 0 as) [] μ else none
      | none => none) = some rr := h
  rw [hq] at h
  have h : (bif (zzcat as).ble q.2.2.1 then zzx (zzf P N d) N q.2.2.2.2.1 400 [] q.2.2.2.2.2 (lv_args 0 as) [] μ else none) = some rr := h
  cases hb : (zzcat as).ble q.2.2.1 with
  | false => rw [hb] at h; cases h
  | true =>
    rw [hb] at h
    have h : zzx (zzf P N d) N q.2.2.2.2.1 400 [] q.2.2.2.2.2 (lv_args 0 as) [] μ = some rr := h
    cases hrw : q.2.2.2.2.2 with
    | nil => rw [hrw] at hhd; cases hhd
    | cons r0 rs =>
      rw [hrw] at h hrows hseq hhd
      have hpc : r0.1 = 0 := Nat.eq_of_beq_eq_true hhd
      refine Met.ofW (cc := q.2.1) (maxL := q.2.2.1) (ret := q.2.2.2.1) hpl rfl ?_
      intro p e s m args below meth c s₁ B hml hv
      obtain ⟨rfl, hsz, hP, hK, hN⟩ := hv
      subst hsz
      have hts := atoms_spec (ws := Cond.code q.1 q.2.1 q.2.2.1 q.2.2.2.1 :: zzTb) B.pre
      have hX : zzX p s m (as.map (zzcv ad)).toArray meth c q.2.1 q.1.cls q.2.2.1 q.2.2.2.2.1 D dA ad (zzA ad s.heap.size) := ⟨B.exec, B.bytes, hml, findClass_of_methodNamed B.named, fun w hw => hts w (List.mem_cons_of_mem _ hw), hK, hN, hinj, fun _ h => h, B.notSynchronized, by rw [B.returns]; exact hrt⟩
      have key := zzx_ok (below := below) (e := e) (R := zzroom d) (P := P) (N := N) hX rfl hcl 400 [] r0 rs (lv_args 0 as) [] μ h hrows hseq (fun x hx => by cases hx)
      rw [hpc] at key
      rw [lg_entry_eq]
      have hl := lv_entry (as.map (zzcv ad)) (n := q.2.2.1) (by rw [zzsl_len]; exact Nat.le_of_ble_eq_true hb)
      rw [zzargs_map] at hl
      exact key s.heap [] _ hP va_S.rf hl
set_option maxHeartbeats 4000000 in
theorem zzf_ok (l : Launch) (D : va_G) (dA : Nat → ClassId) (ad : Nat → Nat) (hinj : zzinj ad) {P : List zzT} (hg : ∀ q ∈ P, zzmg P q) {N : Nat} : ∀ (d y : Nat) (as : List Value) (μ : zzM) (rr : zzR), zzf P N (d + 1) (y + 1) as μ = some rr → ∀ q, P[y]? = some q → zzMet l D dA ad d q as μ rr := by
  intro d
  induction d with
  | zero =>
    intro y as μ rr h q hq
    have hcl : zzCl l D dA ad P (zzroom 0) (zzf P N 0) := ⟨fun _ _ _ _ h => (by cases h), fun _ _ _ h => (by cases h)⟩
    exact zzf_one l D dA ad hinj hg hcl h hq
  | succ d ih =>
    intro y as μ rr h q hq
    have hcl : zzCl l D dA ad P (zzroom (d + 1)) (zzf P N (d + 1)) := ⟨fun y as μ o h q hq => ⟨d, rfl, ih y as μ o h q hq⟩, fun as μ o h => ⟨⟨d, rfl⟩, zzcopy_s h⟩⟩
    exact zzf_one l D dA ad hinj hg hcl h hq
end
