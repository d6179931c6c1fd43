section
/-- a private method of a class that the tables say can be made, by its rows of tables_1 -/
def lw_okq (q : MethodName × Nat) : Prop := (q.1.cls ≠ "java/lang/invoke/MethodHandle" ∧ q.1.cls ≠ "java/lang/invoke/VarHandle") ∧ Cond.instantiable q.1.cls q.2 ∈ tables_1 ∧ Cond.privateMethod q.1 ∈ tables_1 ∧ Cond.instanceMethod q.1 ∈ tables_1
theorem lw_p0 : lw_okq (⟨"PackedForest", "putBytes", "(I)V"⟩, 15) := ⟨⟨by decide +kernel, by decide +kernel⟩, List.mem_of_getElem? (i := 19) (by decide +kernel), List.mem_of_getElem? (i := 499) (by decide +kernel), List.mem_of_getElem? (i := 500) (by decide +kernel)⟩
theorem lw_p1 : lw_okq (⟨"PackedForest$Grammar", "faultOf", "(II)I"⟩, 8) := ⟨⟨by decide +kernel, by decide +kernel⟩, List.mem_of_getElem? (i := 33) (by decide +kernel), List.mem_of_getElem? (i := 518) (by decide +kernel), List.mem_of_getElem? (i := 519) (by decide +kernel)⟩
theorem lw_p2 : lw_okq (⟨"PackedForest$Grammar", "faultOfLeft", "(I)I"⟩, 8) := ⟨⟨by decide +kernel, by decide +kernel⟩, List.mem_of_getElem? (i := 33) (by decide +kernel), List.mem_of_getElem? (i := 522) (by decide +kernel), List.mem_of_getElem? (i := 523) (by decide +kernel)⟩
theorem lw_p3 : lw_okq (⟨"PackedForest$Grammar", "take", "(II)I"⟩, 8) := ⟨⟨by decide +kernel, by decide +kernel⟩, List.mem_of_getElem? (i := 33) (by decide +kernel), List.mem_of_getElem? (i := 544) (by decide +kernel), List.mem_of_getElem? (i := 545) (by decide +kernel)⟩
theorem lw_p4 : lw_okq (⟨"PackedForest$Grammar", "beginRule", "(I)V"⟩, 8) := ⟨⟨by decide +kernel, by decide +kernel⟩, List.mem_of_getElem? (i := 33) (by decide +kernel), List.mem_of_getElem? (i := 548) (by decide +kernel), List.mem_of_getElem? (i := 549) (by decide +kernel)⟩
theorem lw_p5 : lw_okq (⟨"PackedForest$Grammar", "addSymbol", "(I)V"⟩, 8) := ⟨⟨by decide +kernel, by decide +kernel⟩, List.mem_of_getElem? (i := 33) (by decide +kernel), List.mem_of_getElem? (i := 552) (by decide +kernel), List.mem_of_getElem? (i := 553) (by decide +kernel)⟩
theorem lw_p6 : lw_okq (⟨"PackedForest$Grammar", "faultOfCapitals", "([II)I"⟩, 8) := ⟨⟨by decide +kernel, by decide +kernel⟩, List.mem_of_getElem? (i := 33) (by decide +kernel), List.mem_of_getElem? (i := 556) (by decide +kernel), List.mem_of_getElem? (i := 557) (by decide +kernel)⟩
theorem lw_p7 : lw_okq (⟨"PackedForest$States", "findPoints", "(LPackedForest$Grammar;I)V"⟩, 6) := ⟨⟨by decide +kernel, by decide +kernel⟩, List.mem_of_getElem? (i := 214) (by decide +kernel), List.mem_of_getElem? (i := 564) (by decide +kernel), List.mem_of_getElem? (i := 565) (by decide +kernel)⟩
theorem lw_p8 : lw_okq (⟨"PackedForest$States", "closed", "(J)J"⟩, 6) := ⟨⟨by decide +kernel, by decide +kernel⟩, List.mem_of_getElem? (i := 214) (by decide +kernel), List.mem_of_getElem? (i := 575) (by decide +kernel), List.mem_of_getElem? (i := 576) (by decide +kernel)⟩
theorem lw_p9 : lw_okq (⟨"PackedForest$States", "goOn", "(III)Z"⟩, 6) := ⟨⟨by decide +kernel, by decide +kernel⟩, List.mem_of_getElem? (i := 214) (by decide +kernel), List.mem_of_getElem? (i := 579) (by decide +kernel), List.mem_of_getElem? (i := 580) (by decide +kernel)⟩
theorem lw_p10 : lw_okq (⟨"PackedForest$States", "numberOf", "(J)I"⟩, 6) := ⟨⟨by decide +kernel, by decide +kernel⟩, List.mem_of_getElem? (i := 214) (by decide +kernel), List.mem_of_getElem? (i := 583) (by decide +kernel), List.mem_of_getElem? (i := 584) (by decide +kernel)⟩
theorem lw_p11 : lw_okq (⟨"PackedForest", "rulesChanged", "()V"⟩, 15) := ⟨⟨by decide +kernel, by decide +kernel⟩, List.mem_of_getElem? (i := 19) (by decide +kernel), List.mem_of_getElem? (i := 600) (by decide +kernel), List.mem_of_getElem? (i := 601) (by decide +kernel)⟩
theorem lw_p12 : lw_okq (⟨"PackedForest", "filtersChanged", "()V"⟩, 15) := ⟨⟨by decide +kernel, by decide +kernel⟩, List.mem_of_getElem? (i := 19) (by decide +kernel), List.mem_of_getElem? (i := 604) (by decide +kernel), List.mem_of_getElem? (i := 605) (by decide +kernel)⟩
theorem lw_p13 : lw_okq (⟨"PackedForest", "isRule", "(I)Z"⟩, 15) := ⟨⟨by decide +kernel, by decide +kernel⟩, List.mem_of_getElem? (i := 19) (by decide +kernel), List.mem_of_getElem? (i := 612) (by decide +kernel), List.mem_of_getElem? (i := 613) (by decide +kernel)⟩
theorem lw_p14 : lw_okq (⟨"PackedForest", "noGrammar", "()Z"⟩, 15) := ⟨⟨by decide +kernel, by decide +kernel⟩, List.mem_of_getElem? (i := 19) (by decide +kernel), List.mem_of_getElem? (i := 625) (by decide +kernel), List.mem_of_getElem? (i := 626) (by decide +kernel)⟩
theorem lw_p15 : lw_okq (⟨"PackedForest", "foundFacts", "()LPackedForest$Facts;"⟩, 15) := ⟨⟨by decide +kernel, by decide +kernel⟩, List.mem_of_getElem? (i := 19) (by decide +kernel), List.mem_of_getElem? (i := 629) (by decide +kernel), List.mem_of_getElem? (i := 630) (by decide +kernel)⟩
def lw_privs_1 : List (MethodName × Nat) := [(⟨"PackedForest", "putBytes", "(I)V"⟩, 15), (⟨"PackedForest$Grammar", "faultOf", "(II)I"⟩, 8), (⟨"PackedForest$Grammar", "faultOfLeft", "(I)I"⟩, 8), (⟨"PackedForest$Grammar", "take", "(II)I"⟩, 8), (⟨"PackedForest$Grammar", "beginRule", "(I)V"⟩, 8), (⟨"PackedForest$Grammar", "addSymbol", "(I)V"⟩, 8), (⟨"PackedForest$Grammar", "faultOfCapitals", "([II)I"⟩, 8), (⟨"PackedForest$States", "findPoints", "(LPackedForest$Grammar;I)V"⟩, 6), (⟨"PackedForest$States", "closed", "(J)J"⟩, 6), (⟨"PackedForest$States", "goOn", "(III)Z"⟩, 6), (⟨"PackedForest$States", "numberOf", "(J)I"⟩, 6), (⟨"PackedForest", "rulesChanged", "()V"⟩, 15), (⟨"PackedForest", "filtersChanged", "()V"⟩, 15), (⟨"PackedForest", "isRule", "(I)Z"⟩, 15), (⟨"PackedForest", "noGrammar", "()Z"⟩, 15), (⟨"PackedForest", "foundFacts", "()LPackedForest$Facts;"⟩, 15)]
theorem lw_r1 : ∀ q ∈ lw_privs_1, lw_okq q := List.forall_mem_cons.mpr ⟨lw_p0, List.forall_mem_cons.mpr ⟨lw_p1, List.forall_mem_cons.mpr ⟨lw_p2, List.forall_mem_cons.mpr ⟨lw_p3, List.forall_mem_cons.mpr ⟨lw_p4, List.forall_mem_cons.mpr ⟨lw_p5, List.forall_mem_cons.mpr ⟨lw_p6, List.forall_mem_cons.mpr ⟨lw_p7, List.forall_mem_cons.mpr ⟨lw_p8, List.forall_mem_cons.mpr ⟨lw_p9, List.forall_mem_cons.mpr ⟨lw_p10, List.forall_mem_cons.mpr ⟨lw_p11, List.forall_mem_cons.mpr ⟨lw_p12, List.forall_mem_cons.mpr ⟨lw_p13, List.forall_mem_cons.mpr ⟨lw_p14, List.forall_mem_cons.mpr ⟨lw_p15, fun _ h => absurd h List.not_mem_nil⟩⟩⟩⟩⟩⟩⟩⟩⟩⟩⟩⟩⟩⟩⟩⟩
theorem lw_p16 : lw_okq (⟨"PackedForest$Facts", "findShortRows", "()V"⟩, 11) := ⟨⟨by decide +kernel, by decide +kernel⟩, List.mem_of_getElem? (i := 165) (by decide +kernel), List.mem_of_getElem? (i := 637) (by decide +kernel), List.mem_of_getElem? (i := 638) (by decide +kernel)⟩
theorem lw_p17 : lw_okq (⟨"PackedForest$Facts", "shorten", "(I)Z"⟩, 11) := ⟨⟨by decide +kernel, by decide +kernel⟩, List.mem_of_getElem? (i := 165) (by decide +kernel), List.mem_of_getElem? (i := 650) (by decide +kernel), List.mem_of_getElem? (i := 651) (by decide +kernel)⟩
theorem lw_p18 : lw_okq (⟨"PackedForest$Facts", "findReached", "()V"⟩, 11) := ⟨⟨by decide +kernel, by decide +kernel⟩, List.mem_of_getElem? (i := 165) (by decide +kernel), List.mem_of_getElem? (i := 655) (by decide +kernel), List.mem_of_getElem? (i := 656) (by decide +kernel)⟩
theorem lw_p19 : lw_okq (⟨"PackedForest$Facts", "capitalsOf", "(I)I"⟩, 11) := ⟨⟨by decide +kernel, by decide +kernel⟩, List.mem_of_getElem? (i := 165) (by decide +kernel), List.mem_of_getElem? (i := 662) (by decide +kernel), List.mem_of_getElem? (i := 663) (by decide +kernel)⟩
theorem lw_p20 : lw_okq (⟨"PackedForest$Facts", "findFirsts", "()V"⟩, 11) := ⟨⟨by decide +kernel, by decide +kernel⟩, List.mem_of_getElem? (i := 165) (by decide +kernel), List.mem_of_getElem? (i := 666) (by decide +kernel), List.mem_of_getElem? (i := 667) (by decide +kernel)⟩
theorem lw_p21 : lw_okq (⟨"PackedForest$Facts", "firstsOf", "(II)I"⟩, 11) := ⟨⟨by decide +kernel, by decide +kernel⟩, List.mem_of_getElem? (i := 165) (by decide +kernel), List.mem_of_getElem? (i := 670) (by decide +kernel), List.mem_of_getElem? (i := 671) (by decide +kernel)⟩
theorem lw_p22 : lw_okq (⟨"PackedForest$Facts", "findFollows", "()V"⟩, 11) := ⟨⟨by decide +kernel, by decide +kernel⟩, List.mem_of_getElem? (i := 165) (by decide +kernel), List.mem_of_getElem? (i := 679) (by decide +kernel), List.mem_of_getElem? (i := 680) (by decide +kernel)⟩
theorem lw_p23 : lw_okq (⟨"PackedForest$Facts", "followInside", "(I)Z"⟩, 11) := ⟨⟨by decide +kernel, by decide +kernel⟩, List.mem_of_getElem? (i := 165) (by decide +kernel), List.mem_of_getElem? (i := 684) (by decide +kernel), List.mem_of_getElem? (i := 685) (by decide +kernel)⟩
theorem lw_p24 : lw_okq (⟨"PackedForest$Facts", "findSteps", "(Z)V"⟩, 11) := ⟨⟨by decide +kernel, by decide +kernel⟩, List.mem_of_getElem? (i := 165) (by decide +kernel), List.mem_of_getElem? (i := 688) (by decide +kernel), List.mem_of_getElem? (i := 689) (by decide +kernel)⟩
theorem lw_p25 : lw_okq (⟨"PackedForest$Facts", "stepsOf", "(IZ)V"⟩, 11) := ⟨⟨by decide +kernel, by decide +kernel⟩, List.mem_of_getElem? (i := 165) (by decide +kernel), List.mem_of_getElem? (i := 692) (by decide +kernel), List.mem_of_getElem? (i := 693) (by decide +kernel)⟩
theorem lw_p26 : lw_okq (⟨"PackedForest$Facts", "backToThemselves", "()I"⟩, 11) := ⟨⟨by decide +kernel, by decide +kernel⟩, List.mem_of_getElem? (i := 165) (by decide +kernel), List.mem_of_getElem? (i := 702) (by decide +kernel), List.mem_of_getElem? (i := 703) (by decide +kernel)⟩
theorem lw_p27 : lw_okq (⟨"PackedForest", "isLeft", "(I)Z"⟩, 15) := ⟨⟨by decide +kernel, by decide +kernel⟩, List.mem_of_getElem? (i := 19) (by decide +kernel), List.mem_of_getElem? (i := 710) (by decide +kernel), List.mem_of_getElem? (i := 711) (by decide +kernel)⟩
theorem lw_p28 : lw_okq (⟨"PackedForest", "foundStates", "()LPackedForest$States;"⟩, 15) := ⟨⟨by decide +kernel, by decide +kernel⟩, List.mem_of_getElem? (i := 19) (by decide +kernel), List.mem_of_getElem? (i := 726) (by decide +kernel), List.mem_of_getElem? (i := 727) (by decide +kernel)⟩
theorem lw_p29 : lw_okq (⟨"PackedForest", "isState", "(I)Z"⟩, 15) := ⟨⟨by decide +kernel, by decide +kernel⟩, List.mem_of_getElem? (i := 19) (by decide +kernel), List.mem_of_getElem? (i := 734) (by decide +kernel), List.mem_of_getElem? (i := 735) (by decide +kernel)⟩
theorem lw_p30 : lw_okq (⟨"PackedForest", "hasClash", "(I)Z"⟩, 15) := ⟨⟨by decide +kernel, by decide +kernel⟩, List.mem_of_getElem? (i := 19) (by decide +kernel), List.mem_of_getElem? (i := 759) (by decide +kernel), List.mem_of_getElem? (i := 760) (by decide +kernel)⟩
theorem lw_p31 : lw_okq (⟨"PackedForest", "textChanged", "(I)V"⟩, 15) := ⟨⟨by decide +kernel, by decide +kernel⟩, List.mem_of_getElem? (i := 19) (by decide +kernel), List.mem_of_getElem? (i := 784) (by decide +kernel), List.mem_of_getElem? (i := 785) (by decide +kernel)⟩
def lw_privs_2 : List (MethodName × Nat) := [(⟨"PackedForest$Facts", "findShortRows", "()V"⟩, 11), (⟨"PackedForest$Facts", "shorten", "(I)Z"⟩, 11), (⟨"PackedForest$Facts", "findReached", "()V"⟩, 11), (⟨"PackedForest$Facts", "capitalsOf", "(I)I"⟩, 11), (⟨"PackedForest$Facts", "findFirsts", "()V"⟩, 11), (⟨"PackedForest$Facts", "firstsOf", "(II)I"⟩, 11), (⟨"PackedForest$Facts", "findFollows", "()V"⟩, 11), (⟨"PackedForest$Facts", "followInside", "(I)Z"⟩, 11), (⟨"PackedForest$Facts", "findSteps", "(Z)V"⟩, 11), (⟨"PackedForest$Facts", "stepsOf", "(IZ)V"⟩, 11), (⟨"PackedForest$Facts", "backToThemselves", "()I"⟩, 11), (⟨"PackedForest", "isLeft", "(I)Z"⟩, 15), (⟨"PackedForest", "foundStates", "()LPackedForest$States;"⟩, 15), (⟨"PackedForest", "isState", "(I)Z"⟩, 15), (⟨"PackedForest", "hasClash", "(I)Z"⟩, 15), (⟨"PackedForest", "textChanged", "(I)V"⟩, 15)]
theorem lw_r2 : ∀ q ∈ lw_privs_2, lw_okq q := List.forall_mem_cons.mpr ⟨lw_p16, List.forall_mem_cons.mpr ⟨lw_p17, List.forall_mem_cons.mpr ⟨lw_p18, List.forall_mem_cons.mpr ⟨lw_p19, List.forall_mem_cons.mpr ⟨lw_p20, List.forall_mem_cons.mpr ⟨lw_p21, List.forall_mem_cons.mpr ⟨lw_p22, List.forall_mem_cons.mpr ⟨lw_p23, List.forall_mem_cons.mpr ⟨lw_p24, List.forall_mem_cons.mpr ⟨lw_p25, List.forall_mem_cons.mpr ⟨lw_p26, List.forall_mem_cons.mpr ⟨lw_p27, List.forall_mem_cons.mpr ⟨lw_p28, List.forall_mem_cons.mpr ⟨lw_p29, List.forall_mem_cons.mpr ⟨lw_p30, List.forall_mem_cons.mpr ⟨lw_p31, fun _ h => absurd h List.not_mem_nil⟩⟩⟩⟩⟩⟩⟩⟩⟩⟩⟩⟩⟩⟩⟩⟩
theorem lw_p32 : lw_okq (⟨"PackedForest", "isLevel", "(I)Z"⟩, 15) := ⟨⟨by decide +kernel, by decide +kernel⟩, List.mem_of_getElem? (i := 19) (by decide +kernel), List.mem_of_getElem? (i := 836) (by decide +kernel), List.mem_of_getElem? (i := 837) (by decide +kernel)⟩
theorem lw_p33 : lw_okq (⟨"PackedForest$Chart", "findFitting", "()V"⟩, 7) := ⟨⟨by decide +kernel, by decide +kernel⟩, List.mem_of_getElem? (i := 243) (by decide +kernel), List.mem_of_getElem? (i := 848) (by decide +kernel), List.mem_of_getElem? (i := 849) (by decide +kernel)⟩
theorem lw_p34 : lw_okq (⟨"PackedForest$Chart", "fittingBelow", "(II)I"⟩, 7) := ⟨⟨by decide +kernel, by decide +kernel⟩, List.mem_of_getElem? (i := 243) (by decide +kernel), List.mem_of_getElem? (i := 852) (by decide +kernel), List.mem_of_getElem? (i := 853) (by decide +kernel)⟩
theorem lw_p35 : lw_okq (⟨"PackedForest$Setting", "isWrongSide", "(II)Z"⟩, 11) := ⟨⟨by decide +kernel, by decide +kernel⟩, List.mem_of_getElem? (i := 27) (by decide +kernel), List.mem_of_getElem? (i := 862) (by decide +kernel), List.mem_of_getElem? (i := 863) (by decide +kernel)⟩
theorem lw_p36 : lw_okq (⟨"PackedForest$Chart", "placeSmalls", "(II)V"⟩, 7) := ⟨⟨by decide +kernel, by decide +kernel⟩, List.mem_of_getElem? (i := 243) (by decide +kernel), List.mem_of_getElem? (i := 866) (by decide +kernel), List.mem_of_getElem? (i := 867) (by decide +kernel)⟩
theorem lw_p37 : lw_okq (⟨"PackedForest$Chart", "settle", "(II)V"⟩, 7) := ⟨⟨by decide +kernel, by decide +kernel⟩, List.mem_of_getElem? (i := 243) (by decide +kernel), List.mem_of_getElem? (i := 870) (by decide +kernel), List.mem_of_getElem? (i := 871) (by decide +kernel)⟩
theorem lw_p38 : lw_okq (⟨"PackedForest$Chart", "reaches", "(III)Z"⟩, 7) := ⟨⟨by decide +kernel, by decide +kernel⟩, List.mem_of_getElem? (i := 243) (by decide +kernel), List.mem_of_getElem? (i := 877) (by decide +kernel), List.mem_of_getElem? (i := 878) (by decide +kernel)⟩
theorem lw_p39 : lw_okq (⟨"PackedForest$Chart", "placeRule", "(III)V"⟩, 7) := ⟨⟨by decide +kernel, by decide +kernel⟩, List.mem_of_getElem? (i := 243) (by decide +kernel), List.mem_of_getElem? (i := 885) (by decide +kernel), List.mem_of_getElem? (i := 886) (by decide +kernel)⟩
theorem lw_p40 : lw_okq (⟨"PackedForest$Levels", "gather", "(I)V"⟩, 8) := ⟨⟨by decide +kernel, by decide +kernel⟩, List.mem_of_getElem? (i := 272) (by decide +kernel), List.mem_of_getElem? (i := 894) (by decide +kernel), List.mem_of_getElem? (i := 895) (by decide +kernel)⟩
theorem lw_p41 : lw_okq (⟨"PackedForest$Levels", "goFrom", "(II)V"⟩, 8) := ⟨⟨by decide +kernel, by decide +kernel⟩, List.mem_of_getElem? (i := 272) (by decide +kernel), List.mem_of_getElem? (i := 902) (by decide +kernel), List.mem_of_getElem? (i := 903) (by decide +kernel)⟩
theorem lw_p42 : lw_okq (⟨"PackedForest$Levels", "link", "(III)V"⟩, 8) := ⟨⟨by decide +kernel, by decide +kernel⟩, List.mem_of_getElem? (i := 272) (by decide +kernel), List.mem_of_getElem? (i := 915) (by decide +kernel), List.mem_of_getElem? (i := 916) (by decide +kernel)⟩
theorem lw_p43 : lw_okq (⟨"PackedForest", "isSpan", "(II)Z"⟩, 15) := ⟨⟨by decide +kernel, by decide +kernel⟩, List.mem_of_getElem? (i := 19) (by decide +kernel), List.mem_of_getElem? (i := 950) (by decide +kernel), List.mem_of_getElem? (i := 951) (by decide +kernel)⟩
theorem lw_p44 : lw_okq (⟨"PackedForest$Counts", "settle", "(II)V"⟩, 5) := ⟨⟨by decide +kernel, by decide +kernel⟩, List.mem_of_getElem? (i := 305) (by decide +kernel), List.mem_of_getElem? (i := 965) (by decide +kernel), List.mem_of_getElem? (i := 966) (by decide +kernel)⟩
theorem lw_p45 : lw_okq (⟨"PackedForest$Counts", "wholeBelow", "(III)I"⟩, 5) := ⟨⟨by decide +kernel, by decide +kernel⟩, List.mem_of_getElem? (i := 305) (by decide +kernel), List.mem_of_getElem? (i := 972) (by decide +kernel), List.mem_of_getElem? (i := 973) (by decide +kernel)⟩
theorem lw_p46 : lw_okq (⟨"PackedForest$Counts", "treesOf", "(III)J"⟩, 5) := ⟨⟨by decide +kernel, by decide +kernel⟩, List.mem_of_getElem? (i := 305) (by decide +kernel), List.mem_of_getElem? (i := 985) (by decide +kernel), List.mem_of_getElem? (i := 986) (by decide +kernel)⟩
theorem lw_p47 : lw_okq (⟨"PackedForest$Counts", "goOnWith", "(IIII)V"⟩, 5) := ⟨⟨by decide +kernel, by decide +kernel⟩, List.mem_of_getElem? (i := 305) (by decide +kernel), List.mem_of_getElem? (i := 990) (by decide +kernel), List.mem_of_getElem? (i := 991) (by decide +kernel)⟩
def lw_privs_3 : List (MethodName × Nat) := [(⟨"PackedForest", "isLevel", "(I)Z"⟩, 15), (⟨"PackedForest$Chart", "findFitting", "()V"⟩, 7), (⟨"PackedForest$Chart", "fittingBelow", "(II)I"⟩, 7), (⟨"PackedForest$Setting", "isWrongSide", "(II)Z"⟩, 11), (⟨"PackedForest$Chart", "placeSmalls", "(II)V"⟩, 7), (⟨"PackedForest$Chart", "settle", "(II)V"⟩, 7), (⟨"PackedForest$Chart", "reaches", "(III)Z"⟩, 7), (⟨"PackedForest$Chart", "placeRule", "(III)V"⟩, 7), (⟨"PackedForest$Levels", "gather", "(I)V"⟩, 8), (⟨"PackedForest$Levels", "goFrom", "(II)V"⟩, 8), (⟨"PackedForest$Levels", "link", "(III)V"⟩, 8), (⟨"PackedForest", "isSpan", "(II)Z"⟩, 15), (⟨"PackedForest$Counts", "settle", "(II)V"⟩, 5), (⟨"PackedForest$Counts", "wholeBelow", "(III)I"⟩, 5), (⟨"PackedForest$Counts", "treesOf", "(III)J"⟩, 5), (⟨"PackedForest$Counts", "goOnWith", "(IIII)V"⟩, 5)]
theorem lw_r3 : ∀ q ∈ lw_privs_3, lw_okq q := List.forall_mem_cons.mpr ⟨lw_p32, List.forall_mem_cons.mpr ⟨lw_p33, List.forall_mem_cons.mpr ⟨lw_p34, List.forall_mem_cons.mpr ⟨lw_p35, List.forall_mem_cons.mpr ⟨lw_p36, List.forall_mem_cons.mpr ⟨lw_p37, List.forall_mem_cons.mpr ⟨lw_p38, List.forall_mem_cons.mpr ⟨lw_p39, List.forall_mem_cons.mpr ⟨lw_p40, List.forall_mem_cons.mpr ⟨lw_p41, List.forall_mem_cons.mpr ⟨lw_p42, List.forall_mem_cons.mpr ⟨lw_p43, List.forall_mem_cons.mpr ⟨lw_p44, List.forall_mem_cons.mpr ⟨lw_p45, List.forall_mem_cons.mpr ⟨lw_p46, List.forall_mem_cons.mpr ⟨lw_p47, fun _ h => absurd h List.not_mem_nil⟩⟩⟩⟩⟩⟩⟩⟩⟩⟩⟩⟩⟩⟩⟩⟩
theorem lw_p48 : lw_okq (⟨"PackedForest$Forest", "spread", "(II)V"⟩, 10) := ⟨⟨by decide +kernel, by decide +kernel⟩, List.mem_of_getElem? (i := 366) (by decide +kernel), List.mem_of_getElem? (i := 1025) (by decide +kernel), List.mem_of_getElem? (i := 1026) (by decide +kernel)⟩
theorem lw_p49 : lw_okq (⟨"PackedForest$Forest", "markBelow", "(III)V"⟩, 10) := ⟨⟨by decide +kernel, by decide +kernel⟩, List.mem_of_getElem? (i := 366) (by decide +kernel), List.mem_of_getElem? (i := 1029) (by decide +kernel), List.mem_of_getElem? (i := 1030) (by decide +kernel)⟩
theorem lw_p50 : lw_okq (⟨"PackedForest$Forest", "findHopeful", "(III)V"⟩, 10) := ⟨⟨by decide +kernel, by decide +kernel⟩, List.mem_of_getElem? (i := 366) (by decide +kernel), List.mem_of_getElem? (i := 1033) (by decide +kernel), List.mem_of_getElem? (i := 1034) (by decide +kernel)⟩
theorem lw_p51 : lw_okq (⟨"PackedForest$Forest", "markPart", "(IIII)V"⟩, 10) := ⟨⟨by decide +kernel, by decide +kernel⟩, List.mem_of_getElem? (i := 366) (by decide +kernel), List.mem_of_getElem? (i := 1040) (by decide +kernel), List.mem_of_getElem? (i := 1041) (by decide +kernel)⟩
theorem lw_p52 : lw_okq (⟨"PackedForest$Chart", "goOnWith", "(IIII)V"⟩, 7) := ⟨⟨by decide +kernel, by decide +kernel⟩, List.mem_of_getElem? (i := 243) (by decide +kernel), List.mem_of_getElem? (i := 1055) (by decide +kernel), List.mem_of_getElem? (i := 1056) (by decide +kernel)⟩
theorem lw_p53 : lw_okq (⟨"PackedForest$Forest", "tallySpan", "(II)V"⟩, 10) := ⟨⟨by decide +kernel, by decide +kernel⟩, List.mem_of_getElem? (i := 366) (by decide +kernel), List.mem_of_getElem? (i := 1073) (by decide +kernel), List.mem_of_getElem? (i := 1074) (by decide +kernel)⟩
theorem lw_p54 : lw_okq (⟨"PackedForest$Forest", "isAmbiguous", "(III)Z"⟩, 10) := ⟨⟨by decide +kernel, by decide +kernel⟩, List.mem_of_getElem? (i := 366) (by decide +kernel), List.mem_of_getElem? (i := 1077) (by decide +kernel), List.mem_of_getElem? (i := 1078) (by decide +kernel)⟩
theorem lw_p55 : lw_okq (⟨"PackedForest$Sizes", "clear", "(II)V"⟩, 9) := ⟨⟨by decide +kernel, by decide +kernel⟩, List.mem_of_getElem? (i := 328) (by decide +kernel), List.mem_of_getElem? (i := 1092) (by decide +kernel), List.mem_of_getElem? (i := 1093) (by decide +kernel)⟩
theorem lw_p56 : lw_okq (⟨"PackedForest$Sizes", "settle", "(II)V"⟩, 9) := ⟨⟨by decide +kernel, by decide +kernel⟩, List.mem_of_getElem? (i := 328) (by decide +kernel), List.mem_of_getElem? (i := 1100) (by decide +kernel), List.mem_of_getElem? (i := 1101) (by decide +kernel)⟩
theorem lw_p57 : lw_okq (⟨"PackedForest$Sizes", "shrink", "(III)Z"⟩, 9) := ⟨⟨by decide +kernel, by decide +kernel⟩, List.mem_of_getElem? (i := 328) (by decide +kernel), List.mem_of_getElem? (i := 1105) (by decide +kernel), List.mem_of_getElem? (i := 1106) (by decide +kernel)⟩
theorem lw_p58 : lw_okq (⟨"PackedForest$Sizes", "findRest", "(III)V"⟩, 9) := ⟨⟨by decide +kernel, by decide +kernel⟩, List.mem_of_getElem? (i := 328) (by decide +kernel), List.mem_of_getElem? (i := 1109) (by decide +kernel), List.mem_of_getElem? (i := 1110) (by decide +kernel)⟩
theorem lw_p59 : lw_okq (⟨"PackedForest$Sizes", "restFrom", "(IIII)J"⟩, 9) := ⟨⟨by decide +kernel, by decide +kernel⟩, List.mem_of_getElem? (i := 328) (by decide +kernel), List.mem_of_getElem? (i := 1113) (by decide +kernel), List.mem_of_getElem? (i := 1114) (by decide +kernel)⟩
theorem lw_p60 : lw_okq (⟨"PackedForest$Sizes", "leastOf", "(III)I"⟩, 9) := ⟨⟨by decide +kernel, by decide +kernel⟩, List.mem_of_getElem? (i := 328) (by decide +kernel), List.mem_of_getElem? (i := 1126) (by decide +kernel), List.mem_of_getElem? (i := 1127) (by decide +kernel)⟩
theorem lw_p61 : lw_okq (⟨"PackedForest$Sizes", "goDown", "(J)J"⟩, 9) := ⟨⟨by decide +kernel, by decide +kernel⟩, List.mem_of_getElem? (i := 328) (by decide +kernel), List.mem_of_getElem? (i := 1139) (by decide +kernel), List.mem_of_getElem? (i := 1140) (by decide +kernel)⟩
theorem lw_p62 : lw_okq (⟨"PackedForest$Sizes", "firstEnd", "(II)I"⟩, 9) := ⟨⟨by decide +kernel, by decide +kernel⟩, List.mem_of_getElem? (i := 328) (by decide +kernel), List.mem_of_getElem? (i := 1143) (by decide +kernel), List.mem_of_getElem? (i := 1144) (by decide +kernel)⟩
theorem lw_p63 : lw_okq (⟨"PackedForest$Mender", "settle", "(II)V"⟩, 4) := ⟨⟨by decide +kernel, by decide +kernel⟩, List.mem_of_getElem? (i := 408) (by decide +kernel), List.mem_of_getElem? (i := 1160) (by decide +kernel), List.mem_of_getElem? (i := 1161) (by decide +kernel)⟩
def lw_privs_4 : List (MethodName × Nat) := [(⟨"PackedForest$Forest", "spread", "(II)V"⟩, 10), (⟨"PackedForest$Forest", "markBelow", "(III)V"⟩, 10), (⟨"PackedForest$Forest", "findHopeful", "(III)V"⟩, 10), (⟨"PackedForest$Forest", "markPart", "(IIII)V"⟩, 10), (⟨"PackedForest$Chart", "goOnWith", "(IIII)V"⟩, 7), (⟨"PackedForest$Forest", "tallySpan", "(II)V"⟩, 10), (⟨"PackedForest$Forest", "isAmbiguous", "(III)Z"⟩, 10), (⟨"PackedForest$Sizes", "clear", "(II)V"⟩, 9), (⟨"PackedForest$Sizes", "settle", "(II)V"⟩, 9), (⟨"PackedForest$Sizes", "shrink", "(III)Z"⟩, 9), (⟨"PackedForest$Sizes", "findRest", "(III)V"⟩, 9), (⟨"PackedForest$Sizes", "restFrom", "(IIII)J"⟩, 9), (⟨"PackedForest$Sizes", "leastOf", "(III)I"⟩, 9), (⟨"PackedForest$Sizes", "goDown", "(J)J"⟩, 9), (⟨"PackedForest$Sizes", "firstEnd", "(II)I"⟩, 9), (⟨"PackedForest$Mender", "settle", "(II)V"⟩, 4)]
theorem lw_r4 : ∀ q ∈ lw_privs_4, lw_okq q := List.forall_mem_cons.mpr ⟨lw_p48, List.forall_mem_cons.mpr ⟨lw_p49, List.forall_mem_cons.mpr ⟨lw_p50, List.forall_mem_cons.mpr ⟨lw_p51, List.forall_mem_cons.mpr ⟨lw_p52, List.forall_mem_cons.mpr ⟨lw_p53, List.forall_mem_cons.mpr ⟨lw_p54, List.forall_mem_cons.mpr ⟨lw_p55, List.forall_mem_cons.mpr ⟨lw_p56, List.forall_mem_cons.mpr ⟨lw_p57, List.forall_mem_cons.mpr ⟨lw_p58, List.forall_mem_cons.mpr ⟨lw_p59, List.forall_mem_cons.mpr ⟨lw_p60, List.forall_mem_cons.mpr ⟨lw_p61, List.forall_mem_cons.mpr ⟨lw_p62, List.forall_mem_cons.mpr ⟨lw_p63, fun _ h => absurd h List.not_mem_nil⟩⟩⟩⟩⟩⟩⟩⟩⟩⟩⟩⟩⟩⟩⟩⟩
theorem lw_p64 : lw_okq (⟨"PackedForest$Mender", "costOf", "(III)I"⟩, 4) := ⟨⟨by decide +kernel, by decide +kernel⟩, List.mem_of_getElem? (i := 408) (by decide +kernel), List.mem_of_getElem? (i := 1167) (by decide +kernel), List.mem_of_getElem? (i := 1168) (by decide +kernel)⟩
theorem lw_p65 : lw_okq (⟨"PackedForest$Mender", "costTo", "(III)I"⟩, 4) := ⟨⟨by decide +kernel, by decide +kernel⟩, List.mem_of_getElem? (i := 408) (by decide +kernel), List.mem_of_getElem? (i := 1173) (by decide +kernel), List.mem_of_getElem? (i := 1174) (by decide +kernel)⟩
theorem lw_p66 : lw_okq (⟨"PackedForest$Mender", "partCost", "(III)I"⟩, 4) := ⟨⟨by decide +kernel, by decide +kernel⟩, List.mem_of_getElem? (i := 408) (by decide +kernel), List.mem_of_getElem? (i := 1177) (by decide +kernel), List.mem_of_getElem? (i := 1178) (by decide +kernel)⟩
theorem lw_p67 : lw_okq (⟨"PackedForest$Mender", "smallCost", "(III)I"⟩, 4) := ⟨⟨by decide +kernel, by decide +kernel⟩, List.mem_of_getElem? (i := 408) (by decide +kernel), List.mem_of_getElem? (i := 1181) (by decide +kernel), List.mem_of_getElem? (i := 1182) (by decide +kernel)⟩
theorem lw_p68 : lw_okq (⟨"PackedForest$Speaker", "speak", "()Z"⟩, 4) := ⟨⟨by decide +kernel, by decide +kernel⟩, List.mem_of_getElem? (i := 428) (by decide +kernel), List.mem_of_getElem? (i := 1203) (by decide +kernel), List.mem_of_getElem? (i := 1204) (by decide +kernel)⟩
theorem lw_p69 : lw_okq (⟨"PackedForest$Speaker", "firstCapital", "()I"⟩, 4) := ⟨⟨by decide +kernel, by decide +kernel⟩, List.mem_of_getElem? (i := 428) (by decide +kernel), List.mem_of_getElem? (i := 1207) (by decide +kernel), List.mem_of_getElem? (i := 1208) (by decide +kernel)⟩
theorem lw_p70 : lw_okq (⟨"PackedForest$Speaker", "drawnRule", "(I)I"⟩, 4) := ⟨⟨by decide +kernel, by decide +kernel⟩, List.mem_of_getElem? (i := 428) (by decide +kernel), List.mem_of_getElem? (i := 1211) (by decide +kernel), List.mem_of_getElem? (i := 1212) (by decide +kernel)⟩
theorem lw_p71 : lw_okq (⟨"PackedForest$Speaker", "draw", "()I"⟩, 4) := ⟨⟨by decide +kernel, by decide +kernel⟩, List.mem_of_getElem? (i := 428) (by decide +kernel), List.mem_of_getElem? (i := 1217) (by decide +kernel), List.mem_of_getElem? (i := 1218) (by decide +kernel)⟩
theorem lw_p72 : lw_okq (⟨"PackedForest$Speaker", "replace", "(II)Z"⟩, 4) := ⟨⟨by decide +kernel, by decide +kernel⟩, List.mem_of_getElem? (i := 428) (by decide +kernel), List.mem_of_getElem? (i := 1224) (by decide +kernel), List.mem_of_getElem? (i := 1225) (by decide +kernel)⟩
theorem lw_p73 : lw_okq (⟨"PackedForestModel", "put", "(I)V"⟩, 72) := ⟨⟨by decide +kernel, by decide +kernel⟩, List.mem_of_getElem? (i := 1246) (by decide +kernel), List.mem_of_getElem? (i := 1473) (by decide +kernel), List.mem_of_getElem? (i := 1474) (by decide +kernel)⟩
theorem lw_p74 : lw_okq (⟨"PackedForestModel", "readsAll", "()V"⟩, 72) := ⟨⟨by decide +kernel, by decide +kernel⟩, List.mem_of_getElem? (i := 1246) (by decide +kernel), List.mem_of_getElem? (i := 1485) (by decide +kernel), List.mem_of_getElem? (i := 1486) (by decide +kernel)⟩
theorem lw_p75 : lw_okq (⟨"PackedForestModel", "readsLeft", "()V"⟩, 72) := ⟨⟨by decide +kernel, by decide +kernel⟩, List.mem_of_getElem? (i := 1246) (by decide +kernel), List.mem_of_getElem? (i := 1489) (by decide +kernel), List.mem_of_getElem? (i := 1490) (by decide +kernel)⟩
theorem lw_p76 : lw_okq (⟨"PackedForestModel", "sign", "()I"⟩, 72) := ⟨⟨by decide +kernel, by decide +kernel⟩, List.mem_of_getElem? (i := 1246) (by decide +kernel), List.mem_of_getElem? (i := 1493) (by decide +kernel), List.mem_of_getElem? (i := 1494) (by decide +kernel)⟩
theorem lw_p77 : lw_okq (⟨"PackedForestModel", "fails", "(II)V"⟩, 72) := ⟨⟨by decide +kernel, by decide +kernel⟩, List.mem_of_getElem? (i := 1246) (by decide +kernel), List.mem_of_getElem? (i := 1510) (by decide +kernel), List.mem_of_getElem? (i := 1511) (by decide +kernel)⟩
theorem lw_p78 : lw_okq (⟨"PackedForestModel", "isNewLeft", "(II)Z"⟩, 72) := ⟨⟨by decide +kernel, by decide +kernel⟩, List.mem_of_getElem? (i := 1246) (by decide +kernel), List.mem_of_getElem? (i := 1514) (by decide +kernel), List.mem_of_getElem? (i := 1515) (by decide +kernel)⟩
theorem lw_p79 : lw_okq (⟨"PackedForestModel", "newLefts", "()I"⟩, 72) := ⟨⟨by decide +kernel, by decide +kernel⟩, List.mem_of_getElem? (i := 1246) (by decide +kernel), List.mem_of_getElem? (i := 1518) (by decide +kernel), List.mem_of_getElem? (i := 1519) (by decide +kernel)⟩
def lw_privs_5 : List (MethodName × Nat) := [(⟨"PackedForest$Mender", "costOf", "(III)I"⟩, 4), (⟨"PackedForest$Mender", "costTo", "(III)I"⟩, 4), (⟨"PackedForest$Mender", "partCost", "(III)I"⟩, 4), (⟨"PackedForest$Mender", "smallCost", "(III)I"⟩, 4), (⟨"PackedForest$Speaker", "speak", "()Z"⟩, 4), (⟨"PackedForest$Speaker", "firstCapital", "()I"⟩, 4), (⟨"PackedForest$Speaker", "drawnRule", "(I)I"⟩, 4), (⟨"PackedForest$Speaker", "draw", "()I"⟩, 4), (⟨"PackedForest$Speaker", "replace", "(II)Z"⟩, 4), (⟨"PackedForestModel", "put", "(I)V"⟩, 72), (⟨"PackedForestModel", "readsAll", "()V"⟩, 72), (⟨"PackedForestModel", "readsLeft", "()V"⟩, 72), (⟨"PackedForestModel", "sign", "()I"⟩, 72), (⟨"PackedForestModel", "fails", "(II)V"⟩, 72), (⟨"PackedForestModel", "isNewLeft", "(II)Z"⟩, 72), (⟨"PackedForestModel", "newLefts", "()I"⟩, 72)]
theorem lw_r5 : ∀ q ∈ lw_privs_5, lw_okq q := List.forall_mem_cons.mpr ⟨lw_p64, List.forall_mem_cons.mpr ⟨lw_p65, List.forall_mem_cons.mpr ⟨lw_p66, List.forall_mem_cons.mpr ⟨lw_p67, List.forall_mem_cons.mpr ⟨lw_p68, List.forall_mem_cons.mpr ⟨lw_p69, List.forall_mem_cons.mpr ⟨lw_p70, List.forall_mem_cons.mpr ⟨lw_p71, List.forall_mem_cons.mpr ⟨lw_p72, List.forall_mem_cons.mpr ⟨lw_p73, List.forall_mem_cons.mpr ⟨lw_p74, List.forall_mem_cons.mpr ⟨lw_p75, List.forall_mem_cons.mpr ⟨lw_p76, List.forall_mem_cons.mpr ⟨lw_p77, List.forall_mem_cons.mpr ⟨lw_p78, List.forall_mem_cons.mpr ⟨lw_p79, fun _ h => absurd h List.not_mem_nil⟩⟩⟩⟩⟩⟩⟩⟩⟩⟩⟩⟩⟩⟩⟩⟩
theorem lw_p80 : lw_okq (⟨"PackedForestModel", "readsRight", "()V"⟩, 72) := ⟨⟨by decide +kernel, by decide +kernel⟩, List.mem_of_getElem? (i := 1246) (by decide +kernel), List.mem_of_getElem? (i := 1522) (by decide +kernel), List.mem_of_getElem? (i := 1523) (by decide +kernel)⟩
theorem lw_p81 : lw_okq (⟨"PackedForestModel", "readsRank", "()V"⟩, 72) := ⟨⟨by decide +kernel, by decide +kernel⟩, List.mem_of_getElem? (i := 1246) (by decide +kernel), List.mem_of_getElem? (i := 1526) (by decide +kernel), List.mem_of_getElem? (i := 1527) (by decide +kernel)⟩
theorem lw_p82 : lw_okq (⟨"PackedForestModel", "isMore", "()Z"⟩, 72) := ⟨⟨by decide +kernel, by decide +kernel⟩, List.mem_of_getElem? (i := 1246) (by decide +kernel), List.mem_of_getElem? (i := 1535) (by decide +kernel), List.mem_of_getElem? (i := 1536) (by decide +kernel)⟩
theorem lw_p83 : lw_okq (⟨"PackedForestModel", "keepsOld", "()V"⟩, 72) := ⟨⟨by decide +kernel, by decide +kernel⟩, List.mem_of_getElem? (i := 1246) (by decide +kernel), List.mem_of_getElem? (i := 1539) (by decide +kernel), List.mem_of_getElem? (i := 1540) (by decide +kernel)⟩
theorem lw_p84 : lw_okq (⟨"PackedForestModel", "takesNew", "()V"⟩, 72) := ⟨⟨by decide +kernel, by decide +kernel⟩, List.mem_of_getElem? (i := 1246) (by decide +kernel), List.mem_of_getElem? (i := 1546) (by decide +kernel), List.mem_of_getElem? (i := 1547) (by decide +kernel)⟩
theorem lw_p85 : lw_okq (⟨"PackedForestModel", "laysStates", "()Z"⟩, 72) := ⟨⟨by decide +kernel, by decide +kernel⟩, List.mem_of_getElem? (i := 1246) (by decide +kernel), List.mem_of_getElem? (i := 1550) (by decide +kernel), List.mem_of_getElem? (i := 1551) (by decide +kernel)⟩
theorem lw_p86 : lw_okq (⟨"PackedForestModel", "begun", "(I)J"⟩, 72) := ⟨⟨by decide +kernel, by decide +kernel⟩, List.mem_of_getElem? (i := 1246) (by decide +kernel), List.mem_of_getElem? (i := 1554) (by decide +kernel), List.mem_of_getElem? (i := 1555) (by decide +kernel)⟩
theorem lw_p87 : lw_okq (⟨"PackedForestModel", "isOn", "(I)Z"⟩, 72) := ⟨⟨by decide +kernel, by decide +kernel⟩, List.mem_of_getElem? (i := 1246) (by decide +kernel), List.mem_of_getElem? (i := 1558) (by decide +kernel), List.mem_of_getElem? (i := 1559) (by decide +kernel)⟩
theorem lw_p88 : lw_okq (⟨"PackedForestModel", "closed", "(J)J"⟩, 72) := ⟨⟨by decide +kernel, by decide +kernel⟩, List.mem_of_getElem? (i := 1246) (by decide +kernel), List.mem_of_getElem? (i := 1568) (by decide +kernel), List.mem_of_getElem? (i := 1569) (by decide +kernel)⟩
theorem lw_p89 : lw_okq (⟨"PackedForestModel", "laysGo", "(II)Z"⟩, 72) := ⟨⟨by decide +kernel, by decide +kernel⟩, List.mem_of_getElem? (i := 1246) (by decide +kernel), List.mem_of_getElem? (i := 1575) (by decide +kernel), List.mem_of_getElem? (i := 1576) (by decide +kernel)⟩
theorem lw_p90 : lw_okq (⟨"PackedForestModel", "moved", "(JI)J"⟩, 72) := ⟨⟨by decide +kernel, by decide +kernel⟩, List.mem_of_getElem? (i := 1246) (by decide +kernel), List.mem_of_getElem? (i := 1579) (by decide +kernel), List.mem_of_getElem? (i := 1580) (by decide +kernel)⟩
theorem lw_p91 : lw_okq (⟨"PackedForestModel", "numberOf", "(J)I"⟩, 72) := ⟨⟨by decide +kernel, by decide +kernel⟩, List.mem_of_getElem? (i := 1246) (by decide +kernel), List.mem_of_getElem? (i := 1583) (by decide +kernel), List.mem_of_getElem? (i := 1584) (by decide +kernel)⟩
theorem lw_p92 : lw_okq (⟨"PackedForestModel", "laysOld", "()V"⟩, 72) := ⟨⟨by decide +kernel, by decide +kernel⟩, List.mem_of_getElem? (i := 1246) (by decide +kernel), List.mem_of_getElem? (i := 1587) (by decide +kernel), List.mem_of_getElem? (i := 1588) (by decide +kernel)⟩
theorem lw_p93 : lw_okq (⟨"PackedForestModel", "isRule", "(I)Z"⟩, 72) := ⟨⟨by decide +kernel, by decide +kernel⟩, List.mem_of_getElem? (i := 1246) (by decide +kernel), List.mem_of_getElem? (i := 1595) (by decide +kernel), List.mem_of_getElem? (i := 1596) (by decide +kernel)⟩
theorem lw_p94 : lw_okq (⟨"PackedForestModel", "isGrammar", "()Z"⟩, 72) := ⟨⟨by decide +kernel, by decide +kernel⟩, List.mem_of_getElem? (i := 1246) (by decide +kernel), List.mem_of_getElem? (i := 1607) (by decide +kernel), List.mem_of_getElem? (i := 1608) (by decide +kernel)⟩
theorem lw_p95 : lw_okq (⟨"PackedForestModel", "laysFacts", "()V"⟩, 72) := ⟨⟨by decide +kernel, by decide +kernel⟩, List.mem_of_getElem? (i := 1246) (by decide +kernel), List.mem_of_getElem? (i := 1611) (by decide +kernel), List.mem_of_getElem? (i := 1612) (by decide +kernel)⟩
def lw_privs_6 : List (MethodName × Nat) := [(⟨"PackedForestModel", "readsRight", "()V"⟩, 72), (⟨"PackedForestModel", "readsRank", "()V"⟩, 72), (⟨"PackedForestModel", "isMore", "()Z"⟩, 72), (⟨"PackedForestModel", "keepsOld", "()V"⟩, 72), (⟨"PackedForestModel", "takesNew", "()V"⟩, 72), (⟨"PackedForestModel", "laysStates", "()Z"⟩, 72), (⟨"PackedForestModel", "begun", "(I)J"⟩, 72), (⟨"PackedForestModel", "isOn", "(I)Z"⟩, 72), (⟨"PackedForestModel", "closed", "(J)J"⟩, 72), (⟨"PackedForestModel", "laysGo", "(II)Z"⟩, 72), (⟨"PackedForestModel", "moved", "(JI)J"⟩, 72), (⟨"PackedForestModel", "numberOf", "(J)I"⟩, 72), (⟨"PackedForestModel", "laysOld", "()V"⟩, 72), (⟨"PackedForestModel", "isRule", "(I)Z"⟩, 72), (⟨"PackedForestModel", "isGrammar", "()Z"⟩, 72), (⟨"PackedForestModel", "laysFacts", "()V"⟩, 72)]
theorem lw_r6 : ∀ q ∈ lw_privs_6, lw_okq q := List.forall_mem_cons.mpr ⟨lw_p80, List.forall_mem_cons.mpr ⟨lw_p81, List.forall_mem_cons.mpr ⟨lw_p82, List.forall_mem_cons.mpr ⟨lw_p83, List.forall_mem_cons.mpr ⟨lw_p84, List.forall_mem_cons.mpr ⟨lw_p85, List.forall_mem_cons.mpr ⟨lw_p86, List.forall_mem_cons.mpr ⟨lw_p87, List.forall_mem_cons.mpr ⟨lw_p88, List.forall_mem_cons.mpr ⟨lw_p89, List.forall_mem_cons.mpr ⟨lw_p90, List.forall_mem_cons.mpr ⟨lw_p91, List.forall_mem_cons.mpr ⟨lw_p92, List.forall_mem_cons.mpr ⟨lw_p93, List.forall_mem_cons.mpr ⟨lw_p94, List.forall_mem_cons.mpr ⟨lw_p95, fun _ h => absurd h List.not_mem_nil⟩⟩⟩⟩⟩⟩⟩⟩⟩⟩⟩⟩⟩⟩⟩⟩
theorem lw_p96 : lw_okq (⟨"PackedForestModel", "growsEmpty", "(I)I"⟩, 72) := ⟨⟨by decide +kernel, by decide +kernel⟩, List.mem_of_getElem? (i := 1246) (by decide +kernel), List.mem_of_getElem? (i := 1618) (by decide +kernel), List.mem_of_getElem? (i := 1619) (by decide +kernel)⟩
theorem lw_p97 : lw_okq (⟨"PackedForestModel", "areIn", "(IIIII)Z"⟩, 72) := ⟨⟨by decide +kernel, by decide +kernel⟩, List.mem_of_getElem? (i := 1246) (by decide +kernel), List.mem_of_getElem? (i := 1622) (by decide +kernel), List.mem_of_getElem? (i := 1623) (by decide +kernel)⟩
theorem lw_p98 : lw_okq (⟨"PackedForestModel", "growsEnding", "(I)I"⟩, 72) := ⟨⟨by decide +kernel, by decide +kernel⟩, List.mem_of_getElem? (i := 1246) (by decide +kernel), List.mem_of_getElem? (i := 1626) (by decide +kernel), List.mem_of_getElem? (i := 1627) (by decide +kernel)⟩
theorem lw_p99 : lw_okq (⟨"PackedForestModel", "areCapitalsIn", "(II)Z"⟩, 72) := ⟨⟨by decide +kernel, by decide +kernel⟩, List.mem_of_getElem? (i := 1246) (by decide +kernel), List.mem_of_getElem? (i := 1630) (by decide +kernel), List.mem_of_getElem? (i := 1631) (by decide +kernel)⟩
theorem lw_p100 : lw_okq (⟨"PackedForestModel", "growsReached", "(I)I"⟩, 72) := ⟨⟨by decide +kernel, by decide +kernel⟩, List.mem_of_getElem? (i := 1246) (by decide +kernel), List.mem_of_getElem? (i := 1634) (by decide +kernel), List.mem_of_getElem? (i := 1635) (by decide +kernel)⟩
theorem lw_p101 : lw_okq (⟨"PackedForestModel", "againBy", "(Z)I"⟩, 72) := ⟨⟨by decide +kernel, by decide +kernel⟩, List.mem_of_getElem? (i := 1246) (by decide +kernel), List.mem_of_getElem? (i := 1638) (by decide +kernel), List.mem_of_getElem? (i := 1639) (by decide +kernel)⟩
theorem lw_p102 : lw_okq (⟨"PackedForestModel", "stepsOf", "(IZ)I"⟩, 72) := ⟨⟨by decide +kernel, by decide +kernel⟩, List.mem_of_getElem? (i := 1246) (by decide +kernel), List.mem_of_getElem? (i := 1642) (by decide +kernel), List.mem_of_getElem? (i := 1643) (by decide +kernel)⟩
theorem lw_p103 : lw_okq (⟨"PackedForestModel", "isLeft", "(I)Z"⟩, 72) := ⟨⟨by decide +kernel, by decide +kernel⟩, List.mem_of_getElem? (i := 1246) (by decide +kernel), List.mem_of_getElem? (i := 1650) (by decide +kernel), List.mem_of_getElem? (i := 1651) (by decide +kernel)⟩
theorem lw_p104 : lw_okq (⟨"PackedForestModel", "laysFirst", "()V"⟩, 72) := ⟨⟨by decide +kernel, by decide +kernel⟩, List.mem_of_getElem? (i := 1246) (by decide +kernel), List.mem_of_getElem? (i := 1654) (by decide +kernel), List.mem_of_getElem? (i := 1655) (by decide +kernel)⟩
theorem lw_p105 : lw_okq (⟨"PackedForestModel", "firstBehind", "(II)I"⟩, 72) := ⟨⟨by decide +kernel, by decide +kernel⟩, List.mem_of_getElem? (i := 1246) (by decide +kernel), List.mem_of_getElem? (i := 1658) (by decide +kernel), List.mem_of_getElem? (i := 1659) (by decide +kernel)⟩
theorem lw_p106 : lw_okq (⟨"PackedForestModel", "firstOf", "(I)I"⟩, 72) := ⟨⟨by decide +kernel, by decide +kernel⟩, List.mem_of_getElem? (i := 1246) (by decide +kernel), List.mem_of_getElem? (i := 1662) (by decide +kernel), List.mem_of_getElem? (i := 1663) (by decide +kernel)⟩
theorem lw_p107 : lw_okq (⟨"PackedForestModel", "laysFollow", "()V"⟩, 72) := ⟨⟨by decide +kernel, by decide +kernel⟩, List.mem_of_getElem? (i := 1246) (by decide +kernel), List.mem_of_getElem? (i := 1670) (by decide +kernel), List.mem_of_getElem? (i := 1671) (by decide +kernel)⟩
theorem lw_p108 : lw_okq (⟨"PackedForestModel", "followsIn", "(I)V"⟩, 72) := ⟨⟨by decide +kernel, by decide +kernel⟩, List.mem_of_getElem? (i := 1246) (by decide +kernel), List.mem_of_getElem? (i := 1675) (by decide +kernel), List.mem_of_getElem? (i := 1676) (by decide +kernel)⟩
theorem lw_p109 : lw_okq (⟨"PackedForestModel", "fewestIn", "(I)I"⟩, 72) := ⟨⟨by decide +kernel, by decide +kernel⟩, List.mem_of_getElem? (i := 1246) (by decide +kernel), List.mem_of_getElem? (i := 1684) (by decide +kernel), List.mem_of_getElem? (i := 1685) (by decide +kernel)⟩
theorem lw_p110 : lw_okq (⟨"PackedForestModel", "isState", "(I)Z"⟩, 72) := ⟨⟨by decide +kernel, by decide +kernel⟩, List.mem_of_getElem? (i := 1246) (by decide +kernel), List.mem_of_getElem? (i := 1699) (by decide +kernel), List.mem_of_getElem? (i := 1700) (by decide +kernel)⟩
theorem lw_p111 : lw_okq (⟨"PackedForestModel", "doesClash", "(I)Z"⟩, 72) := ⟨⟨by decide +kernel, by decide +kernel⟩, List.mem_of_getElem? (i := 1246) (by decide +kernel), List.mem_of_getElem? (i := 1717) (by decide +kernel), List.mem_of_getElem? (i := 1718) (by decide +kernel)⟩
def lw_privs_7 : List (MethodName × Nat) := [(⟨"PackedForestModel", "growsEmpty", "(I)I"⟩, 72), (⟨"PackedForestModel", "areIn", "(IIIII)Z"⟩, 72), (⟨"PackedForestModel", "growsEnding", "(I)I"⟩, 72), (⟨"PackedForestModel", "areCapitalsIn", "(II)Z"⟩, 72), (⟨"PackedForestModel", "growsReached", "(I)I"⟩, 72), (⟨"PackedForestModel", "againBy", "(Z)I"⟩, 72), (⟨"PackedForestModel", "stepsOf", "(IZ)I"⟩, 72), (⟨"PackedForestModel", "isLeft", "(I)Z"⟩, 72), (⟨"PackedForestModel", "laysFirst", "()V"⟩, 72), (⟨"PackedForestModel", "firstBehind", "(II)I"⟩, 72), (⟨"PackedForestModel", "firstOf", "(I)I"⟩, 72), (⟨"PackedForestModel", "laysFollow", "()V"⟩, 72), (⟨"PackedForestModel", "followsIn", "(I)V"⟩, 72), (⟨"PackedForestModel", "fewestIn", "(I)I"⟩, 72), (⟨"PackedForestModel", "isState", "(I)Z"⟩, 72), (⟨"PackedForestModel", "doesClash", "(I)Z"⟩, 72)]
theorem lw_r7 : ∀ q ∈ lw_privs_7, lw_okq q := List.forall_mem_cons.mpr ⟨lw_p96, List.forall_mem_cons.mpr ⟨lw_p97, List.forall_mem_cons.mpr ⟨lw_p98, List.forall_mem_cons.mpr ⟨lw_p99, List.forall_mem_cons.mpr ⟨lw_p100, List.forall_mem_cons.mpr ⟨lw_p101, List.forall_mem_cons.mpr ⟨lw_p102, List.forall_mem_cons.mpr ⟨lw_p103, List.forall_mem_cons.mpr ⟨lw_p104, List.forall_mem_cons.mpr ⟨lw_p105, List.forall_mem_cons.mpr ⟨lw_p106, List.forall_mem_cons.mpr ⟨lw_p107, List.forall_mem_cons.mpr ⟨lw_p108, List.forall_mem_cons.mpr ⟨lw_p109, List.forall_mem_cons.mpr ⟨lw_p110, List.forall_mem_cons.mpr ⟨lw_p111, fun _ h => absurd h List.not_mem_nil⟩⟩⟩⟩⟩⟩⟩⟩⟩⟩⟩⟩⟩⟩⟩⟩
theorem lw_p112 : lw_okq (⟨"PackedForestModel", "movesAll", "(IZ)V"⟩, 72) := ⟨⟨by decide +kernel, by decide +kernel⟩, List.mem_of_getElem? (i := 1246) (by decide +kernel), List.mem_of_getElem? (i := 1725) (by decide +kernel), List.mem_of_getElem? (i := 1726) (by decide +kernel)⟩
theorem lw_p113 : lw_okq (⟨"PackedForestModel", "moves", "(I)I"⟩, 72) := ⟨⟨by decide +kernel, by decide +kernel⟩, List.mem_of_getElem? (i := 1246) (by decide +kernel), List.mem_of_getElem? (i := 1729) (by decide +kernel), List.mem_of_getElem? (i := 1730) (by decide +kernel)⟩
theorem lw_p114 : lw_okq (⟨"PackedForestModel", "movesRow", "([I)V"⟩, 72) := ⟨⟨by decide +kernel, by decide +kernel⟩, List.mem_of_getElem? (i := 1246) (by decide +kernel), List.mem_of_getElem? (i := 1733) (by decide +kernel), List.mem_of_getElem? (i := 1734) (by decide +kernel)⟩
theorem lw_p115 : lw_okq (⟨"PackedForestModel", "keepsAct", "()V"⟩, 72) := ⟨⟨by decide +kernel, by decide +kernel⟩, List.mem_of_getElem? (i := 1246) (by decide +kernel), List.mem_of_getElem? (i := 1742) (by decide +kernel), List.mem_of_getElem? (i := 1743) (by decide +kernel)⟩
theorem lw_p116 : lw_okq (⟨"PackedForestModel", "isNew", "()V"⟩, 72) := ⟨⟨by decide +kernel, by decide +kernel⟩, List.mem_of_getElem? (i := 1246) (by decide +kernel), List.mem_of_getElem? (i := 1746) (by decide +kernel), List.mem_of_getElem? (i := 1747) (by decide +kernel)⟩
theorem lw_p117 : lw_okq (⟨"PackedForestModel", "banOf", "(I)I"⟩, 72) := ⟨⟨by decide +kernel, by decide +kernel⟩, List.mem_of_getElem? (i := 1246) (by decide +kernel), List.mem_of_getElem? (i := 1766) (by decide +kernel), List.mem_of_getElem? (i := 1767) (by decide +kernel)⟩
theorem lw_p118 : lw_okq (⟨"PackedForestModel", "isPart", "(II)Z"⟩, 72) := ⟨⟨by decide +kernel, by decide +kernel⟩, List.mem_of_getElem? (i := 1246) (by decide +kernel), List.mem_of_getElem? (i := 1783) (by decide +kernel), List.mem_of_getElem? (i := 1784) (by decide +kernel)⟩
theorem lw_p119 : lw_okq (⟨"PackedForestModel", "laysMade", "(I)V"⟩, 72) := ⟨⟨by decide +kernel, by decide +kernel⟩, List.mem_of_getElem? (i := 1246) (by decide +kernel), List.mem_of_getElem? (i := 1787) (by decide +kernel), List.mem_of_getElem? (i := 1788) (by decide +kernel)⟩
theorem lw_p120 : lw_okq (⟨"PackedForestModel", "makesOf", "(II)Z"⟩, 72) := ⟨⟨by decide +kernel, by decide +kernel⟩, List.mem_of_getElem? (i := 1246) (by decide +kernel), List.mem_of_getElem? (i := 1791) (by decide +kernel), List.mem_of_getElem? (i := 1792) (by decide +kernel)⟩
theorem lw_p121 : lw_okq (⟨"PackedForestModel", "makesOne", "(IIII)Z"⟩, 72) := ⟨⟨by decide +kernel, by decide +kernel⟩, List.mem_of_getElem? (i := 1246) (by decide +kernel), List.mem_of_getElem? (i := 1795) (by decide +kernel), List.mem_of_getElem? (i := 1796) (by decide +kernel)⟩
theorem lw_p122 : lw_okq (⟨"PackedForestModel", "laysAhead", "(IIII)V"⟩, 72) := ⟨⟨by decide +kernel, by decide +kernel⟩, List.mem_of_getElem? (i := 1246) (by decide +kernel), List.mem_of_getElem? (i := 1802) (by decide +kernel), List.mem_of_getElem? (i := 1803) (by decide +kernel)⟩
theorem lw_p123 : lw_okq (⟨"PackedForestModel", "canBe", "(IIIII)Z"⟩, 72) := ⟨⟨by decide +kernel, by decide +kernel⟩, List.mem_of_getElem? (i := 1246) (by decide +kernel), List.mem_of_getElem? (i := 1806) (by decide +kernel), List.mem_of_getElem? (i := 1807) (by decide +kernel)⟩
theorem lw_p124 : lw_okq (⟨"PackedForestModel", "isCapitalAt", "(II)Z"⟩, 72) := ⟨⟨by decide +kernel, by decide +kernel⟩, List.mem_of_getElem? (i := 1246) (by decide +kernel), List.mem_of_getElem? (i := 1810) (by decide +kernel), List.mem_of_getElem? (i := 1811) (by decide +kernel)⟩
theorem lw_p125 : lw_okq (⟨"PackedForestModel", "isSmallAt", "(IIII)Z"⟩, 72) := ⟨⟨by decide +kernel, by decide +kernel⟩, List.mem_of_getElem? (i := 1246) (by decide +kernel), List.mem_of_getElem? (i := 1814) (by decide +kernel), List.mem_of_getElem? (i := 1815) (by decide +kernel)⟩
theorem lw_p126 : lw_okq (⟨"PackedForestModel", "isBelow", "(IIII)Z"⟩, 72) := ⟨⟨by decide +kernel, by decide +kernel⟩, List.mem_of_getElem? (i := 1246) (by decide +kernel), List.mem_of_getElem? (i := 1818) (by decide +kernel), List.mem_of_getElem? (i := 1819) (by decide +kernel)⟩
theorem lw_p127 : lw_okq (⟨"PackedForestModel", "isForbidden", "(III)Z"⟩, 72) := ⟨⟨by decide +kernel, by decide +kernel⟩, List.mem_of_getElem? (i := 1246) (by decide +kernel), List.mem_of_getElem? (i := 1822) (by decide +kernel), List.mem_of_getElem? (i := 1823) (by decide +kernel)⟩
def lw_privs_8 : List (MethodName × Nat) := [(⟨"PackedForestModel", "movesAll", "(IZ)V"⟩, 72), (⟨"PackedForestModel", "moves", "(I)I"⟩, 72), (⟨"PackedForestModel", "movesRow", "([I)V"⟩, 72), (⟨"PackedForestModel", "keepsAct", "()V"⟩, 72), (⟨"PackedForestModel", "isNew", "()V"⟩, 72), (⟨"PackedForestModel", "banOf", "(I)I"⟩, 72), (⟨"PackedForestModel", "isPart", "(II)Z"⟩, 72), (⟨"PackedForestModel", "laysMade", "(I)V"⟩, 72), (⟨"PackedForestModel", "makesOf", "(II)Z"⟩, 72), (⟨"PackedForestModel", "makesOne", "(IIII)Z"⟩, 72), (⟨"PackedForestModel", "laysAhead", "(IIII)V"⟩, 72), (⟨"PackedForestModel", "canBe", "(IIIII)Z"⟩, 72), (⟨"PackedForestModel", "isCapitalAt", "(II)Z"⟩, 72), (⟨"PackedForestModel", "isSmallAt", "(IIII)Z"⟩, 72), (⟨"PackedForestModel", "isBelow", "(IIII)Z"⟩, 72), (⟨"PackedForestModel", "isForbidden", "(III)Z"⟩, 72)]
theorem lw_r8 : ∀ q ∈ lw_privs_8, lw_okq q := List.forall_mem_cons.mpr ⟨lw_p112, List.forall_mem_cons.mpr ⟨lw_p113, List.forall_mem_cons.mpr ⟨lw_p114, List.forall_mem_cons.mpr ⟨lw_p115, List.forall_mem_cons.mpr ⟨lw_p116, List.forall_mem_cons.mpr ⟨lw_p117, List.forall_mem_cons.mpr ⟨lw_p118, List.forall_mem_cons.mpr ⟨lw_p119, List.forall_mem_cons.mpr ⟨lw_p120, List.forall_mem_cons.mpr ⟨lw_p121, List.forall_mem_cons.mpr ⟨lw_p122, List.forall_mem_cons.mpr ⟨lw_p123, List.forall_mem_cons.mpr ⟨lw_p124, List.forall_mem_cons.mpr ⟨lw_p125, List.forall_mem_cons.mpr ⟨lw_p126, List.forall_mem_cons.mpr ⟨lw_p127, fun _ h => absurd h List.not_mem_nil⟩⟩⟩⟩⟩⟩⟩⟩⟩⟩⟩⟩⟩⟩⟩⟩
theorem lw_p128 : lw_okq (⟨"PackedForestModel", "isBySide", "(II)Z"⟩, 72) := ⟨⟨by decide +kernel, by decide +kernel⟩, List.mem_of_getElem? (i := 1246) (by decide +kernel), List.mem_of_getElem? (i := 1826) (by decide +kernel), List.mem_of_getElem? (i := 1827) (by decide +kernel)⟩
theorem lw_p129 : lw_okq (⟨"PackedForestModel", "isMadeOf", "(III)Z"⟩, 72) := ⟨⟨by decide +kernel, by decide +kernel⟩, List.mem_of_getElem? (i := 1246) (by decide +kernel), List.mem_of_getElem? (i := 1830) (by decide +kernel), List.mem_of_getElem? (i := 1831) (by decide +kernel)⟩
theorem lw_p130 : lw_okq (⟨"PackedForestModel", "isLevel", "(I)Z"⟩, 72) := ⟨⟨by decide +kernel, by decide +kernel⟩, List.mem_of_getElem? (i := 1246) (by decide +kernel), List.mem_of_getElem? (i := 1842) (by decide +kernel), List.mem_of_getElem? (i := 1843) (by decide +kernel)⟩
theorem lw_p131 : lw_okq (⟨"PackedForestModel", "laysAlive", "()V"⟩, 72) := ⟨⟨by decide +kernel, by decide +kernel⟩, List.mem_of_getElem? (i := 1246) (by decide +kernel), List.mem_of_getElem? (i := 1846) (by decide +kernel), List.mem_of_getElem? (i := 1847) (by decide +kernel)⟩
theorem lw_p132 : lw_okq (⟨"PackedForestModel", "wakes", "(I)Z"⟩, 72) := ⟨⟨by decide +kernel, by decide +kernel⟩, List.mem_of_getElem? (i := 1246) (by decide +kernel), List.mem_of_getElem? (i := 1850) (by decide +kernel), List.mem_of_getElem? (i := 1851) (by decide +kernel)⟩
theorem lw_p133 : lw_okq (⟨"PackedForestModel", "wakesFrom", "(III)Z"⟩, 72) := ⟨⟨by decide +kernel, by decide +kernel⟩, List.mem_of_getElem? (i := 1246) (by decide +kernel), List.mem_of_getElem? (i := 1854) (by decide +kernel), List.mem_of_getElem? (i := 1855) (by decide +kernel)⟩
theorem lw_p134 : lw_okq (⟨"PackedForestModel", "linksTo", "(IIII)I"⟩, 72) := ⟨⟨by decide +kernel, by decide +kernel⟩, List.mem_of_getElem? (i := 1246) (by decide +kernel), List.mem_of_getElem? (i := 1862) (by decide +kernel), List.mem_of_getElem? (i := 1863) (by decide +kernel)⟩
theorem lw_p135 : lw_okq (⟨"PackedForestModel", "laysTrees", "()V"⟩, 72) := ⟨⟨by decide +kernel, by decide +kernel⟩, List.mem_of_getElem? (i := 1246) (by decide +kernel), List.mem_of_getElem? (i := 1874) (by decide +kernel), List.mem_of_getElem? (i := 1875) (by decide +kernel)⟩
theorem lw_p136 : lw_okq (⟨"PackedForestModel", "laysTreesOf", "(II)V"⟩, 72) := ⟨⟨by decide +kernel, by decide +kernel⟩, List.mem_of_getElem? (i := 1246) (by decide +kernel), List.mem_of_getElem? (i := 1878) (by decide +kernel), List.mem_of_getElem? (i := 1879) (by decide +kernel)⟩
theorem lw_p137 : lw_okq (⟨"PackedForestModel", "laysRings", "(II)V"⟩, 72) := ⟨⟨by decide +kernel, by decide +kernel⟩, List.mem_of_getElem? (i := 1246) (by decide +kernel), List.mem_of_getElem? (i := 1882) (by decide +kernel), List.mem_of_getElem? (i := 1883) (by decide +kernel)⟩
theorem lw_p138 : lw_okq (⟨"PackedForestModel", "sameBelow", "(III)I"⟩, 72) := ⟨⟨by decide +kernel, by decide +kernel⟩, List.mem_of_getElem? (i := 1246) (by decide +kernel), List.mem_of_getElem? (i := 1886) (by decide +kernel), List.mem_of_getElem? (i := 1887) (by decide +kernel)⟩
theorem lw_p139 : lw_okq (⟨"PackedForestModel", "endsNot", "(II)Z"⟩, 72) := ⟨⟨by decide +kernel, by decide +kernel⟩, List.mem_of_getElem? (i := 1246) (by decide +kernel), List.mem_of_getElem? (i := 1890) (by decide +kernel), List.mem_of_getElem? (i := 1891) (by decide +kernel)⟩
theorem lw_p140 : lw_okq (⟨"PackedForestModel", "hasEndless", "(III)Z"⟩, 72) := ⟨⟨by decide +kernel, by decide +kernel⟩, List.mem_of_getElem? (i := 1246) (by decide +kernel), List.mem_of_getElem? (i := 1894) (by decide +kernel), List.mem_of_getElem? (i := 1895) (by decide +kernel)⟩
theorem lw_p141 : lw_okq (⟨"PackedForestModel", "isEndlessBelow", "(IIII)Z"⟩, 72) := ⟨⟨by decide +kernel, by decide +kernel⟩, List.mem_of_getElem? (i := 1246) (by decide +kernel), List.mem_of_getElem? (i := 1898) (by decide +kernel), List.mem_of_getElem? (i := 1899) (by decide +kernel)⟩
theorem lw_p142 : lw_okq (⟨"PackedForestModel", "countsAll", "(II)Z"⟩, 72) := ⟨⟨by decide +kernel, by decide +kernel⟩, List.mem_of_getElem? (i := 1246) (by decide +kernel), List.mem_of_getElem? (i := 1902) (by decide +kernel), List.mem_of_getElem? (i := 1903) (by decide +kernel)⟩
theorem lw_p143 : lw_okq (⟨"PackedForestModel", "countsOf", "(III)J"⟩, 72) := ⟨⟨by decide +kernel, by decide +kernel⟩, List.mem_of_getElem? (i := 1246) (by decide +kernel), List.mem_of_getElem? (i := 1906) (by decide +kernel), List.mem_of_getElem? (i := 1907) (by decide +kernel)⟩
def lw_privs_9 : List (MethodName × Nat) := [(⟨"PackedForestModel", "isBySide", "(II)Z"⟩, 72), (⟨"PackedForestModel", "isMadeOf", "(III)Z"⟩, 72), (⟨"PackedForestModel", "isLevel", "(I)Z"⟩, 72), (⟨"PackedForestModel", "laysAlive", "()V"⟩, 72), (⟨"PackedForestModel", "wakes", "(I)Z"⟩, 72), (⟨"PackedForestModel", "wakesFrom", "(III)Z"⟩, 72), (⟨"PackedForestModel", "linksTo", "(IIII)I"⟩, 72), (⟨"PackedForestModel", "laysTrees", "()V"⟩, 72), (⟨"PackedForestModel", "laysTreesOf", "(II)V"⟩, 72), (⟨"PackedForestModel", "laysRings", "(II)V"⟩, 72), (⟨"PackedForestModel", "sameBelow", "(III)I"⟩, 72), (⟨"PackedForestModel", "endsNot", "(II)Z"⟩, 72), (⟨"PackedForestModel", "hasEndless", "(III)Z"⟩, 72), (⟨"PackedForestModel", "isEndlessBelow", "(IIII)Z"⟩, 72), (⟨"PackedForestModel", "countsAll", "(II)Z"⟩, 72), (⟨"PackedForestModel", "countsOf", "(III)J"⟩, 72)]
theorem lw_r9 : ∀ q ∈ lw_privs_9, lw_okq q := List.forall_mem_cons.mpr ⟨lw_p128, List.forall_mem_cons.mpr ⟨lw_p129, List.forall_mem_cons.mpr ⟨lw_p130, List.forall_mem_cons.mpr ⟨lw_p131, List.forall_mem_cons.mpr ⟨lw_p132, List.forall_mem_cons.mpr ⟨lw_p133, List.forall_mem_cons.mpr ⟨lw_p134, List.forall_mem_cons.mpr ⟨lw_p135, List.forall_mem_cons.mpr ⟨lw_p136, List.forall_mem_cons.mpr ⟨lw_p137, List.forall_mem_cons.mpr ⟨lw_p138, List.forall_mem_cons.mpr ⟨lw_p139, List.forall_mem_cons.mpr ⟨lw_p140, List.forall_mem_cons.mpr ⟨lw_p141, List.forall_mem_cons.mpr ⟨lw_p142, List.forall_mem_cons.mpr ⟨lw_p143, fun _ h => absurd h List.not_mem_nil⟩⟩⟩⟩⟩⟩⟩⟩⟩⟩⟩⟩⟩⟩⟩⟩
theorem lw_p144 : lw_okq (⟨"PackedForestModel", "treesBelow", "(IIII)J"⟩, 72) := ⟨⟨by decide +kernel, by decide +kernel⟩, List.mem_of_getElem? (i := 1246) (by decide +kernel), List.mem_of_getElem? (i := 1910) (by decide +kernel), List.mem_of_getElem? (i := 1911) (by decide +kernel)⟩
theorem lw_p145 : lw_okq (⟨"PackedForestModel", "laysForest", "()V"⟩, 72) := ⟨⟨by decide +kernel, by decide +kernel⟩, List.mem_of_getElem? (i := 1246) (by decide +kernel), List.mem_of_getElem? (i := 1919) (by decide +kernel), List.mem_of_getElem? (i := 1920) (by decide +kernel)⟩
theorem lw_p146 : lw_okq (⟨"PackedForestModel", "goesThrough", "()Z"⟩, 72) := ⟨⟨by decide +kernel, by decide +kernel⟩, List.mem_of_getElem? (i := 1246) (by decide +kernel), List.mem_of_getElem? (i := 1923) (by decide +kernel), List.mem_of_getElem? (i := 1924) (by decide +kernel)⟩
theorem lw_p147 : lw_okq (⟨"PackedForestModel", "marksFrom", "(III)Z"⟩, 72) := ⟨⟨by decide +kernel, by decide +kernel⟩, List.mem_of_getElem? (i := 1246) (by decide +kernel), List.mem_of_getElem? (i := 1927) (by decide +kernel), List.mem_of_getElem? (i := 1928) (by decide +kernel)⟩
theorem lw_p148 : lw_okq (⟨"PackedForestModel", "laysBehind", "(III)V"⟩, 72) := ⟨⟨by decide +kernel, by decide +kernel⟩, List.mem_of_getElem? (i := 1246) (by decide +kernel), List.mem_of_getElem? (i := 1931) (by decide +kernel), List.mem_of_getElem? (i := 1932) (by decide +kernel)⟩
theorem lw_p149 : lw_okq (⟨"PackedForestModel", "marksBelow", "(IIII)Z"⟩, 72) := ⟨⟨by decide +kernel, by decide +kernel⟩, List.mem_of_getElem? (i := 1246) (by decide +kernel), List.mem_of_getElem? (i := 1935) (by decide +kernel), List.mem_of_getElem? (i := 1936) (by decide +kernel)⟩
theorem lw_p150 : lw_okq (⟨"PackedForestModel", "waysOf", "(III)I"⟩, 72) := ⟨⟨by decide +kernel, by decide +kernel⟩, List.mem_of_getElem? (i := 1246) (by decide +kernel), List.mem_of_getElem? (i := 1943) (by decide +kernel), List.mem_of_getElem? (i := 1944) (by decide +kernel)⟩
theorem lw_p151 : lw_okq (⟨"PackedForestModel", "countsForest", "()V"⟩, 72) := ⟨⟨by decide +kernel, by decide +kernel⟩, List.mem_of_getElem? (i := 1246) (by decide +kernel), List.mem_of_getElem? (i := 1952) (by decide +kernel), List.mem_of_getElem? (i := 1953) (by decide +kernel)⟩
theorem lw_p152 : lw_okq (⟨"PackedForestModel", "countsNode", "(III)V"⟩, 72) := ⟨⟨by decide +kernel, by decide +kernel⟩, List.mem_of_getElem? (i := 1246) (by decide +kernel), List.mem_of_getElem? (i := 1956) (by decide +kernel), List.mem_of_getElem? (i := 1957) (by decide +kernel)⟩
theorem lw_p153 : lw_okq (⟨"PackedForestModel", "waysOfNode", "(III)I"⟩, 72) := ⟨⟨by decide +kernel, by decide +kernel⟩, List.mem_of_getElem? (i := 1246) (by decide +kernel), List.mem_of_getElem? (i := 1960) (by decide +kernel), List.mem_of_getElem? (i := 1961) (by decide +kernel)⟩
theorem lw_p154 : lw_okq (⟨"PackedForestModel", "laysSmallest", "()V"⟩, 72) := ⟨⟨by decide +kernel, by decide +kernel⟩, List.mem_of_getElem? (i := 1246) (by decide +kernel), List.mem_of_getElem? (i := 1968) (by decide +kernel), List.mem_of_getElem? (i := 1969) (by decide +kernel)⟩
theorem lw_p155 : lw_okq (⟨"PackedForestModel", "shrinks", "(I)Z"⟩, 72) := ⟨⟨by decide +kernel, by decide +kernel⟩, List.mem_of_getElem? (i := 1246) (by decide +kernel), List.mem_of_getElem? (i := 1972) (by decide +kernel), List.mem_of_getElem? (i := 1973) (by decide +kernel)⟩
theorem lw_p156 : lw_okq (⟨"PackedForestModel", "laysSizes", "(III)V"⟩, 72) := ⟨⟨by decide +kernel, by decide +kernel⟩, List.mem_of_getElem? (i := 1246) (by decide +kernel), List.mem_of_getElem? (i := 1976) (by decide +kernel), List.mem_of_getElem? (i := 1977) (by decide +kernel)⟩
theorem lw_p157 : lw_okq (⟨"PackedForestModel", "sizeBelow", "(IIII)I"⟩, 72) := ⟨⟨by decide +kernel, by decide +kernel⟩, List.mem_of_getElem? (i := 1246) (by decide +kernel), List.mem_of_getElem? (i := 1980) (by decide +kernel), List.mem_of_getElem? (i := 1981) (by decide +kernel)⟩
theorem lw_p158 : lw_okq (⟨"PackedForestModel", "leastBelow", "(IIII)I"⟩, 72) := ⟨⟨by decide +kernel, by decide +kernel⟩, List.mem_of_getElem? (i := 1246) (by decide +kernel), List.mem_of_getElem? (i := 1984) (by decide +kernel), List.mem_of_getElem? (i := 1985) (by decide +kernel)⟩
theorem lw_p159 : lw_okq (⟨"PackedForestModel", "leastRule", "()I"⟩, 72) := ⟨⟨by decide +kernel, by decide +kernel⟩, List.mem_of_getElem? (i := 1246) (by decide +kernel), List.mem_of_getElem? (i := 1988) (by decide +kernel), List.mem_of_getElem? (i := 1989) (by decide +kernel)⟩
def lw_privs_10 : List (MethodName × Nat) := [(⟨"PackedForestModel", "treesBelow", "(IIII)J"⟩, 72), (⟨"PackedForestModel", "laysForest", "()V"⟩, 72), (⟨"PackedForestModel", "goesThrough", "()Z"⟩, 72), (⟨"PackedForestModel", "marksFrom", "(III)Z"⟩, 72), (⟨"PackedForestModel", "laysBehind", "(III)V"⟩, 72), (⟨"PackedForestModel", "marksBelow", "(IIII)Z"⟩, 72), (⟨"PackedForestModel", "waysOf", "(III)I"⟩, 72), (⟨"PackedForestModel", "countsForest", "()V"⟩, 72), (⟨"PackedForestModel", "countsNode", "(III)V"⟩, 72), (⟨"PackedForestModel", "waysOfNode", "(III)I"⟩, 72), (⟨"PackedForestModel", "laysSmallest", "()V"⟩, 72), (⟨"PackedForestModel", "shrinks", "(I)Z"⟩, 72), (⟨"PackedForestModel", "laysSizes", "(III)V"⟩, 72), (⟨"PackedForestModel", "sizeBelow", "(IIII)I"⟩, 72), (⟨"PackedForestModel", "leastBelow", "(IIII)I"⟩, 72), (⟨"PackedForestModel", "leastRule", "()I"⟩, 72)]
theorem lw_r10 : ∀ q ∈ lw_privs_10, lw_okq q := List.forall_mem_cons.mpr ⟨lw_p144, List.forall_mem_cons.mpr ⟨lw_p145, List.forall_mem_cons.mpr ⟨lw_p146, List.forall_mem_cons.mpr ⟨lw_p147, List.forall_mem_cons.mpr ⟨lw_p148, List.forall_mem_cons.mpr ⟨lw_p149, List.forall_mem_cons.mpr ⟨lw_p150, List.forall_mem_cons.mpr ⟨lw_p151, List.forall_mem_cons.mpr ⟨lw_p152, List.forall_mem_cons.mpr ⟨lw_p153, List.forall_mem_cons.mpr ⟨lw_p154, List.forall_mem_cons.mpr ⟨lw_p155, List.forall_mem_cons.mpr ⟨lw_p156, List.forall_mem_cons.mpr ⟨lw_p157, List.forall_mem_cons.mpr ⟨lw_p158, List.forall_mem_cons.mpr ⟨lw_p159, fun _ h => absurd h List.not_mem_nil⟩⟩⟩⟩⟩⟩⟩⟩⟩⟩⟩⟩⟩⟩⟩⟩
theorem lw_p160 : lw_okq (⟨"PackedForestModel", "goesBelow", "()V"⟩, 72) := ⟨⟨by decide +kernel, by decide +kernel⟩, List.mem_of_getElem? (i := 1246) (by decide +kernel), List.mem_of_getElem? (i := 1997) (by decide +kernel), List.mem_of_getElem? (i := 1998) (by decide +kernel)⟩
theorem lw_p161 : lw_okq (⟨"PackedForestModel", "endOf", "(IIII)I"⟩, 72) := ⟨⟨by decide +kernel, by decide +kernel⟩, List.mem_of_getElem? (i := 1246) (by decide +kernel), List.mem_of_getElem? (i := 2001) (by decide +kernel), List.mem_of_getElem? (i := 2002) (by decide +kernel)⟩
theorem lw_p162 : lw_okq (⟨"PackedForestModel", "mendsMore", "(I)Z"⟩, 72) := ⟨⟨by decide +kernel, by decide +kernel⟩, List.mem_of_getElem? (i := 1246) (by decide +kernel), List.mem_of_getElem? (i := 2009) (by decide +kernel), List.mem_of_getElem? (i := 2010) (by decide +kernel)⟩
theorem lw_p163 : lw_okq (⟨"PackedForestModel", "mendsBy", "(III)I"⟩, 72) := ⟨⟨by decide +kernel, by decide +kernel⟩, List.mem_of_getElem? (i := 1246) (by decide +kernel), List.mem_of_getElem? (i := 2013) (by decide +kernel), List.mem_of_getElem? (i := 2014) (by decide +kernel)⟩
theorem lw_p164 : lw_okq (⟨"PackedForestModel", "mendsTo", "(IIII)I"⟩, 72) := ⟨⟨by decide +kernel, by decide +kernel⟩, List.mem_of_getElem? (i := 1246) (by decide +kernel), List.mem_of_getElem? (i := 2017) (by decide +kernel), List.mem_of_getElem? (i := 2018) (by decide +kernel)⟩
theorem lw_p165 : lw_okq (⟨"PackedForestModel", "speaks", "()Z"⟩, 72) := ⟨⟨by decide +kernel, by decide +kernel⟩, List.mem_of_getElem? (i := 1246) (by decide +kernel), List.mem_of_getElem? (i := 2032) (by decide +kernel), List.mem_of_getElem? (i := 2033) (by decide +kernel)⟩
theorem lw_p166 : lw_okq (⟨"PackedForestModel", "capitalAt", "()I"⟩, 72) := ⟨⟨by decide +kernel, by decide +kernel⟩, List.mem_of_getElem? (i := 1246) (by decide +kernel), List.mem_of_getElem? (i := 2036) (by decide +kernel), List.mem_of_getElem? (i := 2037) (by decide +kernel)⟩
theorem lw_p167 : lw_okq (⟨"PackedForestModel", "rulesOf", "(I)I"⟩, 72) := ⟨⟨by decide +kernel, by decide +kernel⟩, List.mem_of_getElem? (i := 1246) (by decide +kernel), List.mem_of_getElem? (i := 2040) (by decide +kernel), List.mem_of_getElem? (i := 2041) (by decide +kernel)⟩
theorem lw_p168 : lw_okq (⟨"PackedForestModel", "draws", "(I)I"⟩, 72) := ⟨⟨by decide +kernel, by decide +kernel⟩, List.mem_of_getElem? (i := 1246) (by decide +kernel), List.mem_of_getElem? (i := 2044) (by decide +kernel), List.mem_of_getElem? (i := 2045) (by decide +kernel)⟩
theorem lw_p169 : lw_okq (⟨"PackedForestModel", "ruleOf", "(II)I"⟩, 72) := ⟨⟨by decide +kernel, by decide +kernel⟩, List.mem_of_getElem? (i := 1246) (by decide +kernel), List.mem_of_getElem? (i := 2051) (by decide +kernel), List.mem_of_getElem? (i := 2052) (by decide +kernel)⟩
theorem lw_p170 : lw_okq (⟨"PackedForestModel", "replaces", "(II)V"⟩, 72) := ⟨⟨by decide +kernel, by decide +kernel⟩, List.mem_of_getElem? (i := 1246) (by decide +kernel), List.mem_of_getElem? (i := 2055) (by decide +kernel), List.mem_of_getElem? (i := 2056) (by decide +kernel)⟩
theorem lw_p171 : lw_okq (⟨"PackedForestModel", "carriesAll", "(IZ)V"⟩, 72) := ⟨⟨by decide +kernel, by decide +kernel⟩, List.mem_of_getElem? (i := 1246) (by decide +kernel), List.mem_of_getElem? (i := 2067) (by decide +kernel), List.mem_of_getElem? (i := 2068) (by decide +kernel)⟩
theorem lw_p172 : lw_okq (⟨"PackedForestModel", "carryRow", "([I)V"⟩, 72) := ⟨⟨by decide +kernel, by decide +kernel⟩, List.mem_of_getElem? (i := 1246) (by decide +kernel), List.mem_of_getElem? (i := 2071) (by decide +kernel), List.mem_of_getElem? (i := 2072) (by decide +kernel)⟩
def lw_privs_11 : List (MethodName × Nat) := [(⟨"PackedForestModel", "goesBelow", "()V"⟩, 72), (⟨"PackedForestModel", "endOf", "(IIII)I"⟩, 72), (⟨"PackedForestModel", "mendsMore", "(I)Z"⟩, 72), (⟨"PackedForestModel", "mendsBy", "(III)I"⟩, 72), (⟨"PackedForestModel", "mendsTo", "(IIII)I"⟩, 72), (⟨"PackedForestModel", "speaks", "()Z"⟩, 72), (⟨"PackedForestModel", "capitalAt", "()I"⟩, 72), (⟨"PackedForestModel", "rulesOf", "(I)I"⟩, 72), (⟨"PackedForestModel", "draws", "(I)I"⟩, 72), (⟨"PackedForestModel", "ruleOf", "(II)I"⟩, 72), (⟨"PackedForestModel", "replaces", "(II)V"⟩, 72), (⟨"PackedForestModel", "carriesAll", "(IZ)V"⟩, 72), (⟨"PackedForestModel", "carryRow", "([I)V"⟩, 72)]
theorem lw_r11 : ∀ q ∈ lw_privs_11, lw_okq q := List.forall_mem_cons.mpr ⟨lw_p160, List.forall_mem_cons.mpr ⟨lw_p161, List.forall_mem_cons.mpr ⟨lw_p162, List.forall_mem_cons.mpr ⟨lw_p163, List.forall_mem_cons.mpr ⟨lw_p164, List.forall_mem_cons.mpr ⟨lw_p165, List.forall_mem_cons.mpr ⟨lw_p166, List.forall_mem_cons.mpr ⟨lw_p167, List.forall_mem_cons.mpr ⟨lw_p168, List.forall_mem_cons.mpr ⟨lw_p169, List.forall_mem_cons.mpr ⟨lw_p170, List.forall_mem_cons.mpr ⟨lw_p171, List.forall_mem_cons.mpr ⟨lw_p172, fun _ h => absurd h List.not_mem_nil⟩⟩⟩⟩⟩⟩⟩⟩⟩⟩⟩⟩⟩
def lw_privs : List (MethodName × Nat) := lw_privs_1 ++ (lw_privs_2 ++ (lw_privs_3 ++ (lw_privs_4 ++ (lw_privs_5 ++ (lw_privs_6 ++ (lw_privs_7 ++ (lw_privs_8 ++ (lw_privs_9 ++ (lw_privs_10 ++ (lw_privs_11))))))))))
def lw_tbl : List Cond := k2_sels lw_privs ++ tables_1
theorem lw_privs_ok : ∀ q ∈ lw_privs, lw_okq q := by
  show ∀ q ∈ lw_privs_1 ++ (lw_privs_2 ++ (lw_privs_3 ++ (lw_privs_4 ++ (lw_privs_5 ++ (lw_privs_6 ++ (lw_privs_7 ++ (lw_privs_8 ++ (lw_privs_9 ++ (lw_privs_10 ++ (lw_privs_11)))))))))), lw_okq q
  exact List.forall_mem_append.mpr ⟨lw_r1, List.forall_mem_append.mpr ⟨lw_r2, List.forall_mem_append.mpr ⟨lw_r3, List.forall_mem_append.mpr ⟨lw_r4, List.forall_mem_append.mpr ⟨lw_r5, List.forall_mem_append.mpr ⟨lw_r6, List.forall_mem_append.mpr ⟨lw_r7, List.forall_mem_append.mpr ⟨lw_r8, List.forall_mem_append.mpr ⟨lw_r9, List.forall_mem_append.mpr ⟨lw_r10, lw_r11⟩⟩⟩⟩⟩⟩⟩⟩⟩⟩
end
section
def zzR0 : String := "PackedForest$Chart"
def zzT0 : u_T := fun k => match k with
  | 0 => ("PackedForest$Chart", "now", "LPackedForest$Setting;", true)
  | 1 => ("PackedForest$Chart", "filtered", "Z", true)
  | 2 => ("PackedForest$Chart", "columns", "I", false)
  | 3 => ("PackedForest$Chart", "fitting", "[I", true)
  | 4 => ("PackedForest$Chart", "rooted", "[I", true)
  | 5 => ("PackedForest$Chart", "ends", "[I", true)
  | _ => ("PackedForest$Chart", "row", "[I", true)
def zzt0 : Nat → FieldType := fun k => match k with
  | 0 => .object "PackedForest$Setting"
  | 1 => .boolean
  | 2 => .int
  | 3 => .array .int
  | 4 => .array .int
  | 5 => .array .int
  | _ => .array .int
theorem zzt0_ok : ∀ k, k < 7 → parseFieldDescriptor (zzT0 k).2.2.1 = some (zzt0 k) := by decide +kernel
theorem zzn0 : ∀ a, a < 7 → ∀ b, b < 7 → a ≠ b → (zzT0 a).2.1 ≠ (zzT0 b).2.1 := by decide +kernel
def zzR1 : String := "PackedForest$Counts"
def zzT1 : u_T := fun k => match k with
  | 0 => ("PackedForest$Counts", "now", "LPackedForest$Setting;", true)
  | 1 => ("PackedForest$Counts", "chart", "LPackedForest$Chart;", true)
  | 2 => ("PackedForest$Counts", "columns", "I", false)
  | 3 => ("PackedForest$Counts", "trees", "[J", true)
  | _ => ("PackedForest$Counts", "row", "[J", true)
def zzt1 : Nat → FieldType := fun k => match k with
  | 0 => .object "PackedForest$Setting"
  | 1 => .object "PackedForest$Chart"
  | 2 => .int
  | 3 => .array .long
  | _ => .array .long
theorem zzt1_ok : ∀ k, k < 5 → parseFieldDescriptor (zzT1 k).2.2.1 = some (zzt1 k) := by decide +kernel
theorem zzn1 : ∀ a, a < 5 → ∀ b, b < 5 → a ≠ b → (zzT1 a).2.1 ≠ (zzT1 b).2.1 := by decide +kernel
def zzR2 : String := "PackedForest$Facts"
def zzT2 : u_T := fun k => match k with
  | 0 => ("PackedForest$Facts", "now", "LPackedForest$Setting;", true)
  | 1 => ("PackedForest$Facts", "stand", "Z", false)
  | 2 => ("PackedForest$Facts", "empty", "I", false)
  | 3 => ("PackedForest$Facts", "ends", "I", false)
  | 4 => ("PackedForest$Facts", "reached", "I", false)
  | 5 => ("PackedForest$Facts", "loops", "I", false)
  | 6 => ("PackedForest$Facts", "recurs", "I", false)
  | 7 => ("PackedForest$Facts", "first", "[I", true)
  | 8 => ("PackedForest$Facts", "follow", "[I", true)
  | 9 => ("PackedForest$Facts", "shortRow", "[I", true)
  | _ => ("PackedForest$Facts", "steps", "[I", true)
def zzt2 : Nat → FieldType := fun k => match k with
  | 0 => .object "PackedForest$Setting"
  | 1 => .boolean
  | 2 => .int
  | 3 => .int
  | 4 => .int
  | 5 => .int
  | 6 => .int
  | 7 => .array .int
  | 8 => .array .int
  | 9 => .array .int
  | _ => .array .int
theorem zzt2_ok : ∀ k, k < 11 → parseFieldDescriptor (zzT2 k).2.2.1 = some (zzt2 k) := by decide +kernel
theorem zzn2 : ∀ a, a < 11 → ∀ b, b < 11 → a ≠ b → (zzT2 a).2.1 ≠ (zzT2 b).2.1 := by decide +kernel
def zzR3 : String := "PackedForest$Forest"
def zzT3 : u_T := fun k => match k with
  | 0 => ("PackedForest$Forest", "now", "LPackedForest$Setting;", true)
  | 1 => ("PackedForest$Forest", "chart", "LPackedForest$Chart;", true)
  | 2 => ("PackedForest$Forest", "stand", "Z", false)
  | 3 => ("PackedForest$Forest", "tallied", "Z", false)
  | 4 => ("PackedForest$Forest", "pieces", "[I", true)
  | 5 => ("PackedForest$Forest", "nodes", "I", false)
  | 6 => ("PackedForest$Forest", "ambiguous", "I", false)
  | 7 => ("PackedForest$Forest", "narrow", "I", false)
  | 8 => ("PackedForest$Forest", "reachable", "[I", true)
  | _ => ("PackedForest$Forest", "hopeful", "[I", true)
def zzt3 : Nat → FieldType := fun k => match k with
  | 0 => .object "PackedForest$Setting"
  | 1 => .object "PackedForest$Chart"
  | 2 => .boolean
  | 3 => .boolean
  | 4 => .array .int
  | 5 => .int
  | 6 => .int
  | 7 => .int
  | 8 => .array .int
  | _ => .array .int
theorem zzt3_ok : ∀ k, k < 10 → parseFieldDescriptor (zzT3 k).2.2.1 = some (zzt3 k) := by decide +kernel
theorem zzn3 : ∀ a, a < 10 → ∀ b, b < 10 → a ≠ b → (zzT3 a).2.1 ≠ (zzT3 b).2.1 := by decide +kernel
def zzR4 : String := "PackedForest$Grammar"
def zzT4 : u_T := fun k => match k with
  | 0 => ("PackedForest$Grammar", "rules", "I", false)
  | 1 => ("PackedForest$Grammar", "lefts", "I", false)
  | 2 => ("PackedForest$Grammar", "left", "[I", true)
  | 3 => ("PackedForest$Grammar", "size", "[I", true)
  | 4 => ("PackedForest$Grammar", "rank", "[I", true)
  | 5 => ("PackedForest$Grammar", "side", "[I", true)
  | 6 => ("PackedForest$Grammar", "symbols", "[I", true)
  | _ => ("PackedForest$Grammar", "rulesOf", "[I", true)
def zzt4 : Nat → FieldType := fun k => match k with
  | 0 => .int
  | 1 => .int
  | 2 => .array .int
  | 3 => .array .int
  | 4 => .array .int
  | 5 => .array .int
  | 6 => .array .int
  | _ => .array .int
theorem zzt4_ok : ∀ k, k < 8 → parseFieldDescriptor (zzT4 k).2.2.1 = some (zzt4 k) := by decide +kernel
theorem zzn4 : ∀ a, a < 8 → ∀ b, b < 8 → a ≠ b → (zzT4 a).2.1 ≠ (zzT4 b).2.1 := by decide +kernel
def zzR5 : String := "PackedForest$Levels"
def zzT5 : u_T := fun k => match k with
  | 0 => ("PackedForest$Levels", "now", "LPackedForest$Setting;", true)
  | 1 => ("PackedForest$Levels", "states", "LPackedForest$States;", true)
  | 2 => ("PackedForest$Levels", "plain", "LPackedForest$Chart;", true)
  | 3 => ("PackedForest$Levels", "stand", "Z", false)
  | 4 => ("PackedForest$Levels", "lives", "[Z", true)
  | 5 => ("PackedForest$Levels", "linkCounts", "[I", true)
  | 6 => ("PackedForest$Levels", "waiting", "[I", true)
  | _ => ("PackedForest$Levels", "waitingCount", "I", false)
def zzt5 : Nat → FieldType := fun k => match k with
  | 0 => .object "PackedForest$Setting"
  | 1 => .object "PackedForest$States"
  | 2 => .object "PackedForest$Chart"
  | 3 => .boolean
  | 4 => .array .boolean
  | 5 => .array .int
  | 6 => .array .int
  | _ => .int
theorem zzt5_ok : ∀ k, k < 8 → parseFieldDescriptor (zzT5 k).2.2.1 = some (zzt5 k) := by decide +kernel
theorem zzn5 : ∀ a, a < 8 → ∀ b, b < 8 → a ≠ b → (zzT5 a).2.1 ≠ (zzT5 b).2.1 := by decide +kernel
def zzR6 : String := "PackedForest$Mender"
def zzT6 : u_T := fun k => match k with
  | 0 => ("PackedForest$Mender", "now", "LPackedForest$Setting;", true)
  | 1 => ("PackedForest$Mender", "columns", "I", false)
  | 2 => ("PackedForest$Mender", "costs", "[I", true)
  | _ => ("PackedForest$Mender", "row", "[I", true)
def zzt6 : Nat → FieldType := fun k => match k with
  | 0 => .object "PackedForest$Setting"
  | 1 => .int
  | 2 => .array .int
  | _ => .array .int
theorem zzt6_ok : ∀ k, k < 4 → parseFieldDescriptor (zzT6 k).2.2.1 = some (zzt6 k) := by decide +kernel
theorem zzn6 : ∀ a, a < 4 → ∀ b, b < 4 → a ≠ b → (zzT6 a).2.1 ≠ (zzT6 b).2.1 := by decide +kernel
def zzR7 : String := "PackedForest$Setting"
def zzT7 : u_T := fun k => match k with
  | 0 => ("PackedForest$Setting", "grammar", "LPackedForest$Grammar;", true)
  | 1 => ("PackedForest$Setting", "letters", "[I", true)
  | 2 => ("PackedForest$Setting", "length", "I", false)
  | 3 => ("PackedForest$Setting", "struck", "I", false)
  | 4 => ("PackedForest$Setting", "banned", "[I", true)
  | 5 => ("PackedForest$Setting", "bans", "I", false)
  | 6 => ("PackedForest$Setting", "filters", "I", false)
  | 7 => ("PackedForest$Setting", "acts", "[I", true)
  | 8 => ("PackedForest$Setting", "actCount", "I", false)
  | 9 => ("PackedForest$Setting", "x", "I", false)
  | _ => ("PackedForest$Setting", "made", "Z", false)
def zzt7 : Nat → FieldType := fun k => match k with
  | 0 => .object "PackedForest$Grammar"
  | 1 => .array .int
  | 2 => .int
  | 3 => .int
  | 4 => .array .int
  | 5 => .int
  | 6 => .int
  | 7 => .array .int
  | 8 => .int
  | 9 => .int
  | _ => .boolean
theorem zzt7_ok : ∀ k, k < 11 → parseFieldDescriptor (zzT7 k).2.2.1 = some (zzt7 k) := by decide +kernel
theorem zzn7 : ∀ a, a < 11 → ∀ b, b < 11 → a ≠ b → (zzT7 a).2.1 ≠ (zzT7 b).2.1 := by decide +kernel
def zzR8 : String := "PackedForest$Sizes"
def zzT8 : u_T := fun k => match k with
  | 0 => ("PackedForest$Sizes", "now", "LPackedForest$Setting;", true)
  | 1 => ("PackedForest$Sizes", "chart", "LPackedForest$Chart;", true)
  | 2 => ("PackedForest$Sizes", "columns", "I", false)
  | 3 => ("PackedForest$Sizes", "rule", "I", false)
  | 4 => ("PackedForest$Sizes", "from", "I", false)
  | 5 => ("PackedForest$Sizes", "to", "I", false)
  | 6 => ("PackedForest$Sizes", "least", "[J", true)
  | 7 => ("PackedForest$Sizes", "parts", "[J", true)
  | _ => ("PackedForest$Sizes", "rest", "[J", true)
def zzt8 : Nat → FieldType := fun k => match k with
  | 0 => .object "PackedForest$Setting"
  | 1 => .object "PackedForest$Chart"
  | 2 => .int
  | 3 => .int
  | 4 => .int
  | 5 => .int
  | 6 => .array .long
  | 7 => .array .long
  | _ => .array .long
theorem zzt8_ok : ∀ k, k < 9 → parseFieldDescriptor (zzT8 k).2.2.1 = some (zzt8 k) := by decide +kernel
theorem zzn8 : ∀ a, a < 9 → ∀ b, b < 9 → a ≠ b → (zzT8 a).2.1 ≠ (zzT8 b).2.1 := by decide +kernel
def zzR9 : String := "PackedForest$Speaker"
def zzT9 : u_T := fun k => match k with
  | 0 => ("PackedForest$Speaker", "now", "LPackedForest$Setting;", true)
  | 1 => ("PackedForest$Speaker", "row", "[I", true)
  | 2 => ("PackedForest$Speaker", "length", "I", false)
  | _ => ("PackedForest$Speaker", "x", "J", false)
def zzt9 : Nat → FieldType := fun k => match k with
  | 0 => .object "PackedForest$Setting"
  | 1 => .array .int
  | 2 => .int
  | _ => .long
theorem zzt9_ok : ∀ k, k < 4 → parseFieldDescriptor (zzT9 k).2.2.1 = some (zzt9 k) := by decide +kernel
theorem zzn9 : ∀ a, a < 4 → ∀ b, b < 4 → a ≠ b → (zzT9 a).2.1 ≠ (zzT9 b).2.1 := by decide +kernel
def zzR10 : String := "PackedForest$States"
def zzT10 : u_T := fun k => match k with
  | 0 => ("PackedForest$States", "stand", "Z", false)
  | 1 => ("PackedForest$States", "found", "I", false)
  | 2 => ("PackedForest$States", "sets", "[J", true)
  | 3 => ("PackedForest$States", "targets", "[I", true)
  | 4 => ("PackedForest$States", "ahead", "[J", true)
  | _ => ("PackedForest$States", "brought", "[J", true)
def zzt10 : Nat → FieldType := fun k => match k with
  | 0 => .boolean
  | 1 => .int
  | 2 => .array .long
  | 3 => .array .int
  | 4 => .array .long
  | _ => .array .long
theorem zzt10_ok : ∀ k, k < 6 → parseFieldDescriptor (zzT10 k).2.2.1 = some (zzt10 k) := by decide +kernel
theorem zzn10 : ∀ a, a < 6 → ∀ b, b < 6 → a ≠ b → (zzT10 a).2.1 ≠ (zzT10 b).2.1 := by decide +kernel
def zzR11 : String := "PackedForest"
def zzT11 : u_T := fun k => match k with
  | 0 => ("PackedForest", "tape", "[I", true)
  | 1 => ("PackedForest", "tapeBytes", "I", false)
  | 2 => ("PackedForest", "now", "LPackedForest$Setting;", true)
  | 3 => ("PackedForest", "images", "[LPackedForest$Setting;", true)
  | 4 => ("PackedForest", "spare", "LPackedForest$Grammar;", true)
  | 5 => ("PackedForest", "facts", "LPackedForest$Facts;", true)
  | 6 => ("PackedForest", "states", "LPackedForest$States;", true)
  | 7 => ("PackedForest", "plain", "LPackedForest$Chart;", true)
  | 8 => ("PackedForest", "allowed", "LPackedForest$Chart;", true)
  | 9 => ("PackedForest", "levels", "LPackedForest$Levels;", true)
  | 10 => ("PackedForest", "counts", "LPackedForest$Counts;", true)
  | 11 => ("PackedForest", "sizes", "LPackedForest$Sizes;", true)
  | 12 => ("PackedForest", "forest", "LPackedForest$Forest;", true)
  | 13 => ("PackedForest", "mender", "LPackedForest$Mender;", true)
  | _ => ("PackedForest", "speaker", "LPackedForest$Speaker;", true)
def zzt11 : Nat → FieldType := fun k => match k with
  | 0 => .array .int
  | 1 => .int
  | 2 => .object "PackedForest$Setting"
  | 3 => .array (.object "PackedForest$Setting")
  | 4 => .object "PackedForest$Grammar"
  | 5 => .object "PackedForest$Facts"
  | 6 => .object "PackedForest$States"
  | 7 => .object "PackedForest$Chart"
  | 8 => .object "PackedForest$Chart"
  | 9 => .object "PackedForest$Levels"
  | 10 => .object "PackedForest$Counts"
  | 11 => .object "PackedForest$Sizes"
  | 12 => .object "PackedForest$Forest"
  | 13 => .object "PackedForest$Mender"
  | _ => .object "PackedForest$Speaker"
theorem zzt11_ok : ∀ k, k < 15 → parseFieldDescriptor (zzT11 k).2.2.1 = some (zzt11 k) := by decide +kernel
theorem zzn11 : ∀ a, a < 15 → ∀ b, b < 15 → a ≠ b → (zzT11 a).2.1 ≠ (zzT11 b).2.1 := by decide +kernel
def zzR12 : String := "PackedForestModel"
def zzT12 : u_T := fun k => match k with
  | 0 => ("PackedForestModel", "thrown", "I", false)
  | 1 => ("PackedForestModel", "scalar", "[I", true)
  | 2 => ("PackedForestModel", "left", "[I", true)
  | 3 => ("PackedForestModel", "size", "[I", true)
  | 4 => ("PackedForestModel", "sym", "[I", true)
  | 5 => ("PackedForestModel", "rank", "[I", true)
  | 6 => ("PackedForestModel", "side", "[I", true)
  | 7 => ("PackedForestModel", "text", "[I", true)
  | 8 => ("PackedForestModel", "bans", "[I", true)
  | 9 => ("PackedForestModel", "newLeft", "[I", true)
  | 10 => ("PackedForestModel", "newSize", "[I", true)
  | 11 => ("PackedForestModel", "newSym", "[I", true)
  | 12 => ("PackedForestModel", "newRank", "[I", true)
  | 13 => ("PackedForestModel", "newSide", "[I", true)
  | 14 => ("PackedForestModel", "symAt", "[I", true)
  | 15 => ("PackedForestModel", "newMany", "I", false)
  | 16 => ("PackedForestModel", "taped", "I", false)
  | 17 => ("PackedForestModel", "p", "I", false)
  | 18 => ("PackedForestModel", "fault", "I", false)
  | 19 => ("PackedForestModel", "tape", "[B", true)
  | 20 => ("PackedForestModel", "oldScalar", "[I", true)
  | 21 => ("PackedForestModel", "oldLeft", "[I", true)
  | 22 => ("PackedForestModel", "oldSize", "[I", true)
  | 23 => ("PackedForestModel", "oldSym", "[I", true)
  | 24 => ("PackedForestModel", "oldRank", "[I", true)
  | 25 => ("PackedForestModel", "oldSide", "[I", true)
  | 26 => ("PackedForestModel", "empties", "I", false)
  | 27 => ("PackedForestModel", "ending", "I", false)
  | 28 => ("PackedForestModel", "reached", "I", false)
  | 29 => ("PackedForestModel", "all", "I", false)
  | 30 => ("PackedForestModel", "first", "[I", true)
  | 31 => ("PackedForestModel", "follow", "[I", true)
  | 32 => ("PackedForestModel", "fewest", "[I", true)
  | 33 => ("PackedForestModel", "stateOf", "[J", true)
  | 34 => ("PackedForestModel", "goTo", "[I", true)
  | 35 => ("PackedForestModel", "manyStates", "I", false)
  | 36 => ("PackedForestModel", "isLaid", "I", false)
  | 37 => ("PackedForestModel", "past", "[I", true)
  | 38 => ("PackedForestModel", "pastOf", "[I", true)
  | 39 => ("PackedForestModel", "pastMany", "I", false)
  | 40 => ("PackedForestModel", "pastAt", "I", false)
  | 41 => ("PackedForestModel", "takesBack", "Z", false)
  | 42 => ("PackedForestModel", "made", "[Z", true)
  | 43 => ("PackedForestModel", "ahead", "[Z", true)
  | 44 => ("PackedForestModel", "behind", "[Z", true)
  | 45 => ("PackedForestModel", "isAlive", "[Z", true)
  | 46 => ("PackedForestModel", "isEndless", "[Z", true)
  | 47 => ("PackedForestModel", "manyTrees", "[J", true)
  | 48 => ("PackedForestModel", "counts", "[J", true)
  | 49 => ("PackedForestModel", "endlessAhead", "[Z", true)
  | 50 => ("PackedForestModel", "below", "[I", true)
  | 51 => ("PackedForestModel", "isPiece", "[Z", true)
  | 52 => ("PackedForestModel", "isGone", "[Z", true)
  | 53 => ("PackedForestModel", "waysAhead", "[I", true)
  | 54 => ("PackedForestModel", "pieces", "I", false)
  | 55 => ("PackedForestModel", "nodes", "I", false)
  | 56 => ("PackedForestModel", "unsure", "I", false)
  | 57 => ("PackedForestModel", "narrow", "I", false)
  | 58 => ("PackedForestModel", "sizeOf", "[I", true)
  | 59 => ("PackedForestModel", "sizesBehind", "[I", true)
  | 60 => ("PackedForestModel", "treeRule", "I", false)
  | 61 => ("PackedForestModel", "treeFrom", "I", false)
  | 62 => ("PackedForestModel", "treeTo", "I", false)
  | 63 => ("PackedForestModel", "treeLeft", "I", false)
  | 64 => ("PackedForestModel", "mended", "[I", true)
  | 65 => ("PackedForestModel", "mendedAhead", "[I", true)
  | 66 => ("PackedForestModel", "row", "[I", true)
  | 67 => ("PackedForestModel", "rowMany", "I", false)
  | 68 => ("PackedForestModel", "images", "[I", true)
  | 69 => ("PackedForestModel", "isKept", "[Z", true)
  | 70 => ("PackedForestModel", "imageAt", "I", false)
  | _ => ("PackedForestModel", "goesBack", "Z", false)
def zzt12 : Nat → FieldType := fun k => match k with
  | 0 => .int
  | 1 => .array .int
  | 2 => .array .int
  | 3 => .array .int
  | 4 => .array .int
  | 5 => .array .int
  | 6 => .array .int
  | 7 => .array .int
  | 8 => .array .int
  | 9 => .array .int
  | 10 => .array .int
  | 11 => .array .int
  | 12 => .array .int
  | 13 => .array .int
  | 14 => .array .int
  | 15 => .int
  | 16 => .int
  | 17 => .int
  | 18 => .int
  | 19 => .array .byte
  | 20 => .array .int
  | 21 => .array .int
  | 22 => .array .int
  | 23 => .array .int
  | 24 => .array .int
  | 25 => .array .int
  | 26 => .int
  | 27 => .int
  | 28 => .int
  | 29 => .int
  | 30 => .array .int
  | 31 => .array .int
  | 32 => .array .int
  | 33 => .array .long
  | 34 => .array .int
  | 35 => .int
  | 36 => .int
  | 37 => .array .int
  | 38 => .array .int
  | 39 => .int
  | 40 => .int
  | 41 => .boolean
  | 42 => .array .boolean
  | 43 => .array .boolean
  | 44 => .array .boolean
  | 45 => .array .boolean
  | 46 => .array .boolean
  | 47 => .array .long
  | 48 => .array .long
  | 49 => .array .boolean
  | 50 => .array .int
  | 51 => .array .boolean
  | 52 => .array .boolean
  | 53 => .array .int
  | 54 => .int
  | 55 => .int
  | 56 => .int
  | 57 => .int
  | 58 => .array .int
  | 59 => .array .int
  | 60 => .int
  | 61 => .int
  | 62 => .int
  | 63 => .int
  | 64 => .array .int
  | 65 => .array .int
  | 66 => .array .int
  | 67 => .int
  | 68 => .array .int
  | 69 => .array .boolean
  | 70 => .int
  | _ => .boolean
theorem zzt12_ok : ∀ k, k < 72 → parseFieldDescriptor (zzT12 k).2.2.1 = some (zzt12 k) := by decide +kernel
theorem zzn12 : ∀ a, a < 72 → ∀ b, b < 72 → a ≠ b → (zzT12 a).2.1 ≠ (zzT12 b).2.1 := by decide +kernel
def zzcl : List vw_C := [(zzR0, zzT0, 7), (zzR1, zzT1, 5), (zzR2, zzT2, 11), (zzR3, zzT3, 10), (zzR4, zzT4, 8), (zzR5, zzT5, 8), (zzR6, zzT6, 4), (zzR7, zzT7, 11), (zzR8, zzT8, 9), (zzR9, zzT9, 4), (zzR10, zzT10, 6), (zzR11, zzT11, 15), (zzR12, zzT12, 72)]
/-- the cells: an object by its class and fields (0 int, 1 boolean, 2 long, 3 the cell that it names), an array by its kind (0 int, 1 boolean, 2 byte, 3 long, 4 references), length, cells named -/
abbrev zzD : Type := (Nat × List (Nat × Nat)) ⊕ (Nat × Nat × List Nat)
def zzcells : List zzD := [
  .inl (11, [(3, 1), (0, 0), (3, 2), (3, 13), (3, 14), (3, 21), (3, 26), (3, 31), (3, 36), (3, 41), (3, 45), (3, 48), (3, 52), (3, 56), (3, 59)]),
  .inr (0, 400, []),
  .inl (7, [(3, 3), (3, 10), (0, 0), (0, 0), (3, 11), (0, 0), (0, 0), (3, 12), (0, 0), (0, 0), (1, 0)]),
  .inl (4, [(0, 0), (0, 0), (3, 4), (3, 5), (3, 6), (3, 7), (3, 8), (3, 9)]),
  .inr (0, 12, []),
  .inr (0, 12, []),
  .inr (0, 12, []),
  .inr (0, 12, []),
  .inr (0, 48, []),
  .inr (0, 26, []),
  .inr (0, 12, []),
  .inr (0, 48, []),
  .inr (0, 20, []),
  .inr (4, 4, [61, 72, 83, 94]),
  .inl (4, [(0, 0), (0, 0), (3, 15), (3, 16), (3, 17), (3, 18), (3, 19), (3, 20)]),
  .inr (0, 12, []),
  .inr (0, 12, []),
  .inr (0, 12, []),
  .inr (0, 12, []),
  .inr (0, 48, []),
  .inr (0, 26, []),
  .inl (2, [(3, 2), (1, 0), (0, 0), (0, 0), (0, 0), (0, 0), (0, 0), (3, 22), (3, 23), (3, 24), (3, 25)]),
  .inr (0, 26, []),
  .inr (0, 26, []),
  .inr (0, 26, []),
  .inr (0, 26, []),
  .inl (10, [(1, 0), (0, 0), (3, 27), (3, 28), (3, 29), (3, 30)]),
  .inr (3, 90, []),
  .inr (0, 4680, []),
  .inr (3, 52, []),
  .inr (3, 26, []),
  .inl (0, [(3, 2), (1, 0), (0, 0), (3, 32), (3, 33), (3, 34), (3, 35)]),
  .inr (0, 48, []),
  .inr (0, 91, []),
  .inr (0, 624, []),
  .inr (0, 13, []),
  .inl (0, [(3, 2), (1, 0), (0, 0), (3, 37), (3, 38), (3, 39), (3, 40)]),
  .inr (0, 48, []),
  .inr (0, 91, []),
  .inr (0, 624, []),
  .inr (0, 13, []),
  .inl (5, [(3, 2), (3, 26), (3, 31), (1, 0), (3, 42), (3, 43), (3, 44), (0, 0)]),
  .inr (1, 1170, []),
  .inr (0, 1170, []),
  .inr (0, 90, []),
  .inl (1, [(3, 2), (3, 36), (0, 0), (3, 46), (3, 47)]),
  .inr (3, 1092, []),
  .inr (3, 13, []),
  .inl (8, [(3, 2), (3, 36), (0, 0), (0, 0), (0, 0), (0, 0), (3, 49), (3, 50), (3, 51)]),
  .inr (3, 1092, []),
  .inr (3, 4368, []),
  .inr (3, 65, []),
  .inl (3, [(3, 2), (3, 36), (1, 0), (1, 0), (3, 53), (0, 0), (0, 0), (0, 0), (3, 54), (3, 55)]),
  .inr (0, 91, []),
  .inr (0, 5, []),
  .inr (0, 5, []),
  .inl (6, [(3, 2), (0, 0), (3, 57), (3, 58)]),
  .inr (0, 2366, []),
  .inr (0, 13, []),
  .inl (9, [(3, 2), (3, 60), (0, 0), (2, 0)]),
  .inr (0, 24, []),
  .inl (7, [(3, 62), (3, 69), (0, 0), (0, 0), (3, 70), (0, 0), (0, 0), (3, 71), (0, 0), (0, 0), (1, 0)]),
  .inl (4, [(0, 0), (0, 0), (3, 63), (3, 64), (3, 65), (3, 66), (3, 67), (3, 68)]),
  .inr (0, 12, []),
  .inr (0, 12, []),
  .inr (0, 12, []),
  .inr (0, 12, []),
  .inr (0, 48, []),
  .inr (0, 26, []),
  .inr (0, 12, []),
  .inr (0, 48, []),
  .inr (0, 20, []),
  .inl (7, [(3, 73), (3, 80), (0, 0), (0, 0), (3, 81), (0, 0), (0, 0), (3, 82), (0, 0), (0, 0), (1, 0)]),
  .inl (4, [(0, 0), (0, 0), (3, 74), (3, 75), (3, 76), (3, 77), (3, 78), (3, 79)]),
  .inr (0, 12, []),
  .inr (0, 12, []),
  .inr (0, 12, []),
  .inr (0, 12, []),
  .inr (0, 48, []),
  .inr (0, 26, []),
  .inr (0, 12, []),
  .inr (0, 48, []),
  .inr (0, 20, []),
  .inl (7, [(3, 84), (3, 91), (0, 0), (0, 0), (3, 92), (0, 0), (0, 0), (3, 93), (0, 0), (0, 0), (1, 0)]),
  .inl (4, [(0, 0), (0, 0), (3, 85), (3, 86), (3, 87), (3, 88), (3, 89), (3, 90)]),
  .inr (0, 12, []),
  .inr (0, 12, []),
  .inr (0, 12, []),
  .inr (0, 12, []),
  .inr (0, 48, []),
  .inr (0, 26, []),
  .inr (0, 12, []),
  .inr (0, 48, []),
  .inr (0, 20, []),
  .inl (7, [(3, 95), (3, 102), (0, 0), (0, 0), (3, 103), (0, 0), (0, 0), (3, 104), (0, 0), (0, 0), (1, 0)]),
  .inl (4, [(0, 0), (0, 0), (3, 96), (3, 97), (3, 98), (3, 99), (3, 100), (3, 101)]),
  .inr (0, 12, []),
  .inr (0, 12, []),
  .inr (0, 12, []),
  .inr (0, 12, []),
  .inr (0, 48, []),
  .inr (0, 26, []),
  .inr (0, 12, []),
  .inr (0, 48, []),
  .inr (0, 20, []),
  .inl (12, [(0, 0), (3, 106), (3, 107), (3, 108), (3, 109), (3, 110), (3, 111), (3, 112), (3, 113), (3, 114), (3, 115), (3, 116), (3, 117), (3, 118), (3, 119), (0, 0), (0, 0), (0, 0), (0, 0), (3, 120), (3, 121), (3, 122), (3, 123), (3, 124), (3, 125), (3, 126), (0, 0), (0, 0), (0, 0), (0, 0), (3, 127), (3, 128), (3, 129), (3, 130), (3, 131), (0, 0), (0, 0), (3, 132), (3, 133), (0, 0), (0, 0), (1, 0), (3, 134), (3, 135), (3, 136), (3, 137), (3, 138), (3, 139), (3, 140), (3, 141), (3, 142), (3, 143), (3, 144), (3, 145), (0, 0), (0, 0), (0, 0), (0, 0), (3, 146), (3, 147), (0, 0), (0, 0), (0, 0), (0, 0), (3, 148), (3, 149), (3, 150), (0, 0), (3, 151), (3, 152), (0, 0), (1, 0)]),
  .inr (0, 7, []),
  .inr (0, 12, []),
  .inr (0, 12, []),
  .inr (0, 48, []),
  .inr (0, 12, []),
  .inr (0, 12, []),
  .inr (0, 12, []),
  .inr (0, 8, []),
  .inr (0, 12, []),
  .inr (0, 12, []),
  .inr (0, 48, []),
  .inr (0, 12, []),
  .inr (0, 12, []),
  .inr (0, 48, []),
  .inr (2, 400, []),
  .inr (0, 7, []),
  .inr (0, 12, []),
  .inr (0, 12, []),
  .inr (0, 48, []),
  .inr (0, 12, []),
  .inr (0, 12, []),
  .inr (0, 26, []),
  .inr (0, 26, []),
  .inr (0, 26, []),
  .inr (3, 90, []),
  .inr (0, 4680, []),
  .inr (0, 480, []),
  .inr (0, 1, []),
  .inr (1, 4056, []),
  .inr (1, 65, []),
  .inr (1, 65, []),
  .inr (1, 1170, []),
  .inr (1, 2028, []),
  .inr (3, 2028, []),
  .inr (3, 65, []),
  .inr (1, 65, []),
  .inr (0, 12, []),
  .inr (1, 2028, []),
  .inr (1, 2028, []),
  .inr (0, 65, []),
  .inr (0, 2028, []),
  .inr (0, 65, []),
  .inr (0, 2028, []),
  .inr (0, 65, []),
  .inr (0, 28, []),
  .inr (0, 2560, []),
  .inr (1, 4, [])]
theorem zzlen : zzcells.length = 153 := by decide +kernel
end
section
/-! THE SMALL MACHINE: memory, values, one instruction, a method's code with its loops, calls -/
/-- the memory: of each cell the ints (fields or elements; booleans and bytes too) and the longs, by their places -/
abbrev zzM : Type := (Nat → Nat → Int32) × (Nat → Nat → Int64)
/-- an answer (int, long, cell) and the memory behind it -/
abbrev zzR : Type := (Int32 × Int64 × Nat) × zzM
/-- a row of code: pc, length (0: here a loop begins), instruction, what a program looked up for it -/
abbrev zzI : Type := Nat × Nat × Instr × List (Nat × Nat)
abbrev zzL : Type := List (Nat × Value)
/-- a loop's state: ints, longs, memory -/
abbrev zzS : Type := List Int32 × List Int64 × zzM
def zzwI (μ : zzM) (c k : Nat) (v : Int32) : zzM := (fun c' k' => if c' = c ∧ k' = k then v else μ.1 c' k', μ.2)
def zzwL (μ : zzM) (c k : Nat) (v : Int64) : zzM := (μ.1, fun c' k' => if c' = c ∧ k' = k then v else μ.2 c' k')
def zzri (μ : zzM) (c n : Nat) (i : Int32) : Option Int32 := if i < 0 ∨ n ≤ i.toNatClampNeg then none else some (μ.1 c i.toNatClampNeg)
def zzrl (μ : zzM) (c n : Nat) (i : Int32) : Option Int64 := if i < 0 ∨ n ≤ i.toNatClampNeg then none else some (μ.2 c i.toNatClampNeg)
def zzsi (μ : zzM) (c n : Nat) (i v : Int32) : Option zzM := if i < 0 ∨ n ≤ i.toNatClampNeg then none else some (zzwI μ c i.toNatClampNeg v)
def zzsl (μ : zzM) (c n : Nat) (i : Int32) (v : Int64) : Option zzM := if i < 0 ∨ n ≤ i.toNatClampNeg then none else some (zzwL μ c i.toNatClampNeg v)
/-- a row of references -/
def zzsr (i : Int32) (f : Nat → Option zzR) : Nat → List Nat → Option zzR
  | _, [] => none
  | k, t :: ts => if i = nI k then f t else zzsr i f (k + 1) ts
def zzcp (μ : zzM) (a n0 : Nat) (sp : Int32) (b n1 : Nat) (dp n : Int32) : Option zzM :=
  if sp < 0 ∨ dp < 0 ∨ n < 0 ∨ n0 < sp.toNatClampNeg + n.toNatClampNeg ∨ n1 < dp.toNatClampNeg + n.toNatClampNeg then none
  else some (fun c k => if c = b then va_cpy (μ.1 a) (μ.1 b) sp.toNatClampNeg dp.toNatClampNeg n.toNatClampNeg k else μ.1 c k, μ.2)
/-- a loop -/
def zzl (body : zzS → (zzS → Option zzR) → Option zzR) : Nat → zzS → Option zzR
  | 0, _ => none
  | n + 1, v => body v (zzl body n)
-- the stack's tops
def zzp1 (st : List Value) (f : Int32 → List Value → Option zzR) : Option zzR := match st with
  | .int x :: r => f x r
  | _ => none
def zzp2 (st : List Value) (f : Int32 → Int32 → List Value → Option zzR) : Option zzR := match st with
  | .int y :: .int x :: r => f x y r
  | _ => none
def zzq1 (st : List Value) (f : Int64 → List Value → Option zzR) : Option zzR := match st with
  | .long x :: r => f x r
  | _ => none
def zzq2 (st : List Value) (f : Int64 → Int64 → List Value → Option zzR) : Option zzR := match st with
  | .long y :: .long x :: r => f x y r
  | _ => none
def zzqs (st : List Value) (f : Int64 → Int32 → List Value → Option zzR) : Option zzR := match st with
  | .int y :: .long x :: r => f x y r
  | _ => none
def zza1 (st : List Value) (f : Nat → List Value → Option zzR) : Option zzR := match st with
  | .ref c :: r => f c r
  | _ => none
def zzai (st : List Value) (f : Nat → Int32 → List Value → Option zzR) : Option zzR := match st with
  | .int i :: .ref c :: r => f c i r
  | _ => none
def zzas (st : List Value) (f : Nat → Int32 → Int32 → List Value → Option zzR) : Option zzR := match st with
  | .int v :: .int i :: .ref c :: r => f c i v r
  | _ => none
def zzal (st : List Value) (f : Nat → Int32 → Int64 → List Value → Option zzR) : Option zzR := match st with
  | .long v :: .int i :: .ref c :: r => f c i v r
  | _ => none
/-- an array: its kind, length, cells named -/
def zzar (c : Nat) (f : Nat → Nat → List Nat → Option zzR) : Option zzR := match zzcells[c]? with
  | some (.inr (k, n, ts)) => f k n ts
  | _ => none
/-- a field of an object: its kind, the cell named -/
def zzfd (c ci k : Nat) (f : Nat → Nat → Option zzR) : Option zzR := match zzcells[c]? with
  | some (.inl (cj, fs)) => bif cj.beq ci then (match fs[k]? with
    | some (a, b) => f a b
    | none => none) else none
  | _ => none
def zzlk : zzL → Nat → Option Value
  | [], _ => none
  | q :: r, i => bif q.1.beq i then some q.2 else zzlk r i
def zzset1 (i : Nat) (v : Value) (ls : zzL) : zzL := (i, v) :: ls.filter (fun q => !(q.1 == i) && !(q.1 + 1 == i && q.2.category == 2))
def zzset2 (i : Nat) (v : Value) (ls : zzL) : zzL := (i, v) :: ls.filter (fun q => !(q.1 == i) && (!(q.1 == i + 1) && !(q.1 + 1 == i && q.2.category == 2)))
/-- arguments off the stack (the last on top), and the rest -/
def zzcut : Nat → List Value → List Value → Option (List Value × List Value)
  | 0, st, acc => some (acc, st)
  | n + 1, v :: st, acc => zzcut n st (v :: acc)
  | _ + 1, [], _ => none
def zzcat : List Value → Nat
  | [] => 0
  | v :: r => v.category + zzcat r
def zzfst (aux : List (Nat × Nat)) : Nat × Nat := match aux with
  | q :: _ => q
  | [] => (0, 0)
def zzsnd (aux : List (Nat × Nat)) : Nat × Nat := match aux with
  | _ :: q :: _ => q
  | _ => (0, 0)
def zzthd (aux : List (Nat × Nat)) : Nat × Nat := match aux with
  | _ :: _ :: q :: _ => q
  | _ => (0, 0)
/-- an int that the code names: n, or minus n -/
def zzkon (q : Nat × Nat) : Int32 := match q.2 with
  | 0 => nI q.1
  | _ => -(nI q.1)
def zzkol (q : Nat × Nat) : Int64 := match q.2 with
  | 0 => lN q.1
  | _ => -(lN q.1)
def zzinc (x : Int32) (q : Nat × Nat) : Int32 := match q.2 with
  | 0 => x + nI q.1
  | _ => x - nI q.1
def zzdp (st : List Value) (f : List Value → Option zzR) : Option zzR := match st with
  | .int x :: r => f (.int x :: .int x :: r)
  | .ref x :: r => f (.ref x :: .ref x :: r)
  | _ => none
def zzd2 (st : List Value) (f : List Value → Option zzR) : Option zzR := match st with
  | .int x :: .ref c :: r => f (.int x :: .ref c :: .int x :: .ref c :: r)
  | _ => none
def zzpo (st : List Value) (f : List Value → Option zzR) : Option zzR := match st with
  | .int _ :: r => f r
  | .ref _ :: r => f r
  | _ => none
def zzpf (st : List Value) (f : Nat → Int32 → List Value → Option zzR) (g : Nat → Int64 → List Value → Option zzR) : Option zzR := match st with
  | .int v :: .ref c :: r => f c v r
  | .long v :: .ref c :: r => g c v r
  | _ => none
/-- nothing is left on the stack -/
def zzno (st : List Value) (f : Option zzR) : Option zzR := match st with
  | [] => f
  | _ => none
/-- a switch: keys with targets, else the last -/
def zzsw (x : Int32) (jump : Nat → Option zzR) (d : Nat) : List (Nat × Nat) → Option zzR
  | [] => jump d
  | q :: r => if x = nI q.1 then jump q.2 else zzsw x jump d r
/-- what a call leaves on the stack -/
def zzres (q : Nat × Nat) (o : zzR) (f : List Value → Option zzR) : Option zzR := match q.1 with
  | 0 => f []
  | 2 => f [.long o.1.2.1]
  | 3 => if o.1.2.2 = q.2 then f [.ref q.2] else none
  | _ => f [.int o.1.1]
/-- ONE INSTRUCTION, goal first: 'next' at the next row, 'jump' elsewhere -/
def zzstep (call : Nat → List Value → zzM → Option zzR) (rk : Nat) (i : Instr) (aux : List (Nat × Nat)) (ls : zzL) (st : List Value) (μ : zzM)
    (next : zzL → List Value → zzM → Option zzR) (jump : Nat → List Value → Option zzR) : Option zzR :=
  match i with
  | .iconst _ => next ls (.int (zzkon (zzfst aux)) :: st) μ
  | .bipush _ => next ls (.int (zzkon (zzfst aux)) :: st) μ
  | .sipush _ => next ls (.int (zzkon (zzfst aux)) :: st) μ
  | .ldc _ => next ls (.int (zzkon (zzfst aux)) :: st) μ
  | .ldc_w _ => next ls (.int (zzkon (zzfst aux)) :: st) μ
  | .lconst _ => next ls (.long (zzkol (zzfst aux)) :: st) μ
  | .ldc2_w _ => next ls (.long (zzkol (zzfst aux)) :: st) μ
  | .iload k => (match zzlk ls k with
    | some (.int x) => next ls (.int x :: st) μ
    | _ => none)
  | .iload_n k => (match zzlk ls (zzfst aux).1 with
    | some (.int x) => next ls (.int x :: st) μ
    | _ => none)
  | .lload k => (match zzlk ls k with
    | some (.long x) => next ls (.long x :: st) μ
    | _ => none)
  | .lload_n k => (match zzlk ls (zzfst aux).1 with
    | some (.long x) => next ls (.long x :: st) μ
    | _ => none)
  | .aload k => (match zzlk ls k with
    | some (.ref x) => next ls (.ref x :: st) μ
    | _ => none)
  | .aload_n k => (match zzlk ls (zzfst aux).1 with
    | some (.ref x) => next ls (.ref x :: st) μ
    | _ => none)
  | .istore k => zzp1 st fun x st => next (zzset1 k (.int x) ls) st μ
  | .istore_n k => zzp1 st fun x st => next (zzset1 (zzfst aux).1 (.int x) ls) st μ
  | .lstore k => zzq1 st fun x st => next (zzset2 k (.long x) ls) st μ
  | .lstore_n k => zzq1 st fun x st => next (zzset2 (zzfst aux).1 (.long x) ls) st μ
  | .iinc k _ => (match zzlk ls k with
    | some (.int x) => next (zzset1 k (.int (zzinc x (zzfst aux))) ls) st μ
    | _ => none)
  | .iadd => zzp2 st fun x y st => next ls (.int (x + y) :: st) μ
  | .isub => zzp2 st fun x y st => next ls (.int (x - y) :: st) μ
  | .imul => zzp2 st fun x y st => next ls (.int (x * y) :: st) μ
  | .iand => zzp2 st fun x y st => next ls (.int (x &&& y) :: st) μ
  | .ior => zzp2 st fun x y st => next ls (.int (x ||| y) :: st) μ
  | .ixor => zzp2 st fun x y st => next ls (.int (x ^^^ y) :: st) μ
  | .ishl => zzp2 st fun x y st => next ls (.int (x <<< (y &&& 31)) :: st) μ
  | .ishr => zzp2 st fun x y st => next ls (.int (x >>> (y &&& 31)) :: st) μ
  | .iushr => zzp2 st fun x y st => next ls (.int (x.toUInt32 >>> (y.toUInt32 &&& Int32.toUInt32 31)).toInt32 :: st) μ
  | .idiv => zzp2 st fun x y st => if y = 0 then none else next ls (.int (x / y) :: st) μ
  | .irem => zzp2 st fun x y st => if y = 0 then none else next ls (.int (x - x / y * y) :: st) μ
  | .ladd => zzq2 st fun x y st => next ls (.long (x + y) :: st) μ
  | .lsub => zzq2 st fun x y st => next ls (.long (x - y) :: st) μ
  | .lmul => zzq2 st fun x y st => next ls (.long (x * y) :: st) μ
  | .land => zzq2 st fun x y st => next ls (.long (x &&& y) :: st) μ
  | .lor => zzq2 st fun x y st => next ls (.long (x ||| y) :: st) μ
  | .lrem => zzq2 st fun x y st => if y = 0 then none else next ls (.long (x - x / y * y) :: st) μ
  | .lshl => zzqs st fun x y st => next ls (.long (x <<< (y.toInt64 &&& 63)) :: st) μ
  | .lshr => zzqs st fun x y st => next ls (.long (x >>> (y.toInt64 &&& 63)) :: st) μ
  | .lcmp => zzq2 st fun x y st => next ls (.int (lg_cmp x y) :: st) μ
  | .i2l => zzp1 st fun x st => next ls (.long x.toInt64 :: st) μ
  | .l2i => zzq1 st fun x st => next ls (.int x.toInt32 :: st) μ
  | .i2b => zzp1 st fun x st => next ls (.int x.toInt8.toInt32 :: st) μ
  | .dup => zzdp st fun r => next ls r μ
  | .dup2 => zzd2 st fun r => next ls r μ
  | .pop => zzpo st fun r => next ls r μ
  | .goto _ => jump (zzfst aux).1 st
  | .ifCond .eq _ => zzp1 st fun x st => if x = 0 then jump (zzfst aux).1 st else next ls st μ
  | .ifCond .ne _ => zzp1 st fun x st => if x = 0 then next ls st μ else jump (zzfst aux).1 st
  | .ifCond .lt _ => zzp1 st fun x st => if x < 0 then jump (zzfst aux).1 st else next ls st μ
  | .ifCond .ge _ => zzp1 st fun x st => if 0 ≤ x then jump (zzfst aux).1 st else next ls st μ
  | .ifCond .gt _ => zzp1 st fun x st => if 0 < x then jump (zzfst aux).1 st else next ls st μ
  | .ifCond .le _ => zzp1 st fun x st => if x ≤ 0 then jump (zzfst aux).1 st else next ls st μ
  | .if_icmp .eq _ => zzp2 st fun x y st => if x = y then jump (zzfst aux).1 st else next ls st μ
  | .if_icmp .ne _ => zzp2 st fun x y st => if x = y then next ls st μ else jump (zzfst aux).1 st
  | .if_icmp .lt _ => zzp2 st fun x y st => if x < y then jump (zzfst aux).1 st else next ls st μ
  | .if_icmp .ge _ => zzp2 st fun x y st => if y ≤ x then jump (zzfst aux).1 st else next ls st μ
  | .if_icmp .gt _ => zzp2 st fun x y st => if y < x then jump (zzfst aux).1 st else next ls st μ
  | .if_icmp .le _ => zzp2 st fun x y st => if x ≤ y then jump (zzfst aux).1 st else next ls st μ
  | .tableswitch _ _ _ _ => zzp1 st fun x st => zzsw x (fun t => jump t st) (zzfst aux).1 (aux.drop 1)
  | .lookupswitch _ _ => zzp1 st fun x st => zzsw x (fun t => jump t st) (zzfst aux).1 (aux.drop 1)
  | .getfield _ => zza1 st fun c st => zzfd c (zzfst aux).1 (zzfst aux).2 fun a b => (match a with
    | 0 => next ls (.int (μ.1 c (zzfst aux).2) :: st) μ
    | 1 => next ls (.int (μ.1 c (zzfst aux).2) :: st) μ
    | 2 => next ls (.long (μ.2 c (zzfst aux).2) :: st) μ
    | _ => next ls (.ref b :: st) μ)
  | .putfield _ => zzpf st (fun c v r => zzfd c (zzfst aux).1 (zzfst aux).2 fun a _ => (match a with
      | 0 => next ls r (zzwI μ c (zzfst aux).2 v)
      | 1 => if v = 0 ∨ v = 1 then next ls r (zzwI μ c (zzfst aux).2 v) else none
      | _ => none))
    (fun c v r => zzfd c (zzfst aux).1 (zzfst aux).2 fun a _ => (match a with
      | 2 => next ls r (zzwL μ c (zzfst aux).2 v)
      | _ => none))
  | .arraylength => zza1 st fun c st => zzar c fun _ n _ => next ls (.int (nI n) :: st) μ
  | .iaload => zzai st fun c i st => zzar c fun k n _ => (match k with
    | 0 => (zzri μ c n i).bind fun v => next ls (.int v :: st) μ
    | _ => none)
  | .baload => zzai st fun c i st => zzar c fun k n _ => (match k with
    | 1 => (zzri μ c n i).bind fun v => next ls (.int v :: st) μ
    | 2 => (zzri μ c n i).bind fun v => next ls (.int v :: st) μ
    | _ => none)
  | .laload => zzai st fun c i st => zzar c fun k n _ => (match k with
    | 3 => (zzrl μ c n i).bind fun v => next ls (.long v :: st) μ
    | _ => none)
  | .aaload => zzai st fun c i st => zzar c fun k _ ts => (match k with
    | 4 => zzsr i (fun t => next ls (.ref t :: st) μ) 0 ts
    | _ => none)
  | .iastore => zzas st fun c i v st => zzar c fun k n _ => (match k with
    | 0 => (zzsi μ c n i v).bind fun μ => next ls st μ
    | _ => none)
  | .bastore => zzas st fun c i v st => zzar c fun k n _ => (match k with
    | 1 => if v = 0 ∨ v = 1 then (zzsi μ c n i v).bind fun μ => next ls st μ else none
    | 2 => (zzsi μ c n i v.toInt8.toInt32).bind fun μ => next ls st μ
    | _ => none)
  | .lastore => zzal st fun c i v st => zzar c fun k n _ => (match k with
    | 3 => (zzsl μ c n i v).bind fun μ => next ls st μ
    | _ => none)
  | .ireturn => zzp1 st fun x st => zzno st (match rk with
    | 1 => some ((x, 0, 0), μ)
    | 4 => if x = 0 ∨ x = 1 then some ((x, 0, 0), μ) else none
    | _ => none)
  | .lreturn => zzq1 st fun x st => zzno st (match rk with
    | 2 => some ((0, x, 0), μ)
    | _ => none)
  | .areturn => zza1 st fun c st => zzno st (match rk with
    | 3 => some ((0, 0, c), μ)
    | _ => none)
  | .return_ => zzno st (match rk with
    | 0 => some ((0, 0, 0), μ)
    | _ => none)
  | .invokestatic _ => (zzcut (zzfst aux).2 st []).bind fun q => bif (zzcat q.2).ble 8 then
      (call (zzfst aux).1 q.1 μ).bind fun o => zzres (zzsnd aux) o fun t => next ls (t ++ q.2) o.2 else none
  | .invokevirtual _ => (zzcut (zzfst aux).2 st []).bind fun q => zza1 q.2 fun c r => bif (zzcat r).ble 8 then zzfd c (zzthd aux).1 (zzthd aux).2 fun _ _ =>
      (call (zzfst aux).1 (.ref c :: q.1) μ).bind fun o => zzres (zzsnd aux) o fun t => next ls (t ++ r) o.2 else none
  | _ => none
def zzpk : List (Nat × Nat) → zzL → zzL → Option (List Int32 × List Int64)
  | [], _, _ => some ([], [])
  | (i, 1) :: r, l0, ls => (match zzlk ls i with
    | some (.int x) => (zzpk r l0 ls).bind fun v => some (x :: v.1, v.2)
    | _ => none)
  | (i, 2) :: r, l0, ls => (match zzlk ls i with
    | some (.long x) => (zzpk r l0 ls).bind fun v => some (v.1, x :: v.2)
    | _ => none)
  | (i, _) :: r, l0, ls => (match zzlk l0 i, zzlk ls i with
    | some (.ref a), some (.ref b) => bif a.beq b then zzpk r l0 ls else none
    | _, _ => none)
def zzup : List (Nat × Nat) → zzL → List Int32 → List Int64 → zzL
  | [], _, _, _ => []
  | (i, 1) :: r, l0, a, b => (i, .int (a.headD 0)) :: zzup r l0 a.tail b
  | (i, 2) :: r, l0, a, b => (i, .long (b.headD 0)) :: zzup r l0 a b.tail
  | (i, _) :: r, l0, a, b => (match zzlk l0 i with
    | some v => (i, v) :: zzup r l0 a b
    | none => zzup r l0 a b)
def zzdrop (t : Nat) : List zzI → List zzI
  | [] => []
  | q :: r => bif q.1.beq t then q :: r else zzdrop t r
def zzfind (t : Nat) : List (Nat × (zzL → zzM → Option zzR)) → Option (zzL → zzM → Option zzR)
  | [] => none
  | q :: r => bif q.1.beq t then some q.2 else zzfind t r
/-- A METHOD's CODE from a row on: 'open' loops with their way back; a loop is a zzl with N turns at most -/
def zzx (call : Nat → List Value → zzM → Option zzR) (N rk : Nat) : Nat → List (Nat × (zzL → zzM → Option zzR)) → List zzI → zzL → List Value → zzM → Option zzR
  | 0, _, _, _, _, _ => none
  | _ + 1, _, [], _, _, _ => none
  | f + 1, ctx, (pc, len, i, aux) :: is, ls, st, μ => (match len with
    | 0 => (match st with
      | [] => (zzpk aux ls ls).bind fun v0 => zzl (fun v again => zzx call N rk f ((pc, fun ls' μ' => (zzpk aux ls ls').bind fun v' => again (v'.1, v'.2, μ')) :: ctx) is (zzup aux ls v.1 v.2.1) [] v.2.2) N (v0.1, v0.2, μ)
      | _ => none)
    | _ => zzstep call rk i aux ls st μ (fun ls st μ => zzx call N rk f ctx is ls st μ)
        (fun t st => match zzfind t ctx with
          | some k => (match st with
            | [] => k ls μ
            | _ => none)
          | none => zzx call N rk f ctx (zzdrop t is) ls st μ))
/-- a method: name, bytes, locals, return type, kind of its answer (0 none, 1 int, 2 long, 3 cell, 4 boolean), rows -/
abbrev zzT : Type := MethodName × ByteArray × Nat × Option FieldType × Nat × List zzI
/-- System.arraycopy, Math.min of ints, of longs -/
def zzcy (as : List Value) (μ : zzM) : Option zzR := match as with
  | [.ref a, .int sp, .ref b, .int dp, .int n] => (match zzcells[a]?, zzcells[b]? with
    | some (.inr (0, n0, _)), some (.inr (0, n1, _)) => (zzcp μ a n0 sp b n1 dp n).bind fun μ => some ((0, 0, 0), μ)
    | _, _ => none)
  | _ => none
def zzmi (as : List Value) (μ : zzM) : Option zzR := match as with
  | [.int a, .int b] => some ((if b < a then b else a, 0, 0), μ)
  | _ => none
def zzml (as : List Value) (μ : zzM) : Option zzR := match as with
  | [.long a, .long b] => some ((0, if b < a then b else a, 0), μ)
  | _ => none
/-- CALLS, d deep at most; methods 0, 1, 2 are System.arraycopy and Math.min -/
def zzf (P : List zzT) (N : Nat) : Nat → Nat → List Value → zzM → Option zzR
  | 0, _, _, _ => none
  | d + 1, y, as, μ => (match y with
    | 0 => zzcy as μ
    | 1 => zzmi as μ
    | 2 => zzml as μ
    | y + 3 => (match P[y]? with
      | some q => bif (zzcat as).ble q.2.2.1 then zzx (zzf P N d) N q.2.2.2.2.1 400 [] q.2.2.2.2.2 (lv_args 0 as) [] μ else none
      | none => none))
-- a loop's ints and longs, by their places
def zi0 (v : zzS) : Int32 := v.1.headD 0
def zi1 (v : zzS) : Int32 := v.1.tail.headD 0
def zi2 (v : zzS) : Int32 := v.1.tail.tail.headD 0
def zi3 (v : zzS) : Int32 := v.1.tail.tail.tail.headD 0
def zi4 (v : zzS) : Int32 := v.1.tail.tail.tail.tail.headD 0
def zi5 (v : zzS) : Int32 := v.1.tail.tail.tail.tail.tail.headD 0
def zi6 (v : zzS) : Int32 := v.1.tail.tail.tail.tail.tail.tail.headD 0
def zi7 (v : zzS) : Int32 := v.1.tail.tail.tail.tail.tail.tail.tail.headD 0
def zi8 (v : zzS) : Int32 := v.1.tail.tail.tail.tail.tail.tail.tail.tail.headD 0
def zj0 (v : zzS) : Int64 := v.2.1.headD 0
def zj1 (v : zzS) : Int64 := v.2.1.tail.headD 0
def zj2 (v : zzS) : Int64 := v.2.1.tail.tail.headD 0
def zm (v : zzS) : zzM := v.2.2
end
section
/-! THE WORLD OF THE SMALL MACHINE: its cells in the heap; what a row of code must have; what a state of it says of the machine -/
def zzcv (ad : Nat → Nat) : Value → Value
  | .ref x => .ref (ad x)
  | v => v
theorem zzcv_cat (ad : Nat → Nat) (v : Value) : (zzcv ad v).category = v.category := by cases v <;> rfl
def zzfv (ad : Nat → Nat) (μ : zzM) (i k : Nat) (q : Nat × Nat) : Value := match q.1 with
  | 0 => .int (μ.1 i k)
  | 1 => .int (μ.1 i k)
  | 2 => .long (μ.2 i k)
  | _ => .ref (ad q.2)
def zzav (ad : Nat → Nat) (μ : zzM) (i k : Nat) (ts : List Nat) : (Nat → Int32) ⊕ (Nat → Int64) ⊕ (Nat → UInt32) ⊕ (Nat → UInt64) ⊕ (Nat → Option Nat) := match k with
  | 3 => .inr (.inl (μ.2 i))
  | 4 => .inr (.inr (.inr (.inr (fun j => (ts[j]?).map ad))))
  | _ => .inl (μ.1 i)
def zzcell (dA : Nat → ClassId) (ad : Nat → Nat) (μ : zzM) (i : Nat) (d : zzD) : va_E := match d with
  | .inl q => .inr (q.1, q.2.mapIdx fun k x => zzfv ad μ i k x)
  | .inr q => .inl (dA q.1, q.2.1, zzav ad μ i q.1 q.2.2)
def zzworld (dA : Nat → ClassId) (ad : Nat → Nat) (μ : zzM) : va_W := zzcells.mapIdx fun i d => (ad i, zzcell dA ad μ i d)
theorem zzworld_at {dA : Nat → ClassId} {ad : Nat → Nat} {μ : zzM} {i : Nat} {d : zzD} (h : zzcells[i]? = some d) : (zzworld dA ad μ)[i]? = some (ad i, zzcell dA ad μ i d) := by
  unfold zzworld
  rw [List.getElem?_mapIdx, h]
  rfl
theorem zzworld_inv {dA : Nat → ClassId} {ad : Nat → Nat} {μ : zzM} {i : Nat} {q : Nat × va_E} (h : (zzworld dA ad μ)[i]? = some q) : ∃ d, zzcells[i]? = some d ∧ q = (ad i, zzcell dA ad μ i d) := by
  unfold zzworld at h
  rw [List.getElem?_mapIdx] at h
  cases hd : zzcells[i]? with
  | none => rw [hd] at h; cases h
  | some d => rw [hd] at h; exact ⟨d, rfl, (Option.some.inj h).symm⟩
theorem zzset_eq {dA : Nat → ClassId} {ad : Nat → Nat} {μ μ' : zzM} {i : Nat} {d : zzD} {e : va_E} (hd : zzcells[i]? = some d) (he : zzcell dA ad μ' i d = e) (ho : ∀ j d', j ≠ i → zzcell dA ad μ' j d' = zzcell dA ad μ j d') : (zzworld dA ad μ).set i (ad i, e) = zzworld dA ad μ' := by
  apply List.ext_getElem?
  intro j
  rw [List.getElem?_set]
  by_cases hj : i = j
  · subst hj
    have hl : i < (zzworld dA ad μ).length := (List.getElem?_eq_some_iff.mp (zzworld_at hd)).1
    rw [if_pos rfl, if_pos hl, zzworld_at hd, he]
  · rw [if_neg hj]
    unfold zzworld
    rw [List.getElem?_mapIdx, List.getElem?_mapIdx]
    cases zzcells[j]? with
    | none => rfl
    | some d' => simp only [Option.map_some, ho j d' (fun h => hj h.symm)]
theorem zzcell_wI {dA : Nat → ClassId} {ad : Nat → Nat} {μ : zzM} {i k : Nat} {v : Int32} (j : Nat) (d : zzD) (h : j ≠ i) : zzcell dA ad (zzwI μ i k v) j d = zzcell dA ad μ j d := by
  have h1 : (zzwI μ i k v).1 j = μ.1 j := by
    funext x
    show (if j = i ∧ x = k then v else μ.1 j x) = μ.1 j x
    rw [if_neg (fun q => h q.1)]
  have h2 : (zzwI μ i k v).2 = μ.2 := rfl
  cases d with
  | inl q =>
    show (Sum.inr (q.1, q.2.mapIdx fun k' x => zzfv ad (zzwI μ i k v) j k' x) : va_E) = Sum.inr (q.1, q.2.mapIdx fun k' x => zzfv ad μ j k' x)
    have : (fun k' x => zzfv ad (zzwI μ i k v) j k' x) = (fun k' x => zzfv ad μ j k' x) := by
      funext k' x
      unfold zzfv
      rw [h1, h2]
    rw [this]
  | inr q =>
    show (Sum.inl (dA q.1, q.2.1, zzav ad (zzwI μ i k v) j q.1 q.2.2) : va_E) = Sum.inl (dA q.1, q.2.1, zzav ad μ j q.1 q.2.2)
    unfold zzav
    rw [h1, h2]
theorem zzcell_wL {dA : Nat → ClassId} {ad : Nat → Nat} {μ : zzM} {i k : Nat} {v : Int64} (j : Nat) (d : zzD) (h : j ≠ i) : zzcell dA ad (zzwL μ i k v) j d = zzcell dA ad μ j d := by
  have h1 : (zzwL μ i k v).2 j = μ.2 j := by
    funext x
    show (if j = i ∧ x = k then v else μ.2 j x) = μ.2 j x
    rw [if_neg (fun q => h q.1)]
  have h2 : (zzwL μ i k v).1 = μ.1 := rfl
  cases d with
  | inl q =>
    show (Sum.inr (q.1, q.2.mapIdx fun k' x => zzfv ad (zzwL μ i k v) j k' x) : va_E) = Sum.inr (q.1, q.2.mapIdx fun k' x => zzfv ad μ j k' x)
    have : (fun k' x => zzfv ad (zzwL μ i k v) j k' x) = (fun k' x => zzfv ad μ j k' x) := by
      funext k' x
      unfold zzfv
      rw [h1, h2]
    rw [this]
  | inr q =>
    show (Sum.inl (dA q.1, q.2.1, zzav ad (zzwL μ i k v) j q.1 q.2.2) : va_E) = Sum.inl (dA q.1, q.2.1, zzav ad μ j q.1 q.2.2)
    unfold zzav
    rw [h1, h2]
theorem zzwI_row (μ : zzM) (i k : Nat) (v : Int32) : (zzwI μ i k v).1 i = upd (μ.1 i) k v := by
  funext x
  show (if i = i ∧ x = k then v else μ.1 i x) = if x = k then v else μ.1 i x
  by_cases h : x = k <;> simp [h]
theorem zzwL_row (μ : zzM) (i k : Nat) (v : Int64) : (zzwL μ i k v).2 i = vp_updL (μ.2 i) k v := by
  funext x
  show (if i = i ∧ x = k then v else μ.2 i x) = if x = k then v else μ.2 i x
  by_cases h : x = k <;> simp [h]
theorem zzav_int {ad : Nat → Nat} {μ : zzM} {i k : Nat} {ts : List Nat} (h : k = 0 ∨ k = 1 ∨ k = 2) : zzav ad μ i k ts = .inl (μ.1 i) := by
  rcases h with rfl | rfl | rfl <;> rfl
theorem zzput_fs {ad : Nat → Nat} {μ μ' : zzM} {i k : Nat} {fs : List (Nat × Nat)} {a b : Nat} {v : Value} (hk : fs[k]? = some (a, b)) (hv : zzfv ad μ' i k (a, b) = v) (ho : ∀ k' q, k' ≠ k → zzfv ad μ' i k' q = zzfv ad μ i k' q) : (fs.mapIdx fun k x => zzfv ad μ i k x).set k v = fs.mapIdx fun k x => zzfv ad μ' i k x := by
  apply List.ext_getElem?
  intro j
  rw [List.getElem?_set]
  by_cases hj : k = j
  · subst hj
    have hl : k < fs.length := (List.getElem?_eq_some_iff.mp hk).1
    rw [if_pos rfl, if_pos (by rw [List.length_mapIdx]; exact hl), List.getElem?_mapIdx, hk]
    simp only [Option.map_some, hv]
  · rw [if_neg hj, List.getElem?_mapIdx, List.getElem?_mapIdx]
    cases fs[j]? with
    | none => rfl
    | some d' => simp only [Option.map_some, ho j d' (fun h => hj h.symm)]
def zzn : Nat := zzcells.length
/-- the cells of the world and those that are new -/
def zzA (ad : Nat → Nat) (sz : Nat) : Nat → Prop := fun q => (∃ i, i < zzn ∧ q = ad i) ∨ sz ≤ q
def zzinj (ad : Nat → Nat) : Prop := ∀ i j, i < zzn → j < zzn → ad i = ad j → i = j
theorem zzD_of {dA : Nat → ClassId} {ad : Nat → Nat} {μ : zzM} {A : Nat → Prop} (hi : zzinj ad) (hA : ∀ i, i < zzn → A (ad i)) : va_D A (zzworld dA ad μ) := by
  refine ⟨fun i j p q hp hq he => ?_, fun k q hq => ?_⟩
  · obtain ⟨d, h1, rfl⟩ := zzworld_inv hp
    obtain ⟨d', h2, rfl⟩ := zzworld_inv hq
    exact hi i j (List.getElem?_eq_some_iff.mp h1).1 (List.getElem?_eq_some_iff.mp h2).1 he
  · obtain ⟨d, h1, rfl⟩ := zzworld_inv hq
    exact hA k (List.getElem?_eq_some_iff.mp h1).1
def zztys (dA : Nat → ClassId) : List (ClassId × FieldType) := [(dA 0, .int), (dA 1, .boolean), (dA 2, .byte), (dA 3, .long), (dA 4, .object "PackedForest$Setting")]
-- the tables' words that hold on over calls
def zzTb : List Cond := lw_tbl.filter goodWord
theorem zzTb_of {w : Cond} (h : w ∈ lw_tbl) (hg : goodWord w = true) : w ∈ zzTb := List.mem_filter.mpr ⟨h, hg⟩
theorem zzTb_in {w : Cond} (h : w ∈ zzTb) : w ∈ lw_tbl ∧ goodWord w = true := List.mem_filter.mp h
-- the classes
theorem zzws0 : ∀ w ∈ u_ws zzR0 zzT0 7, w ∈ zzTb := fun w h => zzTb_of ((by decide +kernel : ∀ w ∈ u_ws zzR0 zzT0 7, w ∈ lw_tbl) w h) ((by decide +kernel : ∀ w ∈ u_ws zzR0 zzT0 7, goodWord w = true) w h)
theorem zzws1 : ∀ w ∈ u_ws zzR1 zzT1 5, w ∈ zzTb := fun w h => zzTb_of ((by decide +kernel : ∀ w ∈ u_ws zzR1 zzT1 5, w ∈ lw_tbl) w h) ((by decide +kernel : ∀ w ∈ u_ws zzR1 zzT1 5, goodWord w = true) w h)
theorem zzws2 : ∀ w ∈ u_ws zzR2 zzT2 11, w ∈ zzTb := fun w h => zzTb_of ((by decide +kernel : ∀ w ∈ u_ws zzR2 zzT2 11, w ∈ lw_tbl) w h) ((by decide +kernel : ∀ w ∈ u_ws zzR2 zzT2 11, goodWord w = true) w h)
theorem zzws3 : ∀ w ∈ u_ws zzR3 zzT3 10, w ∈ zzTb := fun w h => zzTb_of ((by decide +kernel : ∀ w ∈ u_ws zzR3 zzT3 10, w ∈ lw_tbl) w h) ((by decide +kernel : ∀ w ∈ u_ws zzR3 zzT3 10, goodWord w = true) w h)
theorem zzws4 : ∀ w ∈ u_ws zzR4 zzT4 8, w ∈ zzTb := fun w h => zzTb_of ((by decide +kernel : ∀ w ∈ u_ws zzR4 zzT4 8, w ∈ lw_tbl) w h) ((by decide +kernel : ∀ w ∈ u_ws zzR4 zzT4 8, goodWord w = true) w h)
theorem zzws5 : ∀ w ∈ u_ws zzR5 zzT5 8, w ∈ zzTb := fun w h => zzTb_of ((by decide +kernel : ∀ w ∈ u_ws zzR5 zzT5 8, w ∈ lw_tbl) w h) ((by decide +kernel : ∀ w ∈ u_ws zzR5 zzT5 8, goodWord w = true) w h)
theorem zzws6 : ∀ w ∈ u_ws zzR6 zzT6 4, w ∈ zzTb := fun w h => zzTb_of ((by decide +kernel : ∀ w ∈ u_ws zzR6 zzT6 4, w ∈ lw_tbl) w h) ((by decide +kernel : ∀ w ∈ u_ws zzR6 zzT6 4, goodWord w = true) w h)
theorem zzws7 : ∀ w ∈ u_ws zzR7 zzT7 11, w ∈ zzTb := fun w h => zzTb_of ((by decide +kernel : ∀ w ∈ u_ws zzR7 zzT7 11, w ∈ lw_tbl) w h) ((by decide +kernel : ∀ w ∈ u_ws zzR7 zzT7 11, goodWord w = true) w h)
theorem zzws8 : ∀ w ∈ u_ws zzR8 zzT8 9, w ∈ zzTb := fun w h => zzTb_of ((by decide +kernel : ∀ w ∈ u_ws zzR8 zzT8 9, w ∈ lw_tbl) w h) ((by decide +kernel : ∀ w ∈ u_ws zzR8 zzT8 9, goodWord w = true) w h)
theorem zzws9 : ∀ w ∈ u_ws zzR9 zzT9 4, w ∈ zzTb := fun w h => zzTb_of ((by decide +kernel : ∀ w ∈ u_ws zzR9 zzT9 4, w ∈ lw_tbl) w h) ((by decide +kernel : ∀ w ∈ u_ws zzR9 zzT9 4, goodWord w = true) w h)
theorem zzws10 : ∀ w ∈ u_ws zzR10 zzT10 6, w ∈ zzTb := fun w h => zzTb_of ((by decide +kernel : ∀ w ∈ u_ws zzR10 zzT10 6, w ∈ lw_tbl) w h) ((by decide +kernel : ∀ w ∈ u_ws zzR10 zzT10 6, goodWord w = true) w h)
theorem zzws11 : ∀ w ∈ u_ws zzR11 zzT11 15, w ∈ zzTb := fun w h => zzTb_of ((by decide +kernel : ∀ w ∈ u_ws zzR11 zzT11 15, w ∈ lw_tbl) w h) ((by decide +kernel : ∀ w ∈ u_ws zzR11 zzT11 15, goodWord w = true) w h)
theorem zzws12 : ∀ w ∈ u_ws zzR12 zzT12 72, w ∈ zzTb := fun w h => zzTb_of ((by decide +kernel : ∀ w ∈ u_ws zzR12 zzT12 72, w ∈ lw_tbl) w h) ((by decide +kernel : ∀ w ∈ u_ws zzR12 zzT12 72, goodWord w = true) w h)
/-- a class of the table: its types, names apart, its words -/
def zzok_cl (q : vw_C) (ty : Nat → FieldType) : Prop := (∀ k, k < q.2.2 → parseFieldDescriptor (q.2.1 k).2.2.1 = some (ty k)) ∧ (∀ a, a < q.2.2 → ∀ b, b < q.2.2 → a ≠ b → (q.2.1 a).2.1 ≠ (q.2.1 b).2.1) ∧ ∀ w ∈ u_ws q.1 q.2.1 q.2.2, w ∈ zzTb
theorem zzcls : ∀ (ci : Nat) (q : vw_C), zzcl[ci]? = some q → ∃ ty, zzok_cl q ty := by
  intro ci q h
  match ci, h with
  | 0, h => exact ⟨zzt0, by cases h; exact ⟨zzt0_ok, zzn0, zzws0⟩⟩
  | 1, h => exact ⟨zzt1, by cases h; exact ⟨zzt1_ok, zzn1, zzws1⟩⟩
  | 2, h => exact ⟨zzt2, by cases h; exact ⟨zzt2_ok, zzn2, zzws2⟩⟩
  | 3, h => exact ⟨zzt3, by cases h; exact ⟨zzt3_ok, zzn3, zzws3⟩⟩
  | 4, h => exact ⟨zzt4, by cases h; exact ⟨zzt4_ok, zzn4, zzws4⟩⟩
  | 5, h => exact ⟨zzt5, by cases h; exact ⟨zzt5_ok, zzn5, zzws5⟩⟩
  | 6, h => exact ⟨zzt6, by cases h; exact ⟨zzt6_ok, zzn6, zzws6⟩⟩
  | 7, h => exact ⟨zzt7, by cases h; exact ⟨zzt7_ok, zzn7, zzws7⟩⟩
  | 8, h => exact ⟨zzt8, by cases h; exact ⟨zzt8_ok, zzn8, zzws8⟩⟩
  | 9, h => exact ⟨zzt9, by cases h; exact ⟨zzt9_ok, zzn9, zzws9⟩⟩
  | 10, h => exact ⟨zzt10, by cases h; exact ⟨zzt10_ok, zzn10, zzws10⟩⟩
  | 11, h => exact ⟨zzt11, by cases h; exact ⟨zzt11_ok, zzn11, zzws11⟩⟩
  | 12, h => exact ⟨zzt12, by cases h; exact ⟨zzt12_ok, zzn12, zzws12⟩⟩
  | n + 13, h => cases h
/-- a field's kind is its type's -/
def zzkd (t : Option FieldType) (a : Nat) : Bool := match a, t with
  | 0, some .int => true
  | 1, some .boolean => true
  | 2, some .long => true
  | 3, some (.object _) => true
  | 3, some (.array _) => true
  | _, _ => false
def zzkd_row (d : zzD) : Bool := match d with
  | .inl q => (match zzcl[q.1]? with
    | some r => q.2.length.beq r.2.2 && (List.range r.2.2).all fun k => zzkd (parseFieldDescriptor (r.2.1 k).2.2.1) (q.2.getD k (9, 9)).1
    | none => false)
  | .inr q => q.1.ble 4 && (q.2.2.length.ble q.2.1 && q.2.1.ble 100000)
theorem zzkd_all : zzcells.all zzkd_row = true := by decide +kernel
theorem zzkd_arr {c k n : Nat} {ts : List Nat} (h : zzcells[c]? = some (.inr (k, n, ts))) : k ≤ 4 ∧ ts.length ≤ n ∧ n ≤ 100000 := by
  have h1 := List.all_eq_true.mp zzkd_all _ (List.mem_of_getElem? h)
  have h2 : (k.ble 4 && (ts.length.ble n && n.ble 100000)) = true := h1
  simp only [Bool.and_eq_true] at h2
  exact ⟨Nat.le_of_ble_eq_true h2.1, Nat.le_of_ble_eq_true h2.2.1, Nat.le_of_ble_eq_true h2.2.2⟩
theorem zztys_at (dA : Nat → ClassId) {k : Nat} (hk : k ≤ 4) : ∃ ty, (zztys dA)[k]? = some (dA k, ty) := by
  match k, hk with
  | 0, _ => exact ⟨_, rfl⟩
  | 1, _ => exact ⟨_, rfl⟩
  | 2, _ => exact ⟨_, rfl⟩
  | 3, _ => exact ⟨_, rfl⟩
  | 4, _ => exact ⟨_, rfl⟩
theorem zzcell_congr {dA : Nat → ClassId} {ad : Nat → Nat} {μ μ' : zzM} {j : Nat} (d : zzD) (h1 : μ'.1 j = μ.1 j) (h2 : μ'.2 j = μ.2 j) : zzcell dA ad μ' j d = zzcell dA ad μ j d := by
  cases d with
  | inl q =>
    show (Sum.inr (q.1, q.2.mapIdx fun k' x => zzfv ad μ' j k' x) : va_E) = Sum.inr (q.1, q.2.mapIdx fun k' x => zzfv ad μ j k' x)
    have : (fun k' x => zzfv ad μ' j k' x) = (fun k' x => zzfv ad μ j k' x) := by
      funext k' x
      unfold zzfv
      rw [h1, h2]
    rw [this]
  | inr q =>
    show (Sum.inl (dA q.1, q.2.1, zzav ad μ' j q.1 q.2.2) : va_E) = Sum.inl (dA q.1, q.2.1, zzav ad μ j q.1 q.2.2)
    unfold zzav
    rw [h1, h2]
theorem zzcpw : Cond.native arraycopyName ∈ zzTb ∧ Cond.static arraycopyName ∈ zzTb ∧ Cond.initialized "java/lang/System" ∈ zzTb := ⟨zzTb_of (by decide +kernel) rfl, zzTb_of (by decide +kernel) rfl, zzTb_of (by decide +kernel) rfl⟩
end
section
/-! ONE INSTRUCTION of the small machine is one of the machine -/
-- what an answer says
theorem zzp1_s {st : List Value} {f : Int32 → List Value → Option zzR} {r : zzR} (h : zzp1 st f = some r) : ∃ x st', st = .int x :: st' ∧ f x st' = some r := by
  unfold zzp1 at h
  split at h
  · exact ⟨_, _, rfl, h⟩
  · cases h
theorem zzp2_s {st : List Value} {f : Int32 → Int32 → List Value → Option zzR} {r : zzR} (h : zzp2 st f = some r) : ∃ x y st', st = .int y :: .int x :: st' ∧ f x y st' = some r := by
  unfold zzp2 at h
  split at h
  · exact ⟨_, _, _, rfl, h⟩
  · cases h
theorem zzq1_s {st : List Value} {f : Int64 → List Value → Option zzR} {r : zzR} (h : zzq1 st f = some r) : ∃ x st', st = .long x :: st' ∧ f x st' = some r := by
  unfold zzq1 at h
  split at h
  · exact ⟨_, _, rfl, h⟩
  · cases h
theorem zzq2_s {st : List Value} {f : Int64 → Int64 → List Value → Option zzR} {r : zzR} (h : zzq2 st f = some r) : ∃ x y st', st = .long y :: .long x :: st' ∧ f x y st' = some r := by
  unfold zzq2 at h
  split at h
  · exact ⟨_, _, _, rfl, h⟩
  · cases h
theorem zzqs_s {st : List Value} {f : Int64 → Int32 → List Value → Option zzR} {r : zzR} (h : zzqs st f = some r) : ∃ x y st', st = .int y :: .long x :: st' ∧ f x y st' = some r := by
  unfold zzqs at h
  split at h
  · exact ⟨_, _, _, rfl, h⟩
  · cases h
theorem zza1_s {st : List Value} {f : Nat → List Value → Option zzR} {r : zzR} (h : zza1 st f = some r) : ∃ x st', st = .ref x :: st' ∧ f x st' = some r := by
  unfold zza1 at h
  split at h
  · exact ⟨_, _, rfl, h⟩
  · cases h
theorem zzai_s {st : List Value} {f : Nat → Int32 → List Value → Option zzR} {r : zzR} (h : zzai st f = some r) : ∃ c i st', st = .int i :: .ref c :: st' ∧ f c i st' = some r := by
  unfold zzai at h
  split at h
  · exact ⟨_, _, _, rfl, h⟩
  · cases h
theorem zzas_s {st : List Value} {f : Nat → Int32 → Int32 → List Value → Option zzR} {r : zzR} (h : zzas st f = some r) : ∃ c i v st', st = .int v :: .int i :: .ref c :: st' ∧ f c i v st' = some r := by
  unfold zzas at h
  split at h
  · exact ⟨_, _, _, _, rfl, h⟩
  · cases h
theorem zzal_s {st : List Value} {f : Nat → Int32 → Int64 → List Value → Option zzR} {r : zzR} (h : zzal st f = some r) : ∃ c i v st', st = .long v :: .int i :: .ref c :: st' ∧ f c i v st' = some r := by
  unfold zzal at h
  split at h
  · exact ⟨_, _, _, _, rfl, h⟩
  · cases h
theorem zzdp_s {st : List Value} {f : List Value → Option zzR} {r : zzR} (h : zzdp st f = some r) : ∃ v st', st = v :: st' ∧ v.category = 1 ∧ f (v :: v :: st') = some r := by
  unfold zzdp at h
  split at h
  · exact ⟨_, _, rfl, rfl, h⟩
  · exact ⟨_, _, rfl, rfl, h⟩
  · cases h
theorem zzd2_s {st : List Value} {f : List Value → Option zzR} {r : zzR} (h : zzd2 st f = some r) : ∃ v w st', st = v :: w :: st' ∧ v.category = 1 ∧ w.category = 1 ∧ f (v :: w :: v :: w :: st') = some r := by
  unfold zzd2 at h
  split at h
  · exact ⟨_, _, _, rfl, rfl, rfl, h⟩
  · cases h
theorem zzpo_s {st : List Value} {f : List Value → Option zzR} {r : zzR} (h : zzpo st f = some r) : ∃ v st', st = v :: st' ∧ v.category = 1 ∧ f st' = some r := by
  unfold zzpo at h
  split at h
  · exact ⟨_, _, rfl, rfl, h⟩
  · exact ⟨_, _, rfl, rfl, h⟩
  · cases h
theorem zzpf_s {st : List Value} {f : Nat → Int32 → List Value → Option zzR} {g : Nat → Int64 → List Value → Option zzR} {r : zzR} (h : zzpf st f g = some r) : (∃ c v st', st = .int v :: .ref c :: st' ∧ f c v st' = some r) ∨ ∃ c v st', st = .long v :: .ref c :: st' ∧ g c v st' = some r := by
  unfold zzpf at h
  split at h
  · exact Or.inl ⟨_, _, _, rfl, h⟩
  · exact Or.inr ⟨_, _, _, rfl, h⟩
  · cases h
theorem zzno_s {st : List Value} {f : Option zzR} {r : zzR} (h : zzno st f = some r) : st = [] ∧ f = some r := by
  unfold zzno at h
  split at h
  · exact ⟨rfl, h⟩
  · cases h
theorem zzinc_eq (x : Int32) (q : Nat × Nat) : x + zzkon q = zzinc x q := by
  obtain ⟨a, b⟩ := q
  cases b with
  | zero => rfl
  | succ b => exact (Int32.sub_eq_add_neg _ _).symm
theorem zzar_s {c : Nat} {f : Nat → Nat → List Nat → Option zzR} {r : zzR} (h : zzar c f = some r) : ∃ k n ts, zzcells[c]? = some (.inr (k, n, ts)) ∧ f k n ts = some r := by
  unfold zzar at h
  split at h
  · exact ⟨_, _, _, by assumption, h⟩
  · cases h
theorem zzfd_s {c ci k : Nat} {f : Nat → Nat → Option zzR} {r : zzR} (h : zzfd c ci k f = some r) : ∃ fs a b, zzcells[c]? = some (.inl (ci, fs)) ∧ fs[k]? = some (a, b) ∧ f a b = some r := by
  unfold zzfd at h
  split at h
  · rename_i cj fs hc
    cases hb : cj.beq ci with
    | false => rw [hb] at h; cases h
    | true =>
      rw [hb] at h
      have : cj = ci := Nat.eq_of_beq_eq_true hb
      subst this
      simp only [cond_true] at h
      split at h
      · exact ⟨_, _, _, hc, by assumption, h⟩
      · cases h
  · cases h
theorem zzlk_mem {ls : zzL} {k : Nat} {v : Value} (h : zzlk ls k = some v) : (k, v) ∈ ls := by
  induction ls with
  | nil => cases h
  | cons q r ih =>
    unfold zzlk at h
    cases hb : q.1.beq k with
    | false => rw [hb] at h; exact List.mem_cons_of_mem _ (ih h)
    | true =>
      rw [hb] at h
      have h1 : q.1 = k := Nat.eq_of_beq_eq_true hb
      have h2 : q.2 = v := Option.some.inj h
      rw [← h1, ← h2]
      exact List.mem_cons_self
def zzlc (ad : Nat → Nat) (ls : zzL) : List (Nat × Value) := ls.map fun q => (q.1, zzcv ad q.2)
theorem zzlc_at {ad : Nat → Nat} {lc : Array Slot} {nL k : Nat} {ls : zzL} {v : Value} (hl : lv_has lc nL (zzlc ad ls)) (h : zzlk ls k = some v) : lc[k]? = some (.val (zzcv ad v)) :=
  hl.2.2 (k, zzcv ad v) (List.mem_map.mpr ⟨(k, v), zzlk_mem h, rfl⟩)
theorem zzlc_set1 {ad : Nat → Nat} {i : Nat} {v : Value} {ls : zzL} : (i, zzcv ad v) :: (zzlc ad ls).filter (fun q => !(q.1 == i) && !(q.1 + 1 == i && q.2.category == 2)) = zzlc ad (zzset1 i v ls) := by
  unfold zzlc zzset1
  rw [List.map_cons, List.filter_map]
  congr 2
  apply List.filter_congr
  intro q _
  simp only [Function.comp, zzcv_cat]
theorem zzlc_set2 {ad : Nat → Nat} {i : Nat} {v : Value} {ls : zzL} : (i, zzcv ad v) :: (zzlc ad ls).filter (fun q => !(q.1 == i) && (!(q.1 == i + 1) && !(q.1 + 1 == i && q.2.category == 2))) = zzlc ad (zzset2 i v ls) := by
  unfold zzlc zzset2
  rw [List.map_cons, List.filter_map]
  congr 2
  apply List.filter_congr
  intro q _
  simp only [Function.comp, zzcv_cat]
theorem zzri_s {μ : zzM} {c n : Nat} {i : Int32} {v : Int32} (h : zzri μ c n i = some v) : vp_in i n ∧ v = μ.1 c i.toNatClampNeg := by
  unfold zzri at h
  split at h
  · cases h
  · exact ⟨by assumption, (Option.some.inj h).symm⟩
theorem zzrl_s {μ : zzM} {c n : Nat} {i : Int32} {v : Int64} (h : zzrl μ c n i = some v) : vp_in i n ∧ v = μ.2 c i.toNatClampNeg := by
  unfold zzrl at h
  split at h
  · cases h
  · exact ⟨by assumption, (Option.some.inj h).symm⟩
theorem zzsi_s {μ μ' : zzM} {c n : Nat} {i v : Int32} (h : zzsi μ c n i v = some μ') : vp_in i n ∧ μ' = zzwI μ c i.toNatClampNeg v := by
  unfold zzsi at h
  split at h
  · cases h
  · exact ⟨by assumption, (Option.some.inj h).symm⟩
theorem zzsl_s {μ μ' : zzM} {c n : Nat} {i : Int32} {v : Int64} (h : zzsl μ c n i v = some μ') : vp_in i n ∧ μ' = zzwL μ c i.toNatClampNeg v := by
  unfold zzsl at h
  split at h
  · cases h
  · exact ⟨by assumption, (Option.some.inj h).symm⟩
-- what a row of code must have
def zztab (pc : Nat) : Nat → List Int → List (Nat × Nat) → Bool
  | _, [], [] => true
  | lo, o :: os, q :: qs => q.1.beq lo && decide ((pc : Int) + o = (q.2 : Int)) && zztab pc (lo + 1) os qs
  | _, _, _ => false
def zzlkp (pc : Nat) : List (Int × Int) → List (Nat × Nat) → Bool
  | [], [] => true
  | a :: os, q :: qs => decide (a.1 = (q.1 : Int)) && decide ((nI q.1).toInt = (q.1 : Int)) && decide ((pc : Int) + a.2 = (q.2 : Int)) && zzlkp pc os qs
  | _, _ => false
/-- a method's words, for whom calls it -/
def zzmw (q : zzT) : Prop := Cond.code q.1 q.2.1 q.2.2.1 q.2.2.2.1 ∈ zzTb ∧ Cond.initialized q.1.cls ∈ zzTb ∧ q.1.cls ≠ "java/lang/invoke/MethodHandle" ∧ q.1.cls ≠ "java/lang/invoke/VarHandle" ∧ q.2.2.1 ≤ 21
/-- calls of a private static method of the outer class -/
def zznest : List (String × Nat × MethodName) := [("PackedForest$Grammar", 60, ⟨"PackedForest", "faultAt", "(II)I"⟩), ("PackedForest$Chart", 32, ⟨"PackedForest", "span", "(II)I"⟩), ("PackedForest$Counts", 61, ⟨"PackedForest", "span", "(II)I"⟩), ("PackedForest$Forest", 35, ⟨"PackedForest", "span", "(II)I"⟩), ("PackedForest$Sizes", 54, ⟨"PackedForest", "span", "(II)I"⟩), ("PackedForest$Mender", 44, ⟨"PackedForest", "span", "(II)I"⟩)]
def zznw (U : State) : Prop := ∀ q ∈ zznest, va_Nw (.methodLinkNest q.1 q.2.1 q.2.2 "PackedForest") U
def zzwd (P : List zzT) (own : String) (nL len pc : Nat) (i : Instr) (aux : List (Nat × Nat)) : Prop := match i with
  | .iconst n => len = 1 ∧ Int32.ofInt n = zzkon (zzfst aux)
  | .bipush n => len = 2 ∧ (Int8.ofInt n).toInt32 = zzkon (zzfst aux)
  | .sipush n => len = 3 ∧ (Int16.ofInt n).toInt32 = zzkon (zzfst aux)
  | .ldc j => len = 2 ∧ Cond.constant own j (zzkon (zzfst aux)) ∈ zzTb
  | .ldc_w j => len = 3 ∧ Cond.constant own j (zzkon (zzfst aux)) ∈ zzTb
  | .lconst n => len = 1 ∧ Int64.ofNat (n : Nat) = zzkol (zzfst aux)
  | .ldc2_w j => len = 3 ∧ Cond.constantLong own j (zzkol (zzfst aux)) ∈ zzTb
  | .iload _ => len = 2
  | .lload _ => len = 2
  | .aload _ => len = 2
  | .iload_n k => len = 1 ∧ (k : Nat) = (zzfst aux).1
  | .lload_n k => len = 1 ∧ (k : Nat) = (zzfst aux).1
  | .aload_n k => len = 1 ∧ (k : Nat) = (zzfst aux).1
  | .istore k => len = 2 ∧ k < nL
  | .lstore k => len = 2 ∧ k + 1 < nL
  | .istore_n k => len = 1 ∧ (k : Nat) = (zzfst aux).1 ∧ (zzfst aux).1 < nL
  | .lstore_n k => len = 1 ∧ (k : Nat) = (zzfst aux).1 ∧ (zzfst aux).1 + 1 < nL
  | .iinc k n => len = 3 ∧ k < nL ∧ Int32.ofInt n = zzkon (zzfst aux)
  | .goto o => len = 3 ∧ (pc : Int) + o = ((zzfst aux).1 : Int)
  | .ifCond _ o => len = 3 ∧ (pc : Int) + o = ((zzfst aux).1 : Int)
  | .if_icmp _ o => len = 3 ∧ (pc : Int) + o = ((zzfst aux).1 : Int)
  | .tableswitch d lo hi os => (pc : Int) + d = ((zzfst aux).1 : Int) ∧ zztab pc lo.toNat os.toList (aux.drop 1) = true ∧ lo = (lo.toNat : Int) ∧ hi + 1 = lo + (os.size : Int) ∧ lo.toNat + os.size < 2147483648
  | .lookupswitch d ps => (pc : Int) + d = ((zzfst aux).1 : Int) ∧ zzlkp pc ps.toList (aux.drop 1) = true ∧ (ps.toList.zip (ps.toList.drop 1)).all (fun (a, next) => a.1 < next.1) = true
  | .getfield j => len = 3 ∧ ∃ r, zzcl[(zzfst aux).1]? = some r ∧ (zzfst aux).2 < r.2.2 ∧ Cond.fieldLink own j (r.2.1 (zzfst aux).2).1 (r.2.1 (zzfst aux).2).2.1 (r.2.1 (zzfst aux).2).2.2.1 ∈ zzTb
  | .putfield j => len = 3 ∧ ∃ r, zzcl[(zzfst aux).1]? = some r ∧ (zzfst aux).2 < r.2.2 ∧ Cond.fieldLink own j (r.2.1 (zzfst aux).2).1 (r.2.1 (zzfst aux).2).2.1 (r.2.1 (zzfst aux).2).2.2.1 ∈ zzTb ∧ (r.2.1 (zzfst aux).2).2.2.2 = false
  | .invokestatic j => len = 3 ∧ (match (zzfst aux).1 with
    | 0 => Cond.methodLink own j arraycopyName ∈ zzTb ∧ (zzfst aux).2 = 5 ∧ (zzsnd aux).1 = 0
    | 1 => Cond.methodLink own j Lib.Math.min.name ∈ zzTb ∧ (zzfst aux).2 = 2 ∧ (zzsnd aux).1 = 1
    | 2 => Cond.methodLink own j Lib.MathLoose.min_long.x ∈ zzTb ∧ (zzfst aux).2 = 2 ∧ (zzsnd aux).1 = 2
    | y + 3 => ∃ q, P[y]? = some q ∧ zzmw q ∧ Cond.static q.1 ∈ zzTb ∧ (zzsnd aux).1 = q.2.2.2.2.1 ∧ (parseMethodDescriptor q.1.desc).map (fun d => d.parameters.length) = some (zzfst aux).2 ∧ (Cond.methodLink own j q.1 ∈ zzTb ∨ (own, j, q.1) ∈ zznest))
  | .invokevirtual j => len = 3 ∧ (match (zzfst aux).1 with
    | 0 => False
    | 1 => False
    | 2 => False
    | y + 3 => ∃ q r, P[y]? = some q ∧ zzmw q ∧ zzcl[(zzthd aux).1]? = some r ∧ r.1 = q.1.cls ∧ Cond.instanceMethod q.1 ∈ zzTb ∧ Cond.selects q.1.cls q.1 q.1 ∈ zzTb ∧ (zzsnd aux).1 = q.2.2.2.2.1 ∧ (parseMethodDescriptor q.1.desc).map (fun d => d.parameters.length) = some (zzfst aux).2 ∧ Cond.methodLink own j q.1 ∈ zzTb)
  | _ => len = 1
theorem zz4 (n : Nat) : n = 0 ∨ n = 1 ∨ n = 2 ∨ ∃ y, n = y + 3 := by
  match n with
  | 0 => exact Or.inl rfl
  | 1 => exact Or.inr (Or.inl rfl)
  | 2 => exact Or.inr (Or.inr (Or.inl rfl))
  | y + 3 => exact Or.inr (Or.inr (Or.inr ⟨y, rfl⟩))
theorem zzmiw : Cond.static Lib.Math.min.name ∈ zzTb ∧ Cond.initialized "java/lang/Math" ∈ zzTb ∧ Cond.code Lib.Math.min.name Lib.Math.min.code 2 (some .int) ∈ zzTb := ⟨zzTb_of (by decide +kernel) rfl, zzTb_of (by decide +kernel) rfl, zzTb_of (by decide +kernel) rfl⟩
theorem zzmlw : Cond.static Lib.MathLoose.min_long.x ∈ zzTb ∧ Cond.code Lib.MathLoose.min_long.x Lib.MathLoose.min_long.code 4 (some .long) ∈ zzTb := ⟨zzTb_of (by decide +kernel) rfl, zzTb_of (by decide +kernel) rfl⟩
end
section
def zzrt (rk : Nat) (ret : Option FieldType) : Prop := match rk with
  | 0 => ret = none
  | 1 => ret = some .int
  | 2 => ret = some .long
  | 3 => ∃ n, ret = some (.object n)
  | _ => ret = some .boolean
def zzroom (d : Nat) : Room := { frames := d, cells := 0, slots := 0, locals := 40 * d }
def zzPc (D : va_G) (dA : Nat → ClassId) (ad : Nat → Nat) (as : List Value) (μ : zzM) (sz : Nat) : Array Value → State → Prop := va_Pc (as.map (zzcv ad)) (fun U => U.heap.size = sz ∧ va_P D zzcl (zzworld dA ad μ) U.heap ∧ va_K D zzcl (zztys dA) U ∧ zznw U)
def zzval (ad : Nat → Nat) (rk : Nat) (rr : zzR) : Option Value := match rk with
  | 0 => none
  | 2 => some (.long rr.1.2.1)
  | 3 => some (.ref (ad rr.1.2.2))
  | _ => some (.int rr.1.1)
def zzQ (D : va_G) (dA : Nat → ClassId) (ad : Nat → Nat) (A : Nat → Prop) (rk : Nat) (rr : zzR) : Array Value → State → Outcome → State → Prop := fun _ st oc t => oc = .returned (zzval ad rk rr) ∧ va_P D zzcl (zzworld dA ad rr.2) t.heap ∧ va_K D zzcl (zztys dA) t ∧ va_F A st t
/-- a method's contract -/
def zzMet (l : Launch) (D : va_G) (dA : Nat → ClassId) (ad : Nat → Nat) (d : Nat) (q : zzT) (as : List Value) (μ : zzM) (rr : zzR) : Prop := ∀ sz, Met l q.1 (Cond.code q.1 q.2.1 q.2.2.1 q.2.2.2.1 :: zzTb) (zzroom d) (zzPc D dA ad as μ sz) (zzQ D dA ad (zzA ad sz) q.2.2.2.2.1 rr) 0 0 (zzA ad sz)
/-- what holds all through a method's body -/
def zzX (p : Program) (s : State) (m : MethodId) (args : Array Value) (meth : Method) (c : Code) (cc : ByteArray) (own : String) (nL : Nat) (rk : Nat) (D : va_G) (dA : Nat → ClassId) (ad : Nat → Nat) (A : Nat → Prop) : Prop :=
  p.tables.exec = Jvm.exec ∧ c.code = cc ∧ c.maxLocals = nL ∧ s.vm.findClass own = some m.cls ∧ (∀ w ∈ zzTb, w.before args s = true) ∧ va_K D zzcl (zztys dA) s ∧ zznw s ∧ zzinj ad ∧ (∀ q, zzA ad s.heap.size q → A q) ∧ meth.locks = false ∧ zzrt rk meth.sig.returnType
def zzW (p : Program) (l : Launch) (e : Env) (R : Room) (s : State) (m : MethodId) (args : Array Value) (below : List Frame) (meth : Method) (c : Code) (Q : State → Prop) (D : va_G) (dA : Nat → ClassId) (ad : Nat → Nat) (A : Nat → Prop) (nL pc : Nat) (ls : zzL) (st : List Value) (μ : zzM) : Prop :=
  ∀ (H : Heap) (locs : List Loc) (lc : Array Slot), va_P D zzcl (zzworld dA ad μ) H → va_S A s.heap H locs → lv_has lc nL (zzlc ad ls) → W p l e R s m args below meth c H locs 0 0 Q (F0 m pc lc (st.map (zzcv ad)))
theorem zzgoodIn {y : MethodName} {b : ByteArray} {n : Nat} {r : Option FieldType} (h : Cond.code y b n r ∈ zzTb) : GoodIn zzTb (Cond.code y b n r :: zzTb) := by
  intro w hw
  have hm : w ∈ zzTb := by
    rcases List.mem_cons.mp hw with h1 | h1
    · rw [h1]; exact h
    · exact h1
  exact ⟨hm, good_of_word (zzTb_in hm).2⟩
theorem zzgoodL {l0 ws : List Cond} (h : ∀ w ∈ l0, w ∈ zzTb) (hw : GoodIn zzTb ws) : GoodIn zzTb (l0 ++ ws) := by
  intro w h1
  rcases List.mem_append.mp h1 with h2 | h2
  · exact ⟨h w h2, good_of_word (zzTb_in (h w h2)).2⟩
  · exact hw w h2
theorem zzkd_at {c ci k a b : Nat} {fs : List (Nat × Nat)} {r : vw_C} (hc : zzcells[c]? = some (.inl (ci, fs))) (hr : zzcl[ci]? = some r) (hk : fs[k]? = some (a, b)) : zzkd (parseFieldDescriptor (r.2.1 k).2.2.1) a = true := by
  have h := List.all_eq_true.mp zzkd_all _ (List.mem_of_getElem? hc)
  unfold zzkd_row at h
  simp only [hr, Bool.and_eq_true] at h
  have hl : fs.length = r.2.2 := Nat.eq_of_beq_eq_true h.1
  have hkl : k < fs.length := (List.getElem?_eq_some_iff.mp hk).1
  have h2 := List.all_eq_true.mp h.2 k (List.mem_range.mpr (by rw [← hl]; exact hkl))
  simp only [List.getD_eq_getElem?_getD, hk, Option.getD_some] at h2
  exact h2
theorem zzkd0 {t : Option FieldType} (h : zzkd t 0 = true) : t = some .int := by
  unfold zzkd at h
  split at h <;> first | rfl | (simp_all; done) | cases h
theorem zzkd1 {t : Option FieldType} (h : zzkd t 1 = true) : t = some .boolean := by
  unfold zzkd at h
  split at h <;> first | rfl | (simp_all; done) | cases h
theorem zzkd2 {t : Option FieldType} (h : zzkd t 2 = true) : t = some .long := by
  unfold zzkd at h
  split at h <;> first | rfl | (simp_all; done) | cases h
theorem zznar {v : Int32} (h : v = 0 ∨ v = 1) : vp_nar .boolean v = v := by
  rcases h with rfl | rfl <;> decide
theorem zznarB {v : Int32} (h : v = 0 ∨ v = 1) : narrow .boolean (.int v) = .int v := by
  rcases h with rfl | rfl <;> decide
theorem zzfitB {v : Int32} (h : v = 0 ∨ v = 1) : fits .boolean (.int v) = true := by
  rcases h with rfl | rfl <;> decide
section
variable {p : Program} {l : Launch} {e : Env} {R : Room} {s : State} {m : MethodId} {args : Array Value} {below : List Frame} {meth : Method} {c : Code} {Q : State → Prop} {D : va_G} {dA : Nat → ClassId} {ad : Nat → Nat} {A : Nat → Prop} {nL : Nat} {H : Heap} {locs : List Loc} {lc : Array Slot}
/-- behind a call -/
theorem zzcall {pc rk : Nat} {rr : zzR} {A1 : Nat → Prop} {a : Array Value} {rest st0 : List Value} (hr : va_Run p l e R s m args below meth c H locs 0 0 0 0 (F0 m pc lc st0) rest (zzQ D dA ad A1 rk rr a) A1) (hS : va_S A s.heap H locs) (hA : ∀ q, A1 q → A q)
    (kk : ∀ (H1 : Heap) (locs1 : List Loc), va_P D zzcl (zzworld dA ad rr.2) H1 → va_S A s.heap H1 locs1 → W p l e R s m args below meth c H1 locs1 0 0 Q (F0 m (pc + 3) lc ((zzval ad rk rr).toList ++ rest))) : W p l e R s m args below meth c H locs 0 0 Q (F0 m pc lc st0) := by
  intro T hT X
  obtain ⟨v, st₀, t, T', L, h0, X', hL, e1, e2, ⟨hv, hp, hk, hz, hkk⟩, st⟩ := hr T hT X
  cases hv
  rw [h0] at hz hkk
  obtain ⟨t2, a1, b1⟩ := kk T'.heap (locs ++ L) (by rw [e1]; exact hp)
    ⟨Nat.le_trans hS.1 (by rw [e1]; exact hz), fun q h1 h2 => by rw [e1, hkk q (Nat.lt_of_lt_of_le h1 hS.1) (fun z => h2 (hA q z))]; exact hS.2.1 q h1 h2, fun q hq => by
      rcases List.mem_append.mp hq with h | h
      · exact hS.2.2 q h
      · exact hA _ (hL q h)⟩ T' rfl X'
  exact ⟨t2, st t2 a1, b1⟩
theorem zzAsub {ad : Nat → Nat} {a b : Nat} (h : a ≤ b) : ∀ q, zzA ad b q → zzA ad a q := fun q hq => hq.elim Or.inl (fun z => Or.inr (Nat.le_trans h z))
theorem zzcut_s : ∀ (n : Nat) (st acc as rest : List Value), zzcut n st acc = some (as, rest) → ∃ bs : List Value, bs.length = n ∧ st = bs.reverse ++ rest ∧ as = bs ++ acc
  | 0, st, acc, as, rest, h => by
    obtain ⟨h1, h2⟩ := Prod.mk.inj (Option.some.inj h)
    exact ⟨[], rfl, h2, by rw [← h1]; rfl⟩
  | n + 1, v :: st, acc, as, rest, h => by
    obtain ⟨bs, h1, h2, h3⟩ := zzcut_s n st (v :: acc) as rest h
    refine ⟨bs ++ [v], by rw [List.length_append, h1]; rfl, by rw [List.reverse_append, h2]; rfl, by rw [h3, List.append_assoc]; rfl⟩
  | _ + 1, [], _, _, _, h => by cases h
theorem zzcat_s (ad : Nat → Nat) : ∀ st : List Value, ((st.map (zzcv ad)).map fun v => v.category).sum = zzcat st
  | [] => rfl
  | v :: r => by
    rw [List.map_cons, List.map_cons, List.sum_cons, zzcv_cat, zzcat_s ad r]
    rfl
theorem zzres_s {q : Nat × Nat} {o rr : zzR} {f : List Value → Option zzR} (h : zzres q o f = some rr) : ∃ t, t.map (zzcv ad) = (zzval ad q.1 o).toList ∧ f t = some rr := by
  obtain ⟨k, rc⟩ := q
  unfold zzres at h
  dsimp only at h
  split at h
  · exact ⟨_, rfl, h⟩
  · exact ⟨_, rfl, h⟩
  · split at h
    · rename_i he
      exact ⟨_, by rw [← he]; rfl, h⟩
    · cases h
  · rename_i n h0 h2 h3
    refine ⟨_, ?_, h⟩
    unfold zzval
    split
    next hq => exact (h0 hq).elim
    next hq => exact (h2 hq).elim
    next hq => exact (h3 hq).elim
    next => rfl
end
end
section
/-! ONE INSTRUCTION of the small machine, over the machine -/
theorem zzsw_tab {pc : Nat} {x : Int32} {jump : Nat → Option zzR} {d : Nat} {rr : zzR} : ∀ (os : List Int) (qs : List (Nat × Nat)) (lo : Nat), zztab pc lo os qs = true → zzsw x jump d qs = some rr →
    (∃ (j : Nat) (o : Int) (t : Nat), x = nI (lo + j) ∧ os[j]? = some o ∧ (pc : Int) + o = (t : Int) ∧ jump t = some rr) ∨ ((∀ j, j < os.length → x ≠ nI (lo + j)) ∧ jump d = some rr)
  | [], [], lo, _, h => Or.inr ⟨fun j hj => absurd hj (Nat.not_lt_zero _), h⟩
  | [], _ :: _, _, ht, _ => by cases ht
  | _ :: _, [], _, ht, _ => by cases ht
  | o :: os, q :: qs, lo, ht, h => by
    unfold zztab at ht
    simp only [Bool.and_eq_true, decide_eq_true_eq] at ht
    obtain ⟨⟨h1, h2⟩, h3⟩ := ht
    have h1 := Nat.eq_of_beq_eq_true h1
    unfold zzsw at h
    split at h
    · rename_i hx
      exact Or.inl ⟨0, o, q.2, by rw [hx, h1]; rfl, rfl, h2, h⟩
    · rename_i hx
      rcases zzsw_tab os qs (lo + 1) h3 h with ⟨j, o', t, a, b, c, g⟩ | ⟨a, b⟩
      · exact Or.inl ⟨j + 1, o', t, by rw [a]; congr 1; omega, b, c, g⟩
      · refine Or.inr ⟨fun j hj => ?_, b⟩
        cases j with
        | zero => rw [Nat.add_zero, ← h1]; exact hx
        | succ j =>
          have := a j (by simpa using hj)
          rw [show lo + (j + 1) = lo + 1 + j by omega]
          exact this
theorem zzsw_lkp {pc : Nat} {x : Int32} {jump : Nat → Option zzR} {d : Nat} {dd : Int} {rr : zzR} (hd : (pc : Int) + dd = (d : Int)) : ∀ (ps : List (Int × Int)) (qs : List (Nat × Nat)), zzlkp pc ps qs = true → zzsw x jump d qs = some rr →
    ∃ (t : Nat), (pc : Int) + Op.lookupswitch.offset ps dd x.toInt = (t : Int) ∧ jump t = some rr
  | [], [], _, h => ⟨d, hd, h⟩
  | [], _ :: _, ht, _ => by cases ht
  | _ :: _, [], ht, _ => by cases ht
  | a :: ps, q :: qs, ht, h => by
    unfold zzlkp at ht
    simp only [Bool.and_eq_true, decide_eq_true_eq] at ht
    obtain ⟨⟨⟨h1, h2⟩, h3⟩, h4⟩ := ht
    unfold zzsw at h
    rw [Op.lookupswitch.offset_cons]
    split at h
    · rename_i hx
      refine ⟨q.2, ?_, h⟩
      rw [if_pos (by rw [hx, h2, h1])]
      exact h3
    · rename_i hx
      rw [if_neg (fun g => hx (Int32.toInt_inj.mp (by rw [← g, h1, h2])))]
      exact zzsw_lkp hd ps qs h4 h
theorem zzsr_s {i : Int32} {f : Nat → Option zzR} {rr : zzR} : ∀ (ts : List Nat) (k : Nat), zzsr i f k ts = some rr → ∃ (j t : Nat), i = nI (k + j) ∧ ts[j]? = some t ∧ f t = some rr
  | [], _, h => by cases h
  | t :: ts, k, h => by
    unfold zzsr at h
    split at h
    · rename_i hx
      exact ⟨0, t, hx, rfl, h⟩
    · obtain ⟨j, t', a, b, g⟩ := zzsr_s ts (k + 1) h
      exact ⟨j + 1, t', by rw [a]; congr 1; omega, b, g⟩
/-- a call that is no copy: at one room more -/
def zzCl (l : Launch) (D : va_G) (dA : Nat → ClassId) (ad : Nat → Nat) (P : List zzT) (R : Room) (call : Nat → List Value → zzM → Option zzR) : Prop :=
  (∀ y as μ o, call (y + 3) as μ = some o → ∀ q, P[y]? = some q → ∃ d, R = zzroom (d + 1) ∧ zzMet l D dA ad d q as μ o) ∧
  (∀ as μ o, call 0 as μ = some o → (∃ d, R = zzroom (d + 1)) ∧ ∃ (a b n0 n1 : Nat) (t0 t1 : List Nat) (sp dp n : Int32) (μ' : zzM), as = [.ref a, .int sp, .ref b, .int dp, .int n] ∧ zzcells[a]? = some (.inr (0, n0, t0)) ∧ zzcells[b]? = some (.inr (0, n1, t1)) ∧ zzcp μ a n0 sp b n1 dp n = some μ' ∧ o = ((0, 0, 0), μ')) ∧
  (∀ as μ o, call 1 as μ = some o → (∃ d, R = zzroom (d + 1)) ∧ ∃ (a b : Int32), as = [.int a, .int b] ∧ o = ((if b < a then b else a, 0, 0), μ)) ∧
  ∀ as μ o, call 2 as μ = some o → (∃ d, R = zzroom (d + 1)) ∧ ∃ (a b : Int64), as = [.long a, .long b] ∧ o = ((0, if b < a then b else a, 0), μ)
section
variable {p : Program} {l : Launch} {e : Env} {R : Room} {s : State} {m : MethodId} {args : Array Value} {below : List Frame} {meth : Method} {c : Code} {Q : State → Prop} {D : va_G} {dA : Nat → ClassId} {ad : Nat → Nat} {A : Nat → Prop} {nL rk : Nat} {cc : ByteArray} {own : String} {P : List zzT}
theorem zzcp_cell {μ μ' : zzM} {a b n0 n1 : Nat} {sp dp n : Int32} (h : zzcp μ a n0 sp b n1 dp n = some μ') : (¬ sp < 0 ∧ ¬ dp < 0 ∧ ¬ n < 0 ∧ sp.toNatClampNeg + n.toNatClampNeg ≤ n0 ∧ dp.toNatClampNeg + n.toNatClampNeg ≤ n1) ∧ μ'.1 b = va_cpy (μ.1 a) (μ.1 b) sp.toNatClampNeg dp.toNatClampNeg n.toNatClampNeg ∧ (∀ j, j ≠ b → μ'.1 j = μ.1 j) ∧ μ'.2 = μ.2 := by
  unfold zzcp at h
  split at h
  · cases h
  · rename_i hc
    have h := (Option.some.inj h).symm
    subst h
    refine ⟨⟨fun z => hc (Or.inl z), fun z => hc (Or.inr (Or.inl z)), fun z => hc (Or.inr (Or.inr (Or.inl z))), Nat.not_lt.mp fun z => hc (Or.inr (Or.inr (Or.inr (Or.inl z)))), Nat.not_lt.mp fun z => hc (Or.inr (Or.inr (Or.inr (Or.inr z))))⟩, ?_, fun j hj => ?_, rfl⟩
    · funext x; show (if b = b then _ else _) = _; rw [if_pos rfl]
    · funext x; show (if j = b then _ else _) = _; rw [if_neg hj]
set_option maxHeartbeats 400000 in
set_option maxRecDepth 20000 in
theorem zs_iadd {rr : zzR} (hX : zzX p s m args meth c cc own nL rk D dA ad A) (hQ : Q = MQ below (zzQ D dA ad A rk rr) args s 0 0 A) {call : Nat → List Value → zzM → Option zzR} (hcall : zzCl l D dA ad P R call)
    {pc len : Nat} {aux : List (Nat × Nat)} (hdg : decode cc pc = .ok (.iadd, len)) (hw : zzwd P own nL len pc (.iadd) aux) {ls : zzL} {st : List Value} {μ : zzM} {next : zzL → List Value → zzM → Option zzR} {jump : Nat → List Value → Option zzR}
    (h : zzstep call rk (.iadd) aux ls st μ next jump = some rr)
    (hn : ∀ ls' st' μ', next ls' st' μ' = some rr → zzW p l e R s m args below meth c Q D dA ad A nL (pc + len) ls' st' μ')
    (hj : ∀ t st', jump t st' = some rr → zzW p l e R s m args below meth c Q D dA ad A nL t ls st' μ) : zzW p l e R s m args below meth c Q D dA ad A nL pc ls st μ := by
  intro H locs lc hP hS hl
  obtain ⟨hx, hb, hml, hown, hts, hK, hnw, hinj, hA, hlocks, hrt⟩ := hX
  have hD : ∀ μ, va_D A (zzworld dA ad μ) := fun μ => zzD_of hinj (fun i hi => hA _ (Or.inl ⟨i, hi, rfl⟩))
  obtain ⟨x, y, r, he9, h9⟩ := zzp2_s h
  clear h
  subst he9
  have h := h9
  clear h9
  try dsimp only at h
  cases hw
  exact lv_iadd hx hb hdg (hn _ _ _ h H locs lc hP hS hl)
set_option maxHeartbeats 400000 in
set_option maxRecDepth 20000 in
theorem zs_isub {rr : zzR} (hX : zzX p s m args meth c cc own nL rk D dA ad A) (hQ : Q = MQ below (zzQ D dA ad A rk rr) args s 0 0 A) {call : Nat → List Value → zzM → Option zzR} (hcall : zzCl l D dA ad P R call)
    {pc len : Nat} {aux : List (Nat × Nat)} (hdg : decode cc pc = .ok (.isub, len)) (hw : zzwd P own nL len pc (.isub) aux) {ls : zzL} {st : List Value} {μ : zzM} {next : zzL → List Value → zzM → Option zzR} {jump : Nat → List Value → Option zzR}
    (h : zzstep call rk (.isub) aux ls st μ next jump = some rr)
    (hn : ∀ ls' st' μ', next ls' st' μ' = some rr → zzW p l e R s m args below meth c Q D dA ad A nL (pc + len) ls' st' μ')
    (hj : ∀ t st', jump t st' = some rr → zzW p l e R s m args below meth c Q D dA ad A nL t ls st' μ) : zzW p l e R s m args below meth c Q D dA ad A nL pc ls st μ := by
  intro H locs lc hP hS hl
  obtain ⟨hx, hb, hml, hown, hts, hK, hnw, hinj, hA, hlocks, hrt⟩ := hX
  have hD : ∀ μ, va_D A (zzworld dA ad μ) := fun μ => zzD_of hinj (fun i hi => hA _ (Or.inl ⟨i, hi, rfl⟩))
  obtain ⟨x, y, r, he9, h9⟩ := zzp2_s h
  clear h
  subst he9
  have h := h9
  clear h9
  try dsimp only at h
  cases hw
  exact lv_isub hx hb hdg (hn _ _ _ h H locs lc hP hS hl)
set_option maxHeartbeats 400000 in
set_option maxRecDepth 20000 in
theorem zs_imul {rr : zzR} (hX : zzX p s m args meth c cc own nL rk D dA ad A) (hQ : Q = MQ below (zzQ D dA ad A rk rr) args s 0 0 A) {call : Nat → List Value → zzM → Option zzR} (hcall : zzCl l D dA ad P R call)
    {pc len : Nat} {aux : List (Nat × Nat)} (hdg : decode cc pc = .ok (.imul, len)) (hw : zzwd P own nL len pc (.imul) aux) {ls : zzL} {st : List Value} {μ : zzM} {next : zzL → List Value → zzM → Option zzR} {jump : Nat → List Value → Option zzR}
    (h : zzstep call rk (.imul) aux ls st μ next jump = some rr)
    (hn : ∀ ls' st' μ', next ls' st' μ' = some rr → zzW p l e R s m args below meth c Q D dA ad A nL (pc + len) ls' st' μ')
    (hj : ∀ t st', jump t st' = some rr → zzW p l e R s m args below meth c Q D dA ad A nL t ls st' μ) : zzW p l e R s m args below meth c Q D dA ad A nL pc ls st μ := by
  intro H locs lc hP hS hl
  obtain ⟨hx, hb, hml, hown, hts, hK, hnw, hinj, hA, hlocks, hrt⟩ := hX
  have hD : ∀ μ, va_D A (zzworld dA ad μ) := fun μ => zzD_of hinj (fun i hi => hA _ (Or.inl ⟨i, hi, rfl⟩))
  obtain ⟨x, y, r, he9, h9⟩ := zzp2_s h
  clear h
  subst he9
  have h := h9
  clear h9
  try dsimp only at h
  cases hw
  exact lv_imul hx hb hdg (hn _ _ _ h H locs lc hP hS hl)
set_option maxHeartbeats 400000 in
set_option maxRecDepth 20000 in
theorem zs_iand {rr : zzR} (hX : zzX p s m args meth c cc own nL rk D dA ad A) (hQ : Q = MQ below (zzQ D dA ad A rk rr) args s 0 0 A) {call : Nat → List Value → zzM → Option zzR} (hcall : zzCl l D dA ad P R call)
    {pc len : Nat} {aux : List (Nat × Nat)} (hdg : decode cc pc = .ok (.iand, len)) (hw : zzwd P own nL len pc (.iand) aux) {ls : zzL} {st : List Value} {μ : zzM} {next : zzL → List Value → zzM → Option zzR} {jump : Nat → List Value → Option zzR}
    (h : zzstep call rk (.iand) aux ls st μ next jump = some rr)
    (hn : ∀ ls' st' μ', next ls' st' μ' = some rr → zzW p l e R s m args below meth c Q D dA ad A nL (pc + len) ls' st' μ')
    (hj : ∀ t st', jump t st' = some rr → zzW p l e R s m args below meth c Q D dA ad A nL t ls st' μ) : zzW p l e R s m args below meth c Q D dA ad A nL pc ls st μ := by
  intro H locs lc hP hS hl
  obtain ⟨hx, hb, hml, hown, hts, hK, hnw, hinj, hA, hlocks, hrt⟩ := hX
  have hD : ∀ μ, va_D A (zzworld dA ad μ) := fun μ => zzD_of hinj (fun i hi => hA _ (Or.inl ⟨i, hi, rfl⟩))
  obtain ⟨x, y, r, he9, h9⟩ := zzp2_s h
  clear h
  subst he9
  have h := h9
  clear h9
  try dsimp only at h
  cases hw
  exact lv_iand hx hb hdg (hn _ _ _ h H locs lc hP hS hl)
set_option maxHeartbeats 400000 in
set_option maxRecDepth 20000 in
theorem zs_ior {rr : zzR} (hX : zzX p s m args meth c cc own nL rk D dA ad A) (hQ : Q = MQ below (zzQ D dA ad A rk rr) args s 0 0 A) {call : Nat → List Value → zzM → Option zzR} (hcall : zzCl l D dA ad P R call)
    {pc len : Nat} {aux : List (Nat × Nat)} (hdg : decode cc pc = .ok (.ior, len)) (hw : zzwd P own nL len pc (.ior) aux) {ls : zzL} {st : List Value} {μ : zzM} {next : zzL → List Value → zzM → Option zzR} {jump : Nat → List Value → Option zzR}
    (h : zzstep call rk (.ior) aux ls st μ next jump = some rr)
    (hn : ∀ ls' st' μ', next ls' st' μ' = some rr → zzW p l e R s m args below meth c Q D dA ad A nL (pc + len) ls' st' μ')
    (hj : ∀ t st', jump t st' = some rr → zzW p l e R s m args below meth c Q D dA ad A nL t ls st' μ) : zzW p l e R s m args below meth c Q D dA ad A nL pc ls st μ := by
  intro H locs lc hP hS hl
  obtain ⟨hx, hb, hml, hown, hts, hK, hnw, hinj, hA, hlocks, hrt⟩ := hX
  have hD : ∀ μ, va_D A (zzworld dA ad μ) := fun μ => zzD_of hinj (fun i hi => hA _ (Or.inl ⟨i, hi, rfl⟩))
  obtain ⟨x, y, r, he9, h9⟩ := zzp2_s h
  clear h
  subst he9
  have h := h9
  clear h9
  try dsimp only at h
  cases hw
  exact lv_ior hx hb hdg (hn _ _ _ h H locs lc hP hS hl)
set_option maxHeartbeats 400000 in
set_option maxRecDepth 20000 in
theorem zs_ixor {rr : zzR} (hX : zzX p s m args meth c cc own nL rk D dA ad A) (hQ : Q = MQ below (zzQ D dA ad A rk rr) args s 0 0 A) {call : Nat → List Value → zzM → Option zzR} (hcall : zzCl l D dA ad P R call)
    {pc len : Nat} {aux : List (Nat × Nat)} (hdg : decode cc pc = .ok (.ixor, len)) (hw : zzwd P own nL len pc (.ixor) aux) {ls : zzL} {st : List Value} {μ : zzM} {next : zzL → List Value → zzM → Option zzR} {jump : Nat → List Value → Option zzR}
    (h : zzstep call rk (.ixor) aux ls st μ next jump = some rr)
    (hn : ∀ ls' st' μ', next ls' st' μ' = some rr → zzW p l e R s m args below meth c Q D dA ad A nL (pc + len) ls' st' μ')
    (hj : ∀ t st', jump t st' = some rr → zzW p l e R s m args below meth c Q D dA ad A nL t ls st' μ) : zzW p l e R s m args below meth c Q D dA ad A nL pc ls st μ := by
  intro H locs lc hP hS hl
  obtain ⟨hx, hb, hml, hown, hts, hK, hnw, hinj, hA, hlocks, hrt⟩ := hX
  have hD : ∀ μ, va_D A (zzworld dA ad μ) := fun μ => zzD_of hinj (fun i hi => hA _ (Or.inl ⟨i, hi, rfl⟩))
  obtain ⟨x, y, r, he9, h9⟩ := zzp2_s h
  clear h
  subst he9
  have h := h9
  clear h9
  try dsimp only at h
  cases hw
  exact lv_ixor hx hb hdg (hn _ _ _ h H locs lc hP hS hl)
set_option maxHeartbeats 400000 in
set_option maxRecDepth 20000 in
theorem zs_ishl {rr : zzR} (hX : zzX p s m args meth c cc own nL rk D dA ad A) (hQ : Q = MQ below (zzQ D dA ad A rk rr) args s 0 0 A) {call : Nat → List Value → zzM → Option zzR} (hcall : zzCl l D dA ad P R call)
    {pc len : Nat} {aux : List (Nat × Nat)} (hdg : decode cc pc = .ok (.ishl, len)) (hw : zzwd P own nL len pc (.ishl) aux) {ls : zzL} {st : List Value} {μ : zzM} {next : zzL → List Value → zzM → Option zzR} {jump : Nat → List Value → Option zzR}
    (h : zzstep call rk (.ishl) aux ls st μ next jump = some rr)
    (hn : ∀ ls' st' μ', next ls' st' μ' = some rr → zzW p l e R s m args below meth c Q D dA ad A nL (pc + len) ls' st' μ')
    (hj : ∀ t st', jump t st' = some rr → zzW p l e R s m args below meth c Q D dA ad A nL t ls st' μ) : zzW p l e R s m args below meth c Q D dA ad A nL pc ls st μ := by
  intro H locs lc hP hS hl
  obtain ⟨hx, hb, hml, hown, hts, hK, hnw, hinj, hA, hlocks, hrt⟩ := hX
  have hD : ∀ μ, va_D A (zzworld dA ad μ) := fun μ => zzD_of hinj (fun i hi => hA _ (Or.inl ⟨i, hi, rfl⟩))
  obtain ⟨x, y, r, he9, h9⟩ := zzp2_s h
  clear h
  subst he9
  have h := h9
  clear h9
  try dsimp only at h
  cases hw
  exact lv_ishl hx hb hdg (hn _ _ _ h H locs lc hP hS hl)
set_option maxHeartbeats 400000 in
set_option maxRecDepth 20000 in
theorem zs_ishr {rr : zzR} (hX : zzX p s m args meth c cc own nL rk D dA ad A) (hQ : Q = MQ below (zzQ D dA ad A rk rr) args s 0 0 A) {call : Nat → List Value → zzM → Option zzR} (hcall : zzCl l D dA ad P R call)
    {pc len : Nat} {aux : List (Nat × Nat)} (hdg : decode cc pc = .ok (.ishr, len)) (hw : zzwd P own nL len pc (.ishr) aux) {ls : zzL} {st : List Value} {μ : zzM} {next : zzL → List Value → zzM → Option zzR} {jump : Nat → List Value → Option zzR}
    (h : zzstep call rk (.ishr) aux ls st μ next jump = some rr)
    (hn : ∀ ls' st' μ', next ls' st' μ' = some rr → zzW p l e R s m args below meth c Q D dA ad A nL (pc + len) ls' st' μ')
    (hj : ∀ t st', jump t st' = some rr → zzW p l e R s m args below meth c Q D dA ad A nL t ls st' μ) : zzW p l e R s m args below meth c Q D dA ad A nL pc ls st μ := by
  intro H locs lc hP hS hl
  obtain ⟨hx, hb, hml, hown, hts, hK, hnw, hinj, hA, hlocks, hrt⟩ := hX
  have hD : ∀ μ, va_D A (zzworld dA ad μ) := fun μ => zzD_of hinj (fun i hi => hA _ (Or.inl ⟨i, hi, rfl⟩))
  obtain ⟨x, y, r, he9, h9⟩ := zzp2_s h
  clear h
  subst he9
  have h := h9
  clear h9
  try dsimp only at h
  cases hw
  exact lv_ishr hx hb hdg (hn _ _ _ h H locs lc hP hS hl)
set_option maxHeartbeats 400000 in
set_option maxRecDepth 20000 in
theorem zs_iushr {rr : zzR} (hX : zzX p s m args meth c cc own nL rk D dA ad A) (hQ : Q = MQ below (zzQ D dA ad A rk rr) args s 0 0 A) {call : Nat → List Value → zzM → Option zzR} (hcall : zzCl l D dA ad P R call)
    {pc len : Nat} {aux : List (Nat × Nat)} (hdg : decode cc pc = .ok (.iushr, len)) (hw : zzwd P own nL len pc (.iushr) aux) {ls : zzL} {st : List Value} {μ : zzM} {next : zzL → List Value → zzM → Option zzR} {jump : Nat → List Value → Option zzR}
    (h : zzstep call rk (.iushr) aux ls st μ next jump = some rr)
    (hn : ∀ ls' st' μ', next ls' st' μ' = some rr → zzW p l e R s m args below meth c Q D dA ad A nL (pc + len) ls' st' μ')
    (hj : ∀ t st', jump t st' = some rr → zzW p l e R s m args below meth c Q D dA ad A nL t ls st' μ) : zzW p l e R s m args below meth c Q D dA ad A nL pc ls st μ := by
  intro H locs lc hP hS hl
  obtain ⟨hx, hb, hml, hown, hts, hK, hnw, hinj, hA, hlocks, hrt⟩ := hX
  have hD : ∀ μ, va_D A (zzworld dA ad μ) := fun μ => zzD_of hinj (fun i hi => hA _ (Or.inl ⟨i, hi, rfl⟩))
  obtain ⟨x, y, r, he9, h9⟩ := zzp2_s h
  clear h
  subst he9
  have h := h9
  clear h9
  try dsimp only at h
  cases hw
  exact lv_iushr hx hb hdg rfl (hn _ _ _ h H locs lc hP hS hl)
set_option maxHeartbeats 400000 in
set_option maxRecDepth 20000 in
theorem zs_idiv {rr : zzR} (hX : zzX p s m args meth c cc own nL rk D dA ad A) (hQ : Q = MQ below (zzQ D dA ad A rk rr) args s 0 0 A) {call : Nat → List Value → zzM → Option zzR} (hcall : zzCl l D dA ad P R call)
    {pc len : Nat} {aux : List (Nat × Nat)} (hdg : decode cc pc = .ok (.idiv, len)) (hw : zzwd P own nL len pc (.idiv) aux) {ls : zzL} {st : List Value} {μ : zzM} {next : zzL → List Value → zzM → Option zzR} {jump : Nat → List Value → Option zzR}
    (h : zzstep call rk (.idiv) aux ls st μ next jump = some rr)
    (hn : ∀ ls' st' μ', next ls' st' μ' = some rr → zzW p l e R s m args below meth c Q D dA ad A nL (pc + len) ls' st' μ')
    (hj : ∀ t st', jump t st' = some rr → zzW p l e R s m args below meth c Q D dA ad A nL t ls st' μ) : zzW p l e R s m args below meth c Q D dA ad A nL pc ls st μ := by
  intro H locs lc hP hS hl
  obtain ⟨hx, hb, hml, hown, hts, hK, hnw, hinj, hA, hlocks, hrt⟩ := hX
  have hD : ∀ μ, va_D A (zzworld dA ad μ) := fun μ => zzD_of hinj (fun i hi => hA _ (Or.inl ⟨i, hi, rfl⟩))
  obtain ⟨x, y, r, he9, h9⟩ := zzp2_s h
  clear h
  subst he9
  have h := h9
  clear h9
  try dsimp only at h
  cases hw
  split at h
  · cases h
  · rename_i hne
    exact lv_idiv hx hb hdg hne (hn _ _ _ h H locs lc hP hS hl)
set_option maxHeartbeats 400000 in
set_option maxRecDepth 20000 in
theorem zs_irem {rr : zzR} (hX : zzX p s m args meth c cc own nL rk D dA ad A) (hQ : Q = MQ below (zzQ D dA ad A rk rr) args s 0 0 A) {call : Nat → List Value → zzM → Option zzR} (hcall : zzCl l D dA ad P R call)
    {pc len : Nat} {aux : List (Nat × Nat)} (hdg : decode cc pc = .ok (.irem, len)) (hw : zzwd P own nL len pc (.irem) aux) {ls : zzL} {st : List Value} {μ : zzM} {next : zzL → List Value → zzM → Option zzR} {jump : Nat → List Value → Option zzR}
    (h : zzstep call rk (.irem) aux ls st μ next jump = some rr)
    (hn : ∀ ls' st' μ', next ls' st' μ' = some rr → zzW p l e R s m args below meth c Q D dA ad A nL (pc + len) ls' st' μ')
    (hj : ∀ t st', jump t st' = some rr → zzW p l e R s m args below meth c Q D dA ad A nL t ls st' μ) : zzW p l e R s m args below meth c Q D dA ad A nL pc ls st μ := by
  intro H locs lc hP hS hl
  obtain ⟨hx, hb, hml, hown, hts, hK, hnw, hinj, hA, hlocks, hrt⟩ := hX
  have hD : ∀ μ, va_D A (zzworld dA ad μ) := fun μ => zzD_of hinj (fun i hi => hA _ (Or.inl ⟨i, hi, rfl⟩))
  obtain ⟨x, y, r, he9, h9⟩ := zzp2_s h
  clear h
  subst he9
  have h := h9
  clear h9
  try dsimp only at h
  cases hw
  split at h
  · cases h
  · rename_i hne
    exact lv_irem hx hb hdg hne (hn _ _ _ h H locs lc hP hS hl)
set_option maxHeartbeats 400000 in
set_option maxRecDepth 20000 in
theorem zs_ladd {rr : zzR} (hX : zzX p s m args meth c cc own nL rk D dA ad A) (hQ : Q = MQ below (zzQ D dA ad A rk rr) args s 0 0 A) {call : Nat → List Value → zzM → Option zzR} (hcall : zzCl l D dA ad P R call)
    {pc len : Nat} {aux : List (Nat × Nat)} (hdg : decode cc pc = .ok (.ladd, len)) (hw : zzwd P own nL len pc (.ladd) aux) {ls : zzL} {st : List Value} {μ : zzM} {next : zzL → List Value → zzM → Option zzR} {jump : Nat → List Value → Option zzR}
    (h : zzstep call rk (.ladd) aux ls st μ next jump = some rr)
    (hn : ∀ ls' st' μ', next ls' st' μ' = some rr → zzW p l e R s m args below meth c Q D dA ad A nL (pc + len) ls' st' μ')
    (hj : ∀ t st', jump t st' = some rr → zzW p l e R s m args below meth c Q D dA ad A nL t ls st' μ) : zzW p l e R s m args below meth c Q D dA ad A nL pc ls st μ := by
  intro H locs lc hP hS hl
  obtain ⟨hx, hb, hml, hown, hts, hK, hnw, hinj, hA, hlocks, hrt⟩ := hX
  have hD : ∀ μ, va_D A (zzworld dA ad μ) := fun μ => zzD_of hinj (fun i hi => hA _ (Or.inl ⟨i, hi, rfl⟩))
  obtain ⟨x, y, r, he9, h9⟩ := zzq2_s h
  clear h
  subst he9
  have h := h9
  clear h9
  try dsimp only at h
  cases hw
  exact lv_ladd hx hb hdg (hn _ _ _ h H locs lc hP hS hl)
set_option maxHeartbeats 400000 in
set_option maxRecDepth 20000 in
theorem zs_lsub {rr : zzR} (hX : zzX p s m args meth c cc own nL rk D dA ad A) (hQ : Q = MQ below (zzQ D dA ad A rk rr) args s 0 0 A) {call : Nat → List Value → zzM → Option zzR} (hcall : zzCl l D dA ad P R call)
    {pc len : Nat} {aux : List (Nat × Nat)} (hdg : decode cc pc = .ok (.lsub, len)) (hw : zzwd P own nL len pc (.lsub) aux) {ls : zzL} {st : List Value} {μ : zzM} {next : zzL → List Value → zzM → Option zzR} {jump : Nat → List Value → Option zzR}
    (h : zzstep call rk (.lsub) aux ls st μ next jump = some rr)
    (hn : ∀ ls' st' μ', next ls' st' μ' = some rr → zzW p l e R s m args below meth c Q D dA ad A nL (pc + len) ls' st' μ')
    (hj : ∀ t st', jump t st' = some rr → zzW p l e R s m args below meth c Q D dA ad A nL t ls st' μ) : zzW p l e R s m args below meth c Q D dA ad A nL pc ls st μ := by
  intro H locs lc hP hS hl
  obtain ⟨hx, hb, hml, hown, hts, hK, hnw, hinj, hA, hlocks, hrt⟩ := hX
  have hD : ∀ μ, va_D A (zzworld dA ad μ) := fun μ => zzD_of hinj (fun i hi => hA _ (Or.inl ⟨i, hi, rfl⟩))
  obtain ⟨x, y, r, he9, h9⟩ := zzq2_s h
  clear h
  subst he9
  have h := h9
  clear h9
  try dsimp only at h
  cases hw
  exact lv_lsub hx hb hdg (hn _ _ _ h H locs lc hP hS hl)
set_option maxHeartbeats 400000 in
set_option maxRecDepth 20000 in
theorem zs_lmul {rr : zzR} (hX : zzX p s m args meth c cc own nL rk D dA ad A) (hQ : Q = MQ below (zzQ D dA ad A rk rr) args s 0 0 A) {call : Nat → List Value → zzM → Option zzR} (hcall : zzCl l D dA ad P R call)
    {pc len : Nat} {aux : List (Nat × Nat)} (hdg : decode cc pc = .ok (.lmul, len)) (hw : zzwd P own nL len pc (.lmul) aux) {ls : zzL} {st : List Value} {μ : zzM} {next : zzL → List Value → zzM → Option zzR} {jump : Nat → List Value → Option zzR}
    (h : zzstep call rk (.lmul) aux ls st μ next jump = some rr)
    (hn : ∀ ls' st' μ', next ls' st' μ' = some rr → zzW p l e R s m args below meth c Q D dA ad A nL (pc + len) ls' st' μ')
    (hj : ∀ t st', jump t st' = some rr → zzW p l e R s m args below meth c Q D dA ad A nL t ls st' μ) : zzW p l e R s m args below meth c Q D dA ad A nL pc ls st μ := by
  intro H locs lc hP hS hl
  obtain ⟨hx, hb, hml, hown, hts, hK, hnw, hinj, hA, hlocks, hrt⟩ := hX
  have hD : ∀ μ, va_D A (zzworld dA ad μ) := fun μ => zzD_of hinj (fun i hi => hA _ (Or.inl ⟨i, hi, rfl⟩))
  obtain ⟨x, y, r, he9, h9⟩ := zzq2_s h
  clear h
  subst he9
  have h := h9
  clear h9
  try dsimp only at h
  cases hw
  exact lv_lmul hx hb hdg (hn _ _ _ h H locs lc hP hS hl)
set_option maxHeartbeats 400000 in
set_option maxRecDepth 20000 in
theorem zs_land {rr : zzR} (hX : zzX p s m args meth c cc own nL rk D dA ad A) (hQ : Q = MQ below (zzQ D dA ad A rk rr) args s 0 0 A) {call : Nat → List Value → zzM → Option zzR} (hcall : zzCl l D dA ad P R call)
    {pc len : Nat} {aux : List (Nat × Nat)} (hdg : decode cc pc = .ok (.land, len)) (hw : zzwd P own nL len pc (.land) aux) {ls : zzL} {st : List Value} {μ : zzM} {next : zzL → List Value → zzM → Option zzR} {jump : Nat → List Value → Option zzR}
    (h : zzstep call rk (.land) aux ls st μ next jump = some rr)
    (hn : ∀ ls' st' μ', next ls' st' μ' = some rr → zzW p l e R s m args below meth c Q D dA ad A nL (pc + len) ls' st' μ')
    (hj : ∀ t st', jump t st' = some rr → zzW p l e R s m args below meth c Q D dA ad A nL t ls st' μ) : zzW p l e R s m args below meth c Q D dA ad A nL pc ls st μ := by
  intro H locs lc hP hS hl
  obtain ⟨hx, hb, hml, hown, hts, hK, hnw, hinj, hA, hlocks, hrt⟩ := hX
  have hD : ∀ μ, va_D A (zzworld dA ad μ) := fun μ => zzD_of hinj (fun i hi => hA _ (Or.inl ⟨i, hi, rfl⟩))
  obtain ⟨x, y, r, he9, h9⟩ := zzq2_s h
  clear h
  subst he9
  have h := h9
  clear h9
  try dsimp only at h
  cases hw
  exact lv_land hx hb hdg (hn _ _ _ h H locs lc hP hS hl)
set_option maxHeartbeats 400000 in
set_option maxRecDepth 20000 in
theorem zs_lor {rr : zzR} (hX : zzX p s m args meth c cc own nL rk D dA ad A) (hQ : Q = MQ below (zzQ D dA ad A rk rr) args s 0 0 A) {call : Nat → List Value → zzM → Option zzR} (hcall : zzCl l D dA ad P R call)
    {pc len : Nat} {aux : List (Nat × Nat)} (hdg : decode cc pc = .ok (.lor, len)) (hw : zzwd P own nL len pc (.lor) aux) {ls : zzL} {st : List Value} {μ : zzM} {next : zzL → List Value → zzM → Option zzR} {jump : Nat → List Value → Option zzR}
    (h : zzstep call rk (.lor) aux ls st μ next jump = some rr)
    (hn : ∀ ls' st' μ', next ls' st' μ' = some rr → zzW p l e R s m args below meth c Q D dA ad A nL (pc + len) ls' st' μ')
    (hj : ∀ t st', jump t st' = some rr → zzW p l e R s m args below meth c Q D dA ad A nL t ls st' μ) : zzW p l e R s m args below meth c Q D dA ad A nL pc ls st μ := by
  intro H locs lc hP hS hl
  obtain ⟨hx, hb, hml, hown, hts, hK, hnw, hinj, hA, hlocks, hrt⟩ := hX
  have hD : ∀ μ, va_D A (zzworld dA ad μ) := fun μ => zzD_of hinj (fun i hi => hA _ (Or.inl ⟨i, hi, rfl⟩))
  obtain ⟨x, y, r, he9, h9⟩ := zzq2_s h
  clear h
  subst he9
  have h := h9
  clear h9
  try dsimp only at h
  cases hw
  exact lv_lor hx hb hdg (hn _ _ _ h H locs lc hP hS hl)
set_option maxHeartbeats 400000 in
set_option maxRecDepth 20000 in
theorem zs_lrem {rr : zzR} (hX : zzX p s m args meth c cc own nL rk D dA ad A) (hQ : Q = MQ below (zzQ D dA ad A rk rr) args s 0 0 A) {call : Nat → List Value → zzM → Option zzR} (hcall : zzCl l D dA ad P R call)
    {pc len : Nat} {aux : List (Nat × Nat)} (hdg : decode cc pc = .ok (.lrem, len)) (hw : zzwd P own nL len pc (.lrem) aux) {ls : zzL} {st : List Value} {μ : zzM} {next : zzL → List Value → zzM → Option zzR} {jump : Nat → List Value → Option zzR}
    (h : zzstep call rk (.lrem) aux ls st μ next jump = some rr)
    (hn : ∀ ls' st' μ', next ls' st' μ' = some rr → zzW p l e R s m args below meth c Q D dA ad A nL (pc + len) ls' st' μ')
    (hj : ∀ t st', jump t st' = some rr → zzW p l e R s m args below meth c Q D dA ad A nL t ls st' μ) : zzW p l e R s m args below meth c Q D dA ad A nL pc ls st μ := by
  intro H locs lc hP hS hl
  obtain ⟨hx, hb, hml, hown, hts, hK, hnw, hinj, hA, hlocks, hrt⟩ := hX
  have hD : ∀ μ, va_D A (zzworld dA ad μ) := fun μ => zzD_of hinj (fun i hi => hA _ (Or.inl ⟨i, hi, rfl⟩))
  obtain ⟨x, y, r, he9, h9⟩ := zzq2_s h
  clear h
  subst he9
  have h := h9
  clear h9
  try dsimp only at h
  cases hw
  split at h
  · cases h
  · rename_i hne
    exact lv_lrem hx hb hdg hne (hn _ _ _ h H locs lc hP hS hl)
set_option maxHeartbeats 400000 in
set_option maxRecDepth 20000 in
theorem zs_lcmp {rr : zzR} (hX : zzX p s m args meth c cc own nL rk D dA ad A) (hQ : Q = MQ below (zzQ D dA ad A rk rr) args s 0 0 A) {call : Nat → List Value → zzM → Option zzR} (hcall : zzCl l D dA ad P R call)
    {pc len : Nat} {aux : List (Nat × Nat)} (hdg : decode cc pc = .ok (.lcmp, len)) (hw : zzwd P own nL len pc (.lcmp) aux) {ls : zzL} {st : List Value} {μ : zzM} {next : zzL → List Value → zzM → Option zzR} {jump : Nat → List Value → Option zzR}
    (h : zzstep call rk (.lcmp) aux ls st μ next jump = some rr)
    (hn : ∀ ls' st' μ', next ls' st' μ' = some rr → zzW p l e R s m args below meth c Q D dA ad A nL (pc + len) ls' st' μ')
    (hj : ∀ t st', jump t st' = some rr → zzW p l e R s m args below meth c Q D dA ad A nL t ls st' μ) : zzW p l e R s m args below meth c Q D dA ad A nL pc ls st μ := by
  intro H locs lc hP hS hl
  obtain ⟨hx, hb, hml, hown, hts, hK, hnw, hinj, hA, hlocks, hrt⟩ := hX
  have hD : ∀ μ, va_D A (zzworld dA ad μ) := fun μ => zzD_of hinj (fun i hi => hA _ (Or.inl ⟨i, hi, rfl⟩))
  obtain ⟨x, y, r, he9, h9⟩ := zzq2_s h
  clear h
  subst he9
  have h := h9
  clear h9
  try dsimp only at h
  cases hw
  exact W.lcmp hx hb hdg (hn _ _ _ h H locs lc hP hS hl)
set_option maxHeartbeats 400000 in
set_option maxRecDepth 20000 in
theorem zs_lshl {rr : zzR} (hX : zzX p s m args meth c cc own nL rk D dA ad A) (hQ : Q = MQ below (zzQ D dA ad A rk rr) args s 0 0 A) {call : Nat → List Value → zzM → Option zzR} (hcall : zzCl l D dA ad P R call)
    {pc len : Nat} {aux : List (Nat × Nat)} (hdg : decode cc pc = .ok (.lshl, len)) (hw : zzwd P own nL len pc (.lshl) aux) {ls : zzL} {st : List Value} {μ : zzM} {next : zzL → List Value → zzM → Option zzR} {jump : Nat → List Value → Option zzR}
    (h : zzstep call rk (.lshl) aux ls st μ next jump = some rr)
    (hn : ∀ ls' st' μ', next ls' st' μ' = some rr → zzW p l e R s m args below meth c Q D dA ad A nL (pc + len) ls' st' μ')
    (hj : ∀ t st', jump t st' = some rr → zzW p l e R s m args below meth c Q D dA ad A nL t ls st' μ) : zzW p l e R s m args below meth c Q D dA ad A nL pc ls st μ := by
  intro H locs lc hP hS hl
  obtain ⟨hx, hb, hml, hown, hts, hK, hnw, hinj, hA, hlocks, hrt⟩ := hX
  have hD : ∀ μ, va_D A (zzworld dA ad μ) := fun μ => zzD_of hinj (fun i hi => hA _ (Or.inl ⟨i, hi, rfl⟩))
  obtain ⟨x, y, r, he9, h9⟩ := zzqs_s h
  clear h
  subst he9
  have h := h9
  clear h9
  try dsimp only at h
  cases hw
  exact lv_lshl hx hb hdg rfl (hn _ _ _ h H locs lc hP hS hl)
set_option maxHeartbeats 400000 in
set_option maxRecDepth 20000 in
theorem zs_lshr {rr : zzR} (hX : zzX p s m args meth c cc own nL rk D dA ad A) (hQ : Q = MQ below (zzQ D dA ad A rk rr) args s 0 0 A) {call : Nat → List Value → zzM → Option zzR} (hcall : zzCl l D dA ad P R call)
    {pc len : Nat} {aux : List (Nat × Nat)} (hdg : decode cc pc = .ok (.lshr, len)) (hw : zzwd P own nL len pc (.lshr) aux) {ls : zzL} {st : List Value} {μ : zzM} {next : zzL → List Value → zzM → Option zzR} {jump : Nat → List Value → Option zzR}
    (h : zzstep call rk (.lshr) aux ls st μ next jump = some rr)
    (hn : ∀ ls' st' μ', next ls' st' μ' = some rr → zzW p l e R s m args below meth c Q D dA ad A nL (pc + len) ls' st' μ')
    (hj : ∀ t st', jump t st' = some rr → zzW p l e R s m args below meth c Q D dA ad A nL t ls st' μ) : zzW p l e R s m args below meth c Q D dA ad A nL pc ls st μ := by
  intro H locs lc hP hS hl
  obtain ⟨hx, hb, hml, hown, hts, hK, hnw, hinj, hA, hlocks, hrt⟩ := hX
  have hD : ∀ μ, va_D A (zzworld dA ad μ) := fun μ => zzD_of hinj (fun i hi => hA _ (Or.inl ⟨i, hi, rfl⟩))
  obtain ⟨x, y, r, he9, h9⟩ := zzqs_s h
  clear h
  subst he9
  have h := h9
  clear h9
  try dsimp only at h
  cases hw
  exact lv_lshr hx hb hdg rfl (hn _ _ _ h H locs lc hP hS hl)
set_option maxHeartbeats 400000 in
set_option maxRecDepth 20000 in
theorem zs_i2l {rr : zzR} (hX : zzX p s m args meth c cc own nL rk D dA ad A) (hQ : Q = MQ below (zzQ D dA ad A rk rr) args s 0 0 A) {call : Nat → List Value → zzM → Option zzR} (hcall : zzCl l D dA ad P R call)
    {pc len : Nat} {aux : List (Nat × Nat)} (hdg : decode cc pc = .ok (.i2l, len)) (hw : zzwd P own nL len pc (.i2l) aux) {ls : zzL} {st : List Value} {μ : zzM} {next : zzL → List Value → zzM → Option zzR} {jump : Nat → List Value → Option zzR}
    (h : zzstep call rk (.i2l) aux ls st μ next jump = some rr)
    (hn : ∀ ls' st' μ', next ls' st' μ' = some rr → zzW p l e R s m args below meth c Q D dA ad A nL (pc + len) ls' st' μ')
    (hj : ∀ t st', jump t st' = some rr → zzW p l e R s m args below meth c Q D dA ad A nL t ls st' μ) : zzW p l e R s m args below meth c Q D dA ad A nL pc ls st μ := by
  intro H locs lc hP hS hl
  obtain ⟨hx, hb, hml, hown, hts, hK, hnw, hinj, hA, hlocks, hrt⟩ := hX
  have hD : ∀ μ, va_D A (zzworld dA ad μ) := fun μ => zzD_of hinj (fun i hi => hA _ (Or.inl ⟨i, hi, rfl⟩))
  obtain ⟨x, r, he9, h9⟩ := zzp1_s h
  clear h
  subst he9
  have h := h9
  clear h9
  try dsimp only at h
  cases hw
  exact lv_i2l hx hb hdg rfl (hn _ _ _ h H locs lc hP hS hl)
set_option maxHeartbeats 400000 in
set_option maxRecDepth 20000 in
theorem zs_l2i {rr : zzR} (hX : zzX p s m args meth c cc own nL rk D dA ad A) (hQ : Q = MQ below (zzQ D dA ad A rk rr) args s 0 0 A) {call : Nat → List Value → zzM → Option zzR} (hcall : zzCl l D dA ad P R call)
    {pc len : Nat} {aux : List (Nat × Nat)} (hdg : decode cc pc = .ok (.l2i, len)) (hw : zzwd P own nL len pc (.l2i) aux) {ls : zzL} {st : List Value} {μ : zzM} {next : zzL → List Value → zzM → Option zzR} {jump : Nat → List Value → Option zzR}
    (h : zzstep call rk (.l2i) aux ls st μ next jump = some rr)
    (hn : ∀ ls' st' μ', next ls' st' μ' = some rr → zzW p l e R s m args below meth c Q D dA ad A nL (pc + len) ls' st' μ')
    (hj : ∀ t st', jump t st' = some rr → zzW p l e R s m args below meth c Q D dA ad A nL t ls st' μ) : zzW p l e R s m args below meth c Q D dA ad A nL pc ls st μ := by
  intro H locs lc hP hS hl
  obtain ⟨hx, hb, hml, hown, hts, hK, hnw, hinj, hA, hlocks, hrt⟩ := hX
  have hD : ∀ μ, va_D A (zzworld dA ad μ) := fun μ => zzD_of hinj (fun i hi => hA _ (Or.inl ⟨i, hi, rfl⟩))
  obtain ⟨x, r, he9, h9⟩ := zzq1_s h
  clear h
  subst he9
  have h := h9
  clear h9
  try dsimp only at h
  cases hw
  exact lv_l2i hx hb hdg rfl (hn _ _ _ h H locs lc hP hS hl)
set_option maxHeartbeats 400000 in
set_option maxRecDepth 20000 in
theorem zs_i2b {rr : zzR} (hX : zzX p s m args meth c cc own nL rk D dA ad A) (hQ : Q = MQ below (zzQ D dA ad A rk rr) args s 0 0 A) {call : Nat → List Value → zzM → Option zzR} (hcall : zzCl l D dA ad P R call)
    {pc len : Nat} {aux : List (Nat × Nat)} (hdg : decode cc pc = .ok (.i2b, len)) (hw : zzwd P own nL len pc (.i2b) aux) {ls : zzL} {st : List Value} {μ : zzM} {next : zzL → List Value → zzM → Option zzR} {jump : Nat → List Value → Option zzR}
    (h : zzstep call rk (.i2b) aux ls st μ next jump = some rr)
    (hn : ∀ ls' st' μ', next ls' st' μ' = some rr → zzW p l e R s m args below meth c Q D dA ad A nL (pc + len) ls' st' μ')
    (hj : ∀ t st', jump t st' = some rr → zzW p l e R s m args below meth c Q D dA ad A nL t ls st' μ) : zzW p l e R s m args below meth c Q D dA ad A nL pc ls st μ := by
  intro H locs lc hP hS hl
  obtain ⟨hx, hb, hml, hown, hts, hK, hnw, hinj, hA, hlocks, hrt⟩ := hX
  have hD : ∀ μ, va_D A (zzworld dA ad μ) := fun μ => zzD_of hinj (fun i hi => hA _ (Or.inl ⟨i, hi, rfl⟩))
  obtain ⟨x, r, he9, h9⟩ := zzp1_s h
  clear h
  subst he9
  have h := h9
  clear h9
  try dsimp only at h
  cases hw
  exact lv_i2b hx hb hdg rfl (hn _ _ _ h H locs lc hP hS hl)
set_option maxHeartbeats 400000 in
set_option maxRecDepth 20000 in
theorem zs_iconst {n : Int} {rr : zzR} (hX : zzX p s m args meth c cc own nL rk D dA ad A) (hQ : Q = MQ below (zzQ D dA ad A rk rr) args s 0 0 A) {call : Nat → List Value → zzM → Option zzR} (hcall : zzCl l D dA ad P R call)
    {pc len : Nat} {aux : List (Nat × Nat)} (hdg : decode cc pc = .ok (.iconst n, len)) (hw : zzwd P own nL len pc (.iconst n) aux) {ls : zzL} {st : List Value} {μ : zzM} {next : zzL → List Value → zzM → Option zzR} {jump : Nat → List Value → Option zzR}
    (h : zzstep call rk (.iconst n) aux ls st μ next jump = some rr)
    (hn : ∀ ls' st' μ', next ls' st' μ' = some rr → zzW p l e R s m args below meth c Q D dA ad A nL (pc + len) ls' st' μ')
    (hj : ∀ t st', jump t st' = some rr → zzW p l e R s m args below meth c Q D dA ad A nL t ls st' μ) : zzW p l e R s m args below meth c Q D dA ad A nL pc ls st μ := by
  intro H locs lc hP hS hl
  obtain ⟨hx, hb, hml, hown, hts, hK, hnw, hinj, hA, hlocks, hrt⟩ := hX
  have hD : ∀ μ, va_D A (zzworld dA ad μ) := fun μ => zzD_of hinj (fun i hi => hA _ (Or.inl ⟨i, hi, rfl⟩))
  obtain ⟨rfl, hv⟩ := hw
  exact lv_iconst hx hb hdg hv (hn _ _ _ h H locs lc hP hS hl)
set_option maxHeartbeats 400000 in
set_option maxRecDepth 20000 in
theorem zs_bipush {n : Int} {rr : zzR} (hX : zzX p s m args meth c cc own nL rk D dA ad A) (hQ : Q = MQ below (zzQ D dA ad A rk rr) args s 0 0 A) {call : Nat → List Value → zzM → Option zzR} (hcall : zzCl l D dA ad P R call)
    {pc len : Nat} {aux : List (Nat × Nat)} (hdg : decode cc pc = .ok (.bipush n, len)) (hw : zzwd P own nL len pc (.bipush n) aux) {ls : zzL} {st : List Value} {μ : zzM} {next : zzL → List Value → zzM → Option zzR} {jump : Nat → List Value → Option zzR}
    (h : zzstep call rk (.bipush n) aux ls st μ next jump = some rr)
    (hn : ∀ ls' st' μ', next ls' st' μ' = some rr → zzW p l e R s m args below meth c Q D dA ad A nL (pc + len) ls' st' μ')
    (hj : ∀ t st', jump t st' = some rr → zzW p l e R s m args below meth c Q D dA ad A nL t ls st' μ) : zzW p l e R s m args below meth c Q D dA ad A nL pc ls st μ := by
  intro H locs lc hP hS hl
  obtain ⟨hx, hb, hml, hown, hts, hK, hnw, hinj, hA, hlocks, hrt⟩ := hX
  have hD : ∀ μ, va_D A (zzworld dA ad μ) := fun μ => zzD_of hinj (fun i hi => hA _ (Or.inl ⟨i, hi, rfl⟩))
  obtain ⟨rfl, hv⟩ := hw
  exact lv_bipush hx hb hdg hv (hn _ _ _ h H locs lc hP hS hl)
set_option maxHeartbeats 400000 in
set_option maxRecDepth 20000 in
theorem zs_sipush {n : Int} {rr : zzR} (hX : zzX p s m args meth c cc own nL rk D dA ad A) (hQ : Q = MQ below (zzQ D dA ad A rk rr) args s 0 0 A) {call : Nat → List Value → zzM → Option zzR} (hcall : zzCl l D dA ad P R call)
    {pc len : Nat} {aux : List (Nat × Nat)} (hdg : decode cc pc = .ok (.sipush n, len)) (hw : zzwd P own nL len pc (.sipush n) aux) {ls : zzL} {st : List Value} {μ : zzM} {next : zzL → List Value → zzM → Option zzR} {jump : Nat → List Value → Option zzR}
    (h : zzstep call rk (.sipush n) aux ls st μ next jump = some rr)
    (hn : ∀ ls' st' μ', next ls' st' μ' = some rr → zzW p l e R s m args below meth c Q D dA ad A nL (pc + len) ls' st' μ')
    (hj : ∀ t st', jump t st' = some rr → zzW p l e R s m args below meth c Q D dA ad A nL t ls st' μ) : zzW p l e R s m args below meth c Q D dA ad A nL pc ls st μ := by
  intro H locs lc hP hS hl
  obtain ⟨hx, hb, hml, hown, hts, hK, hnw, hinj, hA, hlocks, hrt⟩ := hX
  have hD : ∀ μ, va_D A (zzworld dA ad μ) := fun μ => zzD_of hinj (fun i hi => hA _ (Or.inl ⟨i, hi, rfl⟩))
  obtain ⟨rfl, hv⟩ := hw
  exact lv_sipush hx hb hdg hv (hn _ _ _ h H locs lc hP hS hl)
set_option maxHeartbeats 400000 in
set_option maxRecDepth 20000 in
theorem zs_lconst {n : Fin 2} {rr : zzR} (hX : zzX p s m args meth c cc own nL rk D dA ad A) (hQ : Q = MQ below (zzQ D dA ad A rk rr) args s 0 0 A) {call : Nat → List Value → zzM → Option zzR} (hcall : zzCl l D dA ad P R call)
    {pc len : Nat} {aux : List (Nat × Nat)} (hdg : decode cc pc = .ok (.lconst n, len)) (hw : zzwd P own nL len pc (.lconst n) aux) {ls : zzL} {st : List Value} {μ : zzM} {next : zzL → List Value → zzM → Option zzR} {jump : Nat → List Value → Option zzR}
    (h : zzstep call rk (.lconst n) aux ls st μ next jump = some rr)
    (hn : ∀ ls' st' μ', next ls' st' μ' = some rr → zzW p l e R s m args below meth c Q D dA ad A nL (pc + len) ls' st' μ')
    (hj : ∀ t st', jump t st' = some rr → zzW p l e R s m args below meth c Q D dA ad A nL t ls st' μ) : zzW p l e R s m args below meth c Q D dA ad A nL pc ls st μ := by
  intro H locs lc hP hS hl
  obtain ⟨hx, hb, hml, hown, hts, hK, hnw, hinj, hA, hlocks, hrt⟩ := hX
  have hD : ∀ μ, va_D A (zzworld dA ad μ) := fun μ => zzD_of hinj (fun i hi => hA _ (Or.inl ⟨i, hi, rfl⟩))
  obtain ⟨rfl, hv⟩ := hw
  exact lv_lconst hx hb hdg hv (hn _ _ _ h H locs lc hP hS hl)
set_option maxHeartbeats 400000 in
set_option maxRecDepth 20000 in
theorem zs_ldc {n : Nat} {rr : zzR} (hX : zzX p s m args meth c cc own nL rk D dA ad A) (hQ : Q = MQ below (zzQ D dA ad A rk rr) args s 0 0 A) {call : Nat → List Value → zzM → Option zzR} (hcall : zzCl l D dA ad P R call)
    {pc len : Nat} {aux : List (Nat × Nat)} (hdg : decode cc pc = .ok (.ldc n, len)) (hw : zzwd P own nL len pc (.ldc n) aux) {ls : zzL} {st : List Value} {μ : zzM} {next : zzL → List Value → zzM → Option zzR} {jump : Nat → List Value → Option zzR}
    (h : zzstep call rk (.ldc n) aux ls st μ next jump = some rr)
    (hn : ∀ ls' st' μ', next ls' st' μ' = some rr → zzW p l e R s m args below meth c Q D dA ad A nL (pc + len) ls' st' μ')
    (hj : ∀ t st', jump t st' = some rr → zzW p l e R s m args below meth c Q D dA ad A nL t ls st' μ) : zzW p l e R s m args below meth c Q D dA ad A nL pc ls st μ := by
  intro H locs lc hP hS hl
  obtain ⟨hx, hb, hml, hown, hts, hK, hnw, hinj, hA, hlocks, hrt⟩ := hX
  have hD : ∀ μ, va_D A (zzworld dA ad μ) := fun μ => zzD_of hinj (fun i hi => hA _ (Or.inl ⟨i, hi, rfl⟩))
  obtain ⟨rfl, hv⟩ := hw
  exact lv_ldc hx hb hown (hts _ hv) hdg (hn _ _ _ h H locs lc hP hS hl)
set_option maxHeartbeats 400000 in
set_option maxRecDepth 20000 in
theorem zs_ldc_w {n : Nat} {rr : zzR} (hX : zzX p s m args meth c cc own nL rk D dA ad A) (hQ : Q = MQ below (zzQ D dA ad A rk rr) args s 0 0 A) {call : Nat → List Value → zzM → Option zzR} (hcall : zzCl l D dA ad P R call)
    {pc len : Nat} {aux : List (Nat × Nat)} (hdg : decode cc pc = .ok (.ldc_w n, len)) (hw : zzwd P own nL len pc (.ldc_w n) aux) {ls : zzL} {st : List Value} {μ : zzM} {next : zzL → List Value → zzM → Option zzR} {jump : Nat → List Value → Option zzR}
    (h : zzstep call rk (.ldc_w n) aux ls st μ next jump = some rr)
    (hn : ∀ ls' st' μ', next ls' st' μ' = some rr → zzW p l e R s m args below meth c Q D dA ad A nL (pc + len) ls' st' μ')
    (hj : ∀ t st', jump t st' = some rr → zzW p l e R s m args below meth c Q D dA ad A nL t ls st' μ) : zzW p l e R s m args below meth c Q D dA ad A nL pc ls st μ := by
  intro H locs lc hP hS hl
  obtain ⟨hx, hb, hml, hown, hts, hK, hnw, hinj, hA, hlocks, hrt⟩ := hX
  have hD : ∀ μ, va_D A (zzworld dA ad μ) := fun μ => zzD_of hinj (fun i hi => hA _ (Or.inl ⟨i, hi, rfl⟩))
  obtain ⟨rfl, hv⟩ := hw
  exact lv_ldcw hx hb hown (hts _ hv) hdg (hn _ _ _ h H locs lc hP hS hl)
set_option maxHeartbeats 400000 in
set_option maxRecDepth 20000 in
theorem zs_ldc2_w {n : Nat} {rr : zzR} (hX : zzX p s m args meth c cc own nL rk D dA ad A) (hQ : Q = MQ below (zzQ D dA ad A rk rr) args s 0 0 A) {call : Nat → List Value → zzM → Option zzR} (hcall : zzCl l D dA ad P R call)
    {pc len : Nat} {aux : List (Nat × Nat)} (hdg : decode cc pc = .ok (.ldc2_w n, len)) (hw : zzwd P own nL len pc (.ldc2_w n) aux) {ls : zzL} {st : List Value} {μ : zzM} {next : zzL → List Value → zzM → Option zzR} {jump : Nat → List Value → Option zzR}
    (h : zzstep call rk (.ldc2_w n) aux ls st μ next jump = some rr)
    (hn : ∀ ls' st' μ', next ls' st' μ' = some rr → zzW p l e R s m args below meth c Q D dA ad A nL (pc + len) ls' st' μ')
    (hj : ∀ t st', jump t st' = some rr → zzW p l e R s m args below meth c Q D dA ad A nL t ls st' μ) : zzW p l e R s m args below meth c Q D dA ad A nL pc ls st μ := by
  intro H locs lc hP hS hl
  obtain ⟨hx, hb, hml, hown, hts, hK, hnw, hinj, hA, hlocks, hrt⟩ := hX
  have hD : ∀ μ, va_D A (zzworld dA ad μ) := fun μ => zzD_of hinj (fun i hi => hA _ (Or.inl ⟨i, hi, rfl⟩))
  obtain ⟨rfl, hv⟩ := hw
  exact lv_ldc2 hx hb hown (hts _ hv) hdg (hn _ _ _ h H locs lc hP hS hl)
set_option maxHeartbeats 400000 in
set_option maxRecDepth 20000 in
theorem zs_iload {k : Nat} {rr : zzR} (hX : zzX p s m args meth c cc own nL rk D dA ad A) (hQ : Q = MQ below (zzQ D dA ad A rk rr) args s 0 0 A) {call : Nat → List Value → zzM → Option zzR} (hcall : zzCl l D dA ad P R call)
    {pc len : Nat} {aux : List (Nat × Nat)} (hdg : decode cc pc = .ok (.iload k, len)) (hw : zzwd P own nL len pc (.iload k) aux) {ls : zzL} {st : List Value} {μ : zzM} {next : zzL → List Value → zzM → Option zzR} {jump : Nat → List Value → Option zzR}
    (h : zzstep call rk (.iload k) aux ls st μ next jump = some rr)
    (hn : ∀ ls' st' μ', next ls' st' μ' = some rr → zzW p l e R s m args below meth c Q D dA ad A nL (pc + len) ls' st' μ')
    (hj : ∀ t st', jump t st' = some rr → zzW p l e R s m args below meth c Q D dA ad A nL t ls st' μ) : zzW p l e R s m args below meth c Q D dA ad A nL pc ls st μ := by
  intro H locs lc hP hS hl
  obtain ⟨hx, hb, hml, hown, hts, hK, hnw, hinj, hA, hlocks, hrt⟩ := hX
  have hD : ∀ μ, va_D A (zzworld dA ad μ) := fun μ => zzD_of hinj (fun i hi => hA _ (Or.inl ⟨i, hi, rfl⟩))
  cases hw
  have h : (match zzlk ls k with
    | some (.int x) => next ls (.int x :: st) μ
    | _ => none) = some rr := h
  split at h
  · rename_i x hv
    exact lv_iload hx hb hdg (zzlc_at hl hv) (hn _ _ _ h H locs lc hP hS hl)
  · cases h
set_option maxHeartbeats 400000 in
set_option maxRecDepth 20000 in
theorem zs_iload_n {k : Fin 4} {rr : zzR} (hX : zzX p s m args meth c cc own nL rk D dA ad A) (hQ : Q = MQ below (zzQ D dA ad A rk rr) args s 0 0 A) {call : Nat → List Value → zzM → Option zzR} (hcall : zzCl l D dA ad P R call)
    {pc len : Nat} {aux : List (Nat × Nat)} (hdg : decode cc pc = .ok (.iload_n k, len)) (hw : zzwd P own nL len pc (.iload_n k) aux) {ls : zzL} {st : List Value} {μ : zzM} {next : zzL → List Value → zzM → Option zzR} {jump : Nat → List Value → Option zzR}
    (h : zzstep call rk (.iload_n k) aux ls st μ next jump = some rr)
    (hn : ∀ ls' st' μ', next ls' st' μ' = some rr → zzW p l e R s m args below meth c Q D dA ad A nL (pc + len) ls' st' μ')
    (hj : ∀ t st', jump t st' = some rr → zzW p l e R s m args below meth c Q D dA ad A nL t ls st' μ) : zzW p l e R s m args below meth c Q D dA ad A nL pc ls st μ := by
  intro H locs lc hP hS hl
  obtain ⟨hx, hb, hml, hown, hts, hK, hnw, hinj, hA, hlocks, hrt⟩ := hX
  have hD : ∀ μ, va_D A (zzworld dA ad μ) := fun μ => zzD_of hinj (fun i hi => hA _ (Or.inl ⟨i, hi, rfl⟩))
  obtain ⟨rfl, hk⟩ := hw
  have h : (match zzlk ls (zzfst aux).1 with
    | some (.int x) => next ls (.int x :: st) μ
    | _ => none) = some rr := h
  split at h
  · rename_i x hv
    exact lv_iload_n hx hb hdg hk (zzlc_at hl hv) (hn _ _ _ h H locs lc hP hS hl)
  · cases h
set_option maxHeartbeats 400000 in
set_option maxRecDepth 20000 in
theorem zs_lload {k : Nat} {rr : zzR} (hX : zzX p s m args meth c cc own nL rk D dA ad A) (hQ : Q = MQ below (zzQ D dA ad A rk rr) args s 0 0 A) {call : Nat → List Value → zzM → Option zzR} (hcall : zzCl l D dA ad P R call)
    {pc len : Nat} {aux : List (Nat × Nat)} (hdg : decode cc pc = .ok (.lload k, len)) (hw : zzwd P own nL len pc (.lload k) aux) {ls : zzL} {st : List Value} {μ : zzM} {next : zzL → List Value → zzM → Option zzR} {jump : Nat → List Value → Option zzR}
    (h : zzstep call rk (.lload k) aux ls st μ next jump = some rr)
    (hn : ∀ ls' st' μ', next ls' st' μ' = some rr → zzW p l e R s m args below meth c Q D dA ad A nL (pc + len) ls' st' μ')
    (hj : ∀ t st', jump t st' = some rr → zzW p l e R s m args below meth c Q D dA ad A nL t ls st' μ) : zzW p l e R s m args below meth c Q D dA ad A nL pc ls st μ := by
  intro H locs lc hP hS hl
  obtain ⟨hx, hb, hml, hown, hts, hK, hnw, hinj, hA, hlocks, hrt⟩ := hX
  have hD : ∀ μ, va_D A (zzworld dA ad μ) := fun μ => zzD_of hinj (fun i hi => hA _ (Or.inl ⟨i, hi, rfl⟩))
  cases hw
  have h : (match zzlk ls k with
    | some (.long x) => next ls (.long x :: st) μ
    | _ => none) = some rr := h
  split at h
  · rename_i x hv
    exact lv_lload hx hb hdg (zzlc_at hl hv) (hn _ _ _ h H locs lc hP hS hl)
  · cases h
set_option maxHeartbeats 400000 in
set_option maxRecDepth 20000 in
theorem zs_lload_n {k : Fin 4} {rr : zzR} (hX : zzX p s m args meth c cc own nL rk D dA ad A) (hQ : Q = MQ below (zzQ D dA ad A rk rr) args s 0 0 A) {call : Nat → List Value → zzM → Option zzR} (hcall : zzCl l D dA ad P R call)
    {pc len : Nat} {aux : List (Nat × Nat)} (hdg : decode cc pc = .ok (.lload_n k, len)) (hw : zzwd P own nL len pc (.lload_n k) aux) {ls : zzL} {st : List Value} {μ : zzM} {next : zzL → List Value → zzM → Option zzR} {jump : Nat → List Value → Option zzR}
    (h : zzstep call rk (.lload_n k) aux ls st μ next jump = some rr)
    (hn : ∀ ls' st' μ', next ls' st' μ' = some rr → zzW p l e R s m args below meth c Q D dA ad A nL (pc + len) ls' st' μ')
    (hj : ∀ t st', jump t st' = some rr → zzW p l e R s m args below meth c Q D dA ad A nL t ls st' μ) : zzW p l e R s m args below meth c Q D dA ad A nL pc ls st μ := by
  intro H locs lc hP hS hl
  obtain ⟨hx, hb, hml, hown, hts, hK, hnw, hinj, hA, hlocks, hrt⟩ := hX
  have hD : ∀ μ, va_D A (zzworld dA ad μ) := fun μ => zzD_of hinj (fun i hi => hA _ (Or.inl ⟨i, hi, rfl⟩))
  obtain ⟨rfl, hk⟩ := hw
  have h : (match zzlk ls (zzfst aux).1 with
    | some (.long x) => next ls (.long x :: st) μ
    | _ => none) = some rr := h
  split at h
  · rename_i x hv
    exact lv_lload_n hx hb hdg hk (zzlc_at hl hv) (hn _ _ _ h H locs lc hP hS hl)
  · cases h
set_option maxHeartbeats 400000 in
set_option maxRecDepth 20000 in
theorem zs_aload {k : Nat} {rr : zzR} (hX : zzX p s m args meth c cc own nL rk D dA ad A) (hQ : Q = MQ below (zzQ D dA ad A rk rr) args s 0 0 A) {call : Nat → List Value → zzM → Option zzR} (hcall : zzCl l D dA ad P R call)
    {pc len : Nat} {aux : List (Nat × Nat)} (hdg : decode cc pc = .ok (.aload k, len)) (hw : zzwd P own nL len pc (.aload k) aux) {ls : zzL} {st : List Value} {μ : zzM} {next : zzL → List Value → zzM → Option zzR} {jump : Nat → List Value → Option zzR}
    (h : zzstep call rk (.aload k) aux ls st μ next jump = some rr)
    (hn : ∀ ls' st' μ', next ls' st' μ' = some rr → zzW p l e R s m args below meth c Q D dA ad A nL (pc + len) ls' st' μ')
    (hj : ∀ t st', jump t st' = some rr → zzW p l e R s m args below meth c Q D dA ad A nL t ls st' μ) : zzW p l e R s m args below meth c Q D dA ad A nL pc ls st μ := by
  intro H locs lc hP hS hl
  obtain ⟨hx, hb, hml, hown, hts, hK, hnw, hinj, hA, hlocks, hrt⟩ := hX
  have hD : ∀ μ, va_D A (zzworld dA ad μ) := fun μ => zzD_of hinj (fun i hi => hA _ (Or.inl ⟨i, hi, rfl⟩))
  cases hw
  have h : (match zzlk ls k with
    | some (.ref x) => next ls (.ref x :: st) μ
    | _ => none) = some rr := h
  split at h
  · rename_i x hv
    exact lv_aload hx hb hdg (zzlc_at hl hv) (hn _ _ _ h H locs lc hP hS hl)
  · cases h
set_option maxHeartbeats 400000 in
set_option maxRecDepth 20000 in
theorem zs_aload_n {k : Fin 4} {rr : zzR} (hX : zzX p s m args meth c cc own nL rk D dA ad A) (hQ : Q = MQ below (zzQ D dA ad A rk rr) args s 0 0 A) {call : Nat → List Value → zzM → Option zzR} (hcall : zzCl l D dA ad P R call)
    {pc len : Nat} {aux : List (Nat × Nat)} (hdg : decode cc pc = .ok (.aload_n k, len)) (hw : zzwd P own nL len pc (.aload_n k) aux) {ls : zzL} {st : List Value} {μ : zzM} {next : zzL → List Value → zzM → Option zzR} {jump : Nat → List Value → Option zzR}
    (h : zzstep call rk (.aload_n k) aux ls st μ next jump = some rr)
    (hn : ∀ ls' st' μ', next ls' st' μ' = some rr → zzW p l e R s m args below meth c Q D dA ad A nL (pc + len) ls' st' μ')
    (hj : ∀ t st', jump t st' = some rr → zzW p l e R s m args below meth c Q D dA ad A nL t ls st' μ) : zzW p l e R s m args below meth c Q D dA ad A nL pc ls st μ := by
  intro H locs lc hP hS hl
  obtain ⟨hx, hb, hml, hown, hts, hK, hnw, hinj, hA, hlocks, hrt⟩ := hX
  have hD : ∀ μ, va_D A (zzworld dA ad μ) := fun μ => zzD_of hinj (fun i hi => hA _ (Or.inl ⟨i, hi, rfl⟩))
  obtain ⟨rfl, hk⟩ := hw
  have h : (match zzlk ls (zzfst aux).1 with
    | some (.ref x) => next ls (.ref x :: st) μ
    | _ => none) = some rr := h
  split at h
  · rename_i x hv
    exact lv_aload_n hx hb hdg hk (zzlc_at hl hv) (hn _ _ _ h H locs lc hP hS hl)
  · cases h
set_option maxHeartbeats 400000 in
set_option maxRecDepth 20000 in
theorem zs_istore {k : Nat} {rr : zzR} (hX : zzX p s m args meth c cc own nL rk D dA ad A) (hQ : Q = MQ below (zzQ D dA ad A rk rr) args s 0 0 A) {call : Nat → List Value → zzM → Option zzR} (hcall : zzCl l D dA ad P R call)
    {pc len : Nat} {aux : List (Nat × Nat)} (hdg : decode cc pc = .ok (.istore k, len)) (hw : zzwd P own nL len pc (.istore k) aux) {ls : zzL} {st : List Value} {μ : zzM} {next : zzL → List Value → zzM → Option zzR} {jump : Nat → List Value → Option zzR}
    (h : zzstep call rk (.istore k) aux ls st μ next jump = some rr)
    (hn : ∀ ls' st' μ', next ls' st' μ' = some rr → zzW p l e R s m args below meth c Q D dA ad A nL (pc + len) ls' st' μ')
    (hj : ∀ t st', jump t st' = some rr → zzW p l e R s m args below meth c Q D dA ad A nL t ls st' μ) : zzW p l e R s m args below meth c Q D dA ad A nL pc ls st μ := by
  intro H locs lc hP hS hl
  obtain ⟨hx, hb, hml, hown, hts, hK, hnw, hinj, hA, hlocks, hrt⟩ := hX
  have hD : ∀ μ, va_D A (zzworld dA ad μ) := fun μ => zzD_of hinj (fun i hi => hA _ (Or.inl ⟨i, hi, rfl⟩))
  obtain ⟨rfl, hk⟩ := hw
  obtain ⟨x, r, he9, h9⟩ := zzp1_s h
  clear h
  subst he9
  have h := h9
  clear h9
  try dsimp only at h
  exact lv_istore hx hb hdg hl hk (zzlc_set1 (ad := ad) (v := .int x)) (fun lc' hl' => hn _ _ _ h H locs lc' hP hS hl')
set_option maxHeartbeats 400000 in
set_option maxRecDepth 20000 in
theorem zs_istore_n {k : Fin 4} {rr : zzR} (hX : zzX p s m args meth c cc own nL rk D dA ad A) (hQ : Q = MQ below (zzQ D dA ad A rk rr) args s 0 0 A) {call : Nat → List Value → zzM → Option zzR} (hcall : zzCl l D dA ad P R call)
    {pc len : Nat} {aux : List (Nat × Nat)} (hdg : decode cc pc = .ok (.istore_n k, len)) (hw : zzwd P own nL len pc (.istore_n k) aux) {ls : zzL} {st : List Value} {μ : zzM} {next : zzL → List Value → zzM → Option zzR} {jump : Nat → List Value → Option zzR}
    (h : zzstep call rk (.istore_n k) aux ls st μ next jump = some rr)
    (hn : ∀ ls' st' μ', next ls' st' μ' = some rr → zzW p l e R s m args below meth c Q D dA ad A nL (pc + len) ls' st' μ')
    (hj : ∀ t st', jump t st' = some rr → zzW p l e R s m args below meth c Q D dA ad A nL t ls st' μ) : zzW p l e R s m args below meth c Q D dA ad A nL pc ls st μ := by
  intro H locs lc hP hS hl
  obtain ⟨hx, hb, hml, hown, hts, hK, hnw, hinj, hA, hlocks, hrt⟩ := hX
  have hD : ∀ μ, va_D A (zzworld dA ad μ) := fun μ => zzD_of hinj (fun i hi => hA _ (Or.inl ⟨i, hi, rfl⟩))
  obtain ⟨rfl, hk, hk2⟩ := hw
  obtain ⟨x, r, he9, h9⟩ := zzp1_s h
  clear h
  subst he9
  have h := h9
  clear h9
  try dsimp only at h
  exact lv_istore_n hx hb hdg hk hl hk2 (zzlc_set1 (ad := ad) (v := .int x)) (fun lc' hl' => hn _ _ _ h H locs lc' hP hS hl')
set_option maxHeartbeats 400000 in
set_option maxRecDepth 20000 in
theorem zs_lstore {k : Nat} {rr : zzR} (hX : zzX p s m args meth c cc own nL rk D dA ad A) (hQ : Q = MQ below (zzQ D dA ad A rk rr) args s 0 0 A) {call : Nat → List Value → zzM → Option zzR} (hcall : zzCl l D dA ad P R call)
    {pc len : Nat} {aux : List (Nat × Nat)} (hdg : decode cc pc = .ok (.lstore k, len)) (hw : zzwd P own nL len pc (.lstore k) aux) {ls : zzL} {st : List Value} {μ : zzM} {next : zzL → List Value → zzM → Option zzR} {jump : Nat → List Value → Option zzR}
    (h : zzstep call rk (.lstore k) aux ls st μ next jump = some rr)
    (hn : ∀ ls' st' μ', next ls' st' μ' = some rr → zzW p l e R s m args below meth c Q D dA ad A nL (pc + len) ls' st' μ')
    (hj : ∀ t st', jump t st' = some rr → zzW p l e R s m args below meth c Q D dA ad A nL t ls st' μ) : zzW p l e R s m args below meth c Q D dA ad A nL pc ls st μ := by
  intro H locs lc hP hS hl
  obtain ⟨hx, hb, hml, hown, hts, hK, hnw, hinj, hA, hlocks, hrt⟩ := hX
  have hD : ∀ μ, va_D A (zzworld dA ad μ) := fun μ => zzD_of hinj (fun i hi => hA _ (Or.inl ⟨i, hi, rfl⟩))
  obtain ⟨rfl, hk⟩ := hw
  obtain ⟨x, r, he9, h9⟩ := zzq1_s h
  clear h
  subst he9
  have h := h9
  clear h9
  try dsimp only at h
  exact lv_lstore hx hb hdg hl hk (zzlc_set2 (ad := ad) (v := .long x)) (fun lc' hl' => hn _ _ _ h H locs lc' hP hS hl')
set_option maxHeartbeats 400000 in
set_option maxRecDepth 20000 in
theorem zs_lstore_n {k : Fin 4} {rr : zzR} (hX : zzX p s m args meth c cc own nL rk D dA ad A) (hQ : Q = MQ below (zzQ D dA ad A rk rr) args s 0 0 A) {call : Nat → List Value → zzM → Option zzR} (hcall : zzCl l D dA ad P R call)
    {pc len : Nat} {aux : List (Nat × Nat)} (hdg : decode cc pc = .ok (.lstore_n k, len)) (hw : zzwd P own nL len pc (.lstore_n k) aux) {ls : zzL} {st : List Value} {μ : zzM} {next : zzL → List Value → zzM → Option zzR} {jump : Nat → List Value → Option zzR}
    (h : zzstep call rk (.lstore_n k) aux ls st μ next jump = some rr)
    (hn : ∀ ls' st' μ', next ls' st' μ' = some rr → zzW p l e R s m args below meth c Q D dA ad A nL (pc + len) ls' st' μ')
    (hj : ∀ t st', jump t st' = some rr → zzW p l e R s m args below meth c Q D dA ad A nL t ls st' μ) : zzW p l e R s m args below meth c Q D dA ad A nL pc ls st μ := by
  intro H locs lc hP hS hl
  obtain ⟨hx, hb, hml, hown, hts, hK, hnw, hinj, hA, hlocks, hrt⟩ := hX
  have hD : ∀ μ, va_D A (zzworld dA ad μ) := fun μ => zzD_of hinj (fun i hi => hA _ (Or.inl ⟨i, hi, rfl⟩))
  obtain ⟨rfl, hk, hk2⟩ := hw
  obtain ⟨x, r, he9, h9⟩ := zzq1_s h
  clear h
  subst he9
  have h := h9
  clear h9
  try dsimp only at h
  exact lv_lstore_n hx hb hdg hk hl hk2 (zzlc_set2 (ad := ad) (v := .long x)) (fun lc' hl' => hn _ _ _ h H locs lc' hP hS hl')
set_option maxHeartbeats 400000 in
set_option maxRecDepth 20000 in
theorem zs_iinc {k : Nat} {n : Int} {rr : zzR} (hX : zzX p s m args meth c cc own nL rk D dA ad A) (hQ : Q = MQ below (zzQ D dA ad A rk rr) args s 0 0 A) {call : Nat → List Value → zzM → Option zzR} (hcall : zzCl l D dA ad P R call)
    {pc len : Nat} {aux : List (Nat × Nat)} (hdg : decode cc pc = .ok (.iinc k n, len)) (hw : zzwd P own nL len pc (.iinc k n) aux) {ls : zzL} {st : List Value} {μ : zzM} {next : zzL → List Value → zzM → Option zzR} {jump : Nat → List Value → Option zzR}
    (h : zzstep call rk (.iinc k n) aux ls st μ next jump = some rr)
    (hn : ∀ ls' st' μ', next ls' st' μ' = some rr → zzW p l e R s m args below meth c Q D dA ad A nL (pc + len) ls' st' μ')
    (hj : ∀ t st', jump t st' = some rr → zzW p l e R s m args below meth c Q D dA ad A nL t ls st' μ) : zzW p l e R s m args below meth c Q D dA ad A nL pc ls st μ := by
  intro H locs lc hP hS hl
  obtain ⟨hx, hb, hml, hown, hts, hK, hnw, hinj, hA, hlocks, hrt⟩ := hX
  have hD : ∀ μ, va_D A (zzworld dA ad μ) := fun μ => zzD_of hinj (fun i hi => hA _ (Or.inl ⟨i, hi, rfl⟩))
  obtain ⟨rfl, hk, hv⟩ := hw
  have h : (match zzlk ls k with
    | some (.int x) => next (zzset1 k (.int (zzinc x (zzfst aux))) ls) st μ
    | _ => none) = some rr := h
  split at h
  · rename_i x hv2
    obtain ⟨j, hj2⟩ := List.getElem?_of_mem (show (k, Value.int x) ∈ zzlc ad ls from List.mem_map.mpr ⟨(k, .int x), zzlk_mem hv2, rfl⟩)
    exact lv_iinc (v := zzinc x (zzfst aux)) hx hb hdg hl hj2 (by rw [hv]; exact zzinc_eq _ _) hk (zzlc_set1 (ad := ad) (v := .int (zzinc x (zzfst aux)))) (fun lc' hl' => hn _ _ _ h H locs lc' hP hS hl')
  · cases h
set_option maxHeartbeats 400000 in
set_option maxRecDepth 20000 in
theorem zs_dup {rr : zzR} (hX : zzX p s m args meth c cc own nL rk D dA ad A) (hQ : Q = MQ below (zzQ D dA ad A rk rr) args s 0 0 A) {call : Nat → List Value → zzM → Option zzR} (hcall : zzCl l D dA ad P R call)
    {pc len : Nat} {aux : List (Nat × Nat)} (hdg : decode cc pc = .ok (.dup, len)) (hw : zzwd P own nL len pc (.dup) aux) {ls : zzL} {st : List Value} {μ : zzM} {next : zzL → List Value → zzM → Option zzR} {jump : Nat → List Value → Option zzR}
    (h : zzstep call rk (.dup) aux ls st μ next jump = some rr)
    (hn : ∀ ls' st' μ', next ls' st' μ' = some rr → zzW p l e R s m args below meth c Q D dA ad A nL (pc + len) ls' st' μ')
    (hj : ∀ t st', jump t st' = some rr → zzW p l e R s m args below meth c Q D dA ad A nL t ls st' μ) : zzW p l e R s m args below meth c Q D dA ad A nL pc ls st μ := by
  intro H locs lc hP hS hl
  obtain ⟨hx, hb, hml, hown, hts, hK, hnw, hinj, hA, hlocks, hrt⟩ := hX
  have hD : ∀ μ, va_D A (zzworld dA ad μ) := fun μ => zzD_of hinj (fun i hi => hA _ (Or.inl ⟨i, hi, rfl⟩))
  cases hw
  obtain ⟨v, r, he9, hc, h9⟩ := zzdp_s (st := st) (f := fun r => next ls r μ) h
  subst he9
  exact lv_dup hx hb hdg (by rw [zzcv_cat]; exact hc) (hn _ _ _ h9 H locs lc hP hS hl)
set_option maxHeartbeats 400000 in
set_option maxRecDepth 20000 in
theorem zs_dup2 {rr : zzR} (hX : zzX p s m args meth c cc own nL rk D dA ad A) (hQ : Q = MQ below (zzQ D dA ad A rk rr) args s 0 0 A) {call : Nat → List Value → zzM → Option zzR} (hcall : zzCl l D dA ad P R call)
    {pc len : Nat} {aux : List (Nat × Nat)} (hdg : decode cc pc = .ok (.dup2, len)) (hw : zzwd P own nL len pc (.dup2) aux) {ls : zzL} {st : List Value} {μ : zzM} {next : zzL → List Value → zzM → Option zzR} {jump : Nat → List Value → Option zzR}
    (h : zzstep call rk (.dup2) aux ls st μ next jump = some rr)
    (hn : ∀ ls' st' μ', next ls' st' μ' = some rr → zzW p l e R s m args below meth c Q D dA ad A nL (pc + len) ls' st' μ')
    (hj : ∀ t st', jump t st' = some rr → zzW p l e R s m args below meth c Q D dA ad A nL t ls st' μ) : zzW p l e R s m args below meth c Q D dA ad A nL pc ls st μ := by
  intro H locs lc hP hS hl
  obtain ⟨hx, hb, hml, hown, hts, hK, hnw, hinj, hA, hlocks, hrt⟩ := hX
  have hD : ∀ μ, va_D A (zzworld dA ad μ) := fun μ => zzD_of hinj (fun i hi => hA _ (Or.inl ⟨i, hi, rfl⟩))
  cases hw
  obtain ⟨v, w, r, he9, hc, hc2, h9⟩ := zzd2_s (st := st) (f := fun r => next ls r μ) h
  subst he9
  exact lv_dup2_11 hx hb hdg (by rw [zzcv_cat]; exact hc) (by rw [zzcv_cat]; exact hc2) (hn _ _ _ h9 H locs lc hP hS hl)
set_option maxHeartbeats 400000 in
set_option maxRecDepth 20000 in
theorem zs_pop {rr : zzR} (hX : zzX p s m args meth c cc own nL rk D dA ad A) (hQ : Q = MQ below (zzQ D dA ad A rk rr) args s 0 0 A) {call : Nat → List Value → zzM → Option zzR} (hcall : zzCl l D dA ad P R call)
    {pc len : Nat} {aux : List (Nat × Nat)} (hdg : decode cc pc = .ok (.pop, len)) (hw : zzwd P own nL len pc (.pop) aux) {ls : zzL} {st : List Value} {μ : zzM} {next : zzL → List Value → zzM → Option zzR} {jump : Nat → List Value → Option zzR}
    (h : zzstep call rk (.pop) aux ls st μ next jump = some rr)
    (hn : ∀ ls' st' μ', next ls' st' μ' = some rr → zzW p l e R s m args below meth c Q D dA ad A nL (pc + len) ls' st' μ')
    (hj : ∀ t st', jump t st' = some rr → zzW p l e R s m args below meth c Q D dA ad A nL t ls st' μ) : zzW p l e R s m args below meth c Q D dA ad A nL pc ls st μ := by
  intro H locs lc hP hS hl
  obtain ⟨hx, hb, hml, hown, hts, hK, hnw, hinj, hA, hlocks, hrt⟩ := hX
  have hD : ∀ μ, va_D A (zzworld dA ad μ) := fun μ => zzD_of hinj (fun i hi => hA _ (Or.inl ⟨i, hi, rfl⟩))
  cases hw
  obtain ⟨v, r, he9, hc, h9⟩ := zzpo_s h
  subst he9
  exact lv_pop hx hb hdg (by rw [zzcv_cat]; exact hc) (hn _ _ _ h9 H locs lc hP hS hl)
set_option maxHeartbeats 400000 in
set_option maxRecDepth 20000 in
theorem zs_goto {o : Int} {rr : zzR} (hX : zzX p s m args meth c cc own nL rk D dA ad A) (hQ : Q = MQ below (zzQ D dA ad A rk rr) args s 0 0 A) {call : Nat → List Value → zzM → Option zzR} (hcall : zzCl l D dA ad P R call)
    {pc len : Nat} {aux : List (Nat × Nat)} (hdg : decode cc pc = .ok (.goto o, len)) (hw : zzwd P own nL len pc (.goto o) aux) {ls : zzL} {st : List Value} {μ : zzM} {next : zzL → List Value → zzM → Option zzR} {jump : Nat → List Value → Option zzR}
    (h : zzstep call rk (.goto o) aux ls st μ next jump = some rr)
    (hn : ∀ ls' st' μ', next ls' st' μ' = some rr → zzW p l e R s m args below meth c Q D dA ad A nL (pc + len) ls' st' μ')
    (hj : ∀ t st', jump t st' = some rr → zzW p l e R s m args below meth c Q D dA ad A nL t ls st' μ) : zzW p l e R s m args below meth c Q D dA ad A nL pc ls st μ := by
  intro H locs lc hP hS hl
  obtain ⟨hx, hb, hml, hown, hts, hK, hnw, hinj, hA, hlocks, hrt⟩ := hX
  have hD : ∀ μ, va_D A (zzworld dA ad μ) := fun μ => zzD_of hinj (fun i hi => hA _ (Or.inl ⟨i, hi, rfl⟩))
  obtain ⟨rfl, ht⟩ := hw
  exact lv_goto hx hb hdg ht (hj _ _ h H locs lc hP hS hl)
set_option maxHeartbeats 400000 in
set_option maxRecDepth 20000 in
theorem zs_ifCond_eq {o : Int} {rr : zzR} (hX : zzX p s m args meth c cc own nL rk D dA ad A) (hQ : Q = MQ below (zzQ D dA ad A rk rr) args s 0 0 A) {call : Nat → List Value → zzM → Option zzR} (hcall : zzCl l D dA ad P R call)
    {pc len : Nat} {aux : List (Nat × Nat)} (hdg : decode cc pc = .ok (.ifCond .eq o, len)) (hw : zzwd P own nL len pc (.ifCond .eq o) aux) {ls : zzL} {st : List Value} {μ : zzM} {next : zzL → List Value → zzM → Option zzR} {jump : Nat → List Value → Option zzR}
    (h : zzstep call rk (.ifCond .eq o) aux ls st μ next jump = some rr)
    (hn : ∀ ls' st' μ', next ls' st' μ' = some rr → zzW p l e R s m args below meth c Q D dA ad A nL (pc + len) ls' st' μ')
    (hj : ∀ t st', jump t st' = some rr → zzW p l e R s m args below meth c Q D dA ad A nL t ls st' μ) : zzW p l e R s m args below meth c Q D dA ad A nL pc ls st μ := by
  intro H locs lc hP hS hl
  obtain ⟨hx, hb, hml, hown, hts, hK, hnw, hinj, hA, hlocks, hrt⟩ := hX
  have hD : ∀ μ, va_D A (zzworld dA ad μ) := fun μ => zzD_of hinj (fun i hi => hA _ (Or.inl ⟨i, hi, rfl⟩))
  obtain ⟨rfl, ht⟩ := hw
  obtain ⟨x, r, he9, h9⟩ := zzp1_s h
  clear h
  subst he9
  have h := h9
  clear h9
  try dsimp only at h
  split at h
  · rename_i hc
    exact lv_if_eq hx hb hdg ht (fun z => hj _ _ h H locs lc hP hS hl) (fun z => absurd hc z)
  · rename_i hc
    exact lv_if_eq hx hb hdg ht (fun z => absurd z hc) (fun z => hn _ _ _ h H locs lc hP hS hl)
set_option maxHeartbeats 400000 in
set_option maxRecDepth 20000 in
theorem zs_ifCond_ne {o : Int} {rr : zzR} (hX : zzX p s m args meth c cc own nL rk D dA ad A) (hQ : Q = MQ below (zzQ D dA ad A rk rr) args s 0 0 A) {call : Nat → List Value → zzM → Option zzR} (hcall : zzCl l D dA ad P R call)
    {pc len : Nat} {aux : List (Nat × Nat)} (hdg : decode cc pc = .ok (.ifCond .ne o, len)) (hw : zzwd P own nL len pc (.ifCond .ne o) aux) {ls : zzL} {st : List Value} {μ : zzM} {next : zzL → List Value → zzM → Option zzR} {jump : Nat → List Value → Option zzR}
    (h : zzstep call rk (.ifCond .ne o) aux ls st μ next jump = some rr)
    (hn : ∀ ls' st' μ', next ls' st' μ' = some rr → zzW p l e R s m args below meth c Q D dA ad A nL (pc + len) ls' st' μ')
    (hj : ∀ t st', jump t st' = some rr → zzW p l e R s m args below meth c Q D dA ad A nL t ls st' μ) : zzW p l e R s m args below meth c Q D dA ad A nL pc ls st μ := by
  intro H locs lc hP hS hl
  obtain ⟨hx, hb, hml, hown, hts, hK, hnw, hinj, hA, hlocks, hrt⟩ := hX
  have hD : ∀ μ, va_D A (zzworld dA ad μ) := fun μ => zzD_of hinj (fun i hi => hA _ (Or.inl ⟨i, hi, rfl⟩))
  obtain ⟨rfl, ht⟩ := hw
  obtain ⟨x, r, he9, h9⟩ := zzp1_s h
  clear h
  subst he9
  have h := h9
  clear h9
  try dsimp only at h
  split at h
  · rename_i hc
    exact lv_if_ne hx hb hdg ht (fun z => absurd hc z) (fun z => hn _ _ _ h H locs lc hP hS hl)
  · rename_i hc
    exact lv_if_ne hx hb hdg ht (fun z => hj _ _ h H locs lc hP hS hl) (fun z => absurd z hc)
set_option maxHeartbeats 400000 in
set_option maxRecDepth 20000 in
theorem zs_ifCond_lt {o : Int} {rr : zzR} (hX : zzX p s m args meth c cc own nL rk D dA ad A) (hQ : Q = MQ below (zzQ D dA ad A rk rr) args s 0 0 A) {call : Nat → List Value → zzM → Option zzR} (hcall : zzCl l D dA ad P R call)
    {pc len : Nat} {aux : List (Nat × Nat)} (hdg : decode cc pc = .ok (.ifCond .lt o, len)) (hw : zzwd P own nL len pc (.ifCond .lt o) aux) {ls : zzL} {st : List Value} {μ : zzM} {next : zzL → List Value → zzM → Option zzR} {jump : Nat → List Value → Option zzR}
    (h : zzstep call rk (.ifCond .lt o) aux ls st μ next jump = some rr)
    (hn : ∀ ls' st' μ', next ls' st' μ' = some rr → zzW p l e R s m args below meth c Q D dA ad A nL (pc + len) ls' st' μ')
    (hj : ∀ t st', jump t st' = some rr → zzW p l e R s m args below meth c Q D dA ad A nL t ls st' μ) : zzW p l e R s m args below meth c Q D dA ad A nL pc ls st μ := by
  intro H locs lc hP hS hl
  obtain ⟨hx, hb, hml, hown, hts, hK, hnw, hinj, hA, hlocks, hrt⟩ := hX
  have hD : ∀ μ, va_D A (zzworld dA ad μ) := fun μ => zzD_of hinj (fun i hi => hA _ (Or.inl ⟨i, hi, rfl⟩))
  obtain ⟨rfl, ht⟩ := hw
  obtain ⟨x, r, he9, h9⟩ := zzp1_s h
  clear h
  subst he9
  have h := h9
  clear h9
  try dsimp only at h
  split at h
  · rename_i hc
    exact lv_if_lt hx hb hdg ht (fun z => hj _ _ h H locs lc hP hS hl) (fun z => absurd hc z)
  · rename_i hc
    exact lv_if_lt hx hb hdg ht (fun z => absurd z hc) (fun z => hn _ _ _ h H locs lc hP hS hl)
set_option maxHeartbeats 400000 in
set_option maxRecDepth 20000 in
theorem zs_ifCond_ge {o : Int} {rr : zzR} (hX : zzX p s m args meth c cc own nL rk D dA ad A) (hQ : Q = MQ below (zzQ D dA ad A rk rr) args s 0 0 A) {call : Nat → List Value → zzM → Option zzR} (hcall : zzCl l D dA ad P R call)
    {pc len : Nat} {aux : List (Nat × Nat)} (hdg : decode cc pc = .ok (.ifCond .ge o, len)) (hw : zzwd P own nL len pc (.ifCond .ge o) aux) {ls : zzL} {st : List Value} {μ : zzM} {next : zzL → List Value → zzM → Option zzR} {jump : Nat → List Value → Option zzR}
    (h : zzstep call rk (.ifCond .ge o) aux ls st μ next jump = some rr)
    (hn : ∀ ls' st' μ', next ls' st' μ' = some rr → zzW p l e R s m args below meth c Q D dA ad A nL (pc + len) ls' st' μ')
    (hj : ∀ t st', jump t st' = some rr → zzW p l e R s m args below meth c Q D dA ad A nL t ls st' μ) : zzW p l e R s m args below meth c Q D dA ad A nL pc ls st μ := by
  intro H locs lc hP hS hl
  obtain ⟨hx, hb, hml, hown, hts, hK, hnw, hinj, hA, hlocks, hrt⟩ := hX
  have hD : ∀ μ, va_D A (zzworld dA ad μ) := fun μ => zzD_of hinj (fun i hi => hA _ (Or.inl ⟨i, hi, rfl⟩))
  obtain ⟨rfl, ht⟩ := hw
  obtain ⟨x, r, he9, h9⟩ := zzp1_s h
  clear h
  subst he9
  have h := h9
  clear h9
  try dsimp only at h
  split at h
  · rename_i hc
    exact lv_if_ge hx hb hdg ht (fun z => hj _ _ h H locs lc hP hS hl) (fun z => absurd hc z)
  · rename_i hc
    exact lv_if_ge hx hb hdg ht (fun z => absurd z hc) (fun z => hn _ _ _ h H locs lc hP hS hl)
set_option maxHeartbeats 400000 in
set_option maxRecDepth 20000 in
theorem zs_ifCond_gt {o : Int} {rr : zzR} (hX : zzX p s m args meth c cc own nL rk D dA ad A) (hQ : Q = MQ below (zzQ D dA ad A rk rr) args s 0 0 A) {call : Nat → List Value → zzM → Option zzR} (hcall : zzCl l D dA ad P R call)
    {pc len : Nat} {aux : List (Nat × Nat)} (hdg : decode cc pc = .ok (.ifCond .gt o, len)) (hw : zzwd P own nL len pc (.ifCond .gt o) aux) {ls : zzL} {st : List Value} {μ : zzM} {next : zzL → List Value → zzM → Option zzR} {jump : Nat → List Value → Option zzR}
    (h : zzstep call rk (.ifCond .gt o) aux ls st μ next jump = some rr)
    (hn : ∀ ls' st' μ', next ls' st' μ' = some rr → zzW p l e R s m args below meth c Q D dA ad A nL (pc + len) ls' st' μ')
    (hj : ∀ t st', jump t st' = some rr → zzW p l e R s m args below meth c Q D dA ad A nL t ls st' μ) : zzW p l e R s m args below meth c Q D dA ad A nL pc ls st μ := by
  intro H locs lc hP hS hl
  obtain ⟨hx, hb, hml, hown, hts, hK, hnw, hinj, hA, hlocks, hrt⟩ := hX
  have hD : ∀ μ, va_D A (zzworld dA ad μ) := fun μ => zzD_of hinj (fun i hi => hA _ (Or.inl ⟨i, hi, rfl⟩))
  obtain ⟨rfl, ht⟩ := hw
  obtain ⟨x, r, he9, h9⟩ := zzp1_s h
  clear h
  subst he9
  have h := h9
  clear h9
  try dsimp only at h
  split at h
  · rename_i hc
    exact lv_if_gt hx hb hdg ht (fun z => hj _ _ h H locs lc hP hS hl) (fun z => absurd hc z)
  · rename_i hc
    exact lv_if_gt hx hb hdg ht (fun z => absurd z hc) (fun z => hn _ _ _ h H locs lc hP hS hl)
set_option maxHeartbeats 400000 in
set_option maxRecDepth 20000 in
theorem zs_ifCond_le {o : Int} {rr : zzR} (hX : zzX p s m args meth c cc own nL rk D dA ad A) (hQ : Q = MQ below (zzQ D dA ad A rk rr) args s 0 0 A) {call : Nat → List Value → zzM → Option zzR} (hcall : zzCl l D dA ad P R call)
    {pc len : Nat} {aux : List (Nat × Nat)} (hdg : decode cc pc = .ok (.ifCond .le o, len)) (hw : zzwd P own nL len pc (.ifCond .le o) aux) {ls : zzL} {st : List Value} {μ : zzM} {next : zzL → List Value → zzM → Option zzR} {jump : Nat → List Value → Option zzR}
    (h : zzstep call rk (.ifCond .le o) aux ls st μ next jump = some rr)
    (hn : ∀ ls' st' μ', next ls' st' μ' = some rr → zzW p l e R s m args below meth c Q D dA ad A nL (pc + len) ls' st' μ')
    (hj : ∀ t st', jump t st' = some rr → zzW p l e R s m args below meth c Q D dA ad A nL t ls st' μ) : zzW p l e R s m args below meth c Q D dA ad A nL pc ls st μ := by
  intro H locs lc hP hS hl
  obtain ⟨hx, hb, hml, hown, hts, hK, hnw, hinj, hA, hlocks, hrt⟩ := hX
  have hD : ∀ μ, va_D A (zzworld dA ad μ) := fun μ => zzD_of hinj (fun i hi => hA _ (Or.inl ⟨i, hi, rfl⟩))
  obtain ⟨rfl, ht⟩ := hw
  obtain ⟨x, r, he9, h9⟩ := zzp1_s h
  clear h
  subst he9
  have h := h9
  clear h9
  try dsimp only at h
  split at h
  · rename_i hc
    exact lv_if_le hx hb hdg ht (fun z => hj _ _ h H locs lc hP hS hl) (fun z => absurd hc z)
  · rename_i hc
    exact lv_if_le hx hb hdg ht (fun z => absurd z hc) (fun z => hn _ _ _ h H locs lc hP hS hl)
set_option maxHeartbeats 400000 in
set_option maxRecDepth 20000 in
theorem zs_if_icmp_eq {o : Int} {rr : zzR} (hX : zzX p s m args meth c cc own nL rk D dA ad A) (hQ : Q = MQ below (zzQ D dA ad A rk rr) args s 0 0 A) {call : Nat → List Value → zzM → Option zzR} (hcall : zzCl l D dA ad P R call)
    {pc len : Nat} {aux : List (Nat × Nat)} (hdg : decode cc pc = .ok (.if_icmp .eq o, len)) (hw : zzwd P own nL len pc (.if_icmp .eq o) aux) {ls : zzL} {st : List Value} {μ : zzM} {next : zzL → List Value → zzM → Option zzR} {jump : Nat → List Value → Option zzR}
    (h : zzstep call rk (.if_icmp .eq o) aux ls st μ next jump = some rr)
    (hn : ∀ ls' st' μ', next ls' st' μ' = some rr → zzW p l e R s m args below meth c Q D dA ad A nL (pc + len) ls' st' μ')
    (hj : ∀ t st', jump t st' = some rr → zzW p l e R s m args below meth c Q D dA ad A nL t ls st' μ) : zzW p l e R s m args below meth c Q D dA ad A nL pc ls st μ := by
  intro H locs lc hP hS hl
  obtain ⟨hx, hb, hml, hown, hts, hK, hnw, hinj, hA, hlocks, hrt⟩ := hX
  have hD : ∀ μ, va_D A (zzworld dA ad μ) := fun μ => zzD_of hinj (fun i hi => hA _ (Or.inl ⟨i, hi, rfl⟩))
  obtain ⟨rfl, ht⟩ := hw
  obtain ⟨x, y, r, he9, h9⟩ := zzp2_s h
  clear h
  subst he9
  have h := h9
  clear h9
  try dsimp only at h
  split at h
  · rename_i hc
    exact lv_icmp_eq hx hb hdg ht (fun z => hj _ _ h H locs lc hP hS hl) (fun z => absurd hc z)
  · rename_i hc
    exact lv_icmp_eq hx hb hdg ht (fun z => absurd z hc) (fun z => hn _ _ _ h H locs lc hP hS hl)
set_option maxHeartbeats 400000 in
set_option maxRecDepth 20000 in
theorem zs_if_icmp_ne {o : Int} {rr : zzR} (hX : zzX p s m args meth c cc own nL rk D dA ad A) (hQ : Q = MQ below (zzQ D dA ad A rk rr) args s 0 0 A) {call : Nat → List Value → zzM → Option zzR} (hcall : zzCl l D dA ad P R call)
    {pc len : Nat} {aux : List (Nat × Nat)} (hdg : decode cc pc = .ok (.if_icmp .ne o, len)) (hw : zzwd P own nL len pc (.if_icmp .ne o) aux) {ls : zzL} {st : List Value} {μ : zzM} {next : zzL → List Value → zzM → Option zzR} {jump : Nat → List Value → Option zzR}
    (h : zzstep call rk (.if_icmp .ne o) aux ls st μ next jump = some rr)
    (hn : ∀ ls' st' μ', next ls' st' μ' = some rr → zzW p l e R s m args below meth c Q D dA ad A nL (pc + len) ls' st' μ')
    (hj : ∀ t st', jump t st' = some rr → zzW p l e R s m args below meth c Q D dA ad A nL t ls st' μ) : zzW p l e R s m args below meth c Q D dA ad A nL pc ls st μ := by
  intro H locs lc hP hS hl
  obtain ⟨hx, hb, hml, hown, hts, hK, hnw, hinj, hA, hlocks, hrt⟩ := hX
  have hD : ∀ μ, va_D A (zzworld dA ad μ) := fun μ => zzD_of hinj (fun i hi => hA _ (Or.inl ⟨i, hi, rfl⟩))
  obtain ⟨rfl, ht⟩ := hw
  obtain ⟨x, y, r, he9, h9⟩ := zzp2_s h
  clear h
  subst he9
  have h := h9
  clear h9
  try dsimp only at h
  split at h
  · rename_i hc
    exact lv_icmp_ne hx hb hdg ht (fun z => absurd hc z) (fun z => hn _ _ _ h H locs lc hP hS hl)
  · rename_i hc
    exact lv_icmp_ne hx hb hdg ht (fun z => hj _ _ h H locs lc hP hS hl) (fun z => absurd z hc)
set_option maxHeartbeats 400000 in
set_option maxRecDepth 20000 in
theorem zs_if_icmp_lt {o : Int} {rr : zzR} (hX : zzX p s m args meth c cc own nL rk D dA ad A) (hQ : Q = MQ below (zzQ D dA ad A rk rr) args s 0 0 A) {call : Nat → List Value → zzM → Option zzR} (hcall : zzCl l D dA ad P R call)
    {pc len : Nat} {aux : List (Nat × Nat)} (hdg : decode cc pc = .ok (.if_icmp .lt o, len)) (hw : zzwd P own nL len pc (.if_icmp .lt o) aux) {ls : zzL} {st : List Value} {μ : zzM} {next : zzL → List Value → zzM → Option zzR} {jump : Nat → List Value → Option zzR}
    (h : zzstep call rk (.if_icmp .lt o) aux ls st μ next jump = some rr)
    (hn : ∀ ls' st' μ', next ls' st' μ' = some rr → zzW p l e R s m args below meth c Q D dA ad A nL (pc + len) ls' st' μ')
    (hj : ∀ t st', jump t st' = some rr → zzW p l e R s m args below meth c Q D dA ad A nL t ls st' μ) : zzW p l e R s m args below meth c Q D dA ad A nL pc ls st μ := by
  intro H locs lc hP hS hl
  obtain ⟨hx, hb, hml, hown, hts, hK, hnw, hinj, hA, hlocks, hrt⟩ := hX
  have hD : ∀ μ, va_D A (zzworld dA ad μ) := fun μ => zzD_of hinj (fun i hi => hA _ (Or.inl ⟨i, hi, rfl⟩))
  obtain ⟨rfl, ht⟩ := hw
  obtain ⟨x, y, r, he9, h9⟩ := zzp2_s h
  clear h
  subst he9
  have h := h9
  clear h9
  try dsimp only at h
  split at h
  · rename_i hc
    exact lv_icmp_lt hx hb hdg ht (fun z => hj _ _ h H locs lc hP hS hl) (fun z => absurd hc z)
  · rename_i hc
    exact lv_icmp_lt hx hb hdg ht (fun z => absurd z hc) (fun z => hn _ _ _ h H locs lc hP hS hl)
set_option maxHeartbeats 400000 in
set_option maxRecDepth 20000 in
theorem zs_if_icmp_ge {o : Int} {rr : zzR} (hX : zzX p s m args meth c cc own nL rk D dA ad A) (hQ : Q = MQ below (zzQ D dA ad A rk rr) args s 0 0 A) {call : Nat → List Value → zzM → Option zzR} (hcall : zzCl l D dA ad P R call)
    {pc len : Nat} {aux : List (Nat × Nat)} (hdg : decode cc pc = .ok (.if_icmp .ge o, len)) (hw : zzwd P own nL len pc (.if_icmp .ge o) aux) {ls : zzL} {st : List Value} {μ : zzM} {next : zzL → List Value → zzM → Option zzR} {jump : Nat → List Value → Option zzR}
    (h : zzstep call rk (.if_icmp .ge o) aux ls st μ next jump = some rr)
    (hn : ∀ ls' st' μ', next ls' st' μ' = some rr → zzW p l e R s m args below meth c Q D dA ad A nL (pc + len) ls' st' μ')
    (hj : ∀ t st', jump t st' = some rr → zzW p l e R s m args below meth c Q D dA ad A nL t ls st' μ) : zzW p l e R s m args below meth c Q D dA ad A nL pc ls st μ := by
  intro H locs lc hP hS hl
  obtain ⟨hx, hb, hml, hown, hts, hK, hnw, hinj, hA, hlocks, hrt⟩ := hX
  have hD : ∀ μ, va_D A (zzworld dA ad μ) := fun μ => zzD_of hinj (fun i hi => hA _ (Or.inl ⟨i, hi, rfl⟩))
  obtain ⟨rfl, ht⟩ := hw
  obtain ⟨x, y, r, he9, h9⟩ := zzp2_s h
  clear h
  subst he9
  have h := h9
  clear h9
  try dsimp only at h
  split at h
  · rename_i hc
    exact lv_icmp_ge hx hb hdg ht (fun z => hj _ _ h H locs lc hP hS hl) (fun z => absurd hc z)
  · rename_i hc
    exact lv_icmp_ge hx hb hdg ht (fun z => absurd z hc) (fun z => hn _ _ _ h H locs lc hP hS hl)
set_option maxHeartbeats 400000 in
set_option maxRecDepth 20000 in
theorem zs_if_icmp_gt {o : Int} {rr : zzR} (hX : zzX p s m args meth c cc own nL rk D dA ad A) (hQ : Q = MQ below (zzQ D dA ad A rk rr) args s 0 0 A) {call : Nat → List Value → zzM → Option zzR} (hcall : zzCl l D dA ad P R call)
    {pc len : Nat} {aux : List (Nat × Nat)} (hdg : decode cc pc = .ok (.if_icmp .gt o, len)) (hw : zzwd P own nL len pc (.if_icmp .gt o) aux) {ls : zzL} {st : List Value} {μ : zzM} {next : zzL → List Value → zzM → Option zzR} {jump : Nat → List Value → Option zzR}
    (h : zzstep call rk (.if_icmp .gt o) aux ls st μ next jump = some rr)
    (hn : ∀ ls' st' μ', next ls' st' μ' = some rr → zzW p l e R s m args below meth c Q D dA ad A nL (pc + len) ls' st' μ')
    (hj : ∀ t st', jump t st' = some rr → zzW p l e R s m args below meth c Q D dA ad A nL t ls st' μ) : zzW p l e R s m args below meth c Q D dA ad A nL pc ls st μ := by
  intro H locs lc hP hS hl
  obtain ⟨hx, hb, hml, hown, hts, hK, hnw, hinj, hA, hlocks, hrt⟩ := hX
  have hD : ∀ μ, va_D A (zzworld dA ad μ) := fun μ => zzD_of hinj (fun i hi => hA _ (Or.inl ⟨i, hi, rfl⟩))
  obtain ⟨rfl, ht⟩ := hw
  obtain ⟨x, y, r, he9, h9⟩ := zzp2_s h
  clear h
  subst he9
  have h := h9
  clear h9
  try dsimp only at h
  split at h
  · rename_i hc
    exact lv_icmp_gt hx hb hdg ht (fun z => hj _ _ h H locs lc hP hS hl) (fun z => absurd hc z)
  · rename_i hc
    exact lv_icmp_gt hx hb hdg ht (fun z => absurd z hc) (fun z => hn _ _ _ h H locs lc hP hS hl)
set_option maxHeartbeats 400000 in
set_option maxRecDepth 20000 in
theorem zs_if_icmp_le {o : Int} {rr : zzR} (hX : zzX p s m args meth c cc own nL rk D dA ad A) (hQ : Q = MQ below (zzQ D dA ad A rk rr) args s 0 0 A) {call : Nat → List Value → zzM → Option zzR} (hcall : zzCl l D dA ad P R call)
    {pc len : Nat} {aux : List (Nat × Nat)} (hdg : decode cc pc = .ok (.if_icmp .le o, len)) (hw : zzwd P own nL len pc (.if_icmp .le o) aux) {ls : zzL} {st : List Value} {μ : zzM} {next : zzL → List Value → zzM → Option zzR} {jump : Nat → List Value → Option zzR}
    (h : zzstep call rk (.if_icmp .le o) aux ls st μ next jump = some rr)
    (hn : ∀ ls' st' μ', next ls' st' μ' = some rr → zzW p l e R s m args below meth c Q D dA ad A nL (pc + len) ls' st' μ')
    (hj : ∀ t st', jump t st' = some rr → zzW p l e R s m args below meth c Q D dA ad A nL t ls st' μ) : zzW p l e R s m args below meth c Q D dA ad A nL pc ls st μ := by
  intro H locs lc hP hS hl
  obtain ⟨hx, hb, hml, hown, hts, hK, hnw, hinj, hA, hlocks, hrt⟩ := hX
  have hD : ∀ μ, va_D A (zzworld dA ad μ) := fun μ => zzD_of hinj (fun i hi => hA _ (Or.inl ⟨i, hi, rfl⟩))
  obtain ⟨rfl, ht⟩ := hw
  obtain ⟨x, y, r, he9, h9⟩ := zzp2_s h
  clear h
  subst he9
  have h := h9
  clear h9
  try dsimp only at h
  split at h
  · rename_i hc
    exact lv_icmp_le hx hb hdg ht (fun z => hj _ _ h H locs lc hP hS hl) (fun z => absurd hc z)
  · rename_i hc
    exact lv_icmp_le hx hb hdg ht (fun z => absurd z hc) (fun z => hn _ _ _ h H locs lc hP hS hl)
set_option maxHeartbeats 400000 in
set_option maxRecDepth 20000 in
theorem zs_tableswitch {d : Int} {lo : Int} {hi : Int} {os : Array Int} {rr : zzR} (hX : zzX p s m args meth c cc own nL rk D dA ad A) (hQ : Q = MQ below (zzQ D dA ad A rk rr) args s 0 0 A) {call : Nat → List Value → zzM → Option zzR} (hcall : zzCl l D dA ad P R call)
    {pc len : Nat} {aux : List (Nat × Nat)} (hdg : decode cc pc = .ok (.tableswitch d lo hi os, len)) (hw : zzwd P own nL len pc (.tableswitch d lo hi os) aux) {ls : zzL} {st : List Value} {μ : zzM} {next : zzL → List Value → zzM → Option zzR} {jump : Nat → List Value → Option zzR}
    (h : zzstep call rk (.tableswitch d lo hi os) aux ls st μ next jump = some rr)
    (hn : ∀ ls' st' μ', next ls' st' μ' = some rr → zzW p l e R s m args below meth c Q D dA ad A nL (pc + len) ls' st' μ')
    (hj : ∀ t st', jump t st' = some rr → zzW p l e R s m args below meth c Q D dA ad A nL t ls st' μ) : zzW p l e R s m args below meth c Q D dA ad A nL pc ls st μ := by
  intro H locs lc hP hS hl
  obtain ⟨hx, hb, hml, hown, hts, hK, hnw, hinj, hA, hlocks, hrt⟩ := hX
  have hD : ∀ μ, va_D A (zzworld dA ad μ) := fun μ => zzD_of hinj (fun i hi => hA _ (Or.inl ⟨i, hi, rfl⟩))
  obtain ⟨ht, htab, hlo, hhi, hsz⟩ := hw
  obtain ⟨x, r, he9, h9⟩ := zzp1_s h
  clear h
  subst he9
  have h := h9
  clear h9
  try dsimp only at h
  rcases zzsw_tab _ _ _ htab h with ⟨j, o, t, e1, e2, e3, g⟩ | ⟨e1, g⟩
  · have hjl : j < os.toList.length := (List.getElem?_eq_some_iff.mp e2).1
    rw [Array.length_toList] at hjl
    have hxi : x.toInt = ((lo.toNat + j : Nat) : Int) := by rw [e1]; exact nI_toInt (by omega)
    refine lv_tableIn hx hb hdg (off := o) (by omega) (by omega) ?_ e3 (hj _ _ g H locs lc hP hS hl)
    rw [show (x.toInt - lo).toNat = j by omega, ← Array.getElem?_toList]
    exact e2
  · refine lv_tableOut hx hb hdg ?_ ht (hj _ _ g H locs lc hP hS hl)
    by_cases z1 : x.toInt < lo
    · exact Or.inl z1
    · refine Or.inr ?_
      by_cases z2 : hi < x.toInt
      · exact z2
      · refine absurd ?_ (e1 (x.toInt - lo).toNat (by rw [Array.length_toList]; omega))
        apply Int32.toInt_inj.mp
        rw [nI_toInt (by omega)]
        omega
set_option maxHeartbeats 400000 in
set_option maxRecDepth 20000 in
theorem zs_lookupswitch {d : Int} {ps : Array (Int × Int)} {rr : zzR} (hX : zzX p s m args meth c cc own nL rk D dA ad A) (hQ : Q = MQ below (zzQ D dA ad A rk rr) args s 0 0 A) {call : Nat → List Value → zzM → Option zzR} (hcall : zzCl l D dA ad P R call)
    {pc len : Nat} {aux : List (Nat × Nat)} (hdg : decode cc pc = .ok (.lookupswitch d ps, len)) (hw : zzwd P own nL len pc (.lookupswitch d ps) aux) {ls : zzL} {st : List Value} {μ : zzM} {next : zzL → List Value → zzM → Option zzR} {jump : Nat → List Value → Option zzR}
    (h : zzstep call rk (.lookupswitch d ps) aux ls st μ next jump = some rr)
    (hn : ∀ ls' st' μ', next ls' st' μ' = some rr → zzW p l e R s m args below meth c Q D dA ad A nL (pc + len) ls' st' μ')
    (hj : ∀ t st', jump t st' = some rr → zzW p l e R s m args below meth c Q D dA ad A nL t ls st' μ) : zzW p l e R s m args below meth c Q D dA ad A nL pc ls st μ := by
  intro H locs lc hP hS hl
  obtain ⟨hx, hb, hml, hown, hts, hK, hnw, hinj, hA, hlocks, hrt⟩ := hX
  have hD : ∀ μ, va_D A (zzworld dA ad μ) := fun μ => zzD_of hinj (fun i hi => hA _ (Or.inl ⟨i, hi, rfl⟩))
  obtain ⟨ht, htab, hz⟩ := hw
  obtain ⟨x, r, he9, h9⟩ := zzp1_s h
  clear h
  subst he9
  have h := h9
  clear h9
  try dsimp only at h
  obtain ⟨t, e1, g⟩ := zzsw_lkp ht _ _ htab h
  exact lv_lookup hx hb hdg hz rfl e1 (hj _ _ g H locs lc hP hS hl)
set_option maxHeartbeats 400000 in
set_option maxRecDepth 20000 in
theorem zs_getfield {j : Nat} {rr : zzR} (hX : zzX p s m args meth c cc own nL rk D dA ad A) (hQ : Q = MQ below (zzQ D dA ad A rk rr) args s 0 0 A) {call : Nat → List Value → zzM → Option zzR} (hcall : zzCl l D dA ad P R call)
    {pc len : Nat} {aux : List (Nat × Nat)} (hdg : decode cc pc = .ok (.getfield j, len)) (hw : zzwd P own nL len pc (.getfield j) aux) {ls : zzL} {st : List Value} {μ : zzM} {next : zzL → List Value → zzM → Option zzR} {jump : Nat → List Value → Option zzR}
    (h : zzstep call rk (.getfield j) aux ls st μ next jump = some rr)
    (hn : ∀ ls' st' μ', next ls' st' μ' = some rr → zzW p l e R s m args below meth c Q D dA ad A nL (pc + len) ls' st' μ')
    (hj : ∀ t st', jump t st' = some rr → zzW p l e R s m args below meth c Q D dA ad A nL t ls st' μ) : zzW p l e R s m args below meth c Q D dA ad A nL pc ls st μ := by
  intro H locs lc hP hS hl
  obtain ⟨hx, hb, hml, hown, hts, hK, hnw, hinj, hA, hlocks, hrt⟩ := hX
  have hD : ∀ μ, va_D A (zzworld dA ad μ) := fun μ => zzD_of hinj (fun i hi => hA _ (Or.inl ⟨i, hi, rfl⟩))
  obtain ⟨rfl, q, hq, hk, hlk⟩ := hw
  obtain ⟨a, r, he9, h9⟩ := zza1_s h
  clear h
  subst he9
  have h := h9
  clear h9
  try dsimp only at h
  obtain ⟨fs, ka, kb, hc, hf, h⟩ := zzfd_s h
  obtain ⟨ty, hty, hnm, hin⟩ := zzcls _ _ hq
  have he := zzworld_at (dA := dA) (ad := ad) (μ := μ) hc
  have hv : (fs.mapIdx fun k x => zzfv ad μ a k x)[(zzfst aux).2]? = some (zzfv ad μ a (zzfst aux).2 (ka, kb)) := by
    rw [List.getElem?_mapIdx, hf]; rfl
  refine va_get (C := q.1) (T := q.2.1) (N := q.2.2) hx hb hts hin hown hK hP a he hq (zzfst aux).2 hk (hts _ hlk) (fun _ h9 => h9) hv hdg ?_
  try dsimp only at h
  split at h
  · exact hn _ _ _ h H locs lc hP hS hl
  · exact hn _ _ _ h H locs lc hP hS hl
  · exact hn _ _ _ h H locs lc hP hS hl
  · rename_i h0 h1 h2
    have : zzfv ad μ a (zzfst aux).2 (ka, kb) = .ref (ad kb) := by
      unfold zzfv
      split
      next hz => exact (h0 hz).elim
      next hz => exact (h1 hz).elim
      next hz => exact (h2 hz).elim
      next => rfl
    rw [this]
    exact hn _ _ _ h H locs lc hP hS hl
set_option maxHeartbeats 400000 in
set_option maxRecDepth 20000 in
theorem zs_putfield {j : Nat} {rr : zzR} (hX : zzX p s m args meth c cc own nL rk D dA ad A) (hQ : Q = MQ below (zzQ D dA ad A rk rr) args s 0 0 A) {call : Nat → List Value → zzM → Option zzR} (hcall : zzCl l D dA ad P R call)
    {pc len : Nat} {aux : List (Nat × Nat)} (hdg : decode cc pc = .ok (.putfield j, len)) (hw : zzwd P own nL len pc (.putfield j) aux) {ls : zzL} {st : List Value} {μ : zzM} {next : zzL → List Value → zzM → Option zzR} {jump : Nat → List Value → Option zzR}
    (h : zzstep call rk (.putfield j) aux ls st μ next jump = some rr)
    (hn : ∀ ls' st' μ', next ls' st' μ' = some rr → zzW p l e R s m args below meth c Q D dA ad A nL (pc + len) ls' st' μ')
    (hj : ∀ t st', jump t st' = some rr → zzW p l e R s m args below meth c Q D dA ad A nL t ls st' μ) : zzW p l e R s m args below meth c Q D dA ad A nL pc ls st μ := by
  intro H locs lc hP hS hl
  obtain ⟨hx, hb, hml, hown, hts, hK, hnw, hinj, hA, hlocks, hrt⟩ := hX
  have hD : ∀ μ, va_D A (zzworld dA ad μ) := fun μ => zzD_of hinj (fun i hi => hA _ (Or.inl ⟨i, hi, rfl⟩))
  obtain ⟨rfl, q, hq, hk, hlk, hfin⟩ := hw
  obtain ⟨ty, hty, hnm, hin⟩ := zzcls _ _ hq
  rcases zzpf_s h with ⟨a, v, r, he9, h9⟩ | ⟨a, v, r, he9, h9⟩
  · clear h
    subst he9
    have h := h9
    clear h9
    obtain ⟨fs, ka, kb, hc, hf, h⟩ := zzfd_s h
    have he := zzworld_at (dA := dA) (ad := ad) (μ := μ) hc
    have hkd := zzkd_at hc hq hf
    have hlen : (zzfst aux).2 < (fs.mapIdx fun k x => zzfv ad μ a k x).length := by rw [List.length_mapIdx]; exact (List.getElem?_eq_some_iff.mp hf).1
    have hset : (ka = 0 ∨ ka = 1) → (zzworld dA ad μ).set a (ad a, .inr ((zzfst aux).1, (fs.mapIdx fun k x => zzfv ad μ a k x).set (zzfst aux).2 (.int v))) = zzworld dA ad (zzwI μ a (zzfst aux).2 v) := by
      intro hka
      refine zzset_eq hc ?_ (fun j d' hne => zzcell_wI j d' hne)
      show (Sum.inr ((zzfst aux).1, fs.mapIdx fun k x => zzfv ad (zzwI μ a (zzfst aux).2 v) a k x) : va_E) = _
      rw [zzput_fs hf]
      · rcases hka with rfl | rfl <;> (show Value.int (if a = a ∧ (zzfst aux).2 = (zzfst aux).2 then v else _) = _; rw [if_pos ⟨rfl, rfl⟩])
      · intro k' q' hne
        have : (zzwI μ a (zzfst aux).2 v).1 a k' = μ.1 a k' := by
          show (if a = a ∧ k' = (zzfst aux).2 then v else _) = _
          rw [if_neg (fun z => hne z.2)]
        unfold zzfv
        rw [this]
        rfl
    try dsimp only at h
    split at h
    · exact va_put (C := q.1) (T := q.2.1) (N := q.2.2) (ty := .int) (v := .int v) hx hb hts hin ty hty hnm hown hK hP (hD μ) hS a he hq (zzfst aux).2 hk (hts _ hlk) (fun _ h9 => h9) hfin (zzkd0 hkd) rfl rfl hlen hdg (fun H1 locs1 hP1 _ hS1 => hn _ _ _ h H1 locs1 lc (by rw [hset (Or.inl rfl)] at hP1; exact hP1) hS1 hl)
    · split at h
      · rename_i hv
        exact va_put (C := q.1) (T := q.2.1) (N := q.2.2) (ty := .boolean) (v := .int v) hx hb hts hin ty hty hnm hown hK hP (hD μ) hS a he hq (zzfst aux).2 hk (hts _ hlk) (fun _ h9 => h9) hfin (zzkd1 hkd) (zznarB hv) (zzfitB hv) hlen hdg (fun H1 locs1 hP1 _ hS1 => hn _ _ _ h H1 locs1 lc (by rw [hset (Or.inr rfl)] at hP1; exact hP1) hS1 hl)
      · cases h
    · cases h
  · clear h
    subst he9
    have h := h9
    clear h9
    obtain ⟨fs, ka, kb, hc, hf, h⟩ := zzfd_s h
    have he := zzworld_at (dA := dA) (ad := ad) (μ := μ) hc
    have hkd := zzkd_at hc hq hf
    have hlen : (zzfst aux).2 < (fs.mapIdx fun k x => zzfv ad μ a k x).length := by rw [List.length_mapIdx]; exact (List.getElem?_eq_some_iff.mp hf).1
    try dsimp only at h
    split at h
    · have hset : (zzworld dA ad μ).set a (ad a, .inr ((zzfst aux).1, (fs.mapIdx fun k x => zzfv ad μ a k x).set (zzfst aux).2 (.long v))) = zzworld dA ad (zzwL μ a (zzfst aux).2 v) := by
        refine zzset_eq hc ?_ (fun j d' hne => zzcell_wL j d' hne)
        show (Sum.inr ((zzfst aux).1, fs.mapIdx fun k x => zzfv ad (zzwL μ a (zzfst aux).2 v) a k x) : va_E) = _
        rw [zzput_fs hf]
        · show Value.long (if a = a ∧ (zzfst aux).2 = (zzfst aux).2 then v else _) = _
          rw [if_pos ⟨rfl, rfl⟩]
        · intro k' q' hne
          have : (zzwL μ a (zzfst aux).2 v).2 a k' = μ.2 a k' := by
            show (if a = a ∧ k' = (zzfst aux).2 then v else _) = _
            rw [if_neg (fun z => hne z.2)]
          unfold zzfv
          rw [this]
          rfl
      exact va_put (C := q.1) (T := q.2.1) (N := q.2.2) (ty := .long) (v := .long v) hx hb hts hin ty hty hnm hown hK hP (hD μ) hS a he hq (zzfst aux).2 hk (hts _ hlk) (fun _ h9 => h9) hfin (zzkd2 hkd) rfl rfl hlen hdg (fun H1 locs1 hP1 _ hS1 => hn _ _ _ h H1 locs1 lc (by rw [hset] at hP1; exact hP1) hS1 hl)
    · cases h
set_option maxHeartbeats 400000 in
set_option maxRecDepth 20000 in
theorem zs_arraylength {rr : zzR} (hX : zzX p s m args meth c cc own nL rk D dA ad A) (hQ : Q = MQ below (zzQ D dA ad A rk rr) args s 0 0 A) {call : Nat → List Value → zzM → Option zzR} (hcall : zzCl l D dA ad P R call)
    {pc len : Nat} {aux : List (Nat × Nat)} (hdg : decode cc pc = .ok (.arraylength, len)) (hw : zzwd P own nL len pc (.arraylength) aux) {ls : zzL} {st : List Value} {μ : zzM} {next : zzL → List Value → zzM → Option zzR} {jump : Nat → List Value → Option zzR}
    (h : zzstep call rk (.arraylength) aux ls st μ next jump = some rr)
    (hn : ∀ ls' st' μ', next ls' st' μ' = some rr → zzW p l e R s m args below meth c Q D dA ad A nL (pc + len) ls' st' μ')
    (hj : ∀ t st', jump t st' = some rr → zzW p l e R s m args below meth c Q D dA ad A nL t ls st' μ) : zzW p l e R s m args below meth c Q D dA ad A nL pc ls st μ := by
  intro H locs lc hP hS hl
  obtain ⟨hx, hb, hml, hown, hts, hK, hnw, hinj, hA, hlocks, hrt⟩ := hX
  have hD : ∀ μ, va_D A (zzworld dA ad μ) := fun μ => zzD_of hinj (fun i hi => hA _ (Or.inl ⟨i, hi, rfl⟩))
  cases hw
  obtain ⟨a, r, he9, h9⟩ := zza1_s h
  clear h
  subst he9
  have h := h9
  clear h9
  try dsimp only at h
  obtain ⟨k, n, ts, hc, h⟩ := zzar_s h
  have he := zzworld_at (dA := dA) (ad := ad) (μ := μ) hc
  obtain ⟨ty, ht⟩ := zztys_at dA (zzkd_arr hc).1
  exact va_alen hx hb hK hP a k he ht rfl hdg (hn _ _ _ h H locs lc hP hS hl)
set_option maxHeartbeats 400000 in
set_option maxRecDepth 20000 in
theorem zs_iaload {rr : zzR} (hX : zzX p s m args meth c cc own nL rk D dA ad A) (hQ : Q = MQ below (zzQ D dA ad A rk rr) args s 0 0 A) {call : Nat → List Value → zzM → Option zzR} (hcall : zzCl l D dA ad P R call)
    {pc len : Nat} {aux : List (Nat × Nat)} (hdg : decode cc pc = .ok (.iaload, len)) (hw : zzwd P own nL len pc (.iaload) aux) {ls : zzL} {st : List Value} {μ : zzM} {next : zzL → List Value → zzM → Option zzR} {jump : Nat → List Value → Option zzR}
    (h : zzstep call rk (.iaload) aux ls st μ next jump = some rr)
    (hn : ∀ ls' st' μ', next ls' st' μ' = some rr → zzW p l e R s m args below meth c Q D dA ad A nL (pc + len) ls' st' μ')
    (hj : ∀ t st', jump t st' = some rr → zzW p l e R s m args below meth c Q D dA ad A nL t ls st' μ) : zzW p l e R s m args below meth c Q D dA ad A nL pc ls st μ := by
  intro H locs lc hP hS hl
  obtain ⟨hx, hb, hml, hown, hts, hK, hnw, hinj, hA, hlocks, hrt⟩ := hX
  have hD : ∀ μ, va_D A (zzworld dA ad μ) := fun μ => zzD_of hinj (fun i hi => hA _ (Or.inl ⟨i, hi, rfl⟩))
  cases hw
  obtain ⟨a, i, r, he9, h9⟩ := zzai_s h
  clear h
  subst he9
  have h := h9
  clear h9
  try dsimp only at h
  obtain ⟨k, n, ts, hc, h⟩ := zzar_s h
  try dsimp only at h
  split at h
  · obtain ⟨v, h1, h⟩ := Option.bind_eq_some_iff.mp h
    obtain ⟨hi, rfl⟩ := zzri_s h1
    exact va_iald hx hb hK hP a 0 (zzworld_at hc) rfl hi hdg (hn _ _ _ h H locs lc hP hS hl)
  · cases h
set_option maxHeartbeats 400000 in
set_option maxRecDepth 20000 in
theorem zs_baload {rr : zzR} (hX : zzX p s m args meth c cc own nL rk D dA ad A) (hQ : Q = MQ below (zzQ D dA ad A rk rr) args s 0 0 A) {call : Nat → List Value → zzM → Option zzR} (hcall : zzCl l D dA ad P R call)
    {pc len : Nat} {aux : List (Nat × Nat)} (hdg : decode cc pc = .ok (.baload, len)) (hw : zzwd P own nL len pc (.baload) aux) {ls : zzL} {st : List Value} {μ : zzM} {next : zzL → List Value → zzM → Option zzR} {jump : Nat → List Value → Option zzR}
    (h : zzstep call rk (.baload) aux ls st μ next jump = some rr)
    (hn : ∀ ls' st' μ', next ls' st' μ' = some rr → zzW p l e R s m args below meth c Q D dA ad A nL (pc + len) ls' st' μ')
    (hj : ∀ t st', jump t st' = some rr → zzW p l e R s m args below meth c Q D dA ad A nL t ls st' μ) : zzW p l e R s m args below meth c Q D dA ad A nL pc ls st μ := by
  intro H locs lc hP hS hl
  obtain ⟨hx, hb, hml, hown, hts, hK, hnw, hinj, hA, hlocks, hrt⟩ := hX
  have hD : ∀ μ, va_D A (zzworld dA ad μ) := fun μ => zzD_of hinj (fun i hi => hA _ (Or.inl ⟨i, hi, rfl⟩))
  cases hw
  obtain ⟨a, i, r, he9, h9⟩ := zzai_s h
  clear h
  subst he9
  have h := h9
  clear h9
  try dsimp only at h
  obtain ⟨k, n, ts, hc, h⟩ := zzar_s h
  try dsimp only at h
  split at h
  · obtain ⟨v, h1, h⟩ := Option.bind_eq_some_iff.mp h
    obtain ⟨hi, rfl⟩ := zzri_s h1
    exact va_zald hx hb hK hP a 1 (zzworld_at hc) rfl hi hdg (hn _ _ _ h H locs lc hP hS hl)
  · obtain ⟨v, h1, h⟩ := Option.bind_eq_some_iff.mp h
    obtain ⟨hi, rfl⟩ := zzri_s h1
    exact va_bald hx hb hK hP a 2 (zzworld_at hc) rfl hi hdg (hn _ _ _ h H locs lc hP hS hl)
  · cases h
set_option maxHeartbeats 400000 in
set_option maxRecDepth 20000 in
theorem zs_laload {rr : zzR} (hX : zzX p s m args meth c cc own nL rk D dA ad A) (hQ : Q = MQ below (zzQ D dA ad A rk rr) args s 0 0 A) {call : Nat → List Value → zzM → Option zzR} (hcall : zzCl l D dA ad P R call)
    {pc len : Nat} {aux : List (Nat × Nat)} (hdg : decode cc pc = .ok (.laload, len)) (hw : zzwd P own nL len pc (.laload) aux) {ls : zzL} {st : List Value} {μ : zzM} {next : zzL → List Value → zzM → Option zzR} {jump : Nat → List Value → Option zzR}
    (h : zzstep call rk (.laload) aux ls st μ next jump = some rr)
    (hn : ∀ ls' st' μ', next ls' st' μ' = some rr → zzW p l e R s m args below meth c Q D dA ad A nL (pc + len) ls' st' μ')
    (hj : ∀ t st', jump t st' = some rr → zzW p l e R s m args below meth c Q D dA ad A nL t ls st' μ) : zzW p l e R s m args below meth c Q D dA ad A nL pc ls st μ := by
  intro H locs lc hP hS hl
  obtain ⟨hx, hb, hml, hown, hts, hK, hnw, hinj, hA, hlocks, hrt⟩ := hX
  have hD : ∀ μ, va_D A (zzworld dA ad μ) := fun μ => zzD_of hinj (fun i hi => hA _ (Or.inl ⟨i, hi, rfl⟩))
  cases hw
  obtain ⟨a, i, r, he9, h9⟩ := zzai_s h
  clear h
  subst he9
  have h := h9
  clear h9
  try dsimp only at h
  obtain ⟨k, n, ts, hc, h⟩ := zzar_s h
  try dsimp only at h
  split at h
  · obtain ⟨v, h1, h⟩ := Option.bind_eq_some_iff.mp h
    obtain ⟨hi, rfl⟩ := zzrl_s h1
    exact va_lald hx hb hK hP a 3 (zzworld_at hc) rfl hi hdg (hn _ _ _ h H locs lc hP hS hl)
  · cases h
set_option maxHeartbeats 400000 in
set_option maxRecDepth 20000 in
theorem zs_aaload {rr : zzR} (hX : zzX p s m args meth c cc own nL rk D dA ad A) (hQ : Q = MQ below (zzQ D dA ad A rk rr) args s 0 0 A) {call : Nat → List Value → zzM → Option zzR} (hcall : zzCl l D dA ad P R call)
    {pc len : Nat} {aux : List (Nat × Nat)} (hdg : decode cc pc = .ok (.aaload, len)) (hw : zzwd P own nL len pc (.aaload) aux) {ls : zzL} {st : List Value} {μ : zzM} {next : zzL → List Value → zzM → Option zzR} {jump : Nat → List Value → Option zzR}
    (h : zzstep call rk (.aaload) aux ls st μ next jump = some rr)
    (hn : ∀ ls' st' μ', next ls' st' μ' = some rr → zzW p l e R s m args below meth c Q D dA ad A nL (pc + len) ls' st' μ')
    (hj : ∀ t st', jump t st' = some rr → zzW p l e R s m args below meth c Q D dA ad A nL t ls st' μ) : zzW p l e R s m args below meth c Q D dA ad A nL pc ls st μ := by
  intro H locs lc hP hS hl
  obtain ⟨hx, hb, hml, hown, hts, hK, hnw, hinj, hA, hlocks, hrt⟩ := hX
  have hD : ∀ μ, va_D A (zzworld dA ad μ) := fun μ => zzD_of hinj (fun i hi => hA _ (Or.inl ⟨i, hi, rfl⟩))
  cases hw
  obtain ⟨a, i, r, he9, h9⟩ := zzai_s h
  clear h
  subst he9
  have h := h9
  clear h9
  try dsimp only at h
  obtain ⟨k, n, ts, hc, h⟩ := zzar_s h
  try dsimp only at h
  split at h
  · obtain ⟨j, t, e1, e2, h9⟩ := zzsr_s _ _ h
    clear h
    obtain ⟨_, hn1, hn2⟩ := zzkd_arr hc
    have hj2 : j < ts.length := (List.getElem?_eq_some_iff.mp e2).1
    rw [Nat.zero_add] at e1
    subst e1
    have hcl : (nI j).toNatClampNeg = j := nI_clamp (by omega)
    refine va_aldq (C := "PackedForest$Setting") hx hb hK hP a 4 (zzworld_at hc) rfl (vp_in_nI (show j < n by omega) (show n < 2 ^ 31 by omega)) hdg ?_
    show W p l e R s m args below meth c H locs 0 0 Q (F0 m (pc + 1) lc (va_rf ((ts[(nI j).toNatClampNeg]?).map ad) :: List.map (zzcv ad) r))
    rw [hcl, e2]
    exact hn _ _ _ h9 H locs lc hP hS hl
  · cases h
set_option maxHeartbeats 400000 in
set_option maxRecDepth 20000 in
theorem zs_iastore {rr : zzR} (hX : zzX p s m args meth c cc own nL rk D dA ad A) (hQ : Q = MQ below (zzQ D dA ad A rk rr) args s 0 0 A) {call : Nat → List Value → zzM → Option zzR} (hcall : zzCl l D dA ad P R call)
    {pc len : Nat} {aux : List (Nat × Nat)} (hdg : decode cc pc = .ok (.iastore, len)) (hw : zzwd P own nL len pc (.iastore) aux) {ls : zzL} {st : List Value} {μ : zzM} {next : zzL → List Value → zzM → Option zzR} {jump : Nat → List Value → Option zzR}
    (h : zzstep call rk (.iastore) aux ls st μ next jump = some rr)
    (hn : ∀ ls' st' μ', next ls' st' μ' = some rr → zzW p l e R s m args below meth c Q D dA ad A nL (pc + len) ls' st' μ')
    (hj : ∀ t st', jump t st' = some rr → zzW p l e R s m args below meth c Q D dA ad A nL t ls st' μ) : zzW p l e R s m args below meth c Q D dA ad A nL pc ls st μ := by
  intro H locs lc hP hS hl
  obtain ⟨hx, hb, hml, hown, hts, hK, hnw, hinj, hA, hlocks, hrt⟩ := hX
  have hD : ∀ μ, va_D A (zzworld dA ad μ) := fun μ => zzD_of hinj (fun i hi => hA _ (Or.inl ⟨i, hi, rfl⟩))
  cases hw
  obtain ⟨a, i, v, r, he9, h9⟩ := zzas_s h
  clear h
  subst he9
  have h := h9
  clear h9
  try dsimp only at h
  obtain ⟨k, n, ts, hc, h⟩ := zzar_s h
  try dsimp only at h
  split at h
  · obtain ⟨μ', h1, h⟩ := Option.bind_eq_some_iff.mp h
    obtain ⟨hi, rfl⟩ := zzsi_s h1
    refine va_iast hx hb hK hP (hD μ) hS a 0 (zzworld_at hc) rfl hi hdg (fun H1 locs1 hP1 _ hS1 => hn _ _ _ h H1 locs1 lc ?_ hS1 hl)
    rw [zzset_eq hc ?_ (fun j d' hne => zzcell_wI j d' hne)] at hP1
    · exact hP1
    · show (Sum.inl (dA 0, n, .inl ((zzwI μ a i.toNatClampNeg v).1 a)) : va_E) = _
      rw [zzwI_row]
  · cases h
set_option maxHeartbeats 400000 in
set_option maxRecDepth 20000 in
theorem zs_bastore {rr : zzR} (hX : zzX p s m args meth c cc own nL rk D dA ad A) (hQ : Q = MQ below (zzQ D dA ad A rk rr) args s 0 0 A) {call : Nat → List Value → zzM → Option zzR} (hcall : zzCl l D dA ad P R call)
    {pc len : Nat} {aux : List (Nat × Nat)} (hdg : decode cc pc = .ok (.bastore, len)) (hw : zzwd P own nL len pc (.bastore) aux) {ls : zzL} {st : List Value} {μ : zzM} {next : zzL → List Value → zzM → Option zzR} {jump : Nat → List Value → Option zzR}
    (h : zzstep call rk (.bastore) aux ls st μ next jump = some rr)
    (hn : ∀ ls' st' μ', next ls' st' μ' = some rr → zzW p l e R s m args below meth c Q D dA ad A nL (pc + len) ls' st' μ')
    (hj : ∀ t st', jump t st' = some rr → zzW p l e R s m args below meth c Q D dA ad A nL t ls st' μ) : zzW p l e R s m args below meth c Q D dA ad A nL pc ls st μ := by
  intro H locs lc hP hS hl
  obtain ⟨hx, hb, hml, hown, hts, hK, hnw, hinj, hA, hlocks, hrt⟩ := hX
  have hD : ∀ μ, va_D A (zzworld dA ad μ) := fun μ => zzD_of hinj (fun i hi => hA _ (Or.inl ⟨i, hi, rfl⟩))
  cases hw
  obtain ⟨a, i, v, r, he9, h9⟩ := zzas_s h
  clear h
  subst he9
  have h := h9
  clear h9
  try dsimp only at h
  obtain ⟨k, n, ts, hc, h⟩ := zzar_s h
  try dsimp only at h
  split at h
  · split at h
    · rename_i hv
      obtain ⟨μ', h1, h⟩ := Option.bind_eq_some_iff.mp h
      obtain ⟨hi, rfl⟩ := zzsi_s h1
      refine va_zast hx hb hK hP (hD μ) hS a 1 (zzworld_at hc) rfl hi hdg (fun H1 locs1 hP1 _ hS1 => hn _ _ _ h H1 locs1 lc ?_ hS1 hl)
      rw [zznar hv, zzset_eq hc ?_ (fun j d' hne => zzcell_wI j d' hne)] at hP1
      · exact hP1
      · show (Sum.inl (dA 1, n, .inl ((zzwI μ a i.toNatClampNeg v).1 a)) : va_E) = _
        rw [zzwI_row]
    · cases h
  · obtain ⟨μ', h1, h⟩ := Option.bind_eq_some_iff.mp h
    obtain ⟨hi, rfl⟩ := zzsi_s h1
    refine va_bast hx hb hK hP (hD μ) hS a 2 (zzworld_at hc) rfl hi hdg (fun H1 locs1 hP1 _ hS1 => hn _ _ _ h H1 locs1 lc ?_ hS1 hl)
    rw [vp_nar_byte, zzset_eq hc ?_ (fun j d' hne => zzcell_wI j d' hne)] at hP1
    · exact hP1
    · show (Sum.inl (dA 2, n, .inl ((zzwI μ a i.toNatClampNeg v.toInt8.toInt32).1 a)) : va_E) = _
      rw [zzwI_row]
  · cases h
set_option maxHeartbeats 400000 in
set_option maxRecDepth 20000 in
theorem zs_lastore {rr : zzR} (hX : zzX p s m args meth c cc own nL rk D dA ad A) (hQ : Q = MQ below (zzQ D dA ad A rk rr) args s 0 0 A) {call : Nat → List Value → zzM → Option zzR} (hcall : zzCl l D dA ad P R call)
    {pc len : Nat} {aux : List (Nat × Nat)} (hdg : decode cc pc = .ok (.lastore, len)) (hw : zzwd P own nL len pc (.lastore) aux) {ls : zzL} {st : List Value} {μ : zzM} {next : zzL → List Value → zzM → Option zzR} {jump : Nat → List Value → Option zzR}
    (h : zzstep call rk (.lastore) aux ls st μ next jump = some rr)
    (hn : ∀ ls' st' μ', next ls' st' μ' = some rr → zzW p l e R s m args below meth c Q D dA ad A nL (pc + len) ls' st' μ')
    (hj : ∀ t st', jump t st' = some rr → zzW p l e R s m args below meth c Q D dA ad A nL t ls st' μ) : zzW p l e R s m args below meth c Q D dA ad A nL pc ls st μ := by
  intro H locs lc hP hS hl
  obtain ⟨hx, hb, hml, hown, hts, hK, hnw, hinj, hA, hlocks, hrt⟩ := hX
  have hD : ∀ μ, va_D A (zzworld dA ad μ) := fun μ => zzD_of hinj (fun i hi => hA _ (Or.inl ⟨i, hi, rfl⟩))
  cases hw
  obtain ⟨a, i, v, r, he9, h9⟩ := zzal_s h
  clear h
  subst he9
  have h := h9
  clear h9
  try dsimp only at h
  obtain ⟨k, n, ts, hc, h⟩ := zzar_s h
  try dsimp only at h
  split at h
  · obtain ⟨μ', h1, h⟩ := Option.bind_eq_some_iff.mp h
    obtain ⟨hi, rfl⟩ := zzsl_s h1
    refine va_last hx hb hK hP (hD μ) hS a 3 (zzworld_at hc) rfl hi hdg (fun H1 locs1 hP1 _ hS1 => hn _ _ _ h H1 locs1 lc ?_ hS1 hl)
    rw [zzset_eq hc ?_ (fun j d' hne => zzcell_wL j d' hne)] at hP1
    · exact hP1
    · show (Sum.inl (dA 3, n, .inr (.inl ((zzwL μ a i.toNatClampNeg v).2 a))) : va_E) = _
      rw [zzwL_row]
  · cases h
set_option maxHeartbeats 400000 in
set_option maxRecDepth 20000 in
theorem zs_ireturn {rr : zzR} (hX : zzX p s m args meth c cc own nL rk D dA ad A) (hQ : Q = MQ below (zzQ D dA ad A rk rr) args s 0 0 A) {call : Nat → List Value → zzM → Option zzR} (hcall : zzCl l D dA ad P R call)
    {pc len : Nat} {aux : List (Nat × Nat)} (hdg : decode cc pc = .ok (.ireturn, len)) (hw : zzwd P own nL len pc (.ireturn) aux) {ls : zzL} {st : List Value} {μ : zzM} {next : zzL → List Value → zzM → Option zzR} {jump : Nat → List Value → Option zzR}
    (h : zzstep call rk (.ireturn) aux ls st μ next jump = some rr)
    (hn : ∀ ls' st' μ', next ls' st' μ' = some rr → zzW p l e R s m args below meth c Q D dA ad A nL (pc + len) ls' st' μ')
    (hj : ∀ t st', jump t st' = some rr → zzW p l e R s m args below meth c Q D dA ad A nL t ls st' μ) : zzW p l e R s m args below meth c Q D dA ad A nL pc ls st μ := by
  intro H locs lc hP hS hl
  obtain ⟨hx, hb, hml, hown, hts, hK, hnw, hinj, hA, hlocks, hrt⟩ := hX
  have hD : ∀ μ, va_D A (zzworld dA ad μ) := fun μ => zzD_of hinj (fun i hi => hA _ (Or.inl ⟨i, hi, rfl⟩))
  cases hw
  obtain ⟨x, r, he9, h9⟩ := zzp1_s h
  clear h
  subst he9
  have h := h9
  clear h9
  try dsimp only at h
  obtain ⟨he8, h8⟩ := zzno_s h
  clear h
  subst he8
  have h := h8
  clear h8
  subst hQ
  try dsimp only at h
  split at h
  · cases h
    exact W.iret hx hb hrt (fun t ht hW => ⟨rfl, by rw [ht]; exact hP, va_K.moved hW.alike hK, hS.F ht⟩) hS.2.2 hdg hlocks
  · split at h
    · rename_i hv
      cases h
      exact W.zret hx hb hrt (zznarB hv) (fun t ht hW => ⟨rfl, by rw [ht]; exact hP, va_K.moved hW.alike hK, hS.F ht⟩) hS.2.2 hdg hlocks
    · cases h
  · cases h
set_option maxHeartbeats 400000 in
set_option maxRecDepth 20000 in
theorem zs_lreturn {rr : zzR} (hX : zzX p s m args meth c cc own nL rk D dA ad A) (hQ : Q = MQ below (zzQ D dA ad A rk rr) args s 0 0 A) {call : Nat → List Value → zzM → Option zzR} (hcall : zzCl l D dA ad P R call)
    {pc len : Nat} {aux : List (Nat × Nat)} (hdg : decode cc pc = .ok (.lreturn, len)) (hw : zzwd P own nL len pc (.lreturn) aux) {ls : zzL} {st : List Value} {μ : zzM} {next : zzL → List Value → zzM → Option zzR} {jump : Nat → List Value → Option zzR}
    (h : zzstep call rk (.lreturn) aux ls st μ next jump = some rr)
    (hn : ∀ ls' st' μ', next ls' st' μ' = some rr → zzW p l e R s m args below meth c Q D dA ad A nL (pc + len) ls' st' μ')
    (hj : ∀ t st', jump t st' = some rr → zzW p l e R s m args below meth c Q D dA ad A nL t ls st' μ) : zzW p l e R s m args below meth c Q D dA ad A nL pc ls st μ := by
  intro H locs lc hP hS hl
  obtain ⟨hx, hb, hml, hown, hts, hK, hnw, hinj, hA, hlocks, hrt⟩ := hX
  have hD : ∀ μ, va_D A (zzworld dA ad μ) := fun μ => zzD_of hinj (fun i hi => hA _ (Or.inl ⟨i, hi, rfl⟩))
  cases hw
  obtain ⟨x, r, he9, h9⟩ := zzq1_s h
  clear h
  subst he9
  have h := h9
  clear h9
  try dsimp only at h
  obtain ⟨he8, h8⟩ := zzno_s h
  clear h
  subst he8
  have h := h8
  clear h8
  subst hQ
  try dsimp only at h
  split at h
  · cases h
    exact W.lret hx hb hrt (fun t ht hW => ⟨rfl, by rw [ht]; exact hP, va_K.moved hW.alike hK, hS.F ht⟩) hS.2.2 hdg hlocks
  · cases h
set_option maxHeartbeats 400000 in
set_option maxRecDepth 20000 in
theorem zs_areturn {rr : zzR} (hX : zzX p s m args meth c cc own nL rk D dA ad A) (hQ : Q = MQ below (zzQ D dA ad A rk rr) args s 0 0 A) {call : Nat → List Value → zzM → Option zzR} (hcall : zzCl l D dA ad P R call)
    {pc len : Nat} {aux : List (Nat × Nat)} (hdg : decode cc pc = .ok (.areturn, len)) (hw : zzwd P own nL len pc (.areturn) aux) {ls : zzL} {st : List Value} {μ : zzM} {next : zzL → List Value → zzM → Option zzR} {jump : Nat → List Value → Option zzR}
    (h : zzstep call rk (.areturn) aux ls st μ next jump = some rr)
    (hn : ∀ ls' st' μ', next ls' st' μ' = some rr → zzW p l e R s m args below meth c Q D dA ad A nL (pc + len) ls' st' μ')
    (hj : ∀ t st', jump t st' = some rr → zzW p l e R s m args below meth c Q D dA ad A nL t ls st' μ) : zzW p l e R s m args below meth c Q D dA ad A nL pc ls st μ := by
  intro H locs lc hP hS hl
  obtain ⟨hx, hb, hml, hown, hts, hK, hnw, hinj, hA, hlocks, hrt⟩ := hX
  have hD : ∀ μ, va_D A (zzworld dA ad μ) := fun μ => zzD_of hinj (fun i hi => hA _ (Or.inl ⟨i, hi, rfl⟩))
  cases hw
  obtain ⟨x, r, he9, h9⟩ := zza1_s h
  clear h
  subst he9
  have h := h9
  clear h9
  try dsimp only at h
  obtain ⟨he8, h8⟩ := zzno_s h
  clear h
  subst he8
  have h := h8
  clear h8
  subst hQ
  try dsimp only at h
  split at h
  · cases h
    obtain ⟨n, hrt⟩ := hrt
    exact W.aret hx hb hrt (Or.inl ⟨n, rfl⟩) (Or.inr ⟨_, rfl⟩) (fun t ht hW => ⟨rfl, by rw [ht]; exact hP, va_K.moved hW.alike hK, hS.F ht⟩) hS.2.2 hdg hlocks
  · cases h
set_option maxHeartbeats 400000 in
set_option maxRecDepth 20000 in
theorem zs_return_ {rr : zzR} (hX : zzX p s m args meth c cc own nL rk D dA ad A) (hQ : Q = MQ below (zzQ D dA ad A rk rr) args s 0 0 A) {call : Nat → List Value → zzM → Option zzR} (hcall : zzCl l D dA ad P R call)
    {pc len : Nat} {aux : List (Nat × Nat)} (hdg : decode cc pc = .ok (.return_, len)) (hw : zzwd P own nL len pc (.return_) aux) {ls : zzL} {st : List Value} {μ : zzM} {next : zzL → List Value → zzM → Option zzR} {jump : Nat → List Value → Option zzR}
    (h : zzstep call rk (.return_) aux ls st μ next jump = some rr)
    (hn : ∀ ls' st' μ', next ls' st' μ' = some rr → zzW p l e R s m args below meth c Q D dA ad A nL (pc + len) ls' st' μ')
    (hj : ∀ t st', jump t st' = some rr → zzW p l e R s m args below meth c Q D dA ad A nL t ls st' μ) : zzW p l e R s m args below meth c Q D dA ad A nL pc ls st μ := by
  intro H locs lc hP hS hl
  obtain ⟨hx, hb, hml, hown, hts, hK, hnw, hinj, hA, hlocks, hrt⟩ := hX
  have hD : ∀ μ, va_D A (zzworld dA ad μ) := fun μ => zzD_of hinj (fun i hi => hA _ (Or.inl ⟨i, hi, rfl⟩))
  cases hw
  obtain ⟨he8, h8⟩ := zzno_s h
  clear h
  subst he8
  have h := h8
  clear h8
  subst hQ
  split at h
  · cases h
    exact W.vret hx hb hrt (fun t ht hW => ⟨rfl, by rw [ht]; exact hP, va_K.moved hW.alike hK, hS.F ht⟩) hS.2.2 hdg hlocks
  · cases h
set_option maxHeartbeats 400000 in
set_option maxRecDepth 20000 in
theorem zs_invokestatic {j : Nat} {rr : zzR} (hX : zzX p s m args meth c cc own nL rk D dA ad A) (hQ : Q = MQ below (zzQ D dA ad A rk rr) args s 0 0 A) {call : Nat → List Value → zzM → Option zzR} (hcall : zzCl l D dA ad P R call)
    {pc len : Nat} {aux : List (Nat × Nat)} (hdg : decode cc pc = .ok (.invokestatic j, len)) (hw : zzwd P own nL len pc (.invokestatic j) aux) {ls : zzL} {st : List Value} {μ : zzM} {next : zzL → List Value → zzM → Option zzR} {jump : Nat → List Value → Option zzR}
    (h : zzstep call rk (.invokestatic j) aux ls st μ next jump = some rr)
    (hn : ∀ ls' st' μ', next ls' st' μ' = some rr → zzW p l e R s m args below meth c Q D dA ad A nL (pc + len) ls' st' μ')
    (hj : ∀ t st', jump t st' = some rr → zzW p l e R s m args below meth c Q D dA ad A nL t ls st' μ) : zzW p l e R s m args below meth c Q D dA ad A nL pc ls st μ := by
  intro H locs lc hP hS hl
  obtain ⟨hx, hb, hml, hown, hts, hK, hnw, hinj, hA, hlocks, hrt⟩ := hX
  have hD : ∀ μ, va_D A (zzworld dA ad μ) := fun μ => zzD_of hinj (fun i hi => hA _ (Or.inl ⟨i, hi, rfl⟩))
  obtain ⟨rfl, hw⟩ := hw
  have h : ((zzcut (zzfst aux).2 st []).bind fun q => bif (zzcat q.2).ble 8 then
      (call (zzfst aux).1 q.1 μ).bind fun o => zzres (zzsnd aux) o fun t => next ls (t ++ q.2) o.2 else none) = some rr := h
  obtain ⟨⟨as, rest⟩, hq, h⟩ := Option.bind_eq_some_iff.mp h
  obtain ⟨bs, hbl, hst, has⟩ := zzcut_s _ _ _ _ _ hq
  rw [List.append_nil] at has
  subst has
  cases hb8 : (zzcat rest).ble 8 with
  | false => rw [hb8] at h; cases h
  | true =>
    simp only [hb8, cond_true] at h
    have hr8 : ((rest.map (zzcv ad)).map fun v => v.category).sum ≤ 8 := by rw [zzcat_s]; exact Nat.le_of_ble_eq_true hb8
    obtain ⟨o, ho, h⟩ := Option.bind_eq_some_iff.mp h
    obtain ⟨t, ht, h⟩ := zzres_s (ad := ad) h
    have hA1 : ∀ q, zzA ad H.size q → A q := fun q hq => hA q (zzAsub hS.1 q hq)
    have hgo : ∀ (H1 : Heap) (locs1 : List Loc), va_P D zzcl (zzworld dA ad o.2) H1 → va_S A s.heap H1 locs1 → W p l e R s m args below meth c H1 locs1 0 0 Q (F0 m (pc + 3) lc ((zzval ad (zzsnd aux).1 o).toList ++ rest.map (zzcv ad))) := by
      intro H1 locs1 hP1 hS1
      have := hn _ _ _ h H1 locs1 lc hP1 hS1 hl
      rw [List.map_append, ht] at this
      exact this
    have hstk : st.map (zzcv ad) = (as.map (zzcv ad)).reverse ++ rest.map (zzcv ad) := by rw [hst, List.map_append, List.map_reverse]
    rcases zz4 (zzfst aux).1 with hy | hy | hy | ⟨y, hy⟩
    · rw [hy] at ho hw
      obtain ⟨hlk, hn5, hk0⟩ := hw
      obtain ⟨⟨d, hR⟩, a, b, n0, n1, t0, t1, sp, dp, n, μ', rfl, ha, hb2, hcp, ho2⟩ := hcall.2.1 _ _ _ ho
      subst ho2
      obtain ⟨⟨g1, g2, g3, g4, g5⟩, e1, e2, e3⟩ := zzcp_cell hcp
      rw [hk0] at hgo
      rw [hstk]
      refine va_copyi (rest := rest.map (zzcv ad)) hx hb (hml.trans hl.1.symm) hown (hts _ hlk) (hts _ zzcpw.1) (hts _ zzcpw.2.1) (hts _ zzcpw.2.2) hK hP (hD μ) hS a b 0 0 (zzworld_at ha) (zzworld_at hb2) rfl rfl rfl g1 g2 g3 g4 g5 (fun i _ => rfl) (by rw [hR]; exact Nat.le_add_left _ _) (by rw [hR]; show _ + (7 + 11) ≤ 40 * (d + 1); omega) hdg (fun H1 locs1 hP1 _ hS1 => (show W p l e R s m args below meth c H1 locs1 0 0 Q (F0 m (pc + 3) lc (rest.map (zzcv ad))) from hgo H1 locs1 ?_ hS1))
      rw [zzset_eq hb2 ?_ (fun j d' hne => zzcell_congr d' (e2 j hne) (by rw [e3]))] at hP1
      · exact hP1
      · show (Sum.inl (dA 0, n1, .inl (μ'.1 b)) : va_E) = _
        rw [e1]
    · rw [hy] at ho hw
      obtain ⟨hlk, hn5, hk0⟩ := hw
      obtain ⟨⟨d, hR⟩, a, b, rfl, ho2⟩ := hcall.2.2.1 _ _ _ ho
      subst ho2
      rw [hk0] at hgo
      rw [hstk]
      exact va_mmin (rest := rest.map (zzcv ad)) hx hb (hml.trans hl.1.symm) hown (hts _ hlk) (hts _ zzmiw.1) (hts _ zzmiw.2.1) (hts _ zzmiw.2.2) (by rw [hR]; exact Nat.le_add_left _ _) (by rw [hR]; show _ + 13 ≤ 40 * (d + 1); omega) (Nat.zero_le _) (Nat.zero_le _) hdg (hgo H locs hP hS)
    · rw [hy] at ho hw
      obtain ⟨hlk, hn5, hk0⟩ := hw
      obtain ⟨⟨d, hR⟩, a, b, rfl, ho2⟩ := hcall.2.2.2 _ _ _ ho
      subst ho2
      rw [hk0] at hgo
      rw [hstk]
      exact va_mmin_long (rest := rest.map (zzcv ad)) hx hb (hml.trans hl.1.symm) hown (hts _ hlk) (hts _ zzmlw.1) (hts _ zzmiw.2.1) (hts _ zzmlw.2) (by rw [hR]; exact Nat.le_add_left _ _) (by rw [hR]; show _ + 15 ≤ 40 * (d + 1); omega) (Nat.zero_le _) (Nat.zero_le _) hdg (hgo H locs hP hS)
    · rw [hy] at ho hw
      obtain ⟨q, hPq, ⟨hcode, hini, hc1, hc2, hmL⟩, hstat, hrk, hpar, hlink⟩ := hw
      obtain ⟨d, hR, hM⟩ := hcall.1 y _ _ _ ho q hPq
      subst hR
      rw [hrk] at hgo
      have hroom : (zzroom d).frames + 1 ≤ (zzroom (d + 1)).frames ∧ 8 + (q.2.2.1 + 11) + (zzroom d).locals ≤ (zzroom (d + 1)).locals := ⟨Nat.le_refl _, by show 8 + (q.2.2.1 + 11) + 40 * d ≤ 40 * (d + 1); omega⟩
      have hpre : PreS s H (zzPc D dA ad as μ H.size) (as.map (zzcv ad)) := ⟨fun a U g mk q => by
          obtain ⟨q0, q1, qP, qK, qN⟩ := q
          exact ⟨q0, q1, qP, va_K.moved (u := U) (U := U.calling g mk a) (Vm.Alike.refl U.vm) qK, fun z hz => va_Nw.same rfl rfl (qN z hz)⟩,
        fun U hU hW => ⟨rfl, by rw [hU], by rw [hU]; exact hP, va_K.moved hW.alike hK, fun z hz => va_Nw.warmM hW (hnw z hz)⟩⟩
      rcases hlink with hlink | hlink
      · exact zzcall (va_runS (As := as.map (zzcv ad)) (rest := rest.map (zzcv ad)) ⟨hx, hb, hml, hown, hts⟩ (hM H.size) (va_cwS (zzfst aux).2 hts (zzgoodL (fun w hw => by
            rcases List.mem_cons.mp hw with rfl | hw
            · exact hlink
            rcases List.mem_cons.mp hw with rfl | hw
            · exact hstat
            rcases List.mem_cons.mp hw with rfl | hw
            · exact hini
            · cases hw) (zzgoodIn hcode)) rfl rfl rfl ⟨hc1, hc2, hpar⟩ hroom) hpre rfl (by rw [List.length_map, hbl]) hl.1 hstk (lv_room hr8) hdg ⟨Nat.le_refl _, Nat.le_refl _⟩) hS hA1 hgo
      · exact zzcall (va_runSN (As := as.map (zzcv ad)) (rest := rest.map (zzcv ad)) ⟨hx, hb, hml, hown, hts⟩ (hM H.size) ⟨va_cnB (zzfst aux).2 hts (zzgoodIn hcode) rfl rfl rfl (hnw _ hlink) (hts _ hini) ⟨hc1, hc2, hpar⟩ hroom, hts _ hstat, trivial⟩ hpre rfl (by rw [List.length_map, hbl]) hl.1 hstk (lv_room hr8) hdg ⟨Nat.le_refl _, Nat.le_refl _⟩) hS hA1 hgo
set_option maxHeartbeats 400000 in
set_option maxRecDepth 20000 in
theorem zs_invokevirtual {j : Nat} {rr : zzR} (hX : zzX p s m args meth c cc own nL rk D dA ad A) (hQ : Q = MQ below (zzQ D dA ad A rk rr) args s 0 0 A) {call : Nat → List Value → zzM → Option zzR} (hcall : zzCl l D dA ad P R call)
    {pc len : Nat} {aux : List (Nat × Nat)} (hdg : decode cc pc = .ok (.invokevirtual j, len)) (hw : zzwd P own nL len pc (.invokevirtual j) aux) {ls : zzL} {st : List Value} {μ : zzM} {next : zzL → List Value → zzM → Option zzR} {jump : Nat → List Value → Option zzR}
    (h : zzstep call rk (.invokevirtual j) aux ls st μ next jump = some rr)
    (hn : ∀ ls' st' μ', next ls' st' μ' = some rr → zzW p l e R s m args below meth c Q D dA ad A nL (pc + len) ls' st' μ')
    (hj : ∀ t st', jump t st' = some rr → zzW p l e R s m args below meth c Q D dA ad A nL t ls st' μ) : zzW p l e R s m args below meth c Q D dA ad A nL pc ls st μ := by
  intro H locs lc hP hS hl
  obtain ⟨hx, hb, hml, hown, hts, hK, hnw, hinj, hA, hlocks, hrt⟩ := hX
  have hD : ∀ μ, va_D A (zzworld dA ad μ) := fun μ => zzD_of hinj (fun i hi => hA _ (Or.inl ⟨i, hi, rfl⟩))
  obtain ⟨rfl, hw⟩ := hw
  have h : ((zzcut (zzfst aux).2 st []).bind fun q => zza1 q.2 fun c r => bif (zzcat r).ble 8 then zzfd c (zzthd aux).1 (zzthd aux).2 fun _ _ =>
      (call (zzfst aux).1 (.ref c :: q.1) μ).bind fun o => zzres (zzsnd aux) o fun t => next ls (t ++ r) o.2 else none) = some rr := h
  obtain ⟨⟨as, rest0⟩, hq, h⟩ := Option.bind_eq_some_iff.mp h
  obtain ⟨bs, hbl, hst, has⟩ := zzcut_s _ _ _ _ _ hq
  rw [List.append_nil] at has
  subst has
  obtain ⟨a, rest, he9, h⟩ := zza1_s h
  have he9 : rest0 = .ref a :: rest := he9
  subst he9
  cases hb8 : (zzcat rest).ble 8 with
  | false => rw [hb8] at h; cases h
  | true =>
    simp only [hb8, cond_true] at h
    have hr8 : ((rest.map (zzcv ad)).map fun v => v.category).sum ≤ 8 := by rw [zzcat_s]; exact Nat.le_of_ble_eq_true hb8
    obtain ⟨fs, ka, kb, hcc, hf, h⟩ := zzfd_s h
    obtain ⟨o, ho, h⟩ := Option.bind_eq_some_iff.mp h
    obtain ⟨t, ht, h⟩ := zzres_s (ad := ad) h
    have hA1 : ∀ q, zzA ad H.size q → A q := fun q hq => hA q (zzAsub hS.1 q hq)
    have hgo : ∀ (H1 : Heap) (locs1 : List Loc), va_P D zzcl (zzworld dA ad o.2) H1 → va_S A s.heap H1 locs1 → W p l e R s m args below meth c H1 locs1 0 0 Q (F0 m (pc + 3) lc ((zzval ad (zzsnd aux).1 o).toList ++ rest.map (zzcv ad))) := by
      intro H1 locs1 hP1 hS1
      have := hn _ _ _ h H1 locs1 lc hP1 hS1 hl
      rw [List.map_append, ht] at this
      exact this
    have hstk : st.map (zzcv ad) = (as.map (zzcv ad)).reverse ++ .ref (ad a) :: rest.map (zzcv ad) := by rw [hst, List.map_append, List.map_reverse]; rfl
    rcases zz4 (zzfst aux).1 with hy | hy | hy | ⟨y, hy⟩
    · rw [hy] at hw
      exact hw.elim
    · rw [hy] at hw
      exact hw.elim
    · rw [hy] at hw
      exact hw.elim
    · rw [hy] at ho hw
      obtain ⟨q, r, hPq, ⟨hcode, hini, hc1, hc2, hmL⟩, hcr, hrn, hins, hsel, hrk, hpar, hlink⟩ := hw
      obtain ⟨d, hR, hM⟩ := hcall.1 y _ _ _ ho q hPq
      subst hR
      rw [hrk] at hgo
      have hroom : (zzroom d).frames + 1 ≤ (zzroom (d + 1)).frames ∧ 8 + (q.2.2.1 + 11) + (zzroom d).locals ≤ (zzroom (d + 1)).locals := ⟨Nat.le_refl _, by show 8 + (q.2.2.1 + 11) + 40 * d ≤ 40 * (d + 1); omega⟩
      have hrecv : ∃ cell : Cell, H[ad a]? = some cell ∧ cell.vm.isStatics = false ∧ s.vm.findClass q.1.cls = some cell.cls := by
        rw [← hrn]
        exact va_recv hK hP hcr (zzworld_at hcc)
      have hpre : PreV s H q.1.cls (ad a) (zzPc D dA ad (.ref a :: as) μ H.size) (as.map (zzcv ad)) := ⟨fun a U g mk q => by
          obtain ⟨q0, q1, qP, qK, qN⟩ := q
          exact ⟨q0, q1, qP, va_K.moved (u := U) (U := U.calling g mk a) (Vm.Alike.refl U.vm) qK, fun z hz => va_Nw.same rfl rfl (qN z hz)⟩, hrecv,
        fun U hU hW => ⟨rfl, by rw [hU], by rw [hU]; exact hP, va_K.moved hW.alike hK, fun z hz => va_Nw.warmM hW (hnw z hz)⟩⟩
      exact zzcall (va_runV (As := as.map (zzcv ad)) (rest := rest.map (zzcv ad)) ⟨hx, hb, hml, hown, hts⟩ (hM H.size) (cwV (zzfst aux).2 hts (zzgoodL (fun w hw => by
            rcases List.mem_cons.mp hw with rfl | hw
            · exact hlink
            rcases List.mem_cons.mp hw with rfl | hw
            · exact hins
            rcases List.mem_cons.mp hw with rfl | hw
            · exact hsel
            rcases List.mem_cons.mp hw with rfl | hw
            · exact hini
            · cases hw) (zzgoodIn hcode)) rfl rfl rfl ⟨rfl, hc1, hc2, hpar⟩ hroom) hpre rfl (by rw [List.length_map, hbl]) hl.1 hstk (lv_room hr8) hdg ⟨Nat.le_refl _, Nat.le_refl _⟩) hS hA1 hgo
end
end
section
/-! A METHOD of the small machine, over the machine: rows in a row, loops, calls -/
section
variable {p : Program} {l : Launch} {e : Env} {R : Room} {s : State} {m : MethodId} {args : Array Value} {below : List Frame} {meth : Method} {c : Code} {Q : State → Prop} {D : va_G} {dA : Nat → ClassId} {ad : Nat → Nat} {A : Nat → Prop} {nL rk : Nat} {cc : ByteArray} {own : String} {P : List zzT}
set_option maxHeartbeats 4000000 in
theorem zzstep_ok {rr : zzR} (hX : zzX p s m args meth c cc own nL rk D dA ad A) (hQ : Q = MQ below (zzQ D dA ad A rk rr) args s 0 0 A) {call : Nat → List Value → zzM → Option zzR} (hcall : zzCl l D dA ad P R call)
    {pc len : Nat} {aux : List (Nat × Nat)} {ls : zzL} {st : List Value} {μ : zzM} {next : zzL → List Value → zzM → Option zzR} {jump : Nat → List Value → Option zzR}
    (hn : ∀ ls' st' μ', next ls' st' μ' = some rr → zzW p l e R s m args below meth c Q D dA ad A nL (pc + len) ls' st' μ')
    (hj : ∀ t st', jump t st' = some rr → zzW p l e R s m args below meth c Q D dA ad A nL t ls st' μ) : ∀ (i : Instr), decode cc pc = .ok (i, len) → zzwd P own nL len pc i aux → zzstep call rk i aux ls st μ next jump = some rr → zzW p l e R s m args below meth c Q D dA ad A nL pc ls st μ := by
  intro i
  cases i with
  | iadd => exact fun hdg hw h => zs_iadd hX hQ hcall hdg hw h hn hj
  | isub => exact fun hdg hw h => zs_isub hX hQ hcall hdg hw h hn hj
  | imul => exact fun hdg hw h => zs_imul hX hQ hcall hdg hw h hn hj
  | iand => exact fun hdg hw h => zs_iand hX hQ hcall hdg hw h hn hj
  | ior => exact fun hdg hw h => zs_ior hX hQ hcall hdg hw h hn hj
  | ixor => exact fun hdg hw h => zs_ixor hX hQ hcall hdg hw h hn hj
  | ishl => exact fun hdg hw h => zs_ishl hX hQ hcall hdg hw h hn hj
  | ishr => exact fun hdg hw h => zs_ishr hX hQ hcall hdg hw h hn hj
  | iushr => exact fun hdg hw h => zs_iushr hX hQ hcall hdg hw h hn hj
  | idiv => exact fun hdg hw h => zs_idiv hX hQ hcall hdg hw h hn hj
  | irem => exact fun hdg hw h => zs_irem hX hQ hcall hdg hw h hn hj
  | ladd => exact fun hdg hw h => zs_ladd hX hQ hcall hdg hw h hn hj
  | lsub => exact fun hdg hw h => zs_lsub hX hQ hcall hdg hw h hn hj
  | lmul => exact fun hdg hw h => zs_lmul hX hQ hcall hdg hw h hn hj
  | land => exact fun hdg hw h => zs_land hX hQ hcall hdg hw h hn hj
  | lor => exact fun hdg hw h => zs_lor hX hQ hcall hdg hw h hn hj
  | lrem => exact fun hdg hw h => zs_lrem hX hQ hcall hdg hw h hn hj
  | lcmp => exact fun hdg hw h => zs_lcmp hX hQ hcall hdg hw h hn hj
  | lshl => exact fun hdg hw h => zs_lshl hX hQ hcall hdg hw h hn hj
  | lshr => exact fun hdg hw h => zs_lshr hX hQ hcall hdg hw h hn hj
  | i2l => exact fun hdg hw h => zs_i2l hX hQ hcall hdg hw h hn hj
  | l2i => exact fun hdg hw h => zs_l2i hX hQ hcall hdg hw h hn hj
  | i2b => exact fun hdg hw h => zs_i2b hX hQ hcall hdg hw h hn hj
  | iconst n => exact fun hdg hw h => zs_iconst hX hQ hcall hdg hw h hn hj
  | bipush n => exact fun hdg hw h => zs_bipush hX hQ hcall hdg hw h hn hj
  | sipush n => exact fun hdg hw h => zs_sipush hX hQ hcall hdg hw h hn hj
  | lconst n => exact fun hdg hw h => zs_lconst hX hQ hcall hdg hw h hn hj
  | ldc n => exact fun hdg hw h => zs_ldc hX hQ hcall hdg hw h hn hj
  | ldc_w n => exact fun hdg hw h => zs_ldc_w hX hQ hcall hdg hw h hn hj
  | ldc2_w n => exact fun hdg hw h => zs_ldc2_w hX hQ hcall hdg hw h hn hj
  | iload k => exact fun hdg hw h => zs_iload hX hQ hcall hdg hw h hn hj
  | iload_n k => exact fun hdg hw h => zs_iload_n hX hQ hcall hdg hw h hn hj
  | lload k => exact fun hdg hw h => zs_lload hX hQ hcall hdg hw h hn hj
  | lload_n k => exact fun hdg hw h => zs_lload_n hX hQ hcall hdg hw h hn hj
  | aload k => exact fun hdg hw h => zs_aload hX hQ hcall hdg hw h hn hj
  | aload_n k => exact fun hdg hw h => zs_aload_n hX hQ hcall hdg hw h hn hj
  | istore k => exact fun hdg hw h => zs_istore hX hQ hcall hdg hw h hn hj
  | istore_n k => exact fun hdg hw h => zs_istore_n hX hQ hcall hdg hw h hn hj
  | lstore k => exact fun hdg hw h => zs_lstore hX hQ hcall hdg hw h hn hj
  | lstore_n k => exact fun hdg hw h => zs_lstore_n hX hQ hcall hdg hw h hn hj
  | iinc k n => exact fun hdg hw h => zs_iinc hX hQ hcall hdg hw h hn hj
  | dup => exact fun hdg hw h => zs_dup hX hQ hcall hdg hw h hn hj
  | dup2 => exact fun hdg hw h => zs_dup2 hX hQ hcall hdg hw h hn hj
  | pop => exact fun hdg hw h => zs_pop hX hQ hcall hdg hw h hn hj
  | goto o => exact fun hdg hw h => zs_goto hX hQ hcall hdg hw h hn hj
  | tableswitch d lo hi os => exact fun hdg hw h => zs_tableswitch hX hQ hcall hdg hw h hn hj
  | lookupswitch d ps => exact fun hdg hw h => zs_lookupswitch hX hQ hcall hdg hw h hn hj
  | getfield j => exact fun hdg hw h => zs_getfield hX hQ hcall hdg hw h hn hj
  | putfield j => exact fun hdg hw h => zs_putfield hX hQ hcall hdg hw h hn hj
  | arraylength => exact fun hdg hw h => zs_arraylength hX hQ hcall hdg hw h hn hj
  | iaload => exact fun hdg hw h => zs_iaload hX hQ hcall hdg hw h hn hj
  | baload => exact fun hdg hw h => zs_baload hX hQ hcall hdg hw h hn hj
  | laload => exact fun hdg hw h => zs_laload hX hQ hcall hdg hw h hn hj
  | aaload => exact fun hdg hw h => zs_aaload hX hQ hcall hdg hw h hn hj
  | iastore => exact fun hdg hw h => zs_iastore hX hQ hcall hdg hw h hn hj
  | bastore => exact fun hdg hw h => zs_bastore hX hQ hcall hdg hw h hn hj
  | lastore => exact fun hdg hw h => zs_lastore hX hQ hcall hdg hw h hn hj
  | ireturn => exact fun hdg hw h => zs_ireturn hX hQ hcall hdg hw h hn hj
  | lreturn => exact fun hdg hw h => zs_lreturn hX hQ hcall hdg hw h hn hj
  | areturn => exact fun hdg hw h => zs_areturn hX hQ hcall hdg hw h hn hj
  | return_ => exact fun hdg hw h => zs_return_ hX hQ hcall hdg hw h hn hj
  | invokestatic j => exact fun hdg hw h => zs_invokestatic hX hQ hcall hdg hw h hn hj
  | invokevirtual j => exact fun hdg hw h => zs_invokevirtual hX hQ hcall hdg hw h hn hj
  | ifCond cd o =>
    cases cd with
    | eq => exact fun hdg hw h => zs_ifCond_eq hX hQ hcall hdg hw h hn hj
    | ne => exact fun hdg hw h => zs_ifCond_ne hX hQ hcall hdg hw h hn hj
    | lt => exact fun hdg hw h => zs_ifCond_lt hX hQ hcall hdg hw h hn hj
    | ge => exact fun hdg hw h => zs_ifCond_ge hX hQ hcall hdg hw h hn hj
    | gt => exact fun hdg hw h => zs_ifCond_gt hX hQ hcall hdg hw h hn hj
    | le => exact fun hdg hw h => zs_ifCond_le hX hQ hcall hdg hw h hn hj
  | if_icmp cd o =>
    cases cd with
    | eq => exact fun hdg hw h => zs_if_icmp_eq hX hQ hcall hdg hw h hn hj
    | ne => exact fun hdg hw h => zs_if_icmp_ne hX hQ hcall hdg hw h hn hj
    | lt => exact fun hdg hw h => zs_if_icmp_lt hX hQ hcall hdg hw h hn hj
    | ge => exact fun hdg hw h => zs_if_icmp_ge hX hQ hcall hdg hw h hn hj
    | gt => exact fun hdg hw h => zs_if_icmp_gt hX hQ hcall hdg hw h hn hj
    | le => exact fun hdg hw h => zs_if_icmp_le hX hQ hcall hdg hw h hn hj
  | _ => exact fun _ _ h => absurd (show (none : Option zzR) = some rr from h) (fun z => by cases z)
def zzrow (P : List zzT) (own : String) (nL : Nat) (cc : ByteArray) (q : zzI) : Prop := q.2.1 = 0 ∨ (decode cc q.1 = .ok (q.2.2.1, q.2.1) ∧ zzwd P own nL q.2.1 q.1 q.2.2.1 q.2.2.2)
def zzseq : List zzI → Bool
  | [] => true
  | [_] => true
  | q :: r :: t => r.1.beq (q.1 + q.2.1) && zzseq (r :: t)
theorem zzseq_tail {q : zzI} {r : List zzI} (h : zzseq (q :: r) = true) : zzseq r = true := by
  cases r with
  | nil => rfl
  | cons a t =>
    unfold zzseq at h
    exact (Bool.and_eq_true_iff.mp h).2
theorem zzseq_head {q a : zzI} {t : List zzI} (h : zzseq (q :: a :: t) = true) : a.1 = q.1 + q.2.1 := by
  unfold zzseq at h
  exact Nat.eq_of_beq_eq_true (Bool.and_eq_true_iff.mp h).1
theorem zzdrop_s (t : Nat) : ∀ (r : List zzI) (q : zzI) (r' : List zzI), zzdrop t r = q :: r' → q.1 = t ∧ (∀ x ∈ q :: r', x ∈ r) ∧ (zzseq r = true → zzseq (q :: r') = true)
  | [], _, _, h => by cases h
  | a :: r, q, r', h => by
    unfold zzdrop at h
    cases hb : a.1.beq t with
    | true =>
      rw [hb] at h
      have h : a :: r = q :: r' := h
      cases h
      exact ⟨Nat.eq_of_beq_eq_true hb, fun x hx => hx, fun h => h⟩
    | false =>
      rw [hb] at h
      obtain ⟨h1, h2, h3⟩ := zzdrop_s t r q r' h
      exact ⟨h1, fun x hx => List.mem_cons_of_mem _ (h2 x hx), fun h => h3 (zzseq_tail h)⟩
theorem zzfind_s (t : Nat) : ∀ (ctx : List (Nat × (zzL → zzM → Option zzR))) (k : zzL → zzM → Option zzR), zzfind t ctx = some k → (t, k) ∈ ctx
  | [], _, h => by cases h
  | q :: r, k, h => by
    unfold zzfind at h
    cases hb : q.1.beq t with
    | true =>
      rw [hb] at h
      have h1 : q.1 = t := Nat.eq_of_beq_eq_true hb
      have h2 : q.2 = k := Option.some.inj h
      rw [← h1, ← h2]
      exact List.mem_cons_self
    | false =>
      rw [hb] at h
      exact List.mem_cons_of_mem _ (zzfind_s t r k h)
theorem zzup_sub3 (i : Nat) (r : List (Nat × Nat)) (l0 ls : zzL) (v : List Int32 × List Int64) (ih : ∀ q ∈ zzup r l0 v.1 v.2, zzpk r l0 ls = some v → q ∈ ls) (h : (match zzlk l0 i, zzlk ls i with
    | some (.ref a), some (.ref b) => bif a.beq b then zzpk r l0 ls else none
    | _, _ => none) = some v) (q : Nat × Value) (hq : q ∈ (match zzlk l0 i with
    | some x => (i, x) :: zzup r l0 v.1 v.2
    | none => zzup r l0 v.1 v.2)) : q ∈ ls := by
  split at h
  · rename_i a b ha hb
    cases hab : a.beq b with
    | false => rw [hab] at h; cases h
    | true =>
      rw [hab] at h
      have hab := Nat.eq_of_beq_eq_true hab
      subst hab
      rw [ha] at hq
      rcases List.mem_cons.mp hq with hq | hq
      · subst hq; exact zzlk_mem hb
      · exact ih q hq h
  · cases h
theorem zzup_sub : ∀ (aux : List (Nat × Nat)) (l0 ls : zzL) (v : List Int32 × List Int64), zzpk aux l0 ls = some v → ∀ q ∈ zzup aux l0 v.1 v.2, q ∈ ls
  | [], _, _, _, _, q, hq => by cases hq
  | (i, 1) :: r, l0, ls, v, h, q, hq => by
    have h : (match zzlk ls i with
      | some (.int x) => (zzpk r l0 ls).bind fun v => some (x :: v.1, v.2)
      | _ => none) = some v := h
    split at h
    · rename_i x hx
      obtain ⟨v', h1, h2⟩ := Option.bind_eq_some_iff.mp h
      cases h2
      rcases List.mem_cons.mp hq with hq | hq
      · subst hq; exact zzlk_mem hx
      · exact zzup_sub r l0 ls v' h1 q hq
    · cases h
  | (i, 2) :: r, l0, ls, v, h, q, hq => by
    have h : (match zzlk ls i with
      | some (.long x) => (zzpk r l0 ls).bind fun v => some (v.1, x :: v.2)
      | _ => none) = some v := h
    split at h
    · rename_i x hx
      obtain ⟨v', h1, h2⟩ := Option.bind_eq_some_iff.mp h
      cases h2
      rcases List.mem_cons.mp hq with hq | hq
      · subst hq; exact zzlk_mem hx
      · exact zzup_sub r l0 ls v' h1 q hq
    · cases h
  | (i, 0) :: r, l0, ls, v, h, q, hq => zzup_sub3 i r l0 ls v (fun q hq h => zzup_sub r l0 ls v h q hq) h q hq
  | (i, k + 3) :: r, l0, ls, v, h, q, hq => zzup_sub3 i r l0 ls v (fun q hq h => zzup_sub r l0 ls v h q hq) h q hq
theorem zzW_sub {pc : Nat} {ls ls' : zzL} {st : List Value} {μ : zzM} (hs : ∀ q ∈ ls', q ∈ ls) (h : zzW p l e R s m args below meth c Q D dA ad A nL pc ls' st μ) : zzW p l e R s m args below meth c Q D dA ad A nL pc ls st μ := by
  intro H locs lc hP hS hl
  refine h H locs lc hP hS ⟨hl.1, hl.2.1, fun q hq => hl.2.2 q ?_⟩
  obtain ⟨x, hx, rfl⟩ := List.mem_map.mp hq
  exact List.mem_map.mpr ⟨x, hs x hx, rfl⟩
set_option maxHeartbeats 4000000 in
theorem zzx_ok {rr : zzR} {N : Nat} (hX : zzX p s m args meth c cc own nL rk D dA ad A) (hQ : Q = MQ below (zzQ D dA ad A rk rr) args s 0 0 A) {call : Nat → List Value → zzM → Option zzR} (hcall : zzCl l D dA ad P R call) : ∀ (f : Nat) (ctx : List (Nat × (zzL → zzM → Option zzR))) (q : zzI) (is : List zzI) (ls : zzL) (st : List Value) (μ : zzM), zzx call N rk f ctx (q :: is) ls st μ = some rr → (∀ x ∈ q :: is, zzrow P own nL cc x) → zzseq (q :: is) = true →
    (∀ x ∈ ctx, ∀ ls' μ', x.2 ls' μ' = some rr → zzW p l e R s m args below meth c Q D dA ad A nL x.1 ls' [] μ') → zzW p l e R s m args below meth c Q D dA ad A nL q.1 ls st μ := by
  intro f
  induction f with
  | zero => intro ctx q is ls st μ h; cases h
  | succ f ih =>
    intro ctx q is ls st μ h hr hs hc
    obtain ⟨pc, len, i, aux⟩ := q
    -- the rest of the code, with any open loops
    have go : ∀ (ctx' : List (Nat × (zzL → zzM → Option zzR))) (ls' : zzL) (st' : List Value) (μ' : zzM), zzx call N rk f ctx' is ls' st' μ' = some rr → (∀ x ∈ ctx', ∀ ls' μ', x.2 ls' μ' = some rr → zzW p l e R s m args below meth c Q D dA ad A nL x.1 ls' [] μ') → zzW p l e R s m args below meth c Q D dA ad A nL (pc + len) ls' st' μ' := by
      intro ctx' ls' st' μ' h' hc'
      cases his : is with
      | nil => rw [his] at h'; cases f <;> cases h'
      | cons a t =>
        subst his
        have := ih ctx' a t ls' st' μ' h' (fun x hx => hr x (List.mem_cons_of_mem _ hx)) (zzseq_tail hs) hc'
        rw [zzseq_head hs] at this
        exact this
    cases len with
    | zero =>
      have h : (match st with
        | [] => (zzpk aux ls ls).bind fun v0 => zzl (fun v again => zzx call N rk f ((pc, fun ls' μ' => (zzpk aux ls ls').bind fun v' => again (v'.1, v'.2, μ')) :: ctx) is (zzup aux ls v.1 v.2.1) [] v.2.2) N (v0.1, v0.2, μ)
        | _ => none) = some rr := by
        cases st <;> exact h
      cases st with
      | cons a t => cases h
      | nil =>
        obtain ⟨v0, hv0, h⟩ := Option.bind_eq_some_iff.mp h
        have lp : ∀ (n : Nat) (v : zzS), zzl (fun v again => zzx call N rk f ((pc, fun ls' μ' => (zzpk aux ls ls').bind fun v' => again (v'.1, v'.2, μ')) :: ctx) is (zzup aux ls v.1 v.2.1) [] v.2.2) n v = some rr → zzW p l e R s m args below meth c Q D dA ad A nL pc (zzup aux ls v.1 v.2.1) [] v.2.2 := by
          intro n
          induction n with
          | zero => intro v hv; cases hv
          | succ n ihn =>
            intro v hv
            refine go _ _ _ _ hv ?_
            intro x hx ls' μ' hk
            rcases List.mem_cons.mp hx with rfl | hx
            · obtain ⟨v', hv', hk⟩ := Option.bind_eq_some_iff.mp hk
              exact zzW_sub (zzup_sub aux ls ls' v' hv') (ihn (v'.1, v'.2, μ') hk)
            · exact hc x hx ls' μ' hk
        exact zzW_sub (zzup_sub aux ls ls v0 hv0) (lp N (v0.1, v0.2, μ) h)
    | succ len =>
      rcases hr _ List.mem_cons_self with h0 | ⟨hdg, hw⟩
      · cases h0
      · refine zzstep_ok (aux := aux) (next := fun ls st μ => zzx call N rk f ctx is ls st μ) (jump := fun t st => match zzfind t ctx with
          | some k => (match st with
            | [] => k ls μ
            | _ => none)
          | none => zzx call N rk f ctx (zzdrop t is) ls st μ) hX hQ hcall (fun ls' st' μ' h' => go ctx ls' st' μ' h' hc) (fun t st' h' => ?_) i hdg hw h
        cases hf : zzfind t ctx with
        | some k =>
          simp only [hf] at h'
          cases st' with
          | cons a b => cases h'
          | nil => exact hc (t, k) (zzfind_s t ctx k hf) ls μ h'
        | none =>
          simp only [hf] at h'
          cases hd : zzdrop t is with
          | nil => rw [hd] at h'; cases f <;> cases h'
          | cons a b =>
            rw [hd] at h'
            obtain ⟨h1, h2, h3⟩ := zzdrop_s t is a b hd
            have := ih ctx a b ls st' μ h' (fun x hx => hr x (List.mem_cons_of_mem _ (h2 x hx))) (h3 (zzseq_tail hs)) hc
            rw [h1] at this
            exact this
end
end
section
/-! EVERY METHOD's CONTRACT: what the small machine answers, the machine answers -/
def zzhd (rows : List zzI) : Bool := match rows with
  | r :: _ => r.1.beq 0
  | [] => false
/-- a method's rows are its code's -/
def zzmg (P : List zzT) (q : zzT) : Prop := plainName q.1.cls = true ∧ zzrt q.2.2.2.2.1 q.2.2.2.1 ∧ (∀ r ∈ q.2.2.2.2.2, zzrow P q.1.cls q.2.2.1 q.2.1 r) ∧ zzseq q.2.2.2.2.2 = true ∧ zzhd q.2.2.2.2.2 = true
theorem zzargs_map (ad : Nat → Nat) : ∀ (as : List Value) (k : Nat), lv_args k (as.map (zzcv ad)) = zzlc ad (lv_args k as)
  | [], _ => rfl
  | v :: as, k => by
    show (k, zzcv ad v) :: lv_args (if (zzcv ad v).category = 2 then k + 2 else k + 1) (as.map (zzcv ad)) = (k, zzcv ad v) :: zzlc ad (lv_args (if v.category = 2 then k + 2 else k + 1) as)
    rw [zzcv_cat, zzargs_map ad as]
theorem zzsl_len (ad : Nat → Nat) : ∀ (as : List Value), (lg_sl (as.map (zzcv ad))).length = zzcat as
  | [] => rfl
  | v :: as => by
    have h := zzsl_len ad as
    unfold lg_sl at h ⊢
    rw [List.map_cons, List.flatMap_cons, List.length_append, h, zzcv_cat]
    show _ = v.category + zzcat as
    rcases lv_cat v with h1 | h1
    · rw [h1]; rfl
    · rw [h1]; rfl
theorem zzcopy_s {P : List zzT} {N d : Nat} {as : List Value} {μ : zzM} {o : zzR} (h : zzf P N (d + 1) 0 as μ = some o) : ∃ (a b n0 n1 : Nat) (t0 t1 : List Nat) (sp dp n : Int32) (μ' : zzM), as = [.ref a, .int sp, .ref b, .int dp, .int n] ∧ zzcells[a]? = some (.inr (0, n0, t0)) ∧ zzcells[b]? = some (.inr (0, n1, t1)) ∧ zzcp μ a n0 sp b n1 dp n = some μ' ∧ o = ((0, 0, 0), μ') := by
  have h : zzcy as μ = some o := h
  unfold zzcy at h
  split at h
  · split at h
    · rename_i ha hb
      obtain ⟨μ', h1, h2⟩ := Option.bind_eq_some_iff.mp h
      exact ⟨_, _, _, _, _, _, _, _, _, μ', rfl, ha, hb, h1, (Option.some.inj h2).symm⟩
    · cases h
  · cases h
theorem zzmi_s {as : List Value} {μ : zzM} {o : zzR} (h : zzmi as μ = some o) : ∃ (a b : Int32), as = [.int a, .int b] ∧ o = ((if b < a then b else a, 0, 0), μ) := by
  unfold zzmi at h
  split at h
  · exact ⟨_, _, rfl, (Option.some.inj h).symm⟩
  · cases h
theorem zzml_s {as : List Value} {μ : zzM} {o : zzR} (h : zzml as μ = some o) : ∃ (a b : Int64), as = [.long a, .long b] ∧ o = ((0, if b < a then b else a, 0), μ) := by
  unfold zzml at h
  split at h
  · exact ⟨_, _, rfl, (Option.some.inj h).symm⟩
  · cases h
set_option maxHeartbeats 4000000 in
theorem zzf_one (l : Launch) (D : va_G) (dA : Nat → ClassId) (ad : Nat → Nat) (hinj : zzinj ad) {P : List zzT} (hg : ∀ q ∈ P, zzmg P q) {N d y : Nat} {as : List Value} {μ : zzM} {rr : zzR} {q : zzT} (hcl : zzCl l D dA ad P (zzroom d) (zzf P N d)) (h : zzf P N (d + 1) (y + 3) as μ = some rr) (hq : P[y]? = some q) : zzMet l D dA ad d q as μ rr := by
  intro sz
  obtain ⟨hpl, hrt, hrows, hseq, hhd⟩ := hg q (List.mem_of_getElem? hq)
  have h : (match P[y]? with
      | some q => bif (zzcat as).ble q.2.2.1 then zzx (zzf P N d) N q.2.2.2.2.1 400 [] q.2.2.2.2.2 (lv_args 0 as) [] μ else none
      | none => none) = some rr := h
  rw [hq] at h
  have h : (bif (zzcat as).ble q.2.2.1 then zzx (zzf P N d) N q.2.2.2.2.1 400 [] q.2.2.2.2.2 (lv_args 0 as) [] μ else none) = some rr := h
  cases hb : (zzcat as).ble q.2.2.1 with
  | false => rw [hb] at h; cases h
  | true =>
    rw [hb] at h
    have h : zzx (zzf P N d) N q.2.2.2.2.1 400 [] q.2.2.2.2.2 (lv_args 0 as) [] μ = some rr := h
    cases hrw : q.2.2.2.2.2 with
    | nil => rw [hrw] at hhd; cases hhd
    | cons r0 rs =>
      rw [hrw] at h hrows hseq hhd
      have hpc : r0.1 = 0 := Nat.eq_of_beq_eq_true hhd
      refine Met.ofW (cc := q.2.1) (maxL := q.2.2.1) (ret := q.2.2.2.1) hpl rfl ?_
      intro p e s m args below meth c s₁ B hml hv
      obtain ⟨rfl, hsz, hP, hK, hN⟩ := hv
      subst hsz
      have hts := atoms_spec (ws := Cond.code q.1 q.2.1 q.2.2.1 q.2.2.2.1 :: zzTb) B.pre
      have hX : zzX p s m (as.map (zzcv ad)).toArray meth c q.2.1 q.1.cls q.2.2.1 q.2.2.2.2.1 D dA ad (zzA ad s.heap.size) := ⟨B.exec, B.bytes, hml, findClass_of_methodNamed B.named, fun w hw => hts w (List.mem_cons_of_mem _ hw), hK, hN, hinj, fun _ h => h, B.notSynchronized, by rw [B.returns]; exact hrt⟩
      have key := zzx_ok (below := below) (e := e) (R := zzroom d) (P := P) (N := N) hX rfl hcl 400 [] r0 rs (lv_args 0 as) [] μ h hrows hseq (fun x hx => by cases hx)
      rw [hpc] at key
      rw [lg_entry_eq]
      have hl := lv_entry (as.map (zzcv ad)) (n := q.2.2.1) (by rw [zzsl_len]; exact Nat.le_of_ble_eq_true hb)
      rw [zzargs_map] at hl
      exact key s.heap [] _ hP va_S.rf hl
set_option maxHeartbeats 4000000 in
theorem zzf_ok (l : Launch) (D : va_G) (dA : Nat → ClassId) (ad : Nat → Nat) (hinj : zzinj ad) {P : List zzT} (hg : ∀ q ∈ P, zzmg P q) {N : Nat} : ∀ (d y : Nat) (as : List Value) (μ : zzM) (rr : zzR), zzf P N (d + 1) (y + 3) as μ = some rr → ∀ q, P[y]? = some q → zzMet l D dA ad d q as μ rr := by
  intro d
  induction d with
  | zero =>
    intro y as μ rr h q hq
    have hcl : zzCl l D dA ad P (zzroom 0) (zzf P N 0) := ⟨fun _ _ _ _ h => (by cases h), fun _ _ _ h => (by cases h), fun _ _ _ h => (by cases h), fun _ _ _ h => (by cases h)⟩
    exact zzf_one l D dA ad hinj hg hcl h hq
  | succ d ih =>
    intro y as μ rr h q hq
    have hcl : zzCl l D dA ad P (zzroom (d + 1)) (zzf P N (d + 1)) := ⟨fun y as μ o h q hq => ⟨d, rfl, ih y as μ o h q hq⟩, fun as μ o h => ⟨⟨d, rfl⟩, zzcopy_s h⟩, fun as μ o h => ⟨⟨d, rfl⟩, zzmi_s h⟩, fun as μ o h => ⟨⟨d, rfl⟩, zzml_s h⟩⟩
    exact zzf_one l D dA ad hinj hg hcl h hq
end
section
/-! the methods as rows: by program out of the decode rows and the tables' words -/
def zr3 : List zzI := [(0, 1, .iload_n 0, [(0, 0)]),
  (1, 1, .iload_n 0, [(0, 0)]),
  (2, 1, .iconst 1, [(1, 0)]),
  (3, 1, .iushr, []),
  (4, 3, .ldc_w 265, [(1431655765, 0)]),
  (7, 1, .iand, []),
  (8, 1, .isub, []),
  (9, 1, .istore_n 0, [(0, 0)]),
  (10, 1, .iload_n 0, [(0, 0)]),
  (11, 3, .ldc_w 266, [(858993459, 0)]),
  (14, 1, .iand, []),
  (15, 1, .iload_n 0, [(0, 0)]),
  (16, 1, .iconst 2, [(2, 0)]),
  (17, 1, .iushr, []),
  (18, 3, .ldc_w 266, [(858993459, 0)]),
  (21, 1, .iand, []),
  (22, 1, .iadd, []),
  (23, 1, .istore_n 0, [(0, 0)]),
  (24, 1, .iload_n 0, [(0, 0)]),
  (25, 1, .iload_n 0, [(0, 0)]),
  (26, 1, .iconst 4, [(4, 0)]),
  (27, 1, .iushr, []),
  (28, 1, .iadd, []),
  (29, 3, .ldc_w 267, [(252645135, 0)]),
  (32, 1, .iand, []),
  (33, 1, .istore_n 0, [(0, 0)]),
  (34, 1, .iload_n 0, [(0, 0)]),
  (35, 1, .iload_n 0, [(0, 0)]),
  (36, 2, .bipush 8, [(8, 0)]),
  (38, 1, .iushr, []),
  (39, 1, .iadd, []),
  (40, 1, .istore_n 0, [(0, 0)]),
  (41, 1, .iload_n 0, [(0, 0)]),
  (42, 1, .iload_n 0, [(0, 0)]),
  (43, 2, .bipush 16, [(16, 0)]),
  (45, 1, .iushr, []),
  (46, 1, .iadd, []),
  (47, 1, .istore_n 0, [(0, 0)]),
  (48, 1, .iload_n 0, [(0, 0)]),
  (49, 2, .bipush 63, [(63, 0)]),
  (51, 1, .iand, []),
  (52, 1, .ireturn, [])]
/-- java/lang/Integer.bitCount (I)I -/
def zt3 : zzT := (⟨"java/lang/Integer", "bitCount", "(I)I"⟩, prog_15_method_49_code, 1, (some .int), 1, zr3)
def zr4 : List zzI := [(0, 1, .iconst 0, [(0, 0)]),
  (1, 1, .istore_n 3, [(3, 0)]),
  (2, 1, .aload_n 0, [(0, 0)]),
  (3, 1, .arraylength, []),
  (4, 2, .istore 4, []),
  (6, 0, .nop, [(0, 3), (1, 2), (3, 1), (4, 1)]),
  (6, 1, .iload_n 3, [(3, 0)]),
  (7, 2, .iload 4, []),
  (9, 3, .if_icmp .ge 13, [(22, 0)]),
  (12, 1, .aload_n 0, [(0, 0)]),
  (13, 1, .iload_n 3, [(3, 0)]),
  (14, 1, .lload_n 1, [(1, 0)]),
  (15, 1, .lastore, []),
  (16, 3, .iinc 3 1, [(1, 0)]),
  (19, 3, .goto (-13), [(6, 0)]),
  (22, 1, .return_, [])]
/-- java/util/Arrays.fill ([JJ)V -/
def zt4 : zzT := (⟨"java/util/Arrays", "fill", "([JJ)V"⟩, prog_18_method_101_code, 5, none, 0, zr4)
def zr5 : List zzI := [(0, 1, .iconst 0, [(0, 0)]),
  (1, 1, .istore_n 2, [(2, 0)]),
  (2, 1, .aload_n 0, [(0, 0)]),
  (3, 1, .arraylength, []),
  (4, 1, .istore_n 3, [(3, 0)]),
  (5, 0, .nop, [(0, 3), (1, 1), (2, 1), (3, 1)]),
  (5, 1, .iload_n 2, [(2, 0)]),
  (6, 1, .iload_n 3, [(3, 0)]),
  (7, 3, .if_icmp .ge 13, [(20, 0)]),
  (10, 1, .aload_n 0, [(0, 0)]),
  (11, 1, .iload_n 2, [(2, 0)]),
  (12, 1, .iload_n 1, [(1, 0)]),
  (13, 1, .iastore, []),
  (14, 3, .iinc 2 1, [(1, 0)]),
  (17, 3, .goto (-12), [(5, 0)]),
  (20, 1, .return_, [])]
/-- java/util/Arrays.fill ([II)V -/
def zt5 : zzT := (⟨"java/util/Arrays", "fill", "([II)V"⟩, prog_18_method_103_code, 4, none, 0, zr5)
def zr6 : List zzI := [(0, 1, .aload_n 0, [(0, 0)]),
  (1, 3, .getfield 24, [(4, 6)]),
  (4, 1, .iload_n 1, [(1, 0)]),
  (5, 1, .iconst 4, [(4, 0)]),
  (6, 1, .imul, []),
  (7, 1, .iload_n 2, [(2, 0)]),
  (8, 1, .iadd, []),
  (9, 1, .iaload, []),
  (10, 1, .ireturn, [])]
/-- PackedForest$Grammar.symbolAt (II)I -/
def zt6 : zzT := (⟨"PackedForest$Grammar", "symbolAt", "(II)I"⟩, prog_6_method_2_code, 3, (some .int), 1, zr6)
def zr7 : List zzI := [(0, 1, .aload_n 0, [(0, 0)]),
  (1, 1, .aload_n 1, [(1, 0)]),
  (2, 3, .getfield 30, [(4, 0)]),
  (5, 3, .putfield 30, [(4, 0)]),
  (8, 1, .aload_n 0, [(0, 0)]),
  (9, 1, .aload_n 1, [(1, 0)]),
  (10, 3, .getfield 34, [(4, 1)]),
  (13, 3, .putfield 34, [(4, 1)]),
  (16, 1, .aload_n 1, [(1, 0)]),
  (17, 3, .getfield 9, [(4, 2)]),
  (20, 1, .iconst 0, [(0, 0)]),
  (21, 1, .aload_n 0, [(0, 0)]),
  (22, 3, .getfield 9, [(4, 2)]),
  (25, 1, .iconst 0, [(0, 0)]),
  (26, 2, .bipush 12, [(12, 0)]),
  (28, 3, .invokestatic 37, [(0, 5), (0, 0)]),
  (31, 1, .aload_n 1, [(1, 0)]),
  (32, 3, .getfield 15, [(4, 3)]),
  (35, 1, .iconst 0, [(0, 0)]),
  (36, 1, .aload_n 0, [(0, 0)]),
  (37, 3, .getfield 15, [(4, 3)]),
  (40, 1, .iconst 0, [(0, 0)]),
  (41, 2, .bipush 12, [(12, 0)]),
  (43, 3, .invokestatic 37, [(0, 5), (0, 0)]),
  (46, 1, .aload_n 1, [(1, 0)]),
  (47, 3, .getfield 18, [(4, 4)]),
  (50, 1, .iconst 0, [(0, 0)]),
  (51, 1, .aload_n 0, [(0, 0)]),
  (52, 3, .getfield 18, [(4, 4)]),
  (55, 1, .iconst 0, [(0, 0)]),
  (56, 2, .bipush 12, [(12, 0)]),
  (58, 3, .invokestatic 37, [(0, 5), (0, 0)]),
  (61, 1, .aload_n 1, [(1, 0)]),
  (62, 3, .getfield 21, [(4, 5)]),
  (65, 1, .iconst 0, [(0, 0)]),
  (66, 1, .aload_n 0, [(0, 0)]),
  (67, 3, .getfield 21, [(4, 5)]),
  (70, 1, .iconst 0, [(0, 0)]),
  (71, 2, .bipush 12, [(12, 0)]),
  (73, 3, .invokestatic 37, [(0, 5), (0, 0)]),
  (76, 1, .aload_n 1, [(1, 0)]),
  (77, 3, .getfield 24, [(4, 6)]),
  (80, 1, .iconst 0, [(0, 0)]),
  (81, 1, .aload_n 0, [(0, 0)]),
  (82, 3, .getfield 24, [(4, 6)]),
  (85, 1, .iconst 0, [(0, 0)]),
  (86, 2, .bipush 48, [(48, 0)]),
  (88, 3, .invokestatic 37, [(0, 5), (0, 0)]),
  (91, 1, .aload_n 1, [(1, 0)]),
  (92, 3, .getfield 27, [(4, 7)]),
  (95, 1, .iconst 0, [(0, 0)]),
  (96, 1, .aload_n 0, [(0, 0)]),
  (97, 3, .getfield 27, [(4, 7)]),
  (100, 1, .iconst 0, [(0, 0)]),
  (101, 2, .bipush 26, [(26, 0)]),
  (103, 3, .invokestatic 37, [(0, 5), (0, 0)]),
  (106, 1, .return_, [])]
/-- PackedForest$Grammar.copyFrom (LPackedForest$Grammar;)V -/
def zt7 : zzT := (⟨"PackedForest$Grammar", "copyFrom", "(LPackedForest$Grammar;)V"⟩, prog_6_method_3_code, 2, none, 0, zr7)
def zr8 : List zzI := [(0, 1, .iconst 1, [(1, 0)]),
  (1, 1, .aload_n 0, [(0, 0)]),
  (2, 3, .getfield 15, [(4, 3)]),
  (5, 1, .iload_n 1, [(1, 0)]),
  (6, 1, .iaload, []),
  (7, 1, .ishl, []),
  (8, 1, .istore_n 3, [(3, 0)]),
  (9, 1, .aload_n 0, [(0, 0)]),
  (10, 3, .getfield 15, [(4, 3)]),
  (13, 1, .iload_n 1, [(1, 0)]),
  (14, 1, .iaload, []),
  (15, 1, .iconst 1, [(1, 0)]),
  (16, 1, .isub, []),
  (17, 2, .istore 4, []),
  (19, 0, .nop, [(0, 3), (1, 1), (2, 1), (3, 1), (4, 1)]),
  (19, 2, .iload 4, []),
  (21, 3, .ifCond .lt 33, [(54, 0)]),
  (24, 1, .aload_n 0, [(0, 0)]),
  (25, 1, .iload_n 1, [(1, 0)]),
  (26, 2, .iload 4, []),
  (28, 3, .invokevirtual 43, [(6, 2), (1, 0), (4, 0)]),
  (31, 1, .iload_n 2, [(2, 0)]),
  (32, 3, .invokestatic 47, [(9, 2), (4, 0)]),
  (35, 3, .ifCond .ne 6, [(41, 0)]),
  (38, 3, .goto 16, [(54, 0)]),
  (41, 1, .iload_n 3, [(3, 0)]),
  (42, 1, .iconst 1, [(1, 0)]),
  (43, 2, .iload 4, []),
  (45, 1, .ishl, []),
  (46, 1, .ior, []),
  (47, 1, .istore_n 3, [(3, 0)]),
  (48, 3, .iinc 4 (-1), [(1, 1)]),
  (51, 3, .goto (-32), [(19, 0)]),
  (54, 1, .iload_n 3, [(3, 0)]),
  (55, 1, .ireturn, [])]
/-- PackedForest$Grammar.nulledPoints (II)I -/
def zt8 : zzT := (⟨"PackedForest$Grammar", "nulledPoints", "(II)I"⟩, prog_6_method_4_code, 5, (some .int), 1, zr8)
def zr9 : List zzI := [(0, 1, .iload_n 0, [(0, 0)]),
  (1, 2, .bipush 26, [(26, 0)]),
  (3, 3, .if_icmp .lt 18, [(21, 0)]),
  (6, 1, .iload_n 1, [(1, 0)]),
  (7, 1, .iload_n 0, [(0, 0)]),
  (8, 2, .bipush 26, [(26, 0)]),
  (10, 1, .isub, []),
  (11, 1, .ishr, []),
  (12, 1, .iconst 1, [(1, 0)]),
  (13, 1, .iand, []),
  (14, 3, .ifCond .eq 7, [(21, 0)]),
  (17, 1, .iconst 1, [(1, 0)]),
  (18, 3, .goto 4, [(22, 0)]),
  (21, 1, .iconst 0, [(0, 0)]),
  (22, 1, .ireturn, [])]
/-- PackedForest$Grammar.isAmong (II)Z -/
def zt9 : zzT := (⟨"PackedForest$Grammar", "isAmong", "(II)Z"⟩, prog_6_method_5_code, 2, (some .boolean), 4, zr9)
def zr10 : List zzI := [(0, 1, .aload_n 0, [(0, 0)]),
  (1, 1, .iconst 0, [(0, 0)]),
  (2, 3, .putfield 30, [(4, 0)]),
  (5, 1, .aload_n 0, [(0, 0)]),
  (6, 1, .iconst 0, [(0, 0)]),
  (7, 3, .putfield 34, [(4, 1)]),
  (10, 1, .aload_n 0, [(0, 0)]),
  (11, 3, .getfield 27, [(4, 7)]),
  (14, 1, .iconst 0, [(0, 0)]),
  (15, 3, .invokestatic 51, [(5, 2), (0, 0)]),
  (18, 1, .iconst 0, [(0, 0)]),
  (19, 1, .istore_n 3, [(3, 0)]),
  (20, 1, .iconst 0, [(0, 0)]),
  (21, 2, .istore 4, []),
  (23, 0, .nop, [(0, 3), (1, 3), (2, 1), (3, 1), (4, 1)]),
  (23, 2, .iload 4, []),
  (25, 1, .iload_n 2, [(2, 0)]),
  (26, 3, .if_icmp .ge 52, [(78, 0)]),
  (29, 1, .aload_n 1, [(1, 0)]),
  (30, 2, .iload 4, []),
  (32, 1, .iaload, []),
  (33, 2, .istore 5, []),
  (35, 2, .iload 5, []),
  (37, 2, .bipush 32, [(32, 0)]),
  (39, 3, .if_icmp .eq 33, [(72, 0)]),
  (42, 1, .aload_n 0, [(0, 0)]),
  (43, 1, .iload_n 3, [(3, 0)]),
  (44, 2, .iload 5, []),
  (46, 3, .invokevirtual 57, [(11, 2), (1, 0), (4, 0)]),
  (49, 2, .istore 6, []),
  (51, 2, .iload 6, []),
  (53, 3, .ifCond .lt 11, [(64, 0)]),
  (56, 2, .iload 4, []),
  (58, 2, .iload 6, []),
  (60, 3, .invokestatic 60, [(122, 2), (1, 0)]),
  (63, 1, .ireturn, []),
  (64, 1, .aload_n 0, [(0, 0)]),
  (65, 1, .iload_n 3, [(3, 0)]),
  (66, 2, .iload 5, []),
  (68, 3, .invokevirtual 63, [(13, 2), (1, 0), (4, 0)]),
  (71, 1, .istore_n 3, [(3, 0)]),
  (72, 3, .iinc 4 1, [(1, 0)]),
  (75, 3, .goto (-52), [(23, 0)]),
  (78, 1, .iload_n 3, [(3, 0)]),
  (79, 3, .ifCond .eq 13, [(92, 0)]),
  (82, 1, .iload_n 3, [(3, 0)]),
  (83, 1, .iconst 1, [(1, 0)]),
  (84, 3, .if_icmp .eq 8, [(92, 0)]),
  (87, 1, .iload_n 3, [(3, 0)]),
  (88, 1, .iconst 3, [(3, 0)]),
  (89, 3, .if_icmp .ne 9, [(98, 0)]),
  (92, 1, .iload_n 2, [(2, 0)]),
  (93, 1, .iconst 0, [(0, 0)]),
  (94, 3, .invokestatic 60, [(122, 2), (1, 0)]),
  (97, 1, .ireturn, []),
  (98, 1, .aload_n 0, [(0, 0)]),
  (99, 1, .aload_n 1, [(1, 0)]),
  (100, 1, .iload_n 2, [(2, 0)]),
  (101, 3, .invokevirtual 66, [(16, 2), (1, 0), (4, 0)]),
  (104, 1, .ireturn, [])]
/-- PackedForest$Grammar.tell ([II)I -/
def zt10 : zzT := (⟨"PackedForest$Grammar", "tell", "([II)I"⟩, prog_6_method_6_code, 7, (some .int), 1, zr10)
def zr11 : List zzI := [(0, 1, .iload_n 1, [(1, 0)]),
  (1, 35, .tableswitch 136 0 4 #[35, 41, 53, 99, 117], [(137, 0), (0, 36), (1, 42), (2, 54), (3, 100), (4, 118)]),
  (36, 1, .aload_n 0, [(0, 0)]),
  (37, 1, .iload_n 2, [(2, 0)]),
  (38, 3, .invokevirtual 70, [(12, 1), (1, 0), (4, 0)]),
  (41, 1, .ireturn, []),
  (42, 1, .iload_n 2, [(2, 0)]),
  (43, 2, .bipush 61, [(61, 0)]),
  (45, 3, .if_icmp .ne 7, [(52, 0)]),
  (48, 1, .iconst (-1), [(1, 1)]),
  (49, 3, .goto 4, [(53, 0)]),
  (52, 1, .iconst 0, [(0, 0)]),
  (53, 1, .ireturn, []),
  (54, 1, .iload_n 2, [(2, 0)]),
  (55, 3, .invokestatic 74, [(18, 1), (4, 0)]),
  (58, 3, .ifCond .eq 24, [(82, 0)]),
  (61, 1, .aload_n 0, [(0, 0)]),
  (62, 3, .getfield 15, [(4, 3)]),
  (65, 1, .aload_n 0, [(0, 0)]),
  (66, 3, .getfield 30, [(4, 0)]),
  (69, 1, .iconst 1, [(1, 0)]),
  (70, 1, .isub, []),
  (71, 1, .iaload, []),
  (72, 1, .iconst 4, [(4, 0)]),
  (73, 3, .if_icmp .ne 7, [(80, 0)]),
  (76, 1, .iconst 3, [(3, 0)]),
  (77, 3, .goto 4, [(81, 0)]),
  (80, 1, .iconst (-1), [(1, 1)]),
  (81, 1, .ireturn, []),
  (82, 1, .iload_n 2, [(2, 0)]),
  (83, 2, .bipush 58, [(58, 0)]),
  (85, 3, .if_icmp .eq 9, [(94, 0)]),
  (88, 1, .iload_n 2, [(2, 0)]),
  (89, 2, .bipush 59, [(59, 0)]),
  (91, 3, .if_icmp .ne 7, [(98, 0)]),
  (94, 1, .iconst (-1), [(1, 1)]),
  (95, 3, .goto 4, [(99, 0)]),
  (98, 1, .iconst 0, [(0, 0)]),
  (99, 1, .ireturn, []),
  (100, 1, .iload_n 2, [(2, 0)]),
  (101, 2, .bipush 49, [(49, 0)]),
  (103, 3, .if_icmp .lt 13, [(116, 0)]),
  (106, 1, .iload_n 2, [(2, 0)]),
  (107, 2, .bipush 57, [(57, 0)]),
  (109, 3, .if_icmp .gt 7, [(116, 0)]),
  (112, 1, .iconst (-1), [(1, 1)]),
  (113, 3, .goto 4, [(117, 0)]),
  (116, 1, .iconst 1, [(1, 0)]),
  (117, 1, .ireturn, []),
  (118, 1, .iload_n 2, [(2, 0)]),
  (119, 2, .bipush 59, [(59, 0)]),
  (121, 3, .if_icmp .eq 10, [(131, 0)]),
  (124, 1, .iload_n 2, [(2, 0)]),
  (125, 3, .invokestatic 78, [(19, 1), (1, 0)]),
  (128, 3, .ifCond .eq 7, [(135, 0)]),
  (131, 1, .iconst (-1), [(1, 1)]),
  (132, 3, .goto 4, [(136, 0)]),
  (135, 1, .iconst 0, [(0, 0)]),
  (136, 1, .ireturn, []),
  (137, 1, .iload_n 2, [(2, 0)]),
  (138, 2, .bipush 59, [(59, 0)]),
  (140, 3, .if_icmp .ne 7, [(147, 0)]),
  (143, 1, .iconst (-1), [(1, 1)]),
  (144, 3, .goto 4, [(148, 0)]),
  (147, 1, .iconst 0, [(0, 0)]),
  (148, 1, .ireturn, [])]
/-- PackedForest$Grammar.faultOf (II)I -/
def zt11 : zzT := (⟨"PackedForest$Grammar", "faultOf", "(II)I"⟩, prog_6_method_7_code, 3, (some .int), 1, zr11)
def zr12 : List zzI := [(0, 1, .iload_n 1, [(1, 0)]),
  (1, 3, .invokestatic 81, [(17, 1), (4, 0)]),
  (4, 3, .ifCond .ne 5, [(9, 0)]),
  (7, 1, .iconst 0, [(0, 0)]),
  (8, 1, .ireturn, []),
  (9, 1, .aload_n 0, [(0, 0)]),
  (10, 3, .getfield 34, [(4, 1)]),
  (13, 1, .iload_n 1, [(1, 0)]),
  (14, 2, .bipush 65, [(65, 0)]),
  (16, 1, .isub, []),
  (17, 1, .ishr, []),
  (18, 1, .iconst 1, [(1, 0)]),
  (19, 1, .iand, []),
  (20, 3, .ifCond .ne 7, [(27, 0)]),
  (23, 1, .iconst 1, [(1, 0)]),
  (24, 3, .goto 4, [(28, 0)]),
  (27, 1, .iconst 0, [(0, 0)]),
  (28, 1, .istore_n 2, [(2, 0)]),
  (29, 1, .aload_n 0, [(0, 0)]),
  (30, 3, .getfield 30, [(4, 0)]),
  (33, 2, .bipush 12, [(12, 0)]),
  (35, 3, .if_icmp .eq 18, [(53, 0)]),
  (38, 1, .iload_n 2, [(2, 0)]),
  (39, 3, .ifCond .eq 16, [(55, 0)]),
  (42, 1, .aload_n 0, [(0, 0)]),
  (43, 3, .getfield 34, [(4, 1)]),
  (46, 3, .invokestatic 84, [(3, 1), (1, 0)]),
  (49, 1, .iconst 5, [(5, 0)]),
  (50, 3, .if_icmp .ne 5, [(55, 0)]),
  (53, 1, .iconst 4, [(4, 0)]),
  (54, 1, .ireturn, []),
  (55, 1, .iconst (-1), [(1, 1)]),
  (56, 1, .ireturn, [])]
/-- PackedForest$Grammar.faultOfLeft (I)I -/
def zt12 : zzT := (⟨"PackedForest$Grammar", "faultOfLeft", "(I)I"⟩, prog_6_method_8_code, 3, (some .int), 1, zr12)
def zr13 : List zzI := [(0, 1, .iload_n 1, [(1, 0)]),
  (1, 35, .tableswitch 137 0 4 #[35, 45, 47, 93, 110], [(138, 0), (0, 36), (1, 46), (2, 48), (3, 94), (4, 111)]),
  (36, 1, .aload_n 0, [(0, 0)]),
  (37, 1, .iload_n 2, [(2, 0)]),
  (38, 2, .bipush 65, [(65, 0)]),
  (40, 1, .isub, []),
  (41, 3, .invokevirtual 89, [(14, 1), (0, 0), (4, 0)]),
  (44, 1, .iconst 1, [(1, 0)]),
  (45, 1, .ireturn, []),
  (46, 1, .iconst 2, [(2, 0)]),
  (47, 1, .ireturn, []),
  (48, 1, .iload_n 2, [(2, 0)]),
  (49, 3, .invokestatic 74, [(18, 1), (4, 0)]),
  (52, 3, .ifCond .eq 30, [(82, 0)]),
  (55, 1, .aload_n 0, [(0, 0)]),
  (56, 1, .iload_n 2, [(2, 0)]),
  (57, 3, .invokestatic 81, [(17, 1), (4, 0)]),
  (60, 3, .ifCond .eq 13, [(73, 0)]),
  (63, 1, .iload_n 2, [(2, 0)]),
  (64, 2, .bipush 65, [(65, 0)]),
  (66, 1, .isub, []),
  (67, 2, .bipush 26, [(26, 0)]),
  (69, 1, .iadd, []),
  (70, 3, .goto 7, [(77, 0)]),
  (73, 1, .iload_n 2, [(2, 0)]),
  (74, 2, .bipush 97, [(97, 0)]),
  (76, 1, .isub, []),
  (77, 3, .invokevirtual 93, [(15, 1), (0, 0), (4, 0)]),
  (80, 1, .iconst 2, [(2, 0)]),
  (81, 1, .ireturn, []),
  (82, 1, .iload_n 2, [(2, 0)]),
  (83, 2, .bipush 58, [(58, 0)]),
  (85, 3, .if_icmp .ne 7, [(92, 0)]),
  (88, 1, .iconst 3, [(3, 0)]),
  (89, 3, .goto 4, [(93, 0)]),
  (92, 1, .iconst 0, [(0, 0)]),
  (93, 1, .ireturn, []),
  (94, 1, .aload_n 0, [(0, 0)]),
  (95, 3, .getfield 18, [(4, 4)]),
  (98, 1, .aload_n 0, [(0, 0)]),
  (99, 3, .getfield 30, [(4, 0)]),
  (102, 1, .iconst 1, [(1, 0)]),
  (103, 1, .isub, []),
  (104, 1, .iload_n 2, [(2, 0)]),
  (105, 2, .bipush 48, [(48, 0)]),
  (107, 1, .isub, []),
  (108, 1, .iastore, []),
  (109, 1, .iconst 4, [(4, 0)]),
  (110, 1, .ireturn, []),
  (111, 1, .aload_n 0, [(0, 0)]),
  (112, 3, .getfield 21, [(4, 5)]),
  (115, 1, .aload_n 0, [(0, 0)]),
  (116, 3, .getfield 30, [(4, 0)]),
  (119, 1, .iconst 1, [(1, 0)]),
  (120, 1, .isub, []),
  (121, 1, .iload_n 2, [(2, 0)]),
  (122, 3, .invokestatic 78, [(19, 1), (1, 0)]),
  (125, 1, .iastore, []),
  (126, 1, .iload_n 2, [(2, 0)]),
  (127, 2, .bipush 59, [(59, 0)]),
  (129, 3, .if_icmp .ne 7, [(136, 0)]),
  (132, 1, .iconst 0, [(0, 0)]),
  (133, 3, .goto 4, [(137, 0)]),
  (136, 1, .iconst 5, [(5, 0)]),
  (137, 1, .ireturn, []),
  (138, 1, .iconst 0, [(0, 0)]),
  (139, 1, .ireturn, [])]
/-- PackedForest$Grammar.take (II)I -/
def zt13 : zzT := (⟨"PackedForest$Grammar", "take", "(II)I"⟩, prog_6_method_9_code, 3, (some .int), 1, zr13)
def zr14 : List zzI := [(0, 1, .aload_n 0, [(0, 0)]),
  (1, 3, .getfield 9, [(4, 2)]),
  (4, 1, .aload_n 0, [(0, 0)]),
  (5, 3, .getfield 30, [(4, 0)]),
  (8, 1, .iload_n 1, [(1, 0)]),
  (9, 2, .bipush 26, [(26, 0)]),
  (11, 1, .iadd, []),
  (12, 1, .iastore, []),
  (13, 1, .aload_n 0, [(0, 0)]),
  (14, 3, .getfield 15, [(4, 3)]),
  (17, 1, .aload_n 0, [(0, 0)]),
  (18, 3, .getfield 30, [(4, 0)]),
  (21, 1, .iconst 0, [(0, 0)]),
  (22, 1, .iastore, []),
  (23, 1, .aload_n 0, [(0, 0)]),
  (24, 3, .getfield 18, [(4, 4)]),
  (27, 1, .aload_n 0, [(0, 0)]),
  (28, 3, .getfield 30, [(4, 0)]),
  (31, 1, .iconst 0, [(0, 0)]),
  (32, 1, .iastore, []),
  (33, 1, .aload_n 0, [(0, 0)]),
  (34, 3, .getfield 21, [(4, 5)]),
  (37, 1, .aload_n 0, [(0, 0)]),
  (38, 3, .getfield 30, [(4, 0)]),
  (41, 1, .iconst 0, [(0, 0)]),
  (42, 1, .iastore, []),
  (43, 1, .aload_n 0, [(0, 0)]),
  (44, 3, .getfield 27, [(4, 7)]),
  (47, 1, .iload_n 1, [(1, 0)]),
  (48, 1, .dup2, []),
  (49, 1, .iaload, []),
  (50, 1, .iconst 1, [(1, 0)]),
  (51, 1, .aload_n 0, [(0, 0)]),
  (52, 3, .getfield 30, [(4, 0)]),
  (55, 1, .ishl, []),
  (56, 1, .ior, []),
  (57, 1, .iastore, []),
  (58, 1, .aload_n 0, [(0, 0)]),
  (59, 1, .dup, []),
  (60, 3, .getfield 34, [(4, 1)]),
  (63, 1, .iconst 1, [(1, 0)]),
  (64, 1, .iload_n 1, [(1, 0)]),
  (65, 1, .ishl, []),
  (66, 1, .ior, []),
  (67, 3, .putfield 34, [(4, 1)]),
  (70, 1, .aload_n 0, [(0, 0)]),
  (71, 1, .dup, []),
  (72, 3, .getfield 30, [(4, 0)]),
  (75, 1, .iconst 1, [(1, 0)]),
  (76, 1, .iadd, []),
  (77, 3, .putfield 30, [(4, 0)]),
  (80, 1, .return_, [])]
/-- PackedForest$Grammar.beginRule (I)V -/
def zt14 : zzT := (⟨"PackedForest$Grammar", "beginRule", "(I)V"⟩, prog_6_method_10_code, 2, none, 0, zr14)
def zr15 : List zzI := [(0, 1, .aload_n 0, [(0, 0)]),
  (1, 3, .getfield 30, [(4, 0)]),
  (4, 1, .iconst 1, [(1, 0)]),
  (5, 1, .isub, []),
  (6, 1, .istore_n 2, [(2, 0)]),
  (7, 1, .aload_n 0, [(0, 0)]),
  (8, 3, .getfield 24, [(4, 6)]),
  (11, 1, .iload_n 2, [(2, 0)]),
  (12, 1, .iconst 4, [(4, 0)]),
  (13, 1, .imul, []),
  (14, 1, .aload_n 0, [(0, 0)]),
  (15, 3, .getfield 15, [(4, 3)]),
  (18, 1, .iload_n 2, [(2, 0)]),
  (19, 1, .iaload, []),
  (20, 1, .iadd, []),
  (21, 1, .iload_n 1, [(1, 0)]),
  (22, 1, .iastore, []),
  (23, 1, .aload_n 0, [(0, 0)]),
  (24, 3, .getfield 15, [(4, 3)]),
  (27, 1, .iload_n 2, [(2, 0)]),
  (28, 1, .dup2, []),
  (29, 1, .iaload, []),
  (30, 1, .iconst 1, [(1, 0)]),
  (31, 1, .iadd, []),
  (32, 1, .iastore, []),
  (33, 1, .return_, [])]
/-- PackedForest$Grammar.addSymbol (I)V -/
def zt15 : zzT := (⟨"PackedForest$Grammar", "addSymbol", "(I)V"⟩, prog_6_method_11_code, 3, none, 0, zr15)
def zr16 : List zzI := [(0, 1, .iconst 0, [(0, 0)]),
  (1, 1, .istore_n 3, [(3, 0)]),
  (2, 0, .nop, [(0, 3), (1, 3), (2, 1), (3, 1)]),
  (2, 1, .iload_n 3, [(3, 0)]),
  (3, 1, .iload_n 2, [(2, 0)]),
  (4, 3, .if_icmp .ge 43, [(47, 0)]),
  (7, 1, .aload_n 1, [(1, 0)]),
  (8, 1, .iload_n 3, [(3, 0)]),
  (9, 1, .iaload, []),
  (10, 2, .istore 4, []),
  (12, 2, .iload 4, []),
  (14, 3, .invokestatic 81, [(17, 1), (4, 0)]),
  (17, 3, .ifCond .eq 24, [(41, 0)]),
  (20, 1, .aload_n 0, [(0, 0)]),
  (21, 3, .getfield 34, [(4, 1)]),
  (24, 2, .iload 4, []),
  (26, 2, .bipush 65, [(65, 0)]),
  (28, 1, .isub, []),
  (29, 1, .ishr, []),
  (30, 1, .iconst 1, [(1, 0)]),
  (31, 1, .iand, []),
  (32, 3, .ifCond .ne 9, [(41, 0)]),
  (35, 1, .iload_n 3, [(3, 0)]),
  (36, 1, .iconst 2, [(2, 0)]),
  (37, 3, .invokestatic 60, [(122, 2), (1, 0)]),
  (40, 1, .ireturn, []),
  (41, 3, .iinc 3 1, [(1, 0)]),
  (44, 3, .goto (-42), [(2, 0)]),
  (47, 1, .iconst 0, [(0, 0)]),
  (48, 1, .ireturn, [])]
/-- PackedForest$Grammar.faultOfCapitals ([II)I -/
def zt16 : zzT := (⟨"PackedForest$Grammar", "faultOfCapitals", "([II)I"⟩, prog_6_method_12_code, 5, (some .int), 1, zr16)
def zr17 : List zzI := [(0, 1, .iload_n 0, [(0, 0)]),
  (1, 2, .bipush 65, [(65, 0)]),
  (3, 3, .if_icmp .lt 13, [(16, 0)]),
  (6, 1, .iload_n 0, [(0, 0)]),
  (7, 2, .bipush 90, [(90, 0)]),
  (9, 3, .if_icmp .gt 7, [(16, 0)]),
  (12, 1, .iconst 1, [(1, 0)]),
  (13, 3, .goto 4, [(17, 0)]),
  (16, 1, .iconst 0, [(0, 0)]),
  (17, 1, .ireturn, [])]
/-- PackedForest$Grammar.isCapital (I)Z -/
def zt17 : zzT := (⟨"PackedForest$Grammar", "isCapital", "(I)Z"⟩, prog_6_method_13_code, 1, (some .boolean), 4, zr17)
def zr18 : List zzI := [(0, 1, .iload_n 0, [(0, 0)]),
  (1, 3, .invokestatic 81, [(17, 1), (4, 0)]),
  (4, 3, .ifCond .ne 15, [(19, 0)]),
  (7, 1, .iload_n 0, [(0, 0)]),
  (8, 2, .bipush 97, [(97, 0)]),
  (10, 3, .if_icmp .lt 13, [(23, 0)]),
  (13, 1, .iload_n 0, [(0, 0)]),
  (14, 2, .bipush 122, [(122, 0)]),
  (16, 3, .if_icmp .gt 7, [(23, 0)]),
  (19, 1, .iconst 1, [(1, 0)]),
  (20, 3, .goto 4, [(24, 0)]),
  (23, 1, .iconst 0, [(0, 0)]),
  (24, 1, .ireturn, [])]
/-- PackedForest$Grammar.isLetter (I)Z -/
def zt18 : zzT := (⟨"PackedForest$Grammar", "isLetter", "(I)Z"⟩, prog_6_method_14_code, 1, (some .boolean), 4, zr18)
def zr19 : List zzI := [(0, 1, .iload_n 0, [(0, 0)]),
  (1, 35, .lookupswitch 41 #[(33, 39), (60, 35), (62, 37)], [(42, 0), (33, 40), (60, 36), (62, 38)]),
  (36, 1, .iconst 1, [(1, 0)]),
  (37, 1, .ireturn, []),
  (38, 1, .iconst 2, [(2, 0)]),
  (39, 1, .ireturn, []),
  (40, 1, .iconst 3, [(3, 0)]),
  (41, 1, .ireturn, []),
  (42, 1, .iconst 0, [(0, 0)]),
  (43, 1, .ireturn, [])]
/-- PackedForest$Grammar.sideOf (I)I -/
def zt19 : zzT := (⟨"PackedForest$Grammar", "sideOf", "(I)I"⟩, prog_6_method_15_code, 1, (some .int), 1, zr19)
def zr20 : List zzI := [(0, 1, .aload_n 0, [(0, 0)]),
  (1, 3, .getfield 12, [(7, 0)]),
  (4, 1, .aload_n 1, [(1, 0)]),
  (5, 3, .getfield 12, [(7, 0)]),
  (8, 3, .invokevirtual 32, [(7, 1), (0, 0), (4, 0)]),
  (11, 1, .aload_n 1, [(1, 0)]),
  (12, 3, .getfield 18, [(7, 1)]),
  (15, 1, .iconst 0, [(0, 0)]),
  (16, 1, .aload_n 0, [(0, 0)]),
  (17, 3, .getfield 18, [(7, 1)]),
  (20, 1, .iconst 0, [(0, 0)]),
  (21, 2, .bipush 12, [(12, 0)]),
  (23, 3, .invokestatic 36, [(0, 5), (0, 0)]),
  (26, 1, .aload_n 0, [(0, 0)]),
  (27, 1, .aload_n 1, [(1, 0)]),
  (28, 3, .getfield 42, [(7, 2)]),
  (31, 3, .putfield 42, [(7, 2)]),
  (34, 1, .aload_n 0, [(0, 0)]),
  (35, 1, .aload_n 1, [(1, 0)]),
  (36, 3, .getfield 45, [(7, 3)]),
  (39, 3, .putfield 45, [(7, 3)]),
  (42, 1, .aload_n 1, [(1, 0)]),
  (43, 3, .getfield 22, [(7, 4)]),
  (46, 1, .iconst 0, [(0, 0)]),
  (47, 1, .aload_n 0, [(0, 0)]),
  (48, 3, .getfield 22, [(7, 4)]),
  (51, 1, .iconst 0, [(0, 0)]),
  (52, 2, .bipush 48, [(48, 0)]),
  (54, 3, .invokestatic 36, [(0, 5), (0, 0)]),
  (57, 1, .aload_n 0, [(0, 0)]),
  (58, 1, .aload_n 1, [(1, 0)]),
  (59, 3, .getfield 48, [(7, 5)]),
  (62, 3, .putfield 48, [(7, 5)]),
  (65, 1, .aload_n 0, [(0, 0)]),
  (66, 1, .aload_n 1, [(1, 0)]),
  (67, 3, .getfield 25, [(7, 6)]),
  (70, 3, .putfield 25, [(7, 6)]),
  (73, 1, .aload_n 1, [(1, 0)]),
  (74, 3, .getfield 29, [(7, 7)]),
  (77, 1, .iconst 0, [(0, 0)]),
  (78, 1, .aload_n 0, [(0, 0)]),
  (79, 3, .getfield 29, [(7, 7)]),
  (82, 1, .iconst 0, [(0, 0)]),
  (83, 2, .bipush 20, [(20, 0)]),
  (85, 3, .invokestatic 36, [(0, 5), (0, 0)]),
  (88, 1, .aload_n 0, [(0, 0)]),
  (89, 1, .aload_n 1, [(1, 0)]),
  (90, 3, .getfield 51, [(7, 8)]),
  (93, 3, .putfield 51, [(7, 8)]),
  (96, 1, .aload_n 0, [(0, 0)]),
  (97, 1, .aload_n 1, [(1, 0)]),
  (98, 3, .getfield 54, [(7, 9)]),
  (101, 3, .putfield 54, [(7, 9)]),
  (104, 1, .return_, [])]
/-- PackedForest$Setting.copyFrom (LPackedForest$Setting;)V -/
def zt20 : zzT := (⟨"PackedForest$Setting", "copyFrom", "(LPackedForest$Setting;)V"⟩, prog_9_method_2_code, 2, none, 0, zr20)
def zr21 : List zzI := [(0, 1, .aload_n 0, [(0, 0)]),
  (1, 3, .getfield 12, [(7, 0)]),
  (4, 1, .aload_n 1, [(1, 0)]),
  (5, 3, .invokevirtual 32, [(7, 1), (0, 0), (4, 0)]),
  (8, 1, .aload_n 0, [(0, 0)]),
  (9, 1, .iconst 0, [(0, 0)]),
  (10, 3, .putfield 42, [(7, 2)]),
  (13, 1, .aload_n 0, [(0, 0)]),
  (14, 1, .iconst 0, [(0, 0)]),
  (15, 3, .putfield 45, [(7, 3)]),
  (18, 1, .aload_n 0, [(0, 0)]),
  (19, 3, .getfield 22, [(7, 4)]),
  (22, 1, .iconst 0, [(0, 0)]),
  (23, 3, .invokestatic 57, [(5, 2), (0, 0)]),
  (26, 1, .aload_n 0, [(0, 0)]),
  (27, 1, .iconst 0, [(0, 0)]),
  (28, 3, .putfield 48, [(7, 5)]),
  (31, 1, .aload_n 0, [(0, 0)]),
  (32, 2, .bipush 7, [(7, 0)]),
  (34, 3, .putfield 25, [(7, 6)]),
  (37, 1, .aload_n 0, [(0, 0)]),
  (38, 1, .iconst 0, [(0, 0)]),
  (39, 3, .putfield 51, [(7, 8)]),
  (42, 1, .return_, [])]
/-- PackedForest$Setting.begin (LPackedForest$Grammar;)V -/
def zt21 : zzT := (⟨"PackedForest$Setting", "begin", "(LPackedForest$Grammar;)V"⟩, prog_9_method_3_code, 2, none, 0, zr21)
def zr22 : List zzI := [(0, 1, .iconst 1, [(1, 0)]),
  (1, 1, .aload_n 0, [(0, 0)]),
  (2, 3, .getfield 12, [(7, 0)]),
  (5, 3, .getfield 63, [(4, 0)]),
  (8, 1, .ishl, []),
  (9, 1, .iconst 1, [(1, 0)]),
  (10, 1, .isub, []),
  (11, 1, .aload_n 0, [(0, 0)]),
  (12, 3, .getfield 45, [(7, 3)]),
  (15, 1, .iconst (-1), [(1, 1)]),
  (16, 1, .ixor, []),
  (17, 1, .iand, []),
  (18, 1, .ireturn, [])]
/-- PackedForest$Setting.toldRules ()I -/
def zt22 : zzT := (⟨"PackedForest$Setting", "toldRules", "()I"⟩, prog_9_method_4_code, 1, (some .int), 1, zr22)
def zr23 : List zzI := [(0, 1, .aload_n 0, [(0, 0)]),
  (1, 3, .invokevirtual 66, [(22, 0), (1, 0), (7, 0)]),
  (4, 1, .iload_n 1, [(1, 0)]),
  (5, 1, .ishr, []),
  (6, 1, .iconst 1, [(1, 0)]),
  (7, 1, .iand, []),
  (8, 3, .ifCond .eq 7, [(15, 0)]),
  (11, 1, .iconst 1, [(1, 0)]),
  (12, 3, .goto 4, [(16, 0)]),
  (15, 1, .iconst 0, [(0, 0)]),
  (16, 1, .ireturn, [])]
/-- PackedForest$Setting.isTold (I)Z -/
def zt23 : zzT := (⟨"PackedForest$Setting", "isTold", "(I)Z"⟩, prog_9_method_5_code, 2, (some .boolean), 4, zr23)
def zr24 : List zzI := [(0, 1, .aload_n 0, [(0, 0)]),
  (1, 3, .getfield 51, [(7, 8)]),
  (4, 2, .bipush 20, [(20, 0)]),
  (6, 3, .if_icmp .ne 28, [(34, 0)]),
  (9, 1, .aload_n 0, [(0, 0)]),
  (10, 3, .getfield 29, [(7, 7)]),
  (13, 1, .iconst 1, [(1, 0)]),
  (14, 1, .aload_n 0, [(0, 0)]),
  (15, 3, .getfield 29, [(7, 7)]),
  (18, 1, .iconst 0, [(0, 0)]),
  (19, 2, .bipush 19, [(19, 0)]),
  (21, 3, .invokestatic 36, [(0, 5), (0, 0)]),
  (24, 1, .aload_n 0, [(0, 0)]),
  (25, 1, .dup, []),
  (26, 3, .getfield 51, [(7, 8)]),
  (29, 1, .iconst 1, [(1, 0)]),
  (30, 1, .isub, []),
  (31, 3, .putfield 51, [(7, 8)]),
  (34, 1, .aload_n 0, [(0, 0)]),
  (35, 3, .getfield 29, [(7, 7)]),
  (38, 1, .aload_n 0, [(0, 0)]),
  (39, 3, .getfield 51, [(7, 8)]),
  (42, 1, .iload_n 2, [(2, 0)]),
  (43, 1, .iconst 3, [(3, 0)]),
  (44, 1, .ishl, []),
  (45, 1, .iload_n 1, [(1, 0)]),
  (46, 1, .ior, []),
  (47, 1, .iastore, []),
  (48, 1, .aload_n 0, [(0, 0)]),
  (49, 1, .dup, []),
  (50, 3, .getfield 51, [(7, 8)]),
  (53, 1, .iconst 1, [(1, 0)]),
  (54, 1, .iadd, []),
  (55, 3, .putfield 51, [(7, 8)]),
  (58, 1, .return_, [])]
/-- PackedForest$Setting.remember (II)V -/
def zt24 : zzT := (⟨"PackedForest$Setting", "remember", "(II)V"⟩, prog_9_method_6_code, 3, none, 0, zr24)
def zr25 : List zzI := [(0, 1, .aload_n 0, [(0, 0)]),
  (1, 3, .getfield 42, [(7, 2)]),
  (4, 2, .bipush 12, [(12, 0)]),
  (6, 3, .if_icmp .ge 23, [(29, 0)]),
  (9, 1, .aload_n 0, [(0, 0)]),
  (10, 3, .getfield 18, [(7, 1)]),
  (13, 1, .aload_n 0, [(0, 0)]),
  (14, 3, .getfield 42, [(7, 2)]),
  (17, 1, .iload_n 1, [(1, 0)]),
  (18, 1, .iastore, []),
  (19, 1, .aload_n 0, [(0, 0)]),
  (20, 1, .dup, []),
  (21, 3, .getfield 42, [(7, 2)]),
  (24, 1, .iconst 1, [(1, 0)]),
  (25, 1, .iadd, []),
  (26, 3, .putfield 42, [(7, 2)]),
  (29, 1, .return_, [])]
/-- PackedForest$Setting.push (I)V -/
def zt25 : zzT := (⟨"PackedForest$Setting", "push", "(I)V"⟩, prog_9_method_7_code, 2, none, 0, zr25)
def zr26 : List zzI := [(0, 1, .aload_n 0, [(0, 0)]),
  (1, 3, .getfield 42, [(7, 2)]),
  (4, 3, .ifCond .ne 5, [(9, 0)]),
  (7, 1, .iconst (-1), [(1, 1)]),
  (8, 1, .ireturn, []),
  (9, 1, .aload_n 0, [(0, 0)]),
  (10, 1, .dup, []),
  (11, 3, .getfield 42, [(7, 2)]),
  (14, 1, .iconst 1, [(1, 0)]),
  (15, 1, .isub, []),
  (16, 3, .putfield 42, [(7, 2)]),
  (19, 1, .aload_n 0, [(0, 0)]),
  (20, 3, .getfield 18, [(7, 1)]),
  (23, 1, .aload_n 0, [(0, 0)]),
  (24, 3, .getfield 42, [(7, 2)]),
  (27, 1, .iaload, []),
  (28, 1, .ireturn, [])]
/-- PackedForest$Setting.pop ()I -/
def zt26 : zzT := (⟨"PackedForest$Setting", "pop", "()I"⟩, prog_9_method_8_code, 1, (some .int), 1, zr26)
def zr27 : List zzI := [(0, 1, .aload_n 0, [(0, 0)]),
  (1, 3, .getfield 22, [(7, 4)]),
  (4, 1, .iload_n 1, [(1, 0)]),
  (5, 1, .iaload, []),
  (6, 1, .iload_n 2, [(2, 0)]),
  (7, 1, .ishr, []),
  (8, 1, .iconst 1, [(1, 0)]),
  (9, 1, .iand, []),
  (10, 3, .ifCond .eq 7, [(17, 0)]),
  (13, 1, .iconst 1, [(1, 0)]),
  (14, 3, .goto 4, [(18, 0)]),
  (17, 1, .iconst 0, [(0, 0)]),
  (18, 1, .ireturn, [])]
/-- PackedForest$Setting.isBan (II)Z -/
def zt27 : zzT := (⟨"PackedForest$Setting", "isBan", "(II)Z"⟩, prog_9_method_9_code, 3, (some .boolean), 4, zr27)
def zr28 : List zzI := [(0, 1, .aload_n 0, [(0, 0)]),
  (1, 1, .dup, []),
  (2, 3, .getfield 48, [(7, 5)]),
  (5, 1, .aload_n 0, [(0, 0)]),
  (6, 1, .iload_n 1, [(1, 0)]),
  (7, 1, .iload_n 2, [(2, 0)]),
  (8, 3, .invokevirtual 70, [(27, 2), (4, 0), (7, 0)]),
  (11, 3, .ifCond .eq 7, [(18, 0)]),
  (14, 1, .iconst (-1), [(1, 1)]),
  (15, 3, .goto 4, [(19, 0)]),
  (18, 1, .iconst 1, [(1, 0)]),
  (19, 1, .iadd, []),
  (20, 3, .putfield 48, [(7, 5)]),
  (23, 1, .aload_n 0, [(0, 0)]),
  (24, 3, .getfield 22, [(7, 4)]),
  (27, 1, .iload_n 1, [(1, 0)]),
  (28, 1, .dup2, []),
  (29, 1, .iaload, []),
  (30, 1, .iconst 1, [(1, 0)]),
  (31, 1, .iload_n 2, [(2, 0)]),
  (32, 1, .ishl, []),
  (33, 1, .ixor, []),
  (34, 1, .iastore, []),
  (35, 1, .return_, [])]
/-- PackedForest$Setting.toggleBan (II)V -/
def zt28 : zzT := (⟨"PackedForest$Setting", "toggleBan", "(II)V"⟩, prog_9_method_10_code, 3, none, 0, zr28)
def zr29 : List zzI := [(0, 1, .aload_n 0, [(0, 0)]),
  (1, 3, .getfield 12, [(7, 0)]),
  (4, 3, .getfield 74, [(4, 4)]),
  (7, 1, .iload_n 1, [(1, 0)]),
  (8, 1, .iaload, []),
  (9, 2, .istore 4, []),
  (11, 1, .aload_n 0, [(0, 0)]),
  (12, 3, .getfield 12, [(7, 0)]),
  (15, 3, .getfield 74, [(4, 4)]),
  (18, 1, .iload_n 3, [(3, 0)]),
  (19, 1, .iaload, []),
  (20, 2, .istore 5, []),
  (22, 1, .aload_n 0, [(0, 0)]),
  (23, 3, .getfield 25, [(7, 6)]),
  (26, 1, .iconst 1, [(1, 0)]),
  (27, 1, .iand, []),
  (28, 3, .ifCond .eq 17, [(45, 0)]),
  (31, 2, .iload 5, []),
  (33, 3, .ifCond .le 12, [(45, 0)]),
  (36, 2, .iload 5, []),
  (38, 2, .iload 4, []),
  (40, 3, .if_icmp .ge 5, [(45, 0)]),
  (43, 1, .iconst 1, [(1, 0)]),
  (44, 1, .ireturn, []),
  (45, 1, .aload_n 0, [(0, 0)]),
  (46, 3, .getfield 25, [(7, 6)]),
  (49, 1, .iconst 2, [(2, 0)]),
  (50, 1, .iand, []),
  (51, 3, .ifCond .eq 26, [(77, 0)]),
  (54, 2, .iload 4, []),
  (56, 3, .ifCond .le 21, [(77, 0)]),
  (59, 2, .iload 4, []),
  (61, 2, .iload 5, []),
  (63, 3, .if_icmp .ne 14, [(77, 0)]),
  (66, 1, .aload_n 0, [(0, 0)]),
  (67, 1, .iload_n 1, [(1, 0)]),
  (68, 1, .iload_n 2, [(2, 0)]),
  (69, 3, .invokevirtual 77, [(30, 2), (4, 0), (7, 0)]),
  (72, 3, .ifCond .eq 5, [(77, 0)]),
  (75, 1, .iconst 1, [(1, 0)]),
  (76, 1, .ireturn, []),
  (77, 1, .aload_n 0, [(0, 0)]),
  (78, 3, .getfield 25, [(7, 6)]),
  (81, 1, .iconst 4, [(4, 0)]),
  (82, 1, .iand, []),
  (83, 3, .ifCond .eq 20, [(103, 0)]),
  (86, 1, .aload_n 0, [(0, 0)]),
  (87, 1, .iload_n 1, [(1, 0)]),
  (88, 1, .iconst 4, [(4, 0)]),
  (89, 1, .imul, []),
  (90, 1, .iload_n 2, [(2, 0)]),
  (91, 1, .iadd, []),
  (92, 1, .iload_n 3, [(3, 0)]),
  (93, 3, .invokevirtual 70, [(27, 2), (4, 0), (7, 0)]),
  (96, 3, .ifCond .eq 7, [(103, 0)]),
  (99, 1, .iconst 1, [(1, 0)]),
  (100, 3, .goto 4, [(104, 0)]),
  (103, 1, .iconst 0, [(0, 0)]),
  (104, 1, .ireturn, [])]
/-- PackedForest$Setting.isForbidden (III)Z -/
def zt29 : zzT := (⟨"PackedForest$Setting", "isForbidden", "(III)Z"⟩, prog_9_method_11_code, 6, (some .boolean), 4, zr29)
def zr30 : List zzI := [(0, 1, .aload_n 0, [(0, 0)]),
  (1, 3, .getfield 12, [(7, 0)]),
  (4, 3, .getfield 80, [(4, 5)]),
  (7, 1, .iload_n 1, [(1, 0)]),
  (8, 1, .iaload, []),
  (9, 27, .tableswitch 60 1 3 #[27, 37, 58], [(69, 0), (1, 36), (2, 46), (3, 67)]),
  (36, 1, .iload_n 2, [(2, 0)]),
  (37, 3, .ifCond .eq 7, [(44, 0)]),
  (40, 1, .iconst 1, [(1, 0)]),
  (41, 3, .goto 4, [(45, 0)]),
  (44, 1, .iconst 0, [(0, 0)]),
  (45, 1, .ireturn, []),
  (46, 1, .iload_n 2, [(2, 0)]),
  (47, 1, .aload_n 0, [(0, 0)]),
  (48, 3, .getfield 12, [(7, 0)]),
  (51, 3, .getfield 83, [(4, 3)]),
  (54, 1, .iload_n 1, [(1, 0)]),
  (55, 1, .iaload, []),
  (56, 1, .iconst 1, [(1, 0)]),
  (57, 1, .isub, []),
  (58, 3, .if_icmp .eq 7, [(65, 0)]),
  (61, 1, .iconst 1, [(1, 0)]),
  (62, 3, .goto 4, [(66, 0)]),
  (65, 1, .iconst 0, [(0, 0)]),
  (66, 1, .ireturn, []),
  (67, 1, .iconst 1, [(1, 0)]),
  (68, 1, .ireturn, []),
  (69, 1, .iconst 0, [(0, 0)]),
  (70, 1, .ireturn, [])]
/-- PackedForest$Setting.isWrongSide (II)Z -/
def zt30 : zzT := (⟨"PackedForest$Setting", "isWrongSide", "(II)Z"⟩, prog_9_method_12_code, 3, (some .boolean), 4, zr30)
def zr31 : List zzI := [(0, 1, .aload_n 0, [(0, 0)]),
  (1, 3, .getfield 28, [(2, 1)]),
  (4, 3, .ifCond .eq 4, [(8, 0)]),
  (7, 1, .return_, []),
  (8, 1, .aload_n 0, [(0, 0)]),
  (9, 3, .invokevirtual 32, [(32, 0), (0, 0), (2, 0)]),
  (12, 1, .aload_n 0, [(0, 0)]),
  (13, 3, .invokevirtual 35, [(34, 0), (0, 0), (2, 0)]),
  (16, 1, .aload_n 0, [(0, 0)]),
  (17, 3, .invokevirtual 38, [(36, 0), (0, 0), (2, 0)]),
  (20, 1, .aload_n 0, [(0, 0)]),
  (21, 3, .invokevirtual 41, [(37, 0), (0, 0), (2, 0)]),
  (24, 1, .aload_n 0, [(0, 0)]),
  (25, 1, .iconst 1, [(1, 0)]),
  (26, 3, .invokevirtual 44, [(41, 1), (0, 0), (2, 0)]),
  (29, 1, .aload_n 0, [(0, 0)]),
  (30, 1, .aload_n 0, [(0, 0)]),
  (31, 3, .invokevirtual 48, [(43, 0), (1, 0), (2, 0)]),
  (34, 3, .putfield 52, [(2, 5)]),
  (37, 1, .aload_n 0, [(0, 0)]),
  (38, 1, .iconst 0, [(0, 0)]),
  (39, 3, .invokevirtual 44, [(41, 1), (0, 0), (2, 0)]),
  (42, 1, .aload_n 0, [(0, 0)]),
  (43, 1, .aload_n 0, [(0, 0)]),
  (44, 3, .invokevirtual 48, [(43, 0), (1, 0), (2, 0)]),
  (47, 3, .putfield 56, [(2, 6)]),
  (50, 1, .aload_n 0, [(0, 0)]),
  (51, 1, .iconst 1, [(1, 0)]),
  (52, 3, .putfield 28, [(2, 1)]),
  (55, 1, .return_, [])]
/-- PackedForest$Facts.find ()V -/
def zt31 : zzT := (⟨"PackedForest$Facts", "find", "()V"⟩, prog_4_method_2_code, 1, none, 0, zr31)
def zr32 : List zzI := [(0, 1, .aload_n 0, [(0, 0)]),
  (1, 3, .getfield 18, [(2, 9)]),
  (4, 2, .bipush (-2), [(2, 1)]),
  (6, 3, .invokestatic 59, [(5, 2), (0, 0)]),
  (9, 1, .iconst 1, [(1, 0)]),
  (10, 1, .istore_n 1, [(1, 0)]),
  (11, 1, .iconst 0, [(0, 0)]),
  (12, 1, .istore_n 2, [(2, 0)]),
  (13, 0, .nop, [(0, 3), (1, 1), (2, 1)]),
  (13, 1, .iload_n 2, [(2, 0)]),
  (14, 3, .sipush 1000, [(1000, 0)]),
  (17, 3, .if_icmp .ge 64, [(81, 0)]),
  (20, 1, .iload_n 1, [(1, 0)]),
  (21, 3, .ifCond .eq 60, [(81, 0)]),
  (24, 1, .iconst 0, [(0, 0)]),
  (25, 1, .istore_n 1, [(1, 0)]),
  (26, 1, .iconst 0, [(0, 0)]),
  (27, 1, .istore_n 3, [(3, 0)]),
  (28, 0, .nop, [(0, 3), (1, 1), (2, 1), (3, 1)]),
  (28, 1, .iload_n 3, [(3, 0)]),
  (29, 1, .aload_n 0, [(0, 0)]),
  (30, 3, .getfield 24, [(2, 0)]),
  (33, 3, .getfield 65, [(7, 0)]),
  (36, 3, .getfield 71, [(4, 0)]),
  (39, 3, .if_icmp .ge 36, [(75, 0)]),
  (42, 1, .iload_n 1, [(1, 0)]),
  (43, 1, .aload_n 0, [(0, 0)]),
  (44, 3, .getfield 24, [(2, 0)]),
  (47, 1, .iload_n 3, [(3, 0)]),
  (48, 3, .invokevirtual 76, [(23, 1), (4, 0), (7, 0)]),
  (51, 3, .ifCond .eq 15, [(66, 0)]),
  (54, 1, .aload_n 0, [(0, 0)]),
  (55, 1, .iload_n 3, [(3, 0)]),
  (56, 3, .invokevirtual 80, [(33, 1), (4, 0), (2, 0)]),
  (59, 3, .ifCond .eq 7, [(66, 0)]),
  (62, 1, .iconst 1, [(1, 0)]),
  (63, 3, .goto 4, [(67, 0)]),
  (66, 1, .iconst 0, [(0, 0)]),
  (67, 1, .ior, []),
  (68, 1, .istore_n 1, [(1, 0)]),
  (69, 3, .iinc 3 1, [(1, 0)]),
  (72, 3, .goto (-44), [(28, 0)]),
  (75, 3, .iinc 2 1, [(1, 0)]),
  (78, 3, .goto (-65), [(13, 0)]),
  (81, 1, .aload_n 0, [(0, 0)]),
  (82, 1, .iconst 0, [(0, 0)]),
  (83, 3, .putfield 83, [(2, 3)]),
  (86, 1, .aload_n 0, [(0, 0)]),
  (87, 1, .iconst 0, [(0, 0)]),
  (88, 3, .putfield 86, [(2, 2)]),
  (91, 1, .iconst 0, [(0, 0)]),
  (92, 1, .istore_n 2, [(2, 0)]),
  (93, 0, .nop, [(0, 3), (2, 1)]),
  (93, 1, .iload_n 2, [(2, 0)]),
  (94, 2, .bipush 26, [(26, 0)]),
  (96, 3, .if_icmp .ge 51, [(147, 0)]),
  (99, 1, .aload_n 0, [(0, 0)]),
  (100, 3, .getfield 18, [(2, 9)]),
  (103, 1, .iload_n 2, [(2, 0)]),
  (104, 1, .iaload, []),
  (105, 3, .ifCond .lt 15, [(120, 0)]),
  (108, 1, .aload_n 0, [(0, 0)]),
  (109, 1, .dup, []),
  (110, 3, .getfield 83, [(2, 3)]),
  (113, 1, .iconst 1, [(1, 0)]),
  (114, 1, .iload_n 2, [(2, 0)]),
  (115, 1, .ishl, []),
  (116, 1, .ior, []),
  (117, 3, .putfield 83, [(2, 3)]),
  (120, 1, .aload_n 0, [(0, 0)]),
  (121, 3, .getfield 18, [(2, 9)]),
  (124, 1, .iload_n 2, [(2, 0)]),
  (125, 1, .iaload, []),
  (126, 3, .ifCond .ne 15, [(141, 0)]),
  (129, 1, .aload_n 0, [(0, 0)]),
  (130, 1, .dup, []),
  (131, 3, .getfield 86, [(2, 2)]),
  (134, 1, .iconst 1, [(1, 0)]),
  (135, 1, .iload_n 2, [(2, 0)]),
  (136, 1, .ishl, []),
  (137, 1, .ior, []),
  (138, 3, .putfield 86, [(2, 2)]),
  (141, 3, .iinc 2 1, [(1, 0)]),
  (144, 3, .goto (-51), [(93, 0)]),
  (147, 1, .return_, [])]
/-- PackedForest$Facts.findShortRows ()V -/
def zt32 : zzT := (⟨"PackedForest$Facts", "findShortRows", "()V"⟩, prog_4_method_3_code, 4, none, 0, zr32)
def zr33 : List zzI := [(0, 1, .iconst 0, [(0, 0)]),
  (1, 1, .istore_n 2, [(2, 0)]),
  (2, 1, .iconst 0, [(0, 0)]),
  (3, 1, .istore_n 3, [(3, 0)]),
  (4, 0, .nop, [(0, 3), (1, 1), (2, 1), (3, 1)]),
  (4, 1, .iload_n 3, [(3, 0)]),
  (5, 1, .aload_n 0, [(0, 0)]),
  (6, 3, .getfield 24, [(2, 0)]),
  (9, 3, .getfield 65, [(7, 0)]),
  (12, 3, .getfield 89, [(4, 3)]),
  (15, 1, .iload_n 1, [(1, 0)]),
  (16, 1, .iaload, []),
  (17, 3, .if_icmp .ge 58, [(75, 0)]),
  (20, 1, .aload_n 0, [(0, 0)]),
  (21, 3, .getfield 24, [(2, 0)]),
  (24, 3, .getfield 65, [(7, 0)]),
  (27, 1, .iload_n 1, [(1, 0)]),
  (28, 1, .iload_n 3, [(3, 0)]),
  (29, 3, .invokevirtual 92, [(6, 2), (1, 0), (4, 0)]),
  (32, 2, .istore 4, []),
  (34, 2, .iload 4, []),
  (36, 2, .bipush 26, [(26, 0)]),
  (38, 3, .if_icmp .ge 7, [(45, 0)]),
  (41, 1, .iconst 1, [(1, 0)]),
  (42, 3, .goto 13, [(55, 0)]),
  (45, 1, .aload_n 0, [(0, 0)]),
  (46, 3, .getfield 18, [(2, 9)]),
  (49, 2, .iload 4, []),
  (51, 2, .bipush 26, [(26, 0)]),
  (53, 1, .isub, []),
  (54, 1, .iaload, []),
  (55, 2, .istore 5, []),
  (57, 2, .iload 5, []),
  (59, 3, .ifCond .ge 5, [(64, 0)]),
  (62, 1, .iconst 0, [(0, 0)]),
  (63, 1, .ireturn, []),
  (64, 1, .iload_n 2, [(2, 0)]),
  (65, 2, .iload 5, []),
  (67, 1, .iadd, []),
  (68, 1, .istore_n 2, [(2, 0)]),
  (69, 3, .iinc 3 1, [(1, 0)]),
  (72, 3, .goto (-68), [(4, 0)]),
  (75, 1, .aload_n 0, [(0, 0)]),
  (76, 3, .getfield 24, [(2, 0)]),
  (79, 3, .getfield 65, [(7, 0)]),
  (82, 3, .getfield 96, [(4, 2)]),
  (85, 1, .iload_n 1, [(1, 0)]),
  (86, 1, .iaload, []),
  (87, 2, .bipush 26, [(26, 0)]),
  (89, 1, .isub, []),
  (90, 1, .istore_n 3, [(3, 0)]),
  (91, 1, .aload_n 0, [(0, 0)]),
  (92, 3, .getfield 18, [(2, 9)]),
  (95, 1, .iload_n 3, [(3, 0)]),
  (96, 1, .iaload, []),
  (97, 3, .ifCond .lt 15, [(112, 0)]),
  (100, 1, .aload_n 0, [(0, 0)]),
  (101, 3, .getfield 18, [(2, 9)]),
  (104, 1, .iload_n 3, [(3, 0)]),
  (105, 1, .iaload, []),
  (106, 1, .iload_n 2, [(2, 0)]),
  (107, 3, .if_icmp .gt 5, [(112, 0)]),
  (110, 1, .iconst 0, [(0, 0)]),
  (111, 1, .ireturn, []),
  (112, 1, .aload_n 0, [(0, 0)]),
  (113, 3, .getfield 18, [(2, 9)]),
  (116, 1, .iload_n 3, [(3, 0)]),
  (117, 1, .iload_n 2, [(2, 0)]),
  (118, 1, .iastore, []),
  (119, 1, .iconst 1, [(1, 0)]),
  (120, 1, .ireturn, [])]
/-- PackedForest$Facts.shorten (I)Z -/
def zt33 : zzT := (⟨"PackedForest$Facts", "shorten", "(I)Z"⟩, prog_4_method_4_code, 6, (some .boolean), 4, zr33)
def zr34 : List zzI := [(0, 1, .aload_n 0, [(0, 0)]),
  (1, 1, .iconst 1, [(1, 0)]),
  (2, 1, .aload_n 0, [(0, 0)]),
  (3, 3, .getfield 24, [(2, 0)]),
  (6, 3, .getfield 65, [(7, 0)]),
  (9, 3, .getfield 96, [(4, 2)]),
  (12, 1, .iconst 0, [(0, 0)]),
  (13, 1, .iaload, []),
  (14, 2, .bipush 26, [(26, 0)]),
  (16, 1, .isub, []),
  (17, 1, .ishl, []),
  (18, 3, .putfield 99, [(2, 4)]),
  (21, 1, .iconst 0, [(0, 0)]),
  (22, 1, .istore_n 1, [(1, 0)]),
  (23, 1, .iconst 0, [(0, 0)]),
  (24, 1, .istore_n 2, [(2, 0)]),
  (25, 0, .nop, [(0, 3), (1, 1), (2, 1)]),
  (25, 1, .iload_n 2, [(2, 0)]),
  (26, 3, .sipush 1000, [(1000, 0)]),
  (29, 3, .if_icmp .ge 91, [(120, 0)]),
  (32, 1, .iload_n 1, [(1, 0)]),
  (33, 1, .aload_n 0, [(0, 0)]),
  (34, 3, .getfield 99, [(2, 4)]),
  (37, 3, .if_icmp .eq 83, [(120, 0)]),
  (40, 1, .aload_n 0, [(0, 0)]),
  (41, 3, .getfield 99, [(2, 4)]),
  (44, 1, .istore_n 1, [(1, 0)]),
  (45, 1, .iconst 0, [(0, 0)]),
  (46, 1, .istore_n 3, [(3, 0)]),
  (47, 0, .nop, [(0, 3), (1, 1), (2, 1), (3, 1)]),
  (47, 1, .iload_n 3, [(3, 0)]),
  (48, 1, .aload_n 0, [(0, 0)]),
  (49, 3, .getfield 24, [(2, 0)]),
  (52, 3, .getfield 65, [(7, 0)]),
  (55, 3, .getfield 71, [(4, 0)]),
  (58, 3, .if_icmp .ge 56, [(114, 0)]),
  (61, 1, .aload_n 0, [(0, 0)]),
  (62, 3, .getfield 24, [(2, 0)]),
  (65, 1, .iload_n 3, [(3, 0)]),
  (66, 3, .invokevirtual 76, [(23, 1), (4, 0), (7, 0)]),
  (69, 3, .ifCond .eq 39, [(108, 0)]),
  (72, 1, .aload_n 0, [(0, 0)]),
  (73, 3, .getfield 24, [(2, 0)]),
  (76, 3, .getfield 65, [(7, 0)]),
  (79, 3, .getfield 96, [(4, 2)]),
  (82, 1, .iload_n 3, [(3, 0)]),
  (83, 1, .iaload, []),
  (84, 1, .aload_n 0, [(0, 0)]),
  (85, 3, .getfield 99, [(2, 4)]),
  (88, 3, .invokestatic 102, [(9, 2), (4, 0)]),
  (91, 3, .ifCond .eq 17, [(108, 0)]),
  (94, 1, .aload_n 0, [(0, 0)]),
  (95, 1, .dup, []),
  (96, 3, .getfield 99, [(2, 4)]),
  (99, 1, .aload_n 0, [(0, 0)]),
  (100, 1, .iload_n 3, [(3, 0)]),
  (101, 3, .invokevirtual 106, [(35, 1), (1, 0), (2, 0)]),
  (104, 1, .ior, []),
  (105, 3, .putfield 99, [(2, 4)]),
  (108, 3, .iinc 3 1, [(1, 0)]),
  (111, 3, .goto (-64), [(47, 0)]),
  (114, 3, .iinc 2 1, [(1, 0)]),
  (117, 3, .goto (-92), [(25, 0)]),
  (120, 1, .return_, [])]
/-- PackedForest$Facts.findReached ()V -/
def zt34 : zzT := (⟨"PackedForest$Facts", "findReached", "()V"⟩, prog_4_method_5_code, 4, none, 0, zr34)
def zr35 : List zzI := [(0, 1, .iconst 0, [(0, 0)]),
  (1, 1, .istore_n 2, [(2, 0)]),
  (2, 1, .iconst 0, [(0, 0)]),
  (3, 1, .istore_n 3, [(3, 0)]),
  (4, 0, .nop, [(0, 3), (1, 1), (2, 1), (3, 1)]),
  (4, 1, .iload_n 3, [(3, 0)]),
  (5, 1, .aload_n 0, [(0, 0)]),
  (6, 3, .getfield 24, [(2, 0)]),
  (9, 3, .getfield 65, [(7, 0)]),
  (12, 3, .getfield 89, [(4, 3)]),
  (15, 1, .iload_n 1, [(1, 0)]),
  (16, 1, .iaload, []),
  (17, 3, .if_icmp .ge 40, [(57, 0)]),
  (20, 1, .aload_n 0, [(0, 0)]),
  (21, 3, .getfield 24, [(2, 0)]),
  (24, 3, .getfield 65, [(7, 0)]),
  (27, 1, .iload_n 1, [(1, 0)]),
  (28, 1, .iload_n 3, [(3, 0)]),
  (29, 3, .invokevirtual 92, [(6, 2), (1, 0), (4, 0)]),
  (32, 2, .istore 4, []),
  (34, 2, .iload 4, []),
  (36, 2, .bipush 26, [(26, 0)]),
  (38, 3, .if_icmp .lt 13, [(51, 0)]),
  (41, 1, .iload_n 2, [(2, 0)]),
  (42, 1, .iconst 1, [(1, 0)]),
  (43, 2, .iload 4, []),
  (45, 2, .bipush 26, [(26, 0)]),
  (47, 1, .isub, []),
  (48, 1, .ishl, []),
  (49, 1, .ior, []),
  (50, 1, .istore_n 2, [(2, 0)]),
  (51, 3, .iinc 3 1, [(1, 0)]),
  (54, 3, .goto (-50), [(4, 0)]),
  (57, 1, .iload_n 2, [(2, 0)]),
  (58, 1, .ireturn, [])]
/-- PackedForest$Facts.capitalsOf (I)I -/
def zt35 : zzT := (⟨"PackedForest$Facts", "capitalsOf", "(I)I"⟩, prog_4_method_6_code, 5, (some .int), 1, zr35)
def zr36 : List zzI := [(0, 1, .aload_n 0, [(0, 0)]),
  (1, 3, .getfield 9, [(2, 7)]),
  (4, 1, .iconst 0, [(0, 0)]),
  (5, 3, .invokestatic 59, [(5, 2), (0, 0)]),
  (8, 1, .iconst 1, [(1, 0)]),
  (9, 1, .istore_n 1, [(1, 0)]),
  (10, 1, .iconst 0, [(0, 0)]),
  (11, 1, .istore_n 2, [(2, 0)]),
  (12, 0, .nop, [(0, 3), (1, 1), (2, 1)]),
  (12, 1, .iload_n 2, [(2, 0)]),
  (13, 3, .sipush 1000, [(1000, 0)]),
  (16, 3, .if_icmp .ge 79, [(95, 0)]),
  (19, 1, .iload_n 1, [(1, 0)]),
  (20, 3, .ifCond .eq 75, [(95, 0)]),
  (23, 1, .iconst 0, [(0, 0)]),
  (24, 1, .istore_n 1, [(1, 0)]),
  (25, 1, .iconst 0, [(0, 0)]),
  (26, 1, .istore_n 3, [(3, 0)]),
  (27, 0, .nop, [(0, 3), (1, 1), (2, 1), (3, 1)]),
  (27, 1, .iload_n 3, [(3, 0)]),
  (28, 1, .aload_n 0, [(0, 0)]),
  (29, 3, .getfield 24, [(2, 0)]),
  (32, 3, .getfield 65, [(7, 0)]),
  (35, 3, .getfield 71, [(4, 0)]),
  (38, 3, .if_icmp .ge 51, [(89, 0)]),
  (41, 1, .aload_n 0, [(0, 0)]),
  (42, 3, .getfield 24, [(2, 0)]),
  (45, 1, .iload_n 3, [(3, 0)]),
  (46, 3, .invokevirtual 76, [(23, 1), (4, 0), (7, 0)]),
  (49, 3, .ifCond .eq 34, [(83, 0)]),
  (52, 1, .iload_n 1, [(1, 0)]),
  (53, 1, .aload_n 0, [(0, 0)]),
  (54, 3, .getfield 9, [(2, 7)]),
  (57, 1, .aload_n 0, [(0, 0)]),
  (58, 3, .getfield 24, [(2, 0)]),
  (61, 3, .getfield 65, [(7, 0)]),
  (64, 3, .getfield 96, [(4, 2)]),
  (67, 1, .iload_n 3, [(3, 0)]),
  (68, 1, .iaload, []),
  (69, 1, .aload_n 0, [(0, 0)]),
  (70, 1, .iload_n 3, [(3, 0)]),
  (71, 1, .iconst 0, [(0, 0)]),
  (72, 3, .invokevirtual 110, [(40, 2), (1, 0), (2, 0)]),
  (75, 2, .ldc 113, [(134217729, 1)]),
  (77, 1, .iand, []),
  (78, 3, .invokestatic 114, [(39, 3), (4, 0)]),
  (81, 1, .ior, []),
  (82, 1, .istore_n 1, [(1, 0)]),
  (83, 3, .iinc 3 1, [(1, 0)]),
  (86, 3, .goto (-59), [(27, 0)]),
  (89, 3, .iinc 2 1, [(1, 0)]),
  (92, 3, .goto (-80), [(12, 0)]),
  (95, 1, .return_, [])]
/-- PackedForest$Facts.findFirsts ()V -/
def zt36 : zzT := (⟨"PackedForest$Facts", "findFirsts", "()V"⟩, prog_4_method_7_code, 4, none, 0, zr36)
def zr37 : List zzI := [(0, 1, .aload_n 0, [(0, 0)]),
  (1, 3, .getfield 15, [(2, 8)]),
  (4, 1, .iconst 0, [(0, 0)]),
  (5, 3, .invokestatic 59, [(5, 2), (0, 0)]),
  (8, 1, .aload_n 0, [(0, 0)]),
  (9, 3, .getfield 15, [(2, 8)]),
  (12, 1, .aload_n 0, [(0, 0)]),
  (13, 3, .getfield 24, [(2, 0)]),
  (16, 3, .getfield 65, [(7, 0)]),
  (19, 3, .getfield 96, [(4, 2)]),
  (22, 1, .iconst 0, [(0, 0)]),
  (23, 1, .iaload, []),
  (24, 2, .ldc 118, [(67108864, 0)]),
  (26, 3, .invokestatic 114, [(39, 3), (4, 0)]),
  (29, 1, .pop, []),
  (30, 1, .iconst 1, [(1, 0)]),
  (31, 1, .istore_n 1, [(1, 0)]),
  (32, 1, .iconst 0, [(0, 0)]),
  (33, 1, .istore_n 2, [(2, 0)]),
  (34, 0, .nop, [(0, 3), (1, 1), (2, 1)]),
  (34, 1, .iload_n 2, [(2, 0)]),
  (35, 3, .sipush 1000, [(1000, 0)]),
  (38, 3, .if_icmp .ge 78, [(116, 0)]),
  (41, 1, .iload_n 1, [(1, 0)]),
  (42, 3, .ifCond .eq 74, [(116, 0)]),
  (45, 1, .iconst 0, [(0, 0)]),
  (46, 1, .istore_n 1, [(1, 0)]),
  (47, 1, .iconst 0, [(0, 0)]),
  (48, 1, .istore_n 3, [(3, 0)]),
  (49, 0, .nop, [(0, 3), (1, 1), (2, 1), (3, 1)]),
  (49, 1, .iload_n 3, [(3, 0)]),
  (50, 1, .aload_n 0, [(0, 0)]),
  (51, 3, .getfield 24, [(2, 0)]),
  (54, 3, .getfield 65, [(7, 0)]),
  (57, 3, .getfield 71, [(4, 0)]),
  (60, 3, .if_icmp .ge 50, [(110, 0)]),
  (63, 1, .aload_n 0, [(0, 0)]),
  (64, 3, .getfield 24, [(2, 0)]),
  (67, 1, .iload_n 3, [(3, 0)]),
  (68, 3, .invokevirtual 76, [(23, 1), (4, 0), (7, 0)]),
  (71, 3, .ifCond .eq 33, [(104, 0)]),
  (74, 1, .aload_n 0, [(0, 0)]),
  (75, 3, .getfield 24, [(2, 0)]),
  (78, 3, .getfield 65, [(7, 0)]),
  (81, 3, .getfield 96, [(4, 2)]),
  (84, 1, .iload_n 3, [(3, 0)]),
  (85, 1, .iaload, []),
  (86, 1, .aload_n 0, [(0, 0)]),
  (87, 3, .getfield 99, [(2, 4)]),
  (90, 3, .invokestatic 102, [(9, 2), (4, 0)]),
  (93, 3, .ifCond .eq 11, [(104, 0)]),
  (96, 1, .iload_n 1, [(1, 0)]),
  (97, 1, .aload_n 0, [(0, 0)]),
  (98, 1, .iload_n 3, [(3, 0)]),
  (99, 3, .invokevirtual 119, [(38, 1), (4, 0), (2, 0)]),
  (102, 1, .ior, []),
  (103, 1, .istore_n 1, [(1, 0)]),
  (104, 3, .iinc 3 1, [(1, 0)]),
  (107, 3, .goto (-58), [(49, 0)]),
  (110, 3, .iinc 2 1, [(1, 0)]),
  (113, 3, .goto (-79), [(34, 0)]),
  (116, 1, .return_, [])]
/-- PackedForest$Facts.findFollows ()V -/
def zt37 : zzT := (⟨"PackedForest$Facts", "findFollows", "()V"⟩, prog_4_method_8_code, 4, none, 0, zr37)
def zr38 : List zzI := [(0, 1, .iconst 0, [(0, 0)]),
  (1, 1, .istore_n 2, [(2, 0)]),
  (2, 1, .iconst 0, [(0, 0)]),
  (3, 1, .istore_n 3, [(3, 0)]),
  (4, 0, .nop, [(0, 3), (1, 1), (2, 1), (3, 1)]),
  (4, 1, .iload_n 3, [(3, 0)]),
  (5, 1, .aload_n 0, [(0, 0)]),
  (6, 3, .getfield 24, [(2, 0)]),
  (9, 3, .getfield 65, [(7, 0)]),
  (12, 3, .getfield 89, [(4, 3)]),
  (15, 1, .iload_n 1, [(1, 0)]),
  (16, 1, .iaload, []),
  (17, 3, .if_icmp .ge 90, [(107, 0)]),
  (20, 1, .aload_n 0, [(0, 0)]),
  (21, 3, .getfield 24, [(2, 0)]),
  (24, 3, .getfield 65, [(7, 0)]),
  (27, 1, .iload_n 1, [(1, 0)]),
  (28, 1, .iload_n 3, [(3, 0)]),
  (29, 3, .invokevirtual 92, [(6, 2), (1, 0), (4, 0)]),
  (32, 2, .istore 4, []),
  (34, 2, .iload 4, []),
  (36, 2, .bipush 26, [(26, 0)]),
  (38, 3, .if_icmp .lt 63, [(101, 0)]),
  (41, 1, .aload_n 0, [(0, 0)]),
  (42, 1, .iload_n 1, [(1, 0)]),
  (43, 1, .iload_n 3, [(3, 0)]),
  (44, 1, .iconst 1, [(1, 0)]),
  (45, 1, .iadd, []),
  (46, 3, .invokevirtual 110, [(40, 2), (1, 0), (2, 0)]),
  (49, 2, .istore 5, []),
  (51, 2, .iload 5, []),
  (53, 2, .ldc 122, [(134217728, 0)]),
  (55, 1, .iand, []),
  (56, 3, .ifCond .eq 31, [(87, 0)]),
  (59, 2, .iload 5, []),
  (61, 2, .ldc 113, [(134217729, 1)]),
  (63, 1, .iand, []),
  (64, 1, .aload_n 0, [(0, 0)]),
  (65, 3, .getfield 15, [(2, 8)]),
  (68, 1, .aload_n 0, [(0, 0)]),
  (69, 3, .getfield 24, [(2, 0)]),
  (72, 3, .getfield 65, [(7, 0)]),
  (75, 3, .getfield 96, [(4, 2)]),
  (78, 1, .iload_n 1, [(1, 0)]),
  (79, 1, .iaload, []),
  (80, 2, .bipush 26, [(26, 0)]),
  (82, 1, .isub, []),
  (83, 1, .iaload, []),
  (84, 1, .ior, []),
  (85, 2, .istore 5, []),
  (87, 1, .iload_n 2, [(2, 0)]),
  (88, 1, .aload_n 0, [(0, 0)]),
  (89, 3, .getfield 15, [(2, 8)]),
  (92, 2, .iload 4, []),
  (94, 2, .iload 5, []),
  (96, 3, .invokestatic 114, [(39, 3), (4, 0)]),
  (99, 1, .ior, []),
  (100, 1, .istore_n 2, [(2, 0)]),
  (101, 3, .iinc 3 1, [(1, 0)]),
  (104, 3, .goto (-100), [(4, 0)]),
  (107, 1, .iload_n 2, [(2, 0)]),
  (108, 1, .ireturn, [])]
/-- PackedForest$Facts.followInside (I)Z -/
def zt38 : zzT := (⟨"PackedForest$Facts", "followInside", "(I)Z"⟩, prog_4_method_9_code, 6, (some .boolean), 4, zr38)
def zr39 : List zzI := [(0, 1, .aload_n 0, [(0, 0)]),
  (1, 1, .iload_n 1, [(1, 0)]),
  (2, 2, .bipush 26, [(26, 0)]),
  (4, 1, .isub, []),
  (5, 1, .iaload, []),
  (6, 1, .istore_n 3, [(3, 0)]),
  (7, 1, .aload_n 0, [(0, 0)]),
  (8, 1, .iload_n 1, [(1, 0)]),
  (9, 2, .bipush 26, [(26, 0)]),
  (11, 1, .isub, []),
  (12, 1, .iload_n 3, [(3, 0)]),
  (13, 1, .iload_n 2, [(2, 0)]),
  (14, 1, .ior, []),
  (15, 1, .iastore, []),
  (16, 1, .iload_n 3, [(3, 0)]),
  (17, 1, .iload_n 2, [(2, 0)]),
  (18, 1, .ior, []),
  (19, 1, .iload_n 3, [(3, 0)]),
  (20, 3, .if_icmp .eq 7, [(27, 0)]),
  (23, 1, .iconst 1, [(1, 0)]),
  (24, 3, .goto 4, [(28, 0)]),
  (27, 1, .iconst 0, [(0, 0)]),
  (28, 1, .ireturn, [])]
/-- PackedForest$Facts.add ([III)Z -/
def zt39 : zzT := (⟨"PackedForest$Facts", "add", "([III)Z"⟩, prog_4_method_10_code, 4, (some .boolean), 4, zr39)
def zr40 : List zzI := [(0, 1, .iconst 0, [(0, 0)]),
  (1, 1, .istore_n 3, [(3, 0)]),
  (2, 1, .iload_n 2, [(2, 0)]),
  (3, 2, .istore 4, []),
  (5, 0, .nop, [(0, 3), (1, 1), (3, 1), (4, 1)]),
  (5, 2, .iload 4, []),
  (7, 1, .aload_n 0, [(0, 0)]),
  (8, 3, .getfield 24, [(2, 0)]),
  (11, 3, .getfield 65, [(7, 0)]),
  (14, 3, .getfield 89, [(4, 3)]),
  (17, 1, .iload_n 1, [(1, 0)]),
  (18, 1, .iaload, []),
  (19, 3, .if_icmp .ge 65, [(84, 0)]),
  (22, 1, .aload_n 0, [(0, 0)]),
  (23, 3, .getfield 24, [(2, 0)]),
  (26, 3, .getfield 65, [(7, 0)]),
  (29, 1, .iload_n 1, [(1, 0)]),
  (30, 2, .iload 4, []),
  (32, 3, .invokevirtual 92, [(6, 2), (1, 0), (4, 0)]),
  (35, 2, .istore 5, []),
  (37, 2, .iload 5, []),
  (39, 2, .bipush 26, [(26, 0)]),
  (41, 3, .if_icmp .ge 10, [(51, 0)]),
  (44, 1, .iload_n 3, [(3, 0)]),
  (45, 1, .iconst 1, [(1, 0)]),
  (46, 2, .iload 5, []),
  (48, 1, .ishl, []),
  (49, 1, .ior, []),
  (50, 1, .ireturn, []),
  (51, 1, .iload_n 3, [(3, 0)]),
  (52, 1, .aload_n 0, [(0, 0)]),
  (53, 3, .getfield 9, [(2, 7)]),
  (56, 2, .iload 5, []),
  (58, 2, .bipush 26, [(26, 0)]),
  (60, 1, .isub, []),
  (61, 1, .iaload, []),
  (62, 1, .ior, []),
  (63, 1, .istore_n 3, [(3, 0)]),
  (64, 2, .iload 5, []),
  (66, 1, .aload_n 0, [(0, 0)]),
  (67, 3, .getfield 86, [(2, 2)]),
  (70, 3, .invokestatic 102, [(9, 2), (4, 0)]),
  (73, 3, .ifCond .ne 5, [(78, 0)]),
  (76, 1, .iload_n 3, [(3, 0)]),
  (77, 1, .ireturn, []),
  (78, 3, .iinc 4 1, [(1, 0)]),
  (81, 3, .goto (-76), [(5, 0)]),
  (84, 1, .iload_n 3, [(3, 0)]),
  (85, 2, .ldc 122, [(134217728, 0)]),
  (87, 1, .ior, []),
  (88, 1, .ireturn, [])]
/-- PackedForest$Facts.firstsOf (II)I -/
def zt40 : zzT := (⟨"PackedForest$Facts", "firstsOf", "(II)I"⟩, prog_4_method_11_code, 6, (some .int), 1, zr40)
def zr41 : List zzI := [(0, 1, .aload_n 0, [(0, 0)]),
  (1, 3, .getfield 21, [(2, 10)]),
  (4, 1, .iconst 0, [(0, 0)]),
  (5, 3, .invokestatic 59, [(5, 2), (0, 0)]),
  (8, 1, .iconst 0, [(0, 0)]),
  (9, 1, .istore_n 2, [(2, 0)]),
  (10, 0, .nop, [(0, 3), (1, 1), (2, 1)]),
  (10, 1, .iload_n 2, [(2, 0)]),
  (11, 1, .aload_n 0, [(0, 0)]),
  (12, 3, .getfield 24, [(2, 0)]),
  (15, 3, .getfield 65, [(7, 0)]),
  (18, 3, .getfield 71, [(4, 0)]),
  (21, 3, .if_icmp .ge 26, [(47, 0)]),
  (24, 1, .aload_n 0, [(0, 0)]),
  (25, 3, .getfield 24, [(2, 0)]),
  (28, 1, .iload_n 2, [(2, 0)]),
  (29, 3, .invokevirtual 76, [(23, 1), (4, 0), (7, 0)]),
  (32, 3, .ifCond .eq 9, [(41, 0)]),
  (35, 1, .aload_n 0, [(0, 0)]),
  (36, 1, .iload_n 2, [(2, 0)]),
  (37, 1, .iload_n 1, [(1, 0)]),
  (38, 3, .invokevirtual 123, [(42, 2), (0, 0), (2, 0)]),
  (41, 3, .iinc 2 1, [(1, 0)]),
  (44, 3, .goto (-34), [(10, 0)]),
  (47, 1, .return_, [])]
/-- PackedForest$Facts.findSteps (Z)V -/
def zt41 : zzT := (⟨"PackedForest$Facts", "findSteps", "(Z)V"⟩, prog_4_method_12_code, 3, none, 0, zr41)
def zr42 : List zzI := [(0, 1, .aload_n 0, [(0, 0)]),
  (1, 3, .getfield 24, [(2, 0)]),
  (4, 3, .getfield 65, [(7, 0)]),
  (7, 1, .iload_n 1, [(1, 0)]),
  (8, 1, .aload_n 0, [(0, 0)]),
  (9, 3, .getfield 86, [(2, 2)]),
  (12, 3, .invokevirtual 127, [(8, 2), (1, 0), (4, 0)]),
  (15, 1, .istore_n 3, [(3, 0)]),
  (16, 1, .iconst 0, [(0, 0)]),
  (17, 2, .istore 4, []),
  (19, 0, .nop, [(0, 3), (1, 1), (2, 1), (3, 1), (4, 1)]),
  (19, 2, .iload 4, []),
  (21, 1, .aload_n 0, [(0, 0)]),
  (22, 3, .getfield 24, [(2, 0)]),
  (25, 3, .getfield 65, [(7, 0)]),
  (28, 3, .getfield 89, [(4, 3)]),
  (31, 1, .iload_n 1, [(1, 0)]),
  (32, 1, .iaload, []),
  (33, 3, .if_icmp .ge 87, [(120, 0)]),
  (36, 1, .aload_n 0, [(0, 0)]),
  (37, 3, .getfield 24, [(2, 0)]),
  (40, 3, .getfield 65, [(7, 0)]),
  (43, 1, .iload_n 1, [(1, 0)]),
  (44, 2, .iload 4, []),
  (46, 3, .invokevirtual 92, [(6, 2), (1, 0), (4, 0)]),
  (49, 2, .istore 5, []),
  (51, 2, .iload 5, []),
  (53, 2, .bipush 26, [(26, 0)]),
  (55, 3, .if_icmp .ge 4, [(59, 0)]),
  (58, 1, .return_, []),
  (59, 1, .iload_n 2, [(2, 0)]),
  (60, 3, .ifCond .eq 14, [(74, 0)]),
  (63, 1, .iload_n 3, [(3, 0)]),
  (64, 2, .iload 4, []),
  (66, 1, .iconst 1, [(1, 0)]),
  (67, 1, .iadd, []),
  (68, 1, .ishr, []),
  (69, 1, .iconst 1, [(1, 0)]),
  (70, 1, .iand, []),
  (71, 3, .ifCond .eq 30, [(101, 0)]),
  (74, 1, .aload_n 0, [(0, 0)]),
  (75, 3, .getfield 21, [(2, 10)]),
  (78, 1, .aload_n 0, [(0, 0)]),
  (79, 3, .getfield 24, [(2, 0)]),
  (82, 3, .getfield 65, [(7, 0)]),
  (85, 3, .getfield 96, [(4, 2)]),
  (88, 1, .iload_n 1, [(1, 0)]),
  (89, 1, .iaload, []),
  (90, 1, .iconst 1, [(1, 0)]),
  (91, 2, .iload 5, []),
  (93, 2, .bipush 26, [(26, 0)]),
  (95, 1, .isub, []),
  (96, 1, .ishl, []),
  (97, 3, .invokestatic 114, [(39, 3), (4, 0)]),
  (100, 1, .pop, []),
  (101, 2, .iload 5, []),
  (103, 1, .aload_n 0, [(0, 0)]),
  (104, 3, .getfield 86, [(2, 2)]),
  (107, 3, .invokestatic 102, [(9, 2), (4, 0)]),
  (110, 3, .ifCond .ne 4, [(114, 0)]),
  (113, 1, .return_, []),
  (114, 3, .iinc 4 1, [(1, 0)]),
  (117, 3, .goto (-98), [(19, 0)]),
  (120, 1, .return_, [])]
/-- PackedForest$Facts.stepsOf (IZ)V -/
def zt42 : zzT := (⟨"PackedForest$Facts", "stepsOf", "(IZ)V"⟩, prog_4_method_13_code, 6, none, 0, zr42)
def zr43 : List zzI := [(0, 1, .iconst 0, [(0, 0)]),
  (1, 1, .istore_n 1, [(1, 0)]),
  (2, 0, .nop, [(0, 3), (1, 1)]),
  (2, 1, .iload_n 1, [(1, 0)]),
  (3, 2, .bipush 26, [(26, 0)]),
  (5, 3, .if_icmp .ge 51, [(56, 0)]),
  (8, 1, .iconst 0, [(0, 0)]),
  (9, 1, .istore_n 2, [(2, 0)]),
  (10, 0, .nop, [(0, 3), (1, 1), (2, 1)]),
  (10, 1, .iload_n 2, [(2, 0)]),
  (11, 2, .bipush 26, [(26, 0)]),
  (13, 3, .if_icmp .ge 37, [(50, 0)]),
  (16, 1, .aload_n 0, [(0, 0)]),
  (17, 3, .getfield 21, [(2, 10)]),
  (20, 1, .iload_n 2, [(2, 0)]),
  (21, 1, .iaload, []),
  (22, 1, .iload_n 1, [(1, 0)]),
  (23, 1, .ishr, []),
  (24, 1, .iconst 1, [(1, 0)]),
  (25, 1, .iand, []),
  (26, 3, .ifCond .eq 18, [(44, 0)]),
  (29, 1, .aload_n 0, [(0, 0)]),
  (30, 3, .getfield 21, [(2, 10)]),
  (33, 1, .iload_n 2, [(2, 0)]),
  (34, 1, .dup2, []),
  (35, 1, .iaload, []),
  (36, 1, .aload_n 0, [(0, 0)]),
  (37, 3, .getfield 21, [(2, 10)]),
  (40, 1, .iload_n 1, [(1, 0)]),
  (41, 1, .iaload, []),
  (42, 1, .ior, []),
  (43, 1, .iastore, []),
  (44, 3, .iinc 2 1, [(1, 0)]),
  (47, 3, .goto (-37), [(10, 0)]),
  (50, 3, .iinc 1 1, [(1, 0)]),
  (53, 3, .goto (-51), [(2, 0)]),
  (56, 1, .iconst 0, [(0, 0)]),
  (57, 1, .istore_n 1, [(1, 0)]),
  (58, 1, .iconst 0, [(0, 0)]),
  (59, 1, .istore_n 2, [(2, 0)]),
  (60, 0, .nop, [(0, 3), (1, 1), (2, 1)]),
  (60, 1, .iload_n 2, [(2, 0)]),
  (61, 2, .bipush 26, [(26, 0)]),
  (63, 3, .if_icmp .ge 22, [(85, 0)]),
  (66, 1, .iload_n 1, [(1, 0)]),
  (67, 1, .aload_n 0, [(0, 0)]),
  (68, 3, .getfield 21, [(2, 10)]),
  (71, 1, .iload_n 2, [(2, 0)]),
  (72, 1, .iaload, []),
  (73, 1, .iconst 1, [(1, 0)]),
  (74, 1, .iload_n 2, [(2, 0)]),
  (75, 1, .ishl, []),
  (76, 1, .iand, []),
  (77, 1, .ior, []),
  (78, 1, .istore_n 1, [(1, 0)]),
  (79, 3, .iinc 2 1, [(1, 0)]),
  (82, 3, .goto (-22), [(60, 0)]),
  (85, 1, .iload_n 1, [(1, 0)]),
  (86, 1, .ireturn, [])]
/-- PackedForest$Facts.backToThemselves ()I -/
def zt43 : zzT := (⟨"PackedForest$Facts", "backToThemselves", "()I"⟩, prog_4_method_14_code, 3, (some .int), 1, zr43)
def zr44 : List zzI := [(0, 1, .aload_n 0, [(0, 0)]),
  (1, 3, .getfield 15, [(10, 3)]),
  (4, 1, .iload_n 1, [(1, 0)]),
  (5, 2, .bipush 52, [(52, 0)]),
  (7, 1, .imul, []),
  (8, 1, .iload_n 2, [(2, 0)]),
  (9, 1, .iadd, []),
  (10, 1, .iaload, []),
  (11, 1, .ireturn, [])]
/-- PackedForest$States.target (II)I -/
def zt44 : zzT := (⟨"PackedForest$States", "target", "(II)I"⟩, prog_12_method_2_code, 3, (some .int), 1, zr44)
def zr45 : List zzI := [(0, 1, .aload_n 0, [(0, 0)]),
  (1, 3, .getfield 9, [(10, 2)]),
  (4, 1, .iload_n 1, [(1, 0)]),
  (5, 1, .laload, []),
  (6, 1, .iload_n 2, [(2, 0)]),
  (7, 1, .iconst 5, [(5, 0)]),
  (8, 1, .imul, []),
  (9, 1, .lshr, []),
  (10, 1, .l2i, []),
  (11, 2, .bipush 31, [(31, 0)]),
  (13, 1, .iand, []),
  (14, 1, .ireturn, [])]
/-- PackedForest$States.pointsOf (II)I -/
def zt45 : zzT := (⟨"PackedForest$States", "pointsOf", "(II)I"⟩, prog_12_method_3_code, 3, (some .int), 1, zr45)
def zr46 : List zzI := [(0, 1, .iconst 0, [(0, 0)]),
  (1, 1, .istore_n 2, [(2, 0)]),
  (2, 1, .iconst 0, [(0, 0)]),
  (3, 1, .istore_n 3, [(3, 0)]),
  (4, 0, .nop, [(0, 3), (1, 1), (2, 1), (3, 1)]),
  (4, 1, .iload_n 3, [(3, 0)]),
  (5, 2, .bipush 26, [(26, 0)]),
  (7, 3, .if_icmp .ge 24, [(31, 0)]),
  (10, 1, .aload_n 0, [(0, 0)]),
  (11, 1, .iload_n 1, [(1, 0)]),
  (12, 1, .iload_n 3, [(3, 0)]),
  (13, 3, .invokevirtual 25, [(44, 2), (1, 0), (10, 0)]),
  (16, 3, .ifCond .lt 9, [(25, 0)]),
  (19, 1, .iload_n 2, [(2, 0)]),
  (20, 1, .iconst 1, [(1, 0)]),
  (21, 1, .iload_n 3, [(3, 0)]),
  (22, 1, .ishl, []),
  (23, 1, .ior, []),
  (24, 1, .istore_n 2, [(2, 0)]),
  (25, 3, .iinc 3 1, [(1, 0)]),
  (28, 3, .goto (-24), [(4, 0)]),
  (31, 1, .iload_n 2, [(2, 0)]),
  (32, 1, .ireturn, [])]
/-- PackedForest$States.smallsFrom (I)I -/
def zt46 : zzT := (⟨"PackedForest$States", "smallsFrom", "(I)I"⟩, prog_12_method_4_code, 4, (some .int), 1, zr46)
def zr47 : List zzI := [(0, 1, .aload_n 0, [(0, 0)]),
  (1, 1, .iconst 0, [(0, 0)]),
  (2, 3, .putfield 29, [(10, 0)]),
  (5, 1, .aload_n 0, [(0, 0)]),
  (6, 1, .aload_n 1, [(1, 0)]),
  (7, 1, .iload_n 2, [(2, 0)]),
  (8, 3, .invokevirtual 33, [(48, 2), (0, 0), (10, 0)]),
  (11, 1, .aload_n 0, [(0, 0)]),
  (12, 3, .getfield 9, [(10, 2)]),
  (15, 1, .iconst 0, [(0, 0)]),
  (16, 1, .aload_n 0, [(0, 0)]),
  (17, 3, .getfield 22, [(10, 5)]),
  (20, 1, .aload_n 1, [(1, 0)]),
  (21, 3, .getfield 37, [(4, 2)]),
  (24, 1, .iconst 0, [(0, 0)]),
  (25, 1, .iaload, []),
  (26, 2, .bipush 26, [(26, 0)]),
  (28, 1, .isub, []),
  (29, 1, .laload, []),
  (30, 1, .lastore, []),
  (31, 1, .aload_n 0, [(0, 0)]),
  (32, 1, .iconst 1, [(1, 0)]),
  (33, 3, .putfield 42, [(10, 1)]),
  (36, 1, .iconst 0, [(0, 0)]),
  (37, 1, .istore_n 3, [(3, 0)]),
  (38, 0, .nop, [(0, 3), (3, 1)]),
  (38, 1, .iload_n 3, [(3, 0)]),
  (39, 1, .aload_n 0, [(0, 0)]),
  (40, 3, .getfield 42, [(10, 1)]),
  (43, 3, .if_icmp .ge 40, [(83, 0)]),
  (46, 1, .iload_n 3, [(3, 0)]),
  (47, 2, .bipush 90, [(90, 0)]),
  (49, 3, .if_icmp .ge 34, [(83, 0)]),
  (52, 1, .aload_n 0, [(0, 0)]),
  (53, 1, .iload_n 3, [(3, 0)]),
  (54, 2, .bipush 26, [(26, 0)]),
  (56, 2, .bipush 52, [(52, 0)]),
  (58, 3, .invokevirtual 46, [(50, 3), (4, 0), (10, 0)]),
  (61, 3, .ifCond .eq 14, [(75, 0)]),
  (64, 1, .aload_n 0, [(0, 0)]),
  (65, 1, .iload_n 3, [(3, 0)]),
  (66, 1, .iconst 0, [(0, 0)]),
  (67, 2, .bipush 26, [(26, 0)]),
  (69, 3, .invokevirtual 46, [(50, 3), (4, 0), (10, 0)]),
  (72, 3, .ifCond .ne 5, [(77, 0)]),
  (75, 1, .iconst 0, [(0, 0)]),
  (76, 1, .ireturn, []),
  (77, 3, .iinc 3 1, [(1, 0)]),
  (80, 3, .goto (-42), [(38, 0)]),
  (83, 1, .aload_n 0, [(0, 0)]),
  (84, 1, .iconst 1, [(1, 0)]),
  (85, 3, .putfield 29, [(10, 0)]),
  (88, 1, .iconst 1, [(1, 0)]),
  (89, 1, .ireturn, [])]
/-- PackedForest$States.find (LPackedForest$Grammar;I)Z -/
def zt47 : zzT := (⟨"PackedForest$States", "find", "(LPackedForest$Grammar;I)Z"⟩, prog_12_method_5_code, 4, (some .boolean), 4, zr47)
def zr48 : List zzI := [(0, 1, .aload_n 0, [(0, 0)]),
  (1, 3, .getfield 19, [(10, 4)]),
  (4, 1, .lconst 0, [(0, 0)]),
  (5, 3, .invokestatic 50, [(4, 2), (0, 0)]),
  (8, 1, .aload_n 0, [(0, 0)]),
  (9, 3, .getfield 22, [(10, 5)]),
  (12, 1, .lconst 0, [(0, 0)]),
  (13, 3, .invokestatic 50, [(4, 2), (0, 0)]),
  (16, 1, .iconst 0, [(0, 0)]),
  (17, 1, .istore_n 3, [(3, 0)]),
  (18, 0, .nop, [(0, 3), (1, 3), (2, 1), (3, 1)]),
  (18, 1, .iload_n 3, [(3, 0)]),
  (19, 1, .aload_n 1, [(1, 0)]),
  (20, 3, .getfield 56, [(4, 0)]),
  (23, 3, .if_icmp .ge 82, [(105, 0)]),
  (26, 1, .iload_n 2, [(2, 0)]),
  (27, 1, .iload_n 3, [(3, 0)]),
  (28, 1, .ishr, []),
  (29, 1, .iconst 1, [(1, 0)]),
  (30, 1, .iand, []),
  (31, 3, .ifCond .ne 68, [(99, 0)]),
  (34, 1, .aload_n 0, [(0, 0)]),
  (35, 3, .getfield 22, [(10, 5)]),
  (38, 1, .aload_n 1, [(1, 0)]),
  (39, 3, .getfield 37, [(4, 2)]),
  (42, 1, .iload_n 3, [(3, 0)]),
  (43, 1, .iaload, []),
  (44, 2, .bipush 26, [(26, 0)]),
  (46, 1, .isub, []),
  (47, 1, .dup2, []),
  (48, 1, .laload, []),
  (49, 1, .lconst 1, [(1, 0)]),
  (50, 1, .iload_n 3, [(3, 0)]),
  (51, 1, .iconst 5, [(5, 0)]),
  (52, 1, .imul, []),
  (53, 1, .lshl, []),
  (54, 1, .lor, []),
  (55, 1, .lastore, []),
  (56, 1, .iconst 0, [(0, 0)]),
  (57, 2, .istore 4, []),
  (59, 0, .nop, [(0, 3), (1, 3), (2, 1), (3, 1), (4, 1)]),
  (59, 2, .iload 4, []),
  (61, 1, .aload_n 1, [(1, 0)]),
  (62, 3, .getfield 59, [(4, 3)]),
  (65, 1, .iload_n 3, [(3, 0)]),
  (66, 1, .iaload, []),
  (67, 3, .if_icmp .ge 32, [(99, 0)]),
  (70, 1, .aload_n 0, [(0, 0)]),
  (71, 3, .getfield 19, [(10, 4)]),
  (74, 1, .aload_n 1, [(1, 0)]),
  (75, 1, .iload_n 3, [(3, 0)]),
  (76, 2, .iload 4, []),
  (78, 3, .invokevirtual 62, [(6, 2), (1, 0), (4, 0)]),
  (81, 1, .dup2, []),
  (82, 1, .laload, []),
  (83, 1, .lconst 1, [(1, 0)]),
  (84, 1, .iload_n 3, [(3, 0)]),
  (85, 1, .iconst 5, [(5, 0)]),
  (86, 1, .imul, []),
  (87, 2, .iload 4, []),
  (89, 1, .iadd, []),
  (90, 1, .lshl, []),
  (91, 1, .lor, []),
  (92, 1, .lastore, []),
  (93, 3, .iinc 4 1, [(1, 0)]),
  (96, 3, .goto (-37), [(59, 0)]),
  (99, 3, .iinc 3 1, [(1, 0)]),
  (102, 3, .goto (-84), [(18, 0)]),
  (105, 1, .iconst 1, [(1, 0)]),
  (106, 1, .istore_n 3, [(3, 0)]),
  (107, 1, .iconst 0, [(0, 0)]),
  (108, 2, .istore 4, []),
  (110, 0, .nop, [(0, 3), (3, 1), (4, 1)]),
  (110, 2, .iload 4, []),
  (112, 3, .sipush 1000, [(1000, 0)]),
  (115, 3, .if_icmp .ge 74, [(189, 0)]),
  (118, 1, .iload_n 3, [(3, 0)]),
  (119, 3, .ifCond .eq 70, [(189, 0)]),
  (122, 1, .iconst 0, [(0, 0)]),
  (123, 1, .istore_n 3, [(3, 0)]),
  (124, 1, .iconst 0, [(0, 0)]),
  (125, 2, .istore 5, []),
  (127, 0, .nop, [(0, 3), (3, 1), (4, 1), (5, 1)]),
  (127, 2, .iload 5, []),
  (129, 2, .bipush 26, [(26, 0)]),
  (131, 3, .if_icmp .ge 52, [(183, 0)]),
  (134, 1, .aload_n 0, [(0, 0)]),
  (135, 3, .getfield 22, [(10, 5)]),
  (138, 2, .iload 5, []),
  (140, 1, .laload, []),
  (141, 2, .lstore 6, []),
  (143, 1, .aload_n 0, [(0, 0)]),
  (144, 3, .getfield 22, [(10, 5)]),
  (147, 2, .iload 5, []),
  (149, 1, .aload_n 0, [(0, 0)]),
  (150, 2, .lload 6, []),
  (152, 3, .invokevirtual 65, [(49, 1), (2, 0), (10, 0)]),
  (155, 1, .lastore, []),
  (156, 1, .iload_n 3, [(3, 0)]),
  (157, 1, .aload_n 0, [(0, 0)]),
  (158, 3, .getfield 22, [(10, 5)]),
  (161, 2, .iload 5, []),
  (163, 1, .laload, []),
  (164, 2, .lload 6, []),
  (166, 1, .lcmp, []),
  (167, 3, .ifCond .eq 7, [(174, 0)]),
  (170, 1, .iconst 1, [(1, 0)]),
  (171, 3, .goto 4, [(175, 0)]),
  (174, 1, .iconst 0, [(0, 0)]),
  (175, 1, .ior, []),
  (176, 1, .istore_n 3, [(3, 0)]),
  (177, 3, .iinc 5 1, [(1, 0)]),
  (180, 3, .goto (-53), [(127, 0)]),
  (183, 3, .iinc 4 1, [(1, 0)]),
  (186, 3, .goto (-76), [(110, 0)]),
  (189, 1, .return_, [])]
/-- PackedForest$States.findPoints (LPackedForest$Grammar;I)V -/
def zt48 : zzT := (⟨"PackedForest$States", "findPoints", "(LPackedForest$Grammar;I)V"⟩, prog_12_method_6_code, 8, none, 0, zr48)
def zr49 : List zzI := [(0, 1, .lload_n 1, [(1, 0)]),
  (1, 1, .lstore_n 3, [(3, 0)]),
  (2, 1, .iconst 0, [(0, 0)]),
  (3, 2, .istore 5, []),
  (5, 0, .nop, [(0, 3), (1, 2), (3, 2), (5, 1)]),
  (5, 2, .iload 5, []),
  (7, 2, .bipush 26, [(26, 0)]),
  (9, 3, .if_icmp .ge 36, [(45, 0)]),
  (12, 1, .lload_n 1, [(1, 0)]),
  (13, 1, .aload_n 0, [(0, 0)]),
  (14, 3, .getfield 19, [(10, 4)]),
  (17, 2, .bipush 26, [(26, 0)]),
  (19, 2, .iload 5, []),
  (21, 1, .iadd, []),
  (22, 1, .laload, []),
  (23, 1, .land, []),
  (24, 1, .lconst 0, [(0, 0)]),
  (25, 1, .lcmp, []),
  (26, 3, .ifCond .eq 13, [(39, 0)]),
  (29, 1, .lload_n 3, [(3, 0)]),
  (30, 1, .aload_n 0, [(0, 0)]),
  (31, 3, .getfield 22, [(10, 5)]),
  (34, 2, .iload 5, []),
  (36, 1, .laload, []),
  (37, 1, .lor, []),
  (38, 1, .lstore_n 3, [(3, 0)]),
  (39, 3, .iinc 5 1, [(1, 0)]),
  (42, 3, .goto (-37), [(5, 0)]),
  (45, 1, .lload_n 3, [(3, 0)]),
  (46, 1, .lreturn, [])]
/-- PackedForest$States.closed (J)J -/
def zt49 : zzT := (⟨"PackedForest$States", "closed", "(J)J"⟩, prog_12_method_7_code, 6, (some .long), 2, zr49)
def zr50 : List zzI := [(0, 1, .iload_n 2, [(2, 0)]),
  (1, 2, .istore 4, []),
  (3, 0, .nop, [(0, 3), (1, 1), (3, 1), (4, 1)]),
  (3, 2, .iload 4, []),
  (5, 1, .iload_n 3, [(3, 0)]),
  (6, 3, .if_icmp .ge 72, [(78, 0)]),
  (9, 1, .aload_n 0, [(0, 0)]),
  (10, 3, .getfield 9, [(10, 2)]),
  (13, 1, .iload_n 1, [(1, 0)]),
  (14, 1, .laload, []),
  (15, 1, .aload_n 0, [(0, 0)]),
  (16, 3, .getfield 19, [(10, 4)]),
  (19, 2, .iload 4, []),
  (21, 1, .laload, []),
  (22, 1, .land, []),
  (23, 1, .iconst 1, [(1, 0)]),
  (24, 1, .lshl, []),
  (25, 2, .lstore 5, []),
  (27, 2, .bipush (-2), [(2, 1)]),
  (29, 2, .istore 7, []),
  (31, 2, .lload 5, []),
  (33, 1, .lconst 0, [(0, 0)]),
  (34, 1, .lcmp, []),
  (35, 3, .ifCond .eq 23, [(58, 0)]),
  (38, 1, .aload_n 0, [(0, 0)]),
  (39, 1, .aload_n 0, [(0, 0)]),
  (40, 2, .lload 5, []),
  (42, 3, .invokevirtual 65, [(49, 1), (2, 0), (10, 0)]),
  (45, 3, .invokevirtual 69, [(51, 1), (1, 0), (10, 0)]),
  (48, 2, .istore 7, []),
  (50, 2, .iload 7, []),
  (52, 1, .iconst (-1), [(1, 1)]),
  (53, 3, .if_icmp .ne 5, [(58, 0)]),
  (56, 1, .iconst 0, [(0, 0)]),
  (57, 1, .ireturn, []),
  (58, 1, .aload_n 0, [(0, 0)]),
  (59, 3, .getfield 15, [(10, 3)]),
  (62, 1, .iload_n 1, [(1, 0)]),
  (63, 2, .bipush 52, [(52, 0)]),
  (65, 1, .imul, []),
  (66, 2, .iload 4, []),
  (68, 1, .iadd, []),
  (69, 2, .iload 7, []),
  (71, 1, .iastore, []),
  (72, 3, .iinc 4 1, [(1, 0)]),
  (75, 3, .goto (-72), [(3, 0)]),
  (78, 1, .iconst 1, [(1, 0)]),
  (79, 1, .ireturn, [])]
/-- PackedForest$States.goOn (III)Z -/
def zt50 : zzT := (⟨"PackedForest$States", "goOn", "(III)Z"⟩, prog_12_method_8_code, 8, (some .boolean), 4, zr50)
def zr51 : List zzI := [(0, 1, .iconst 0, [(0, 0)]),
  (1, 1, .istore_n 3, [(3, 0)]),
  (2, 0, .nop, [(0, 3), (1, 2), (3, 1)]),
  (2, 1, .iload_n 3, [(3, 0)]),
  (3, 1, .aload_n 0, [(0, 0)]),
  (4, 3, .getfield 42, [(10, 1)]),
  (7, 3, .if_icmp .ge 22, [(29, 0)]),
  (10, 1, .aload_n 0, [(0, 0)]),
  (11, 3, .getfield 9, [(10, 2)]),
  (14, 1, .iload_n 3, [(3, 0)]),
  (15, 1, .laload, []),
  (16, 1, .lload_n 1, [(1, 0)]),
  (17, 1, .lcmp, []),
  (18, 3, .ifCond .ne 5, [(23, 0)]),
  (21, 1, .iload_n 3, [(3, 0)]),
  (22, 1, .ireturn, []),
  (23, 3, .iinc 3 1, [(1, 0)]),
  (26, 3, .goto (-24), [(2, 0)]),
  (29, 1, .aload_n 0, [(0, 0)]),
  (30, 3, .getfield 42, [(10, 1)]),
  (33, 2, .bipush 90, [(90, 0)]),
  (35, 3, .if_icmp .ne 5, [(40, 0)]),
  (38, 1, .iconst (-1), [(1, 1)]),
  (39, 1, .ireturn, []),
  (40, 1, .aload_n 0, [(0, 0)]),
  (41, 3, .getfield 9, [(10, 2)]),
  (44, 1, .aload_n 0, [(0, 0)]),
  (45, 3, .getfield 42, [(10, 1)]),
  (48, 1, .lload_n 1, [(1, 0)]),
  (49, 1, .lastore, []),
  (50, 1, .aload_n 0, [(0, 0)]),
  (51, 1, .dup, []),
  (52, 3, .getfield 42, [(10, 1)]),
  (55, 1, .iconst 1, [(1, 0)]),
  (56, 1, .iadd, []),
  (57, 3, .putfield 42, [(10, 1)]),
  (60, 1, .aload_n 0, [(0, 0)]),
  (61, 3, .getfield 42, [(10, 1)]),
  (64, 1, .iconst 1, [(1, 0)]),
  (65, 1, .isub, []),
  (66, 1, .ireturn, [])]
/-- PackedForest$States.numberOf (J)I -/
def zt51 : zzT := (⟨"PackedForest$States", "numberOf", "(J)I"⟩, prog_12_method_9_code, 4, (some .int), 1, zr51)
def zr52 : List zzI := [(0, 1, .aload_n 0, [(0, 0)]),
  (1, 3, .getfield 15, [(0, 4)]),
  (4, 1, .iload_n 1, [(1, 0)]),
  (5, 1, .iload_n 2, [(2, 0)]),
  (6, 3, .invokestatic 32, [(135, 2), (1, 0)]),
  (9, 1, .iaload, []),
  (10, 1, .ireturn, [])]
/-- PackedForest$Chart.rulesAt (II)I -/
def zt52 : zzT := (⟨"PackedForest$Chart", "rulesAt", "(II)I"⟩, prog_2_method_2_code, 3, (some .int), 1, zr52)
def zr53 : List zzI := [(0, 1, .aload_n 0, [(0, 0)]),
  (1, 1, .iload_n 2, [(2, 0)]),
  (2, 1, .iload_n 3, [(3, 0)]),
  (3, 3, .invokevirtual 36, [(52, 2), (1, 0), (0, 0)]),
  (6, 1, .aload_n 0, [(0, 0)]),
  (7, 3, .getfield 24, [(0, 0)]),
  (10, 3, .getfield 39, [(7, 0)]),
  (13, 3, .getfield 45, [(4, 7)]),
  (16, 1, .iload_n 1, [(1, 0)]),
  (17, 2, .bipush 26, [(26, 0)]),
  (19, 1, .isub, []),
  (20, 1, .iaload, []),
  (21, 1, .iand, []),
  (22, 3, .ifCond .eq 7, [(29, 0)]),
  (25, 1, .iconst 1, [(1, 0)]),
  (26, 3, .goto 4, [(30, 0)]),
  (29, 1, .iconst 0, [(0, 0)]),
  (30, 1, .ireturn, [])]
/-- PackedForest$Chart.hasRow (III)Z -/
def zt53 : zzT := (⟨"PackedForest$Chart", "hasRow", "(III)Z"⟩, prog_2_method_3_code, 4, (some .boolean), 4, zr53)
def zr54 : List zzI := [(0, 1, .aload_n 0, [(0, 0)]),
  (1, 3, .getfield 9, [(0, 3)]),
  (4, 1, .iload_n 1, [(1, 0)]),
  (5, 1, .iconst 4, [(4, 0)]),
  (6, 1, .imul, []),
  (7, 1, .iload_n 2, [(2, 0)]),
  (8, 1, .iadd, []),
  (9, 1, .iaload, []),
  (10, 1, .iload_n 3, [(3, 0)]),
  (11, 1, .ishr, []),
  (12, 1, .iconst 1, [(1, 0)]),
  (13, 1, .iand, []),
  (14, 3, .ifCond .eq 7, [(21, 0)]),
  (17, 1, .iconst 1, [(1, 0)]),
  (18, 3, .goto 4, [(22, 0)]),
  (21, 1, .iconst 0, [(0, 0)]),
  (22, 1, .ireturn, [])]
/-- PackedForest$Chart.mayBeBelow (III)Z -/
def zt54 : zzT := (⟨"PackedForest$Chart", "mayBeBelow", "(III)Z"⟩, prog_2_method_4_code, 4, (some .boolean), 4, zr54)
def zr55 : List zzI := [(0, 1, .aload_n 0, [(0, 0)]),
  (1, 3, .getfield 15, [(0, 4)]),
  (4, 1, .iload_n 3, [(3, 0)]),
  (5, 2, .iload 4, []),
  (7, 3, .invokestatic 32, [(135, 2), (1, 0)]),
  (10, 1, .iaload, []),
  (11, 1, .aload_n 0, [(0, 0)]),
  (12, 3, .getfield 9, [(0, 3)]),
  (15, 1, .iload_n 1, [(1, 0)]),
  (16, 1, .iconst 4, [(4, 0)]),
  (17, 1, .imul, []),
  (18, 1, .iload_n 2, [(2, 0)]),
  (19, 1, .iadd, []),
  (20, 1, .iaload, []),
  (21, 1, .iand, []),
  (22, 1, .ireturn, [])]
/-- PackedForest$Chart.rulesBelow (IIII)I -/
def zt55 : zzT := (⟨"PackedForest$Chart", "rulesBelow", "(IIII)I"⟩, prog_2_method_5_code, 5, (some .int), 1, zr55)
def zr56 : List zzI := [(0, 1, .aload_n 0, [(0, 0)]),
  (1, 3, .getfield 18, [(0, 5)]),
  (4, 1, .iload_n 1, [(1, 0)]),
  (5, 1, .iconst 4, [(4, 0)]),
  (6, 1, .imul, []),
  (7, 1, .iload_n 2, [(2, 0)]),
  (8, 1, .iadd, []),
  (9, 2, .bipush 13, [(13, 0)]),
  (11, 1, .imul, []),
  (12, 1, .iload_n 3, [(3, 0)]),
  (13, 1, .iadd, []),
  (14, 1, .iaload, []),
  (15, 1, .iconst 2, [(2, 0)]),
  (16, 2, .iload 4, []),
  (18, 1, .ishl, []),
  (19, 1, .iconst 1, [(1, 0)]),
  (20, 1, .isub, []),
  (21, 1, .iand, []),
  (22, 1, .ireturn, [])]
/-- PackedForest$Chart.endsOf (IIII)I -/
def zt56 : zzT := (⟨"PackedForest$Chart", "endsOf", "(IIII)I"⟩, prog_2_method_6_code, 5, (some .int), 1, zr56)
def zr57 : List zzI := [(0, 1, .aload_n 0, [(0, 0)]),
  (1, 3, .getfield 18, [(0, 5)]),
  (4, 1, .iload_n 1, [(1, 0)]),
  (5, 1, .iconst 4, [(4, 0)]),
  (6, 1, .imul, []),
  (7, 1, .iload_n 2, [(2, 0)]),
  (8, 1, .iadd, []),
  (9, 2, .bipush 13, [(13, 0)]),
  (11, 1, .imul, []),
  (12, 1, .iload_n 3, [(3, 0)]),
  (13, 1, .iadd, []),
  (14, 1, .iaload, []),
  (15, 2, .iload 4, []),
  (17, 1, .ishr, []),
  (18, 1, .iconst 1, [(1, 0)]),
  (19, 1, .iand, []),
  (20, 3, .ifCond .eq 7, [(27, 0)]),
  (23, 1, .iconst 1, [(1, 0)]),
  (24, 3, .goto 4, [(28, 0)]),
  (27, 1, .iconst 0, [(0, 0)]),
  (28, 1, .ireturn, [])]
/-- PackedForest$Chart.fits (IIII)Z -/
def zt57 : zzT := (⟨"PackedForest$Chart", "fits", "(IIII)Z"⟩, prog_2_method_7_code, 5, (some .boolean), 4, zr57)
def zr58 : List zzI := [(0, 1, .aload_n 0, [(0, 0)]),
  (1, 3, .getfield 50, [(0, 2)]),
  (4, 3, .ifCond .ne 7, [(11, 0)]),
  (7, 1, .aload_n 0, [(0, 0)]),
  (8, 3, .invokevirtual 54, [(59, 0), (0, 0), (0, 0)]),
  (11, 1, .aload_n 0, [(0, 0)]),
  (12, 3, .getfield 50, [(0, 2)]),
  (15, 1, .istore_n 1, [(1, 0)]),
  (16, 0, .nop, [(0, 3), (1, 1)]),
  (16, 1, .iload_n 1, [(1, 0)]),
  (17, 1, .aload_n 0, [(0, 0)]),
  (18, 3, .getfield 24, [(0, 0)]),
  (21, 3, .getfield 57, [(7, 2)]),
  (24, 3, .if_icmp .gt 33, [(57, 0)]),
  (27, 1, .iload_n 1, [(1, 0)]),
  (28, 1, .istore_n 2, [(2, 0)]),
  (29, 0, .nop, [(0, 3), (1, 1), (2, 1)]),
  (29, 1, .iload_n 2, [(2, 0)]),
  (30, 3, .ifCond .lt 21, [(51, 0)]),
  (33, 1, .aload_n 0, [(0, 0)]),
  (34, 1, .iload_n 2, [(2, 0)]),
  (35, 1, .iload_n 1, [(1, 0)]),
  (36, 3, .invokevirtual 60, [(61, 2), (0, 0), (0, 0)]),
  (39, 1, .aload_n 0, [(0, 0)]),
  (40, 1, .iload_n 2, [(2, 0)]),
  (41, 1, .iload_n 1, [(1, 0)]),
  (42, 3, .invokevirtual 64, [(62, 2), (0, 0), (0, 0)]),
  (45, 3, .iinc 2 (-1), [(1, 1)]),
  (48, 3, .goto (-19), [(29, 0)]),
  (51, 3, .iinc 1 1, [(1, 0)]),
  (54, 3, .goto (-38), [(16, 0)]),
  (57, 1, .aload_n 0, [(0, 0)]),
  (58, 1, .aload_n 0, [(0, 0)]),
  (59, 3, .getfield 24, [(0, 0)]),
  (62, 3, .getfield 57, [(7, 2)]),
  (65, 1, .iconst 1, [(1, 0)]),
  (66, 1, .iadd, []),
  (67, 3, .putfield 50, [(0, 2)]),
  (70, 1, .return_, [])]
/-- PackedForest$Chart.fill ()V -/
def zt58 : zzT := (⟨"PackedForest$Chart", "fill", "()V"⟩, prog_2_method_8_code, 3, none, 0, zr58)
def zr59 : List zzI := [(0, 1, .iconst 0, [(0, 0)]),
  (1, 1, .istore_n 1, [(1, 0)]),
  (2, 0, .nop, [(0, 3), (1, 1)]),
  (2, 1, .iload_n 1, [(1, 0)]),
  (3, 1, .aload_n 0, [(0, 0)]),
  (4, 3, .getfield 24, [(0, 0)]),
  (7, 3, .getfield 39, [(7, 0)]),
  (10, 3, .getfield 67, [(4, 0)]),
  (13, 3, .if_icmp .ge 49, [(62, 0)]),
  (16, 1, .iconst 0, [(0, 0)]),
  (17, 1, .istore_n 2, [(2, 0)]),
  (18, 0, .nop, [(0, 3), (1, 1), (2, 1)]),
  (18, 1, .iload_n 2, [(2, 0)]),
  (19, 1, .aload_n 0, [(0, 0)]),
  (20, 3, .getfield 24, [(0, 0)]),
  (23, 3, .getfield 39, [(7, 0)]),
  (26, 3, .getfield 70, [(4, 3)]),
  (29, 1, .iload_n 1, [(1, 0)]),
  (30, 1, .iaload, []),
  (31, 3, .if_icmp .ge 25, [(56, 0)]),
  (34, 1, .aload_n 0, [(0, 0)]),
  (35, 3, .getfield 9, [(0, 3)]),
  (38, 1, .iload_n 1, [(1, 0)]),
  (39, 1, .iconst 4, [(4, 0)]),
  (40, 1, .imul, []),
  (41, 1, .iload_n 2, [(2, 0)]),
  (42, 1, .iadd, []),
  (43, 1, .aload_n 0, [(0, 0)]),
  (44, 1, .iload_n 1, [(1, 0)]),
  (45, 1, .iload_n 2, [(2, 0)]),
  (46, 3, .invokevirtual 73, [(60, 2), (1, 0), (0, 0)]),
  (49, 1, .iastore, []),
  (50, 3, .iinc 2 1, [(1, 0)]),
  (53, 3, .goto (-35), [(18, 0)]),
  (56, 3, .iinc 1 1, [(1, 0)]),
  (59, 3, .goto (-57), [(2, 0)]),
  (62, 1, .return_, [])]
/-- PackedForest$Chart.findFitting ()V -/
def zt59 : zzT := (⟨"PackedForest$Chart", "findFitting", "()V"⟩, prog_2_method_9_code, 3, none, 0, zr59)
def zr60 : List zzI := [(0, 1, .aload_n 0, [(0, 0)]),
  (1, 3, .getfield 24, [(0, 0)]),
  (4, 3, .getfield 39, [(7, 0)]),
  (7, 1, .iload_n 1, [(1, 0)]),
  (8, 1, .iload_n 2, [(2, 0)]),
  (9, 3, .invokevirtual 76, [(6, 2), (1, 0), (4, 0)]),
  (12, 1, .istore_n 3, [(3, 0)]),
  (13, 1, .iload_n 3, [(3, 0)]),
  (14, 2, .bipush 26, [(26, 0)]),
  (16, 3, .if_icmp .ge 5, [(21, 0)]),
  (19, 1, .iconst 0, [(0, 0)]),
  (20, 1, .ireturn, []),
  (21, 1, .aload_n 0, [(0, 0)]),
  (22, 3, .getfield 24, [(0, 0)]),
  (25, 3, .getfield 39, [(7, 0)]),
  (28, 3, .getfield 45, [(4, 7)]),
  (31, 1, .iload_n 3, [(3, 0)]),
  (32, 2, .bipush 26, [(26, 0)]),
  (34, 1, .isub, []),
  (35, 1, .iaload, []),
  (36, 1, .aload_n 0, [(0, 0)]),
  (37, 3, .getfield 24, [(0, 0)]),
  (40, 3, .invokevirtual 79, [(22, 0), (1, 0), (7, 0)]),
  (43, 1, .iand, []),
  (44, 2, .istore 4, []),
  (46, 1, .iconst 0, [(0, 0)]),
  (47, 2, .istore 5, []),
  (49, 0, .nop, [(0, 3), (1, 1), (2, 1), (4, 1), (5, 1)]),
  (49, 2, .iload 5, []),
  (51, 1, .aload_n 0, [(0, 0)]),
  (52, 3, .getfield 24, [(0, 0)]),
  (55, 3, .getfield 39, [(7, 0)]),
  (58, 3, .getfield 67, [(4, 0)]),
  (61, 3, .if_icmp .ge 41, [(102, 0)]),
  (64, 1, .aload_n 0, [(0, 0)]),
  (65, 3, .getfield 28, [(0, 1)]),
  (68, 3, .ifCond .eq 34, [(102, 0)]),
  (71, 1, .aload_n 0, [(0, 0)]),
  (72, 3, .getfield 24, [(0, 0)]),
  (75, 1, .iload_n 1, [(1, 0)]),
  (76, 1, .iload_n 2, [(2, 0)]),
  (77, 2, .iload 5, []),
  (79, 3, .invokevirtual 83, [(29, 3), (4, 0), (7, 0)]),
  (82, 3, .ifCond .eq 14, [(96, 0)]),
  (85, 2, .iload 4, []),
  (87, 1, .iconst 1, [(1, 0)]),
  (88, 2, .iload 5, []),
  (90, 1, .ishl, []),
  (91, 1, .iconst (-1), [(1, 1)]),
  (92, 1, .ixor, []),
  (93, 1, .iand, []),
  (94, 2, .istore 4, []),
  (96, 3, .iinc 5 1, [(1, 0)]),
  (99, 3, .goto (-50), [(49, 0)]),
  (102, 2, .iload 4, []),
  (104, 1, .ireturn, [])]
/-- PackedForest$Chart.fittingBelow (II)I -/
def zt60 : zzT := (⟨"PackedForest$Chart", "fittingBelow", "(II)I"⟩, prog_2_method_10_code, 6, (some .int), 1, zr60)
def zr61 : List zzI := [(0, 1, .iconst 0, [(0, 0)]),
  (1, 1, .istore_n 3, [(3, 0)]),
  (2, 0, .nop, [(0, 3), (1, 1), (2, 1), (3, 1)]),
  (2, 1, .iload_n 3, [(3, 0)]),
  (3, 1, .aload_n 0, [(0, 0)]),
  (4, 3, .getfield 24, [(0, 0)]),
  (7, 3, .getfield 39, [(7, 0)]),
  (10, 3, .getfield 67, [(4, 0)]),
  (13, 3, .if_icmp .ge 108, [(121, 0)]),
  (16, 1, .iconst 0, [(0, 0)]),
  (17, 2, .istore 4, []),
  (19, 0, .nop, [(0, 3), (1, 1), (2, 1), (3, 1), (4, 1)]),
  (19, 2, .iload 4, []),
  (21, 1, .aload_n 0, [(0, 0)]),
  (22, 3, .getfield 24, [(0, 0)]),
  (25, 3, .getfield 39, [(7, 0)]),
  (28, 3, .getfield 70, [(4, 3)]),
  (31, 1, .iload_n 3, [(3, 0)]),
  (32, 1, .iaload, []),
  (33, 3, .if_icmp .ge 82, [(115, 0)]),
  (36, 1, .iload_n 3, [(3, 0)]),
  (37, 1, .iconst 4, [(4, 0)]),
  (38, 1, .imul, []),
  (39, 2, .iload 4, []),
  (41, 1, .iadd, []),
  (42, 2, .bipush 13, [(13, 0)]),
  (44, 1, .imul, []),
  (45, 1, .iload_n 1, [(1, 0)]),
  (46, 1, .iadd, []),
  (47, 2, .istore 5, []),
  (49, 1, .aload_n 0, [(0, 0)]),
  (50, 3, .getfield 18, [(0, 5)]),
  (53, 2, .iload 5, []),
  (55, 1, .dup2, []),
  (56, 1, .iaload, []),
  (57, 1, .iconst 1, [(1, 0)]),
  (58, 1, .iload_n 2, [(2, 0)]),
  (59, 1, .ishl, []),
  (60, 1, .iconst (-1), [(1, 1)]),
  (61, 1, .ixor, []),
  (62, 1, .iand, []),
  (63, 1, .iastore, []),
  (64, 1, .iload_n 2, [(2, 0)]),
  (65, 1, .iload_n 1, [(1, 0)]),
  (66, 1, .iconst 1, [(1, 0)]),
  (67, 1, .iadd, []),
  (68, 3, .if_icmp .ne 41, [(109, 0)]),
  (71, 1, .aload_n 0, [(0, 0)]),
  (72, 3, .getfield 24, [(0, 0)]),
  (75, 3, .getfield 87, [(7, 1)]),
  (78, 1, .iload_n 1, [(1, 0)]),
  (79, 1, .iaload, []),
  (80, 1, .aload_n 0, [(0, 0)]),
  (81, 3, .getfield 24, [(0, 0)]),
  (84, 3, .getfield 39, [(7, 0)]),
  (87, 1, .iload_n 3, [(3, 0)]),
  (88, 2, .iload 4, []),
  (90, 3, .invokevirtual 76, [(6, 2), (1, 0), (4, 0)]),
  (93, 3, .if_icmp .ne 16, [(109, 0)]),
  (96, 1, .aload_n 0, [(0, 0)]),
  (97, 3, .getfield 18, [(0, 5)]),
  (100, 2, .iload 5, []),
  (102, 1, .dup2, []),
  (103, 1, .iaload, []),
  (104, 1, .iconst 1, [(1, 0)]),
  (105, 1, .iload_n 2, [(2, 0)]),
  (106, 1, .ishl, []),
  (107, 1, .ior, []),
  (108, 1, .iastore, []),
  (109, 3, .iinc 4 1, [(1, 0)]),
  (112, 3, .goto (-93), [(19, 0)]),
  (115, 3, .iinc 3 1, [(1, 0)]),
  (118, 3, .goto (-116), [(2, 0)]),
  (121, 1, .return_, [])]
/-- PackedForest$Chart.placeSmalls (II)V -/
def zt61 : zzT := (⟨"PackedForest$Chart", "placeSmalls", "(II)V"⟩, prog_2_method_11_code, 6, none, 0, zr61)
def zr62 : List zzI := [(0, 1, .iload_n 1, [(1, 0)]),
  (1, 1, .iload_n 2, [(2, 0)]),
  (2, 3, .invokestatic 32, [(135, 2), (1, 0)]),
  (5, 1, .istore_n 3, [(3, 0)]),
  (6, 1, .aload_n 0, [(0, 0)]),
  (7, 3, .getfield 15, [(0, 4)]),
  (10, 1, .iload_n 3, [(3, 0)]),
  (11, 1, .iconst 0, [(0, 0)]),
  (12, 1, .iastore, []),
  (13, 1, .aload_n 0, [(0, 0)]),
  (14, 3, .getfield 24, [(0, 0)]),
  (17, 3, .invokevirtual 79, [(22, 0), (1, 0), (7, 0)]),
  (20, 2, .istore 4, []),
  (22, 1, .iconst (-1), [(1, 1)]),
  (23, 2, .istore 5, []),
  (25, 1, .iconst 0, [(0, 0)]),
  (26, 2, .istore 6, []),
  (28, 0, .nop, [(0, 3), (1, 1), (2, 1), (3, 1), (4, 1), (5, 1), (6, 1)]),
  (28, 2, .iload 6, []),
  (30, 2, .bipush 12, [(12, 0)]),
  (32, 3, .if_icmp .gt 103, [(135, 0)]),
  (35, 2, .iload 5, []),
  (37, 1, .aload_n 0, [(0, 0)]),
  (38, 3, .getfield 15, [(0, 4)]),
  (41, 1, .iload_n 3, [(3, 0)]),
  (42, 1, .iaload, []),
  (43, 3, .if_icmp .eq 92, [(135, 0)]),
  (46, 1, .aload_n 0, [(0, 0)]),
  (47, 3, .getfield 15, [(0, 4)]),
  (50, 1, .iload_n 3, [(3, 0)]),
  (51, 1, .iaload, []),
  (52, 2, .istore 5, []),
  (54, 1, .iconst 0, [(0, 0)]),
  (55, 2, .istore 7, []),
  (57, 0, .nop, [(0, 3), (1, 1), (2, 1), (3, 1), (4, 1), (5, 1), (6, 1), (7, 1)]),
  (57, 2, .iload 7, []),
  (59, 1, .aload_n 0, [(0, 0)]),
  (60, 3, .getfield 24, [(0, 0)]),
  (63, 3, .getfield 39, [(7, 0)]),
  (66, 3, .getfield 67, [(4, 0)]),
  (69, 3, .if_icmp .ge 60, [(129, 0)]),
  (72, 2, .iload 4, []),
  (74, 1, .aload_n 0, [(0, 0)]),
  (75, 3, .getfield 15, [(0, 4)]),
  (78, 1, .iload_n 3, [(3, 0)]),
  (79, 1, .iaload, []),
  (80, 1, .iconst (-1), [(1, 1)]),
  (81, 1, .ixor, []),
  (82, 1, .iand, []),
  (83, 2, .iload 7, []),
  (85, 1, .ishr, []),
  (86, 1, .iconst 1, [(1, 0)]),
  (87, 1, .iand, []),
  (88, 3, .ifCond .eq 35, [(123, 0)]),
  (91, 1, .aload_n 0, [(0, 0)]),
  (92, 2, .iload 7, []),
  (94, 1, .iload_n 1, [(1, 0)]),
  (95, 1, .iload_n 2, [(2, 0)]),
  (96, 3, .invokevirtual 90, [(64, 3), (4, 0), (0, 0)]),
  (99, 3, .ifCond .eq 24, [(123, 0)]),
  (102, 1, .aload_n 0, [(0, 0)]),
  (103, 3, .getfield 15, [(0, 4)]),
  (106, 1, .iload_n 3, [(3, 0)]),
  (107, 1, .dup2, []),
  (108, 1, .iaload, []),
  (109, 1, .iconst 1, [(1, 0)]),
  (110, 2, .iload 7, []),
  (112, 1, .ishl, []),
  (113, 1, .ior, []),
  (114, 1, .iastore, []),
  (115, 1, .aload_n 0, [(0, 0)]),
  (116, 2, .iload 7, []),
  (118, 1, .iload_n 1, [(1, 0)]),
  (119, 1, .iload_n 2, [(2, 0)]),
  (120, 3, .invokevirtual 93, [(63, 3), (0, 0), (0, 0)]),
  (123, 3, .iinc 7 1, [(1, 0)]),
  (126, 3, .goto (-69), [(57, 0)]),
  (129, 3, .iinc 6 1, [(1, 0)]),
  (132, 3, .goto (-104), [(28, 0)]),
  (135, 1, .return_, [])]
/-- PackedForest$Chart.settle (II)V -/
def zt62 : zzT := (⟨"PackedForest$Chart", "settle", "(II)V"⟩, prog_2_method_12_code, 8, none, 0, zr62)
def zr63 : List zzI := [(0, 1, .iconst 0, [(0, 0)]),
  (1, 2, .istore 4, []),
  (3, 0, .nop, [(0, 3), (1, 1), (2, 1), (3, 1), (4, 1)]),
  (3, 2, .iload 4, []),
  (5, 1, .aload_n 0, [(0, 0)]),
  (6, 3, .getfield 24, [(0, 0)]),
  (9, 3, .getfield 39, [(7, 0)]),
  (12, 3, .getfield 67, [(4, 0)]),
  (15, 3, .if_icmp .ge 71, [(86, 0)]),
  (18, 1, .iconst 0, [(0, 0)]),
  (19, 2, .istore 5, []),
  (21, 0, .nop, [(0, 3), (1, 1), (2, 1), (3, 1), (4, 1), (5, 1)]),
  (21, 2, .iload 5, []),
  (23, 1, .aload_n 0, [(0, 0)]),
  (24, 3, .getfield 24, [(0, 0)]),
  (27, 3, .getfield 39, [(7, 0)]),
  (30, 3, .getfield 70, [(4, 3)]),
  (33, 2, .iload 4, []),
  (35, 1, .iaload, []),
  (36, 3, .if_icmp .ge 44, [(80, 0)]),
  (39, 1, .aload_n 0, [(0, 0)]),
  (40, 2, .iload 4, []),
  (42, 2, .iload 5, []),
  (44, 1, .iload_n 1, [(1, 0)]),
  (45, 3, .invokevirtual 97, [(54, 3), (4, 0), (0, 0)]),
  (48, 3, .ifCond .eq 26, [(74, 0)]),
  (51, 1, .aload_n 0, [(0, 0)]),
  (52, 3, .getfield 18, [(0, 5)]),
  (55, 2, .iload 4, []),
  (57, 1, .iconst 4, [(4, 0)]),
  (58, 1, .imul, []),
  (59, 2, .iload 5, []),
  (61, 1, .iadd, []),
  (62, 2, .bipush 13, [(13, 0)]),
  (64, 1, .imul, []),
  (65, 1, .iload_n 2, [(2, 0)]),
  (66, 1, .iadd, []),
  (67, 1, .dup2, []),
  (68, 1, .iaload, []),
  (69, 1, .iconst 1, [(1, 0)]),
  (70, 1, .iload_n 3, [(3, 0)]),
  (71, 1, .ishl, []),
  (72, 1, .ior, []),
  (73, 1, .iastore, []),
  (74, 3, .iinc 5 1, [(1, 0)]),
  (77, 3, .goto (-56), [(21, 0)]),
  (80, 3, .iinc 4 1, [(1, 0)]),
  (83, 3, .goto (-80), [(3, 0)]),
  (86, 1, .return_, [])]
/-- PackedForest$Chart.placeRule (III)V -/
def zt63 : zzT := (⟨"PackedForest$Chart", "placeRule", "(III)V"⟩, prog_2_method_13_code, 6, none, 0, zr63)
def zr64 : List zzI := [(0, 1, .iconst 1, [(1, 0)]),
  (1, 1, .iload_n 2, [(2, 0)]),
  (2, 1, .ishl, []),
  (3, 2, .istore 4, []),
  (5, 1, .iconst 0, [(0, 0)]),
  (6, 2, .istore 5, []),
  (8, 0, .nop, [(0, 3), (1, 1), (3, 1), (4, 1), (5, 1)]),
  (8, 2, .iload 5, []),
  (10, 1, .aload_n 0, [(0, 0)]),
  (11, 3, .getfield 24, [(0, 0)]),
  (14, 3, .getfield 39, [(7, 0)]),
  (17, 3, .getfield 70, [(4, 3)]),
  (20, 1, .iload_n 1, [(1, 0)]),
  (21, 1, .iaload, []),
  (22, 3, .if_icmp .ge 26, [(48, 0)]),
  (25, 2, .iload 4, []),
  (27, 3, .ifCond .eq 21, [(48, 0)]),
  (30, 1, .aload_n 0, [(0, 0)]),
  (31, 1, .iload_n 1, [(1, 0)]),
  (32, 2, .iload 5, []),
  (34, 2, .iload 4, []),
  (36, 1, .iload_n 3, [(3, 0)]),
  (37, 3, .invokevirtual 100, [(65, 4), (1, 0), (0, 0)]),
  (40, 2, .istore 4, []),
  (42, 3, .iinc 5 1, [(1, 0)]),
  (45, 3, .goto (-37), [(8, 0)]),
  (48, 2, .iload 4, []),
  (50, 1, .iload_n 3, [(3, 0)]),
  (51, 1, .ishr, []),
  (52, 1, .iconst 1, [(1, 0)]),
  (53, 1, .iand, []),
  (54, 3, .ifCond .eq 7, [(61, 0)]),
  (57, 1, .iconst 1, [(1, 0)]),
  (58, 3, .goto 4, [(62, 0)]),
  (61, 1, .iconst 0, [(0, 0)]),
  (62, 1, .ireturn, [])]
/-- PackedForest$Chart.reaches (III)Z -/
def zt64 : zzT := (⟨"PackedForest$Chart", "reaches", "(III)Z"⟩, prog_2_method_14_code, 6, (some .boolean), 4, zr64)
def zr65 : List zzI := [(0, 1, .iconst 0, [(0, 0)]),
  (1, 2, .istore 5, []),
  (3, 1, .iload_n 1, [(1, 0)]),
  (4, 1, .iconst 4, [(4, 0)]),
  (5, 1, .imul, []),
  (6, 1, .iload_n 2, [(2, 0)]),
  (7, 1, .iadd, []),
  (8, 2, .bipush 13, [(13, 0)]),
  (10, 1, .imul, []),
  (11, 2, .istore 6, []),
  (13, 1, .iconst 0, [(0, 0)]),
  (14, 2, .istore 7, []),
  (16, 0, .nop, [(0, 3), (3, 1), (4, 1), (5, 1), (6, 1), (7, 1)]),
  (16, 2, .iload 7, []),
  (18, 2, .iload 4, []),
  (20, 3, .if_icmp .gt 33, [(53, 0)]),
  (23, 1, .iload_n 3, [(3, 0)]),
  (24, 2, .iload 7, []),
  (26, 1, .ishr, []),
  (27, 1, .iconst 1, [(1, 0)]),
  (28, 1, .iand, []),
  (29, 3, .ifCond .eq 18, [(47, 0)]),
  (32, 2, .iload 5, []),
  (34, 1, .aload_n 0, [(0, 0)]),
  (35, 3, .getfield 18, [(0, 5)]),
  (38, 2, .iload 6, []),
  (40, 2, .iload 7, []),
  (42, 1, .iadd, []),
  (43, 1, .iaload, []),
  (44, 1, .ior, []),
  (45, 2, .istore 5, []),
  (47, 3, .iinc 7 1, [(1, 0)]),
  (50, 3, .goto (-34), [(16, 0)]),
  (53, 2, .iload 5, []),
  (55, 1, .iconst 2, [(2, 0)]),
  (56, 2, .iload 4, []),
  (58, 1, .ishl, []),
  (59, 1, .iconst 1, [(1, 0)]),
  (60, 1, .isub, []),
  (61, 1, .iand, []),
  (62, 1, .ireturn, [])]
/-- PackedForest$Chart.endsBehind (IIII)I -/
def zt65 : zzT := (⟨"PackedForest$Chart", "endsBehind", "(IIII)I"⟩, prog_2_method_15_code, 8, (some .int), 1, zr65)
def zr66 : List zzI := [(0, 1, .aload_n 0, [(0, 0)]),
  (1, 3, .getfield 24, [(0, 0)]),
  (4, 1, .iload_n 1, [(1, 0)]),
  (5, 3, .invokevirtual 104, [(23, 1), (4, 0), (7, 0)]),
  (8, 3, .ifCond .ne 5, [(13, 0)]),
  (11, 1, .iconst 0, [(0, 0)]),
  (12, 1, .ireturn, []),
  (13, 1, .aload_n 0, [(0, 0)]),
  (14, 3, .getfield 21, [(0, 6)]),
  (17, 1, .iconst 0, [(0, 0)]),
  (18, 3, .invokestatic 108, [(5, 2), (0, 0)]),
  (21, 1, .aload_n 0, [(0, 0)]),
  (22, 3, .getfield 21, [(0, 6)]),
  (25, 1, .iload_n 2, [(2, 0)]),
  (26, 1, .iconst 1, [(1, 0)]),
  (27, 1, .iastore, []),
  (28, 1, .iconst 0, [(0, 0)]),
  (29, 2, .istore 4, []),
  (31, 0, .nop, [(0, 3), (1, 1), (2, 1), (3, 1), (4, 1)]),
  (31, 2, .iload 4, []),
  (33, 1, .aload_n 0, [(0, 0)]),
  (34, 3, .getfield 24, [(0, 0)]),
  (37, 3, .getfield 39, [(7, 0)]),
  (40, 3, .getfield 70, [(4, 3)]),
  (43, 1, .iload_n 1, [(1, 0)]),
  (44, 1, .iaload, []),
  (45, 3, .if_icmp .ge 34, [(79, 0)]),
  (48, 1, .iload_n 3, [(3, 0)]),
  (49, 2, .istore 5, []),
  (51, 0, .nop, [(0, 3), (1, 1), (2, 1), (3, 1), (4, 1), (5, 1)]),
  (51, 2, .iload 5, []),
  (53, 1, .iload_n 2, [(2, 0)]),
  (54, 3, .if_icmp .lt 19, [(73, 0)]),
  (57, 1, .aload_n 0, [(0, 0)]),
  (58, 1, .iload_n 1, [(1, 0)]),
  (59, 2, .iload 4, []),
  (61, 2, .iload 5, []),
  (63, 1, .iload_n 3, [(3, 0)]),
  (64, 3, .invokevirtual 114, [(67, 4), (0, 0), (0, 0)]),
  (67, 3, .iinc 5 (-1), [(1, 1)]),
  (70, 3, .goto (-19), [(51, 0)]),
  (73, 3, .iinc 4 1, [(1, 0)]),
  (76, 3, .goto (-45), [(31, 0)]),
  (79, 1, .aload_n 0, [(0, 0)]),
  (80, 3, .getfield 21, [(0, 6)]),
  (83, 1, .iload_n 3, [(3, 0)]),
  (84, 1, .iaload, []),
  (85, 1, .ireturn, [])]
/-- PackedForest$Chart.howManyWays (III)I -/
def zt66 : zzT := (⟨"PackedForest$Chart", "howManyWays", "(III)I"⟩, prog_2_method_16_code, 6, (some .int), 1, zr66)
def zr67 : List zzI := [(0, 1, .aload_n 0, [(0, 0)]),
  (1, 3, .getfield 21, [(0, 6)]),
  (4, 1, .iload_n 3, [(3, 0)]),
  (5, 1, .iaload, []),
  (6, 2, .istore 5, []),
  (8, 1, .aload_n 0, [(0, 0)]),
  (9, 3, .getfield 21, [(0, 6)]),
  (12, 1, .iload_n 3, [(3, 0)]),
  (13, 1, .iconst 0, [(0, 0)]),
  (14, 1, .iastore, []),
  (15, 2, .iload 5, []),
  (17, 3, .ifCond .ne 7, [(24, 0)]),
  (20, 1, .iconst 0, [(0, 0)]),
  (21, 3, .goto 12, [(33, 0)]),
  (24, 1, .aload_n 0, [(0, 0)]),
  (25, 1, .iload_n 1, [(1, 0)]),
  (26, 1, .iload_n 2, [(2, 0)]),
  (27, 1, .iload_n 3, [(3, 0)]),
  (28, 2, .iload 4, []),
  (30, 3, .invokevirtual 118, [(56, 4), (1, 0), (0, 0)]),
  (33, 2, .istore 6, []),
  (35, 1, .iload_n 3, [(3, 0)]),
  (36, 2, .istore 7, []),
  (38, 0, .nop, [(0, 3), (4, 1), (5, 1), (6, 1), (7, 1)]),
  (38, 2, .iload 7, []),
  (40, 2, .iload 4, []),
  (42, 3, .if_icmp .gt 39, [(81, 0)]),
  (45, 2, .iload 6, []),
  (47, 2, .iload 7, []),
  (49, 1, .ishr, []),
  (50, 3, .ifCond .eq 31, [(81, 0)]),
  (53, 2, .iload 6, []),
  (55, 2, .iload 7, []),
  (57, 1, .ishr, []),
  (58, 1, .iconst 1, [(1, 0)]),
  (59, 1, .iand, []),
  (60, 3, .ifCond .eq 15, [(75, 0)]),
  (63, 1, .aload_n 0, [(0, 0)]),
  (64, 3, .getfield 21, [(0, 6)]),
  (67, 2, .iload 7, []),
  (69, 1, .dup2, []),
  (70, 1, .iaload, []),
  (71, 2, .iload 5, []),
  (73, 1, .iadd, []),
  (74, 1, .iastore, []),
  (75, 3, .iinc 7 1, [(1, 0)]),
  (78, 3, .goto (-40), [(38, 0)]),
  (81, 1, .return_, [])]
/-- PackedForest$Chart.goOnWith (IIII)V -/
def zt67 : zzT := (⟨"PackedForest$Chart", "goOnWith", "(IIII)V"⟩, prog_2_method_17_code, 8, none, 0, zr67)
def zr68 : List zzI := [(0, 1, .aload_n 0, [(0, 0)]),
  (1, 3, .getfield 9, [(5, 4)]),
  (4, 1, .iload_n 1, [(1, 0)]),
  (5, 2, .bipush 90, [(90, 0)]),
  (7, 1, .imul, []),
  (8, 1, .iload_n 2, [(2, 0)]),
  (9, 1, .iadd, []),
  (10, 1, .baload, []),
  (11, 1, .ireturn, [])]
/-- PackedForest$Levels.isAlive (II)Z -/
def zt68 : zzT := (⟨"PackedForest$Levels", "isAlive", "(II)Z"⟩, prog_7_method_2_code, 3, (some .boolean), 4, zr68)
def zr69 : List zzI := [(0, 1, .aload_n 0, [(0, 0)]),
  (1, 3, .getfield 15, [(5, 5)]),
  (4, 1, .iload_n 1, [(1, 0)]),
  (5, 2, .bipush 90, [(90, 0)]),
  (7, 1, .imul, []),
  (8, 1, .iload_n 2, [(2, 0)]),
  (9, 1, .iadd, []),
  (10, 1, .iaload, []),
  (11, 1, .ireturn, [])]
/-- PackedForest$Levels.linksOf (II)I -/
def zt69 : zzT := (⟨"PackedForest$Levels", "linksOf", "(II)I"⟩, prog_7_method_3_code, 3, (some .int), 1, zr69)
def zr70 : List zzI := [(0, 1, .iconst 0, [(0, 0)]),
  (1, 1, .istore_n 2, [(2, 0)]),
  (2, 1, .iconst 0, [(0, 0)]),
  (3, 1, .istore_n 3, [(3, 0)]),
  (4, 0, .nop, [(0, 3), (1, 1), (2, 1), (3, 1)]),
  (4, 1, .iload_n 3, [(3, 0)]),
  (5, 1, .aload_n 0, [(0, 0)]),
  (6, 3, .getfield 26, [(5, 1)]),
  (9, 3, .getfield 34, [(10, 1)]),
  (12, 3, .if_icmp .ge 26, [(38, 0)]),
  (15, 1, .iload_n 2, [(2, 0)]),
  (16, 1, .aload_n 0, [(0, 0)]),
  (17, 1, .iload_n 1, [(1, 0)]),
  (18, 1, .iload_n 3, [(3, 0)]),
  (19, 3, .invokevirtual 40, [(68, 2), (4, 0), (5, 0)]),
  (22, 3, .ifCond .eq 7, [(29, 0)]),
  (25, 1, .iconst 1, [(1, 0)]),
  (26, 3, .goto 4, [(30, 0)]),
  (29, 1, .iconst 0, [(0, 0)]),
  (30, 1, .iadd, []),
  (31, 1, .istore_n 2, [(2, 0)]),
  (32, 3, .iinc 3 1, [(1, 0)]),
  (35, 3, .goto (-31), [(4, 0)]),
  (38, 1, .iload_n 2, [(2, 0)]),
  (39, 1, .ireturn, [])]
/-- PackedForest$Levels.howManyAlive (I)I -/
def zt70 : zzT := (⟨"PackedForest$Levels", "howManyAlive", "(I)I"⟩, prog_7_method_4_code, 4, (some .int), 1, zr70)
def zr71 : List zzI := [(0, 1, .iconst 0, [(0, 0)]),
  (1, 1, .istore_n 2, [(2, 0)]),
  (2, 1, .iconst 0, [(0, 0)]),
  (3, 1, .istore_n 3, [(3, 0)]),
  (4, 0, .nop, [(0, 3), (1, 1), (2, 1), (3, 1)]),
  (4, 1, .iload_n 3, [(3, 0)]),
  (5, 1, .aload_n 0, [(0, 0)]),
  (6, 3, .getfield 26, [(5, 1)]),
  (9, 3, .getfield 34, [(10, 1)]),
  (12, 3, .if_icmp .ge 18, [(30, 0)]),
  (15, 1, .iload_n 2, [(2, 0)]),
  (16, 1, .aload_n 0, [(0, 0)]),
  (17, 1, .iload_n 1, [(1, 0)]),
  (18, 1, .iload_n 3, [(3, 0)]),
  (19, 3, .invokevirtual 44, [(69, 2), (1, 0), (5, 0)]),
  (22, 1, .iadd, []),
  (23, 1, .istore_n 2, [(2, 0)]),
  (24, 3, .iinc 3 1, [(1, 0)]),
  (27, 3, .goto (-23), [(4, 0)]),
  (30, 1, .iload_n 2, [(2, 0)]),
  (31, 1, .ireturn, [])]
/-- PackedForest$Levels.howManyLinks (I)I -/
def zt71 : zzT := (⟨"PackedForest$Levels", "howManyLinks", "(I)I"⟩, prog_7_method_5_code, 4, (some .int), 1, zr71)
def zr72 : List zzI := [(0, 1, .iconst 0, [(0, 0)]),
  (1, 1, .istore_n 2, [(2, 0)]),
  (2, 1, .iconst 0, [(0, 0)]),
  (3, 1, .istore_n 3, [(3, 0)]),
  (4, 0, .nop, [(0, 3), (1, 1), (2, 1), (3, 1)]),
  (4, 1, .iload_n 3, [(3, 0)]),
  (5, 1, .aload_n 0, [(0, 0)]),
  (6, 3, .getfield 26, [(5, 1)]),
  (9, 3, .getfield 34, [(10, 1)]),
  (12, 3, .if_icmp .ge 29, [(41, 0)]),
  (15, 1, .aload_n 0, [(0, 0)]),
  (16, 1, .iload_n 1, [(1, 0)]),
  (17, 1, .iload_n 3, [(3, 0)]),
  (18, 3, .invokevirtual 40, [(68, 2), (4, 0), (5, 0)]),
  (21, 3, .ifCond .eq 14, [(35, 0)]),
  (24, 1, .iload_n 2, [(2, 0)]),
  (25, 1, .aload_n 0, [(0, 0)]),
  (26, 3, .getfield 26, [(5, 1)]),
  (29, 1, .iload_n 3, [(3, 0)]),
  (30, 3, .invokevirtual 48, [(46, 1), (1, 0), (10, 0)]),
  (33, 1, .ior, []),
  (34, 1, .istore_n 2, [(2, 0)]),
  (35, 3, .iinc 3 1, [(1, 0)]),
  (38, 3, .goto (-34), [(4, 0)]),
  (41, 1, .iload_n 2, [(2, 0)]),
  (42, 1, .ireturn, [])]
/-- PackedForest$Levels.expected (I)I -/
def zt72 : zzT := (⟨"PackedForest$Levels", "expected", "(I)I"⟩, prog_7_method_6_code, 4, (some .int), 1, zr72)
def zr73 : List zzI := [(0, 1, .aload_n 0, [(0, 0)]),
  (1, 3, .getfield 52, [(5, 3)]),
  (4, 3, .ifCond .eq 4, [(8, 0)]),
  (7, 1, .return_, []),
  (8, 1, .aload_n 0, [(0, 0)]),
  (9, 3, .getfield 30, [(5, 2)]),
  (12, 3, .invokevirtual 56, [(58, 0), (0, 0), (0, 0)]),
  (15, 1, .aload_n 0, [(0, 0)]),
  (16, 3, .getfield 15, [(5, 5)]),
  (19, 1, .iconst 0, [(0, 0)]),
  (20, 3, .invokestatic 61, [(5, 2), (0, 0)]),
  (23, 1, .iconst 0, [(0, 0)]),
  (24, 1, .istore_n 1, [(1, 0)]),
  (25, 0, .nop, [(0, 3), (1, 1)]),
  (25, 1, .iload_n 1, [(1, 0)]),
  (26, 3, .sipush 1170, [(1170, 0)]),
  (29, 3, .if_icmp .ge 16, [(45, 0)]),
  (32, 1, .aload_n 0, [(0, 0)]),
  (33, 3, .getfield 9, [(5, 4)]),
  (36, 1, .iload_n 1, [(1, 0)]),
  (37, 1, .iconst 0, [(0, 0)]),
  (38, 1, .bastore, []),
  (39, 3, .iinc 1 1, [(1, 0)]),
  (42, 3, .goto (-17), [(25, 0)]),
  (45, 1, .aload_n 0, [(0, 0)]),
  (46, 3, .getfield 9, [(5, 4)]),
  (49, 1, .iconst 0, [(0, 0)]),
  (50, 1, .iconst 1, [(1, 0)]),
  (51, 1, .bastore, []),
  (52, 1, .iconst 0, [(0, 0)]),
  (53, 1, .istore_n 1, [(1, 0)]),
  (54, 0, .nop, [(0, 3), (1, 1)]),
  (54, 1, .iload_n 1, [(1, 0)]),
  (55, 1, .aload_n 0, [(0, 0)]),
  (56, 3, .getfield 22, [(5, 0)]),
  (59, 3, .getfield 66, [(7, 2)]),
  (62, 3, .if_icmp .gt 47, [(109, 0)]),
  (65, 1, .aload_n 0, [(0, 0)]),
  (66, 1, .iload_n 1, [(1, 0)]),
  (67, 3, .invokevirtual 71, [(74, 1), (0, 0), (5, 0)]),
  (70, 1, .iconst 0, [(0, 0)]),
  (71, 1, .istore_n 2, [(2, 0)]),
  (72, 0, .nop, [(0, 3), (1, 1), (2, 1)]),
  (72, 1, .iload_n 2, [(2, 0)]),
  (73, 1, .aload_n 0, [(0, 0)]),
  (74, 3, .getfield 75, [(5, 7)]),
  (77, 3, .if_icmp .ge 26, [(103, 0)]),
  (80, 1, .iload_n 2, [(2, 0)]),
  (81, 2, .bipush 90, [(90, 0)]),
  (83, 3, .if_icmp .ge 20, [(103, 0)]),
  (86, 1, .aload_n 0, [(0, 0)]),
  (87, 1, .iload_n 1, [(1, 0)]),
  (88, 1, .aload_n 0, [(0, 0)]),
  (89, 3, .getfield 19, [(5, 6)]),
  (92, 1, .iload_n 2, [(2, 0)]),
  (93, 1, .iaload, []),
  (94, 3, .invokevirtual 78, [(75, 2), (0, 0), (5, 0)]),
  (97, 3, .iinc 2 1, [(1, 0)]),
  (100, 3, .goto (-28), [(72, 0)]),
  (103, 3, .iinc 1 1, [(1, 0)]),
  (106, 3, .goto (-52), [(54, 0)]),
  (109, 1, .aload_n 0, [(0, 0)]),
  (110, 1, .iconst 1, [(1, 0)]),
  (111, 3, .putfield 52, [(5, 3)]),
  (114, 1, .return_, [])]
/-- PackedForest$Levels.find ()V -/
def zt73 : zzT := (⟨"PackedForest$Levels", "find", "()V"⟩, prog_7_method_7_code, 3, none, 0, zr73)
def zr74 : List zzI := [(0, 1, .aload_n 0, [(0, 0)]),
  (1, 1, .iconst 0, [(0, 0)]),
  (2, 3, .putfield 75, [(5, 7)]),
  (5, 1, .iconst 0, [(0, 0)]),
  (6, 1, .istore_n 2, [(2, 0)]),
  (7, 0, .nop, [(0, 3), (1, 1), (2, 1)]),
  (7, 1, .iload_n 2, [(2, 0)]),
  (8, 1, .aload_n 0, [(0, 0)]),
  (9, 3, .getfield 26, [(5, 1)]),
  (12, 3, .getfield 34, [(10, 1)]),
  (15, 3, .if_icmp .ge 38, [(53, 0)]),
  (18, 1, .aload_n 0, [(0, 0)]),
  (19, 1, .iload_n 1, [(1, 0)]),
  (20, 1, .iload_n 2, [(2, 0)]),
  (21, 3, .invokevirtual 40, [(68, 2), (4, 0), (5, 0)]),
  (24, 3, .ifCond .eq 23, [(47, 0)]),
  (27, 1, .aload_n 0, [(0, 0)]),
  (28, 3, .getfield 19, [(5, 6)]),
  (31, 1, .aload_n 0, [(0, 0)]),
  (32, 3, .getfield 75, [(5, 7)]),
  (35, 1, .iload_n 2, [(2, 0)]),
  (36, 1, .iastore, []),
  (37, 1, .aload_n 0, [(0, 0)]),
  (38, 1, .dup, []),
  (39, 3, .getfield 75, [(5, 7)]),
  (42, 1, .iconst 1, [(1, 0)]),
  (43, 1, .iadd, []),
  (44, 3, .putfield 75, [(5, 7)]),
  (47, 3, .iinc 2 1, [(1, 0)]),
  (50, 3, .goto (-43), [(7, 0)]),
  (53, 1, .return_, [])]
/-- PackedForest$Levels.gather (I)V -/
def zt74 : zzT := (⟨"PackedForest$Levels", "gather", "(I)V"⟩, prog_7_method_8_code, 3, none, 0, zr74)
def zr75 : List zzI := [(0, 2, .bipush 26, [(26, 0)]),
  (2, 1, .istore_n 3, [(3, 0)]),
  (3, 0, .nop, [(0, 3), (1, 1), (2, 1), (3, 1)]),
  (3, 1, .iload_n 3, [(3, 0)]),
  (4, 2, .bipush 52, [(52, 0)]),
  (6, 3, .if_icmp .ge 69, [(75, 0)]),
  (9, 1, .aload_n 0, [(0, 0)]),
  (10, 3, .getfield 26, [(5, 1)]),
  (13, 1, .iload_n 2, [(2, 0)]),
  (14, 1, .iload_n 3, [(3, 0)]),
  (15, 3, .invokevirtual 82, [(44, 2), (1, 0), (10, 0)]),
  (18, 2, .istore 4, []),
  (20, 1, .iload_n 1, [(1, 0)]),
  (21, 2, .istore 5, []),
  (23, 0, .nop, [(0, 3), (1, 1), (2, 1), (3, 1), (4, 1), (5, 1)]),
  (23, 2, .iload 5, []),
  (25, 1, .aload_n 0, [(0, 0)]),
  (26, 3, .getfield 22, [(5, 0)]),
  (29, 3, .getfield 66, [(7, 2)]),
  (32, 3, .if_icmp .gt 37, [(69, 0)]),
  (35, 2, .iload 4, []),
  (37, 3, .ifCond .lt 32, [(69, 0)]),
  (40, 1, .aload_n 0, [(0, 0)]),
  (41, 3, .getfield 30, [(5, 2)]),
  (44, 1, .iload_n 3, [(3, 0)]),
  (45, 1, .iload_n 1, [(1, 0)]),
  (46, 2, .iload 5, []),
  (48, 3, .invokevirtual 85, [(53, 3), (4, 0), (0, 0)]),
  (51, 3, .ifCond .eq 12, [(63, 0)]),
  (54, 1, .aload_n 0, [(0, 0)]),
  (55, 1, .iload_n 1, [(1, 0)]),
  (56, 2, .iload 5, []),
  (58, 2, .iload 4, []),
  (60, 3, .invokevirtual 89, [(76, 3), (0, 0), (5, 0)]),
  (63, 3, .iinc 5 1, [(1, 0)]),
  (66, 3, .goto (-43), [(23, 0)]),
  (69, 3, .iinc 3 1, [(1, 0)]),
  (72, 3, .goto (-69), [(3, 0)]),
  (75, 1, .iload_n 1, [(1, 0)]),
  (76, 1, .aload_n 0, [(0, 0)]),
  (77, 3, .getfield 22, [(5, 0)]),
  (80, 3, .getfield 66, [(7, 2)]),
  (83, 3, .if_icmp .ge 34, [(117, 0)]),
  (86, 1, .aload_n 0, [(0, 0)]),
  (87, 3, .getfield 26, [(5, 1)]),
  (90, 1, .iload_n 2, [(2, 0)]),
  (91, 1, .aload_n 0, [(0, 0)]),
  (92, 3, .getfield 22, [(5, 0)]),
  (95, 3, .getfield 93, [(7, 1)]),
  (98, 1, .iload_n 1, [(1, 0)]),
  (99, 1, .iaload, []),
  (100, 3, .invokevirtual 82, [(44, 2), (1, 0), (10, 0)]),
  (103, 1, .istore_n 3, [(3, 0)]),
  (104, 1, .iload_n 3, [(3, 0)]),
  (105, 3, .ifCond .lt 12, [(117, 0)]),
  (108, 1, .aload_n 0, [(0, 0)]),
  (109, 1, .iload_n 1, [(1, 0)]),
  (110, 1, .iload_n 1, [(1, 0)]),
  (111, 1, .iconst 1, [(1, 0)]),
  (112, 1, .iadd, []),
  (113, 1, .iload_n 3, [(3, 0)]),
  (114, 3, .invokevirtual 89, [(76, 3), (0, 0), (5, 0)]),
  (117, 1, .return_, [])]
/-- PackedForest$Levels.goFrom (II)V -/
def zt75 : zzT := (⟨"PackedForest$Levels", "goFrom", "(II)V"⟩, prog_7_method_9_code, 6, none, 0, zr75)
def zr76 : List zzI := [(0, 1, .iload_n 2, [(2, 0)]),
  (1, 2, .bipush 90, [(90, 0)]),
  (3, 1, .imul, []),
  (4, 1, .iload_n 3, [(3, 0)]),
  (5, 1, .iadd, []),
  (6, 2, .istore 4, []),
  (8, 1, .aload_n 0, [(0, 0)]),
  (9, 3, .getfield 15, [(5, 5)]),
  (12, 2, .iload 4, []),
  (14, 1, .dup2, []),
  (15, 1, .iaload, []),
  (16, 1, .iconst 1, [(1, 0)]),
  (17, 1, .iadd, []),
  (18, 1, .iastore, []),
  (19, 1, .aload_n 0, [(0, 0)]),
  (20, 3, .getfield 9, [(5, 4)]),
  (23, 2, .iload 4, []),
  (25, 1, .baload, []),
  (26, 3, .ifCond .ne 45, [(71, 0)]),
  (29, 1, .aload_n 0, [(0, 0)]),
  (30, 3, .getfield 9, [(5, 4)]),
  (33, 2, .iload 4, []),
  (35, 1, .iconst 1, [(1, 0)]),
  (36, 1, .bastore, []),
  (37, 1, .iload_n 2, [(2, 0)]),
  (38, 1, .iload_n 1, [(1, 0)]),
  (39, 3, .if_icmp .ne 32, [(71, 0)]),
  (42, 1, .aload_n 0, [(0, 0)]),
  (43, 3, .getfield 75, [(5, 7)]),
  (46, 2, .bipush 90, [(90, 0)]),
  (48, 3, .if_icmp .ge 23, [(71, 0)]),
  (51, 1, .aload_n 0, [(0, 0)]),
  (52, 3, .getfield 19, [(5, 6)]),
  (55, 1, .aload_n 0, [(0, 0)]),
  (56, 3, .getfield 75, [(5, 7)]),
  (59, 1, .iload_n 3, [(3, 0)]),
  (60, 1, .iastore, []),
  (61, 1, .aload_n 0, [(0, 0)]),
  (62, 1, .dup, []),
  (63, 3, .getfield 75, [(5, 7)]),
  (66, 1, .iconst 1, [(1, 0)]),
  (67, 1, .iadd, []),
  (68, 3, .putfield 75, [(5, 7)]),
  (71, 1, .return_, [])]
/-- PackedForest$Levels.link (III)V -/
def zt76 : zzT := (⟨"PackedForest$Levels", "link", "(III)V"⟩, prog_7_method_10_code, 5, none, 0, zr76)
def zr77 : List zzI := [(0, 1, .lload_n 0, [(0, 0)]),
  (1, 3, .ldc2_w 26, [(1099511627776, 0)]),
  (4, 1, .lcmp, []),
  (5, 3, .ifCond .eq 11, [(16, 0)]),
  (8, 1, .lload_n 2, [(2, 0)]),
  (9, 3, .ldc2_w 26, [(1099511627776, 0)]),
  (12, 1, .lcmp, []),
  (13, 3, .ifCond .ne 7, [(20, 0)]),
  (16, 3, .ldc2_w 26, [(1099511627776, 0)]),
  (19, 1, .lreturn, []),
  (20, 1, .lload_n 0, [(0, 0)]),
  (21, 1, .lload_n 2, [(2, 0)]),
  (22, 1, .ladd, []),
  (23, 3, .ldc2_w 28, [(2147483648, 0)]),
  (26, 1, .lcmp, []),
  (27, 3, .ifCond .ge 9, [(36, 0)]),
  (30, 1, .lload_n 0, [(0, 0)]),
  (31, 1, .lload_n 2, [(2, 0)]),
  (32, 1, .ladd, []),
  (33, 3, .goto 6, [(39, 0)]),
  (36, 3, .ldc2_w 28, [(2147483648, 0)]),
  (39, 1, .lreturn, [])]
/-- PackedForest$Counts.sum (JJ)J -/
def zt77 : zzT := (⟨"PackedForest$Counts", "sum", "(JJ)J"⟩, prog_3_method_2_code, 4, (some .long), 2, zr77)
def zr78 : List zzI := [(0, 1, .lload_n 0, [(0, 0)]),
  (1, 1, .lconst 0, [(0, 0)]),
  (2, 1, .lcmp, []),
  (3, 3, .ifCond .eq 9, [(12, 0)]),
  (6, 1, .lload_n 2, [(2, 0)]),
  (7, 1, .lconst 0, [(0, 0)]),
  (8, 1, .lcmp, []),
  (9, 3, .ifCond .ne 5, [(14, 0)]),
  (12, 1, .lconst 0, [(0, 0)]),
  (13, 1, .lreturn, []),
  (14, 1, .lload_n 0, [(0, 0)]),
  (15, 3, .ldc2_w 26, [(1099511627776, 0)]),
  (18, 1, .lcmp, []),
  (19, 3, .ifCond .eq 11, [(30, 0)]),
  (22, 1, .lload_n 2, [(2, 0)]),
  (23, 3, .ldc2_w 26, [(1099511627776, 0)]),
  (26, 1, .lcmp, []),
  (27, 3, .ifCond .ne 7, [(34, 0)]),
  (30, 3, .ldc2_w 26, [(1099511627776, 0)]),
  (33, 1, .lreturn, []),
  (34, 1, .lload_n 0, [(0, 0)]),
  (35, 1, .lload_n 2, [(2, 0)]),
  (36, 1, .lmul, []),
  (37, 3, .ldc2_w 28, [(2147483648, 0)]),
  (40, 1, .lcmp, []),
  (41, 3, .ifCond .ge 9, [(50, 0)]),
  (44, 1, .lload_n 0, [(0, 0)]),
  (45, 1, .lload_n 2, [(2, 0)]),
  (46, 1, .lmul, []),
  (47, 3, .goto 6, [(53, 0)]),
  (50, 3, .ldc2_w 28, [(2147483648, 0)]),
  (53, 1, .lreturn, [])]
/-- PackedForest$Counts.product (JJ)J -/
def zt78 : zzT := (⟨"PackedForest$Counts", "product", "(JJ)J"⟩, prog_3_method_3_code, 4, (some .long), 2, zr78)
def zr79 : List zzI := [(0, 1, .lconst 0, [(0, 0)]),
  (1, 1, .lstore_n 3, [(3, 0)]),
  (2, 1, .iconst 0, [(0, 0)]),
  (3, 2, .istore 5, []),
  (5, 0, .nop, [(0, 3), (1, 1), (2, 1), (3, 2), (5, 1)]),
  (5, 2, .iload 5, []),
  (7, 1, .aload_n 0, [(0, 0)]),
  (8, 3, .getfield 18, [(1, 0)]),
  (11, 3, .getfield 30, [(7, 0)]),
  (14, 3, .getfield 36, [(4, 0)]),
  (17, 3, .if_icmp .ge 35, [(52, 0)]),
  (20, 1, .iload_n 1, [(1, 0)]),
  (21, 2, .iload 5, []),
  (23, 1, .ishr, []),
  (24, 1, .iconst 1, [(1, 0)]),
  (25, 1, .iand, []),
  (26, 3, .ifCond .eq 20, [(46, 0)]),
  (29, 1, .lload_n 3, [(3, 0)]),
  (30, 1, .aload_n 0, [(0, 0)]),
  (31, 3, .getfield 9, [(1, 3)]),
  (34, 2, .iload 5, []),
  (36, 2, .bipush 91, [(91, 0)]),
  (38, 1, .imul, []),
  (39, 1, .iload_n 2, [(2, 0)]),
  (40, 1, .iadd, []),
  (41, 1, .laload, []),
  (42, 3, .invokestatic 42, [(77, 2), (2, 0)]),
  (45, 1, .lstore_n 3, [(3, 0)]),
  (46, 3, .iinc 5 1, [(1, 0)]),
  (49, 3, .goto (-44), [(5, 0)]),
  (52, 1, .lload_n 3, [(3, 0)]),
  (53, 1, .lreturn, [])]
/-- PackedForest$Counts.howMany (II)J -/
def zt79 : zzT := (⟨"PackedForest$Counts", "howMany", "(II)J"⟩, prog_3_method_4_code, 6, (some .long), 2, zr79)
def zr80 : List zzI := [(0, 1, .aload_n 0, [(0, 0)]),
  (1, 3, .getfield 22, [(1, 1)]),
  (4, 3, .invokevirtual 46, [(58, 0), (0, 0), (0, 0)]),
  (7, 1, .aload_n 0, [(0, 0)]),
  (8, 3, .getfield 51, [(1, 2)]),
  (11, 1, .istore_n 1, [(1, 0)]),
  (12, 0, .nop, [(0, 3), (1, 1)]),
  (12, 1, .iload_n 1, [(1, 0)]),
  (13, 1, .aload_n 0, [(0, 0)]),
  (14, 3, .getfield 18, [(1, 0)]),
  (17, 3, .getfield 54, [(7, 2)]),
  (20, 3, .if_icmp .gt 27, [(47, 0)]),
  (23, 1, .iload_n 1, [(1, 0)]),
  (24, 1, .istore_n 2, [(2, 0)]),
  (25, 0, .nop, [(0, 3), (1, 1), (2, 1)]),
  (25, 1, .iload_n 2, [(2, 0)]),
  (26, 3, .ifCond .lt 15, [(41, 0)]),
  (29, 1, .aload_n 0, [(0, 0)]),
  (30, 1, .iload_n 2, [(2, 0)]),
  (31, 1, .iload_n 1, [(1, 0)]),
  (32, 3, .invokevirtual 57, [(81, 2), (0, 0), (1, 0)]),
  (35, 3, .iinc 2 (-1), [(1, 1)]),
  (38, 3, .goto (-13), [(25, 0)]),
  (41, 3, .iinc 1 1, [(1, 0)]),
  (44, 3, .goto (-32), [(12, 0)]),
  (47, 1, .aload_n 0, [(0, 0)]),
  (48, 1, .aload_n 0, [(0, 0)]),
  (49, 3, .getfield 18, [(1, 0)]),
  (52, 3, .getfield 54, [(7, 2)]),
  (55, 1, .iconst 1, [(1, 0)]),
  (56, 1, .iadd, []),
  (57, 3, .putfield 51, [(1, 2)]),
  (60, 1, .return_, [])]
/-- PackedForest$Counts.fill ()V -/
def zt80 : zzT := (⟨"PackedForest$Counts", "fill", "()V"⟩, prog_3_method_5_code, 3, none, 0, zr80)
def zr81 : List zzI := [(0, 1, .iload_n 1, [(1, 0)]),
  (1, 1, .iload_n 2, [(2, 0)]),
  (2, 3, .invokestatic 61, [(135, 2), (1, 0)]),
  (5, 1, .istore_n 3, [(3, 0)]),
  (6, 1, .aload_n 0, [(0, 0)]),
  (7, 3, .getfield 22, [(1, 1)]),
  (10, 1, .iload_n 1, [(1, 0)]),
  (11, 1, .iload_n 2, [(2, 0)]),
  (12, 3, .invokevirtual 65, [(52, 2), (1, 0), (0, 0)]),
  (15, 2, .istore 4, []),
  (17, 1, .iconst 0, [(0, 0)]),
  (18, 2, .istore 5, []),
  (20, 0, .nop, [(0, 3), (1, 1), (2, 1), (3, 1), (4, 1), (5, 1)]),
  (20, 2, .iload 5, []),
  (22, 1, .aload_n 0, [(0, 0)]),
  (23, 3, .getfield 18, [(1, 0)]),
  (26, 3, .getfield 30, [(7, 0)]),
  (29, 3, .getfield 36, [(4, 0)]),
  (32, 3, .if_icmp .ge 38, [(70, 0)]),
  (35, 1, .aload_n 0, [(0, 0)]),
  (36, 3, .getfield 9, [(1, 3)]),
  (39, 2, .iload 5, []),
  (41, 2, .bipush 91, [(91, 0)]),
  (43, 1, .imul, []),
  (44, 1, .iload_n 3, [(3, 0)]),
  (45, 1, .iadd, []),
  (46, 2, .iload 4, []),
  (48, 2, .iload 5, []),
  (50, 1, .ishr, []),
  (51, 1, .iconst 1, [(1, 0)]),
  (52, 1, .iand, []),
  (53, 3, .ifCond .eq 9, [(62, 0)]),
  (56, 3, .ldc2_w 26, [(1099511627776, 0)]),
  (59, 3, .goto 4, [(63, 0)]),
  (62, 1, .lconst 0, [(0, 0)]),
  (63, 1, .lastore, []),
  (64, 3, .iinc 5 1, [(1, 0)]),
  (67, 3, .goto (-47), [(20, 0)]),
  (70, 1, .iconst 0, [(0, 0)]),
  (71, 2, .istore 5, []),
  (73, 1, .iconst 0, [(0, 0)]),
  (74, 2, .istore 6, []),
  (76, 0, .nop, [(0, 3), (1, 1), (2, 1), (3, 1), (4, 1), (5, 1), (6, 1)]),
  (76, 2, .iload 6, []),
  (78, 2, .bipush 12, [(12, 0)]),
  (80, 3, .if_icmp .gt 99, [(179, 0)]),
  (83, 2, .iload 5, []),
  (85, 2, .iload 4, []),
  (87, 3, .if_icmp .eq 92, [(179, 0)]),
  (90, 2, .iload 4, []),
  (92, 2, .istore 5, []),
  (94, 1, .iconst 0, [(0, 0)]),
  (95, 2, .istore 7, []),
  (97, 0, .nop, [(0, 3), (1, 1), (2, 1), (3, 1), (4, 1), (5, 1), (6, 1), (7, 1)]),
  (97, 2, .iload 7, []),
  (99, 1, .aload_n 0, [(0, 0)]),
  (100, 3, .getfield 18, [(1, 0)]),
  (103, 3, .getfield 30, [(7, 0)]),
  (106, 3, .getfield 36, [(4, 0)]),
  (109, 3, .if_icmp .ge 64, [(173, 0)]),
  (112, 2, .iload 4, []),
  (114, 2, .iload 7, []),
  (116, 1, .ishr, []),
  (117, 1, .iconst 1, [(1, 0)]),
  (118, 1, .iand, []),
  (119, 3, .ifCond .eq 48, [(167, 0)]),
  (122, 1, .aload_n 0, [(0, 0)]),
  (123, 2, .iload 7, []),
  (125, 1, .iload_n 1, [(1, 0)]),
  (126, 1, .iload_n 2, [(2, 0)]),
  (127, 3, .invokevirtual 68, [(82, 3), (1, 0), (1, 0)]),
  (130, 2, .iload 4, []),
  (132, 1, .iand, []),
  (133, 3, .ifCond .ne 34, [(167, 0)]),
  (136, 1, .aload_n 0, [(0, 0)]),
  (137, 3, .getfield 9, [(1, 3)]),
  (140, 2, .iload 7, []),
  (142, 2, .bipush 91, [(91, 0)]),
  (144, 1, .imul, []),
  (145, 1, .iload_n 3, [(3, 0)]),
  (146, 1, .iadd, []),
  (147, 1, .aload_n 0, [(0, 0)]),
  (148, 2, .iload 7, []),
  (150, 1, .iload_n 1, [(1, 0)]),
  (151, 1, .iload_n 2, [(2, 0)]),
  (152, 3, .invokevirtual 72, [(83, 3), (2, 0), (1, 0)]),
  (155, 1, .lastore, []),
  (156, 2, .iload 4, []),
  (158, 1, .iconst 1, [(1, 0)]),
  (159, 2, .iload 7, []),
  (161, 1, .ishl, []),
  (162, 1, .iconst (-1), [(1, 1)]),
  (163, 1, .ixor, []),
  (164, 1, .iand, []),
  (165, 2, .istore 4, []),
  (167, 3, .iinc 7 1, [(1, 0)]),
  (170, 3, .goto (-73), [(97, 0)]),
  (173, 3, .iinc 6 1, [(1, 0)]),
  (176, 3, .goto (-100), [(76, 0)]),
  (179, 1, .return_, [])]
/-- PackedForest$Counts.settle (II)V -/
def zt81 : zzT := (⟨"PackedForest$Counts", "settle", "(II)V"⟩, prog_3_method_6_code, 8, none, 0, zr81)
def zr82 : List zzI := [(0, 1, .iconst 0, [(0, 0)]),
  (1, 2, .istore 4, []),
  (3, 1, .aload_n 0, [(0, 0)]),
  (4, 3, .getfield 18, [(1, 0)]),
  (7, 3, .getfield 30, [(7, 0)]),
  (10, 3, .getfield 76, [(4, 3)]),
  (13, 1, .iload_n 1, [(1, 0)]),
  (14, 1, .iaload, []),
  (15, 2, .istore 5, []),
  (17, 1, .iconst 0, [(0, 0)]),
  (18, 2, .istore 6, []),
  (20, 0, .nop, [(0, 3), (1, 1), (2, 1), (3, 1), (4, 1), (5, 1), (6, 1)]),
  (20, 2, .iload 6, []),
  (22, 2, .iload 5, []),
  (24, 3, .if_icmp .ge 118, [(142, 0)]),
  (27, 1, .iconst 1, [(1, 0)]),
  (28, 2, .istore 7, []),
  (30, 1, .iconst 0, [(0, 0)]),
  (31, 2, .istore 8, []),
  (33, 0, .nop, [(0, 3), (1, 1), (2, 1), (3, 1), (4, 1), (5, 1), (6, 1), (7, 1), (8, 1)]),
  (33, 2, .iload 8, []),
  (35, 2, .iload 5, []),
  (37, 3, .if_icmp .ge 59, [(96, 0)]),
  (40, 2, .iload 7, []),
  (42, 3, .ifCond .eq 54, [(96, 0)]),
  (45, 2, .iload 8, []),
  (47, 2, .iload 6, []),
  (49, 3, .if_icmp .ge 7, [(56, 0)]),
  (52, 1, .iload_n 2, [(2, 0)]),
  (53, 3, .goto 4, [(57, 0)]),
  (56, 1, .iload_n 3, [(3, 0)]),
  (57, 2, .istore 9, []),
  (59, 2, .iload 8, []),
  (61, 2, .iload 6, []),
  (63, 3, .if_icmp .eq 20, [(83, 0)]),
  (66, 1, .aload_n 0, [(0, 0)]),
  (67, 3, .getfield 22, [(1, 1)]),
  (70, 1, .iload_n 1, [(1, 0)]),
  (71, 2, .iload 8, []),
  (73, 2, .iload 9, []),
  (75, 2, .iload 9, []),
  (77, 3, .invokevirtual 80, [(57, 4), (4, 0), (0, 0)]),
  (80, 3, .ifCond .eq 7, [(87, 0)]),
  (83, 1, .iconst 1, [(1, 0)]),
  (84, 3, .goto 4, [(88, 0)]),
  (87, 1, .iconst 0, [(0, 0)]),
  (88, 2, .istore 7, []),
  (90, 3, .iinc 8 1, [(1, 0)]),
  (93, 3, .goto (-60), [(33, 0)]),
  (96, 2, .iload 7, []),
  (98, 3, .ifCond .eq 38, [(136, 0)]),
  (101, 1, .aload_n 0, [(0, 0)]),
  (102, 3, .getfield 18, [(1, 0)]),
  (105, 3, .getfield 30, [(7, 0)]),
  (108, 1, .iload_n 1, [(1, 0)]),
  (109, 2, .iload 6, []),
  (111, 3, .invokevirtual 84, [(6, 2), (1, 0), (4, 0)]),
  (114, 2, .bipush 26, [(26, 0)]),
  (116, 3, .if_icmp .lt 20, [(136, 0)]),
  (119, 2, .iload 4, []),
  (121, 1, .aload_n 0, [(0, 0)]),
  (122, 3, .getfield 22, [(1, 1)]),
  (125, 1, .iload_n 1, [(1, 0)]),
  (126, 2, .iload 6, []),
  (128, 1, .iload_n 2, [(2, 0)]),
  (129, 1, .iload_n 3, [(3, 0)]),
  (130, 3, .invokevirtual 87, [(55, 4), (1, 0), (0, 0)]),
  (133, 1, .ior, []),
  (134, 2, .istore 4, []),
  (136, 3, .iinc 6 1, [(1, 0)]),
  (139, 3, .goto (-119), [(20, 0)]),
  (142, 2, .iload 4, []),
  (144, 1, .ireturn, [])]
/-- PackedForest$Counts.wholeBelow (III)I -/
def zt82 : zzT := (⟨"PackedForest$Counts", "wholeBelow", "(III)I"⟩, prog_3_method_7_code, 10, (some .int), 1, zr82)
def zr83 : List zzI := [(0, 1, .aload_n 0, [(0, 0)]),
  (1, 3, .getfield 15, [(1, 4)]),
  (4, 1, .lconst 0, [(0, 0)]),
  (5, 3, .invokestatic 91, [(4, 2), (0, 0)]),
  (8, 1, .aload_n 0, [(0, 0)]),
  (9, 3, .getfield 15, [(1, 4)]),
  (12, 1, .iload_n 2, [(2, 0)]),
  (13, 1, .lconst 1, [(1, 0)]),
  (14, 1, .lastore, []),
  (15, 1, .iconst 0, [(0, 0)]),
  (16, 2, .istore 4, []),
  (18, 0, .nop, [(0, 3), (1, 1), (2, 1), (3, 1), (4, 1)]),
  (18, 2, .iload 4, []),
  (20, 1, .aload_n 0, [(0, 0)]),
  (21, 3, .getfield 18, [(1, 0)]),
  (24, 3, .getfield 30, [(7, 0)]),
  (27, 3, .getfield 76, [(4, 3)]),
  (30, 1, .iload_n 1, [(1, 0)]),
  (31, 1, .iaload, []),
  (32, 3, .if_icmp .ge 34, [(66, 0)]),
  (35, 1, .iload_n 3, [(3, 0)]),
  (36, 2, .istore 5, []),
  (38, 0, .nop, [(0, 3), (1, 1), (2, 1), (3, 1), (4, 1), (5, 1)]),
  (38, 2, .iload 5, []),
  (40, 1, .iload_n 2, [(2, 0)]),
  (41, 3, .if_icmp .lt 19, [(60, 0)]),
  (44, 1, .aload_n 0, [(0, 0)]),
  (45, 1, .iload_n 1, [(1, 0)]),
  (46, 2, .iload 4, []),
  (48, 2, .iload 5, []),
  (50, 1, .iload_n 3, [(3, 0)]),
  (51, 3, .invokevirtual 96, [(84, 4), (0, 0), (1, 0)]),
  (54, 3, .iinc 5 (-1), [(1, 1)]),
  (57, 3, .goto (-19), [(38, 0)]),
  (60, 3, .iinc 4 1, [(1, 0)]),
  (63, 3, .goto (-45), [(18, 0)]),
  (66, 1, .aload_n 0, [(0, 0)]),
  (67, 3, .getfield 15, [(1, 4)]),
  (70, 1, .iload_n 3, [(3, 0)]),
  (71, 1, .laload, []),
  (72, 1, .lreturn, [])]
/-- PackedForest$Counts.treesOf (III)J -/
def zt83 : zzT := (⟨"PackedForest$Counts", "treesOf", "(III)J"⟩, prog_3_method_8_code, 6, (some .long), 2, zr83)
def zr84 : List zzI := [(0, 1, .aload_n 0, [(0, 0)]),
  (1, 3, .getfield 18, [(1, 0)]),
  (4, 3, .getfield 30, [(7, 0)]),
  (7, 1, .iload_n 1, [(1, 0)]),
  (8, 1, .iload_n 2, [(2, 0)]),
  (9, 3, .invokevirtual 84, [(6, 2), (1, 0), (4, 0)]),
  (12, 2, .bipush 26, [(26, 0)]),
  (14, 3, .if_icmp .ge 7, [(21, 0)]),
  (17, 1, .iconst 1, [(1, 0)]),
  (18, 3, .goto 4, [(22, 0)]),
  (21, 1, .iconst 0, [(0, 0)]),
  (22, 2, .istore 5, []),
  (24, 1, .aload_n 0, [(0, 0)]),
  (25, 3, .getfield 15, [(1, 4)]),
  (28, 1, .iload_n 3, [(3, 0)]),
  (29, 1, .laload, []),
  (30, 2, .lstore 6, []),
  (32, 1, .aload_n 0, [(0, 0)]),
  (33, 3, .getfield 15, [(1, 4)]),
  (36, 1, .iload_n 3, [(3, 0)]),
  (37, 1, .lconst 0, [(0, 0)]),
  (38, 1, .lastore, []),
  (39, 2, .lload 6, []),
  (41, 1, .lconst 0, [(0, 0)]),
  (42, 1, .lcmp, []),
  (43, 3, .ifCond .ne 7, [(50, 0)]),
  (46, 1, .iconst 0, [(0, 0)]),
  (47, 3, .goto 15, [(62, 0)]),
  (50, 1, .aload_n 0, [(0, 0)]),
  (51, 3, .getfield 22, [(1, 1)]),
  (54, 1, .iload_n 1, [(1, 0)]),
  (55, 1, .iload_n 2, [(2, 0)]),
  (56, 1, .iload_n 3, [(3, 0)]),
  (57, 2, .iload 4, []),
  (59, 3, .invokevirtual 100, [(56, 4), (1, 0), (0, 0)]),
  (62, 2, .istore 8, []),
  (64, 1, .iload_n 3, [(3, 0)]),
  (65, 2, .istore 9, []),
  (67, 0, .nop, [(0, 3), (1, 1), (2, 1), (3, 1), (4, 1), (5, 1), (6, 2), (8, 1), (9, 1)]),
  (67, 2, .iload 9, []),
  (69, 2, .iload 4, []),
  (71, 3, .if_icmp .gt 84, [(155, 0)]),
  (74, 2, .iload 8, []),
  (76, 2, .iload 9, []),
  (78, 1, .ishr, []),
  (79, 3, .ifCond .eq 76, [(155, 0)]),
  (82, 2, .iload 8, []),
  (84, 2, .iload 9, []),
  (86, 1, .ishr, []),
  (87, 1, .iconst 1, [(1, 0)]),
  (88, 1, .iand, []),
  (89, 3, .ifCond .eq 60, [(149, 0)]),
  (92, 2, .iload 5, []),
  (94, 3, .ifCond .eq 7, [(101, 0)]),
  (97, 1, .lconst 1, [(1, 0)]),
  (98, 3, .goto 25, [(123, 0)]),
  (101, 1, .aload_n 0, [(0, 0)]),
  (102, 1, .aload_n 0, [(0, 0)]),
  (103, 3, .getfield 22, [(1, 1)]),
  (106, 1, .iload_n 1, [(1, 0)]),
  (107, 1, .iload_n 2, [(2, 0)]),
  (108, 1, .iload_n 3, [(3, 0)]),
  (109, 2, .iload 9, []),
  (111, 3, .invokevirtual 87, [(55, 4), (1, 0), (0, 0)]),
  (114, 1, .iload_n 3, [(3, 0)]),
  (115, 2, .iload 9, []),
  (117, 3, .invokestatic 61, [(135, 2), (1, 0)]),
  (120, 3, .invokevirtual 103, [(79, 2), (2, 0), (1, 0)]),
  (123, 2, .lstore 10, []),
  (125, 1, .aload_n 0, [(0, 0)]),
  (126, 3, .getfield 15, [(1, 4)]),
  (129, 2, .iload 9, []),
  (131, 1, .aload_n 0, [(0, 0)]),
  (132, 3, .getfield 15, [(1, 4)]),
  (135, 2, .iload 9, []),
  (137, 1, .laload, []),
  (138, 2, .lload 6, []),
  (140, 2, .lload 10, []),
  (142, 3, .invokestatic 107, [(78, 2), (2, 0)]),
  (145, 3, .invokestatic 42, [(77, 2), (2, 0)]),
  (148, 1, .lastore, []),
  (149, 3, .iinc 9 1, [(1, 0)]),
  (152, 3, .goto (-85), [(67, 0)]),
  (155, 1, .return_, [])]
/-- PackedForest$Counts.goOnWith (IIII)V -/
def zt84 : zzT := (⟨"PackedForest$Counts", "goOnWith", "(IIII)V"⟩, prog_3_method_9_code, 12, none, 0, zr84)
def zr85 : List zzI := [(0, 1, .aload_n 0, [(0, 0)]),
  (1, 1, .aload_n 0, [(0, 0)]),
  (2, 3, .getfield 21, [(8, 0)]),
  (5, 3, .getfield 29, [(7, 0)]),
  (8, 3, .getfield 35, [(4, 7)]),
  (11, 1, .aload_n 0, [(0, 0)]),
  (12, 3, .getfield 21, [(8, 0)]),
  (15, 3, .getfield 29, [(7, 0)]),
  (18, 3, .getfield 41, [(4, 2)]),
  (21, 1, .iconst 0, [(0, 0)]),
  (22, 1, .iaload, []),
  (23, 2, .bipush 26, [(26, 0)]),
  (25, 1, .isub, []),
  (26, 1, .iaload, []),
  (27, 1, .iconst 0, [(0, 0)]),
  (28, 1, .aload_n 0, [(0, 0)]),
  (29, 3, .getfield 21, [(8, 0)]),
  (32, 3, .getfield 44, [(7, 2)]),
  (35, 3, .invokevirtual 48, [(90, 3), (1, 0), (8, 0)]),
  (38, 1, .istore_n 1, [(1, 0)]),
  (39, 1, .iload_n 1, [(1, 0)]),
  (40, 1, .iconst (-1), [(1, 1)]),
  (41, 3, .if_icmp .ne 9, [(50, 0)]),
  (44, 3, .ldc2_w 52, [(1152921504606846976, 0)]),
  (47, 3, .goto 24, [(71, 0)]),
  (50, 1, .aload_n 0, [(0, 0)]),
  (51, 3, .getfield 9, [(8, 6)]),
  (54, 1, .iload_n 1, [(1, 0)]),
  (55, 2, .bipush 91, [(91, 0)]),
  (57, 1, .imul, []),
  (58, 1, .iconst 0, [(0, 0)]),
  (59, 1, .aload_n 0, [(0, 0)]),
  (60, 3, .getfield 21, [(8, 0)]),
  (63, 3, .getfield 44, [(7, 2)]),
  (66, 3, .invokestatic 54, [(135, 2), (1, 0)]),
  (69, 1, .iadd, []),
  (70, 1, .laload, []),
  (71, 1, .lreturn, [])]
/-- PackedForest$Sizes.wholeSize ()J -/
def zt85 : zzT := (⟨"PackedForest$Sizes", "wholeSize", "()J"⟩, prog_10_method_2_code, 2, (some .long), 2, zr85)
def zr86 : List zzI := [(0, 1, .aload_n 0, [(0, 0)]),
  (1, 3, .getfield 25, [(8, 1)]),
  (4, 3, .invokevirtual 58, [(58, 0), (0, 0), (0, 0)]),
  (7, 1, .aload_n 0, [(0, 0)]),
  (8, 3, .getfield 63, [(8, 2)]),
  (11, 1, .istore_n 1, [(1, 0)]),
  (12, 0, .nop, [(0, 3), (1, 1)]),
  (12, 1, .iload_n 1, [(1, 0)]),
  (13, 1, .aload_n 0, [(0, 0)]),
  (14, 3, .getfield 21, [(8, 0)]),
  (17, 3, .getfield 44, [(7, 2)]),
  (20, 3, .if_icmp .gt 33, [(53, 0)]),
  (23, 1, .iload_n 1, [(1, 0)]),
  (24, 1, .istore_n 2, [(2, 0)]),
  (25, 0, .nop, [(0, 3), (1, 1), (2, 1)]),
  (25, 1, .iload_n 2, [(2, 0)]),
  (26, 3, .ifCond .lt 21, [(47, 0)]),
  (29, 1, .aload_n 0, [(0, 0)]),
  (30, 1, .iload_n 2, [(2, 0)]),
  (31, 1, .iload_n 1, [(1, 0)]),
  (32, 3, .invokevirtual 66, [(87, 2), (0, 0), (8, 0)]),
  (35, 1, .aload_n 0, [(0, 0)]),
  (36, 1, .iload_n 2, [(2, 0)]),
  (37, 1, .iload_n 1, [(1, 0)]),
  (38, 3, .invokevirtual 70, [(88, 2), (0, 0), (8, 0)]),
  (41, 3, .iinc 2 (-1), [(1, 1)]),
  (44, 3, .goto (-19), [(25, 0)]),
  (47, 3, .iinc 1 1, [(1, 0)]),
  (50, 3, .goto (-38), [(12, 0)]),
  (53, 1, .aload_n 0, [(0, 0)]),
  (54, 1, .aload_n 0, [(0, 0)]),
  (55, 3, .getfield 21, [(8, 0)]),
  (58, 3, .getfield 44, [(7, 2)]),
  (61, 1, .iconst 1, [(1, 0)]),
  (62, 1, .iadd, []),
  (63, 3, .putfield 63, [(8, 2)]),
  (66, 1, .return_, [])]
/-- PackedForest$Sizes.fill ()V -/
def zt86 : zzT := (⟨"PackedForest$Sizes", "fill", "()V"⟩, prog_10_method_3_code, 3, none, 0, zr86)
def zr87 : List zzI := [(0, 1, .iload_n 1, [(1, 0)]),
  (1, 1, .iload_n 2, [(2, 0)]),
  (2, 3, .invokestatic 54, [(135, 2), (1, 0)]),
  (5, 1, .istore_n 3, [(3, 0)]),
  (6, 1, .iconst 0, [(0, 0)]),
  (7, 2, .istore 4, []),
  (9, 0, .nop, [(0, 3), (1, 1), (2, 1), (3, 1), (4, 1)]),
  (9, 2, .iload 4, []),
  (11, 1, .aload_n 0, [(0, 0)]),
  (12, 3, .getfield 21, [(8, 0)]),
  (15, 3, .getfield 29, [(7, 0)]),
  (18, 3, .getfield 73, [(4, 0)]),
  (21, 3, .if_icmp .ge 122, [(143, 0)]),
  (24, 1, .aload_n 0, [(0, 0)]),
  (25, 3, .getfield 9, [(8, 6)]),
  (28, 2, .iload 4, []),
  (30, 2, .bipush 91, [(91, 0)]),
  (32, 1, .imul, []),
  (33, 1, .iload_n 3, [(3, 0)]),
  (34, 1, .iadd, []),
  (35, 3, .ldc2_w 52, [(1152921504606846976, 0)]),
  (38, 1, .lastore, []),
  (39, 1, .iconst 0, [(0, 0)]),
  (40, 2, .istore 5, []),
  (42, 0, .nop, [(0, 3), (1, 1), (2, 1), (3, 1), (4, 1), (5, 1)]),
  (42, 2, .iload 5, []),
  (44, 1, .aload_n 0, [(0, 0)]),
  (45, 3, .getfield 21, [(8, 0)]),
  (48, 3, .getfield 29, [(7, 0)]),
  (51, 3, .getfield 76, [(4, 3)]),
  (54, 2, .iload 4, []),
  (56, 1, .iaload, []),
  (57, 3, .if_icmp .ge 80, [(137, 0)]),
  (60, 1, .aload_n 0, [(0, 0)]),
  (61, 3, .getfield 21, [(8, 0)]),
  (64, 3, .getfield 29, [(7, 0)]),
  (67, 2, .iload 4, []),
  (69, 2, .iload 5, []),
  (71, 3, .invokevirtual 79, [(6, 2), (1, 0), (4, 0)]),
  (74, 2, .bipush 26, [(26, 0)]),
  (76, 3, .if_icmp .ge 7, [(83, 0)]),
  (79, 1, .iconst 1, [(1, 0)]),
  (80, 3, .goto 4, [(84, 0)]),
  (83, 1, .iconst 0, [(0, 0)]),
  (84, 2, .istore 6, []),
  (86, 1, .aload_n 0, [(0, 0)]),
  (87, 3, .getfield 15, [(8, 7)]),
  (90, 2, .iload 4, []),
  (92, 1, .iconst 4, [(4, 0)]),
  (93, 1, .imul, []),
  (94, 2, .iload 5, []),
  (96, 1, .iadd, []),
  (97, 2, .bipush 91, [(91, 0)]),
  (99, 1, .imul, []),
  (100, 1, .iload_n 3, [(3, 0)]),
  (101, 1, .iadd, []),
  (102, 2, .iload 6, []),
  (104, 3, .ifCond .eq 23, [(127, 0)]),
  (107, 1, .aload_n 0, [(0, 0)]),
  (108, 3, .getfield 25, [(8, 1)]),
  (111, 2, .iload 4, []),
  (113, 2, .iload 5, []),
  (115, 1, .iload_n 1, [(1, 0)]),
  (116, 1, .iload_n 2, [(2, 0)]),
  (117, 3, .invokevirtual 82, [(57, 4), (4, 0), (0, 0)]),
  (120, 3, .ifCond .eq 7, [(127, 0)]),
  (123, 1, .lconst 0, [(0, 0)]),
  (124, 3, .goto 6, [(130, 0)]),
  (127, 3, .ldc2_w 52, [(1152921504606846976, 0)]),
  (130, 1, .lastore, []),
  (131, 3, .iinc 5 1, [(1, 0)]),
  (134, 3, .goto (-92), [(42, 0)]),
  (137, 3, .iinc 4 1, [(1, 0)]),
  (140, 3, .goto (-131), [(9, 0)]),
  (143, 1, .return_, [])]
/-- PackedForest$Sizes.clear (II)V -/
def zt87 : zzT := (⟨"PackedForest$Sizes", "clear", "(II)V"⟩, prog_10_method_4_code, 7, none, 0, zr87)
def zr88 : List zzI := [(0, 1, .aload_n 0, [(0, 0)]),
  (1, 3, .getfield 25, [(8, 1)]),
  (4, 1, .iload_n 1, [(1, 0)]),
  (5, 1, .iload_n 2, [(2, 0)]),
  (6, 3, .invokevirtual 86, [(52, 2), (1, 0), (0, 0)]),
  (9, 1, .istore_n 3, [(3, 0)]),
  (10, 1, .iconst 1, [(1, 0)]),
  (11, 2, .istore 4, []),
  (13, 1, .iconst 0, [(0, 0)]),
  (14, 2, .istore 5, []),
  (16, 0, .nop, [(0, 3), (1, 1), (2, 1), (3, 1), (4, 1), (5, 1)]),
  (16, 2, .iload 5, []),
  (18, 3, .sipush 1000, [(1000, 0)]),
  (21, 3, .if_icmp .ge 71, [(92, 0)]),
  (24, 2, .iload 4, []),
  (26, 3, .ifCond .eq 66, [(92, 0)]),
  (29, 1, .iconst 0, [(0, 0)]),
  (30, 2, .istore 4, []),
  (32, 1, .iconst 0, [(0, 0)]),
  (33, 2, .istore 6, []),
  (35, 0, .nop, [(0, 3), (1, 1), (2, 1), (3, 1), (4, 1), (5, 1), (6, 1)]),
  (35, 2, .iload 6, []),
  (37, 1, .aload_n 0, [(0, 0)]),
  (38, 3, .getfield 21, [(8, 0)]),
  (41, 3, .getfield 29, [(7, 0)]),
  (44, 3, .getfield 73, [(4, 0)]),
  (47, 3, .if_icmp .ge 39, [(86, 0)]),
  (50, 2, .iload 4, []),
  (52, 1, .iload_n 3, [(3, 0)]),
  (53, 2, .iload 6, []),
  (55, 1, .ishr, []),
  (56, 1, .iconst 1, [(1, 0)]),
  (57, 1, .iand, []),
  (58, 3, .ifCond .eq 18, [(76, 0)]),
  (61, 1, .aload_n 0, [(0, 0)]),
  (62, 2, .iload 6, []),
  (64, 1, .iload_n 1, [(1, 0)]),
  (65, 1, .iload_n 2, [(2, 0)]),
  (66, 3, .invokevirtual 89, [(89, 3), (4, 0), (8, 0)]),
  (69, 3, .ifCond .eq 7, [(76, 0)]),
  (72, 1, .iconst 1, [(1, 0)]),
  (73, 3, .goto 4, [(77, 0)]),
  (76, 1, .iconst 0, [(0, 0)]),
  (77, 1, .ior, []),
  (78, 2, .istore 4, []),
  (80, 3, .iinc 6 1, [(1, 0)]),
  (83, 3, .goto (-48), [(35, 0)]),
  (86, 3, .iinc 5 1, [(1, 0)]),
  (89, 3, .goto (-73), [(16, 0)]),
  (92, 1, .return_, [])]
/-- PackedForest$Sizes.settle (II)V -/
def zt88 : zzT := (⟨"PackedForest$Sizes", "settle", "(II)V"⟩, prog_10_method_5_code, 7, none, 0, zr88)
def zr89 : List zzI := [(0, 1, .aload_n 0, [(0, 0)]),
  (1, 1, .iload_n 1, [(1, 0)]),
  (2, 1, .iload_n 2, [(2, 0)]),
  (3, 1, .iload_n 3, [(3, 0)]),
  (4, 3, .invokevirtual 93, [(91, 3), (0, 0), (8, 0)]),
  (7, 1, .aload_n 0, [(0, 0)]),
  (8, 3, .getfield 18, [(8, 8)]),
  (11, 1, .iload_n 2, [(2, 0)]),
  (12, 1, .laload, []),
  (13, 1, .lconst 1, [(1, 0)]),
  (14, 1, .ladd, []),
  (15, 2, .lstore 4, []),
  (17, 1, .iload_n 2, [(2, 0)]),
  (18, 1, .iload_n 3, [(3, 0)]),
  (19, 3, .invokestatic 54, [(135, 2), (1, 0)]),
  (22, 2, .istore 6, []),
  (24, 2, .lload 4, []),
  (26, 1, .aload_n 0, [(0, 0)]),
  (27, 3, .getfield 9, [(8, 6)]),
  (30, 1, .iload_n 1, [(1, 0)]),
  (31, 2, .bipush 91, [(91, 0)]),
  (33, 1, .imul, []),
  (34, 2, .iload 6, []),
  (36, 1, .iadd, []),
  (37, 1, .laload, []),
  (38, 1, .lcmp, []),
  (39, 3, .ifCond .lt 5, [(44, 0)]),
  (42, 1, .iconst 0, [(0, 0)]),
  (43, 1, .ireturn, []),
  (44, 1, .aload_n 0, [(0, 0)]),
  (45, 3, .getfield 9, [(8, 6)]),
  (48, 1, .iload_n 1, [(1, 0)]),
  (49, 2, .bipush 91, [(91, 0)]),
  (51, 1, .imul, []),
  (52, 2, .iload 6, []),
  (54, 1, .iadd, []),
  (55, 2, .lload 4, []),
  (57, 1, .lastore, []),
  (58, 1, .iconst 0, [(0, 0)]),
  (59, 2, .istore 7, []),
  (61, 0, .nop, [(0, 3), (1, 1), (4, 2), (6, 1), (7, 1)]),
  (61, 2, .iload 7, []),
  (63, 1, .aload_n 0, [(0, 0)]),
  (64, 3, .getfield 21, [(8, 0)]),
  (67, 3, .getfield 29, [(7, 0)]),
  (70, 3, .getfield 73, [(4, 0)]),
  (73, 3, .if_icmp .ge 88, [(161, 0)]),
  (76, 1, .iconst 0, [(0, 0)]),
  (77, 2, .istore 8, []),
  (79, 0, .nop, [(0, 3), (1, 1), (4, 2), (6, 1), (7, 1), (8, 1)]),
  (79, 2, .iload 8, []),
  (81, 1, .aload_n 0, [(0, 0)]),
  (82, 3, .getfield 21, [(8, 0)]),
  (85, 3, .getfield 29, [(7, 0)]),
  (88, 3, .getfield 76, [(4, 3)]),
  (91, 2, .iload 7, []),
  (93, 1, .iaload, []),
  (94, 3, .if_icmp .ge 61, [(155, 0)]),
  (97, 2, .iload 7, []),
  (99, 1, .iconst 4, [(4, 0)]),
  (100, 1, .imul, []),
  (101, 2, .iload 8, []),
  (103, 1, .iadd, []),
  (104, 2, .bipush 91, [(91, 0)]),
  (106, 1, .imul, []),
  (107, 2, .iload 6, []),
  (109, 1, .iadd, []),
  (110, 2, .istore 9, []),
  (112, 2, .lload 4, []),
  (114, 1, .aload_n 0, [(0, 0)]),
  (115, 3, .getfield 15, [(8, 7)]),
  (118, 2, .iload 9, []),
  (120, 1, .laload, []),
  (121, 1, .lcmp, []),
  (122, 3, .ifCond .ge 27, [(149, 0)]),
  (125, 1, .aload_n 0, [(0, 0)]),
  (126, 3, .getfield 25, [(8, 1)]),
  (129, 2, .iload 7, []),
  (131, 2, .iload 8, []),
  (133, 1, .iload_n 1, [(1, 0)]),
  (134, 3, .invokevirtual 97, [(54, 3), (4, 0), (0, 0)]),
  (137, 3, .ifCond .eq 12, [(149, 0)]),
  (140, 1, .aload_n 0, [(0, 0)]),
  (141, 3, .getfield 15, [(8, 7)]),
  (144, 2, .iload 9, []),
  (146, 2, .lload 4, []),
  (148, 1, .lastore, []),
  (149, 3, .iinc 8 1, [(1, 0)]),
  (152, 3, .goto (-73), [(79, 0)]),
  (155, 3, .iinc 7 1, [(1, 0)]),
  (158, 3, .goto (-97), [(61, 0)]),
  (161, 1, .iconst 1, [(1, 0)]),
  (162, 1, .ireturn, [])]
/-- PackedForest$Sizes.shrink (III)Z -/
def zt89 : zzT := (⟨"PackedForest$Sizes", "shrink", "(III)Z"⟩, prog_10_method_6_code, 10, (some .boolean), 4, zr89)
def zr90 : List zzI := [(0, 1, .iconst (-1), [(1, 1)]),
  (1, 2, .istore 4, []),
  (3, 3, .ldc2_w 52, [(1152921504606846976, 0)]),
  (6, 2, .lstore 5, []),
  (8, 1, .iconst 0, [(0, 0)]),
  (9, 2, .istore 7, []),
  (11, 0, .nop, [(0, 3), (1, 1), (2, 1), (3, 1), (4, 1), (5, 2), (7, 1)]),
  (11, 2, .iload 7, []),
  (13, 1, .aload_n 0, [(0, 0)]),
  (14, 3, .getfield 21, [(8, 0)]),
  (17, 3, .getfield 29, [(7, 0)]),
  (20, 3, .getfield 73, [(4, 0)]),
  (23, 3, .if_icmp .ge 62, [(85, 0)]),
  (26, 1, .iload_n 1, [(1, 0)]),
  (27, 2, .iload 7, []),
  (29, 1, .ishr, []),
  (30, 1, .iconst 1, [(1, 0)]),
  (31, 1, .iand, []),
  (32, 3, .ifCond .eq 47, [(79, 0)]),
  (35, 1, .aload_n 0, [(0, 0)]),
  (36, 3, .getfield 9, [(8, 6)]),
  (39, 2, .iload 7, []),
  (41, 2, .bipush 91, [(91, 0)]),
  (43, 1, .imul, []),
  (44, 1, .iload_n 2, [(2, 0)]),
  (45, 1, .iload_n 3, [(3, 0)]),
  (46, 3, .invokestatic 54, [(135, 2), (1, 0)]),
  (49, 1, .iadd, []),
  (50, 1, .laload, []),
  (51, 2, .lload 5, []),
  (53, 1, .lcmp, []),
  (54, 3, .ifCond .ge 25, [(79, 0)]),
  (57, 2, .iload 7, []),
  (59, 2, .istore 4, []),
  (61, 1, .aload_n 0, [(0, 0)]),
  (62, 3, .getfield 9, [(8, 6)]),
  (65, 2, .iload 7, []),
  (67, 2, .bipush 91, [(91, 0)]),
  (69, 1, .imul, []),
  (70, 1, .iload_n 2, [(2, 0)]),
  (71, 1, .iload_n 3, [(3, 0)]),
  (72, 3, .invokestatic 54, [(135, 2), (1, 0)]),
  (75, 1, .iadd, []),
  (76, 1, .laload, []),
  (77, 2, .lstore 5, []),
  (79, 3, .iinc 7 1, [(1, 0)]),
  (82, 3, .goto (-71), [(11, 0)]),
  (85, 2, .iload 4, []),
  (87, 1, .ireturn, [])]
/-- PackedForest$Sizes.leastOf (III)I -/
def zt90 : zzT := (⟨"PackedForest$Sizes", "leastOf", "(III)I"⟩, prog_10_method_7_code, 8, (some .int), 1, zr90)
def zr91 : List zzI := [(0, 1, .aload_n 0, [(0, 0)]),
  (1, 3, .getfield 21, [(8, 0)]),
  (4, 3, .getfield 29, [(7, 0)]),
  (7, 3, .getfield 76, [(4, 3)]),
  (10, 1, .iload_n 1, [(1, 0)]),
  (11, 1, .iaload, []),
  (12, 2, .istore 4, []),
  (14, 1, .iload_n 2, [(2, 0)]),
  (15, 2, .istore 5, []),
  (17, 0, .nop, [(0, 3), (1, 1), (2, 1), (3, 1), (4, 1), (5, 1)]),
  (17, 2, .iload 5, []),
  (19, 1, .iload_n 3, [(3, 0)]),
  (20, 3, .if_icmp .gt 35, [(55, 0)]),
  (23, 1, .aload_n 0, [(0, 0)]),
  (24, 3, .getfield 18, [(8, 8)]),
  (27, 2, .iload 4, []),
  (29, 2, .bipush 13, [(13, 0)]),
  (31, 1, .imul, []),
  (32, 2, .iload 5, []),
  (34, 1, .iadd, []),
  (35, 2, .iload 5, []),
  (37, 1, .iload_n 3, [(3, 0)]),
  (38, 3, .if_icmp .ne 7, [(45, 0)]),
  (41, 1, .lconst 0, [(0, 0)]),
  (42, 3, .goto 6, [(48, 0)]),
  (45, 3, .ldc2_w 52, [(1152921504606846976, 0)]),
  (48, 1, .lastore, []),
  (49, 3, .iinc 5 1, [(1, 0)]),
  (52, 3, .goto (-35), [(17, 0)]),
  (55, 2, .iload 4, []),
  (57, 1, .iconst 1, [(1, 0)]),
  (58, 1, .isub, []),
  (59, 2, .istore 5, []),
  (61, 0, .nop, [(0, 3), (1, 1), (2, 1), (3, 1), (5, 1)]),
  (61, 2, .iload 5, []),
  (63, 3, .ifCond .lt 60, [(123, 0)]),
  (66, 2, .iload 5, []),
  (68, 3, .ifCond .ne 7, [(75, 0)]),
  (71, 1, .iload_n 2, [(2, 0)]),
  (72, 3, .goto 4, [(76, 0)]),
  (75, 1, .iload_n 3, [(3, 0)]),
  (76, 2, .istore 6, []),
  (78, 1, .iload_n 2, [(2, 0)]),
  (79, 2, .istore 7, []),
  (81, 0, .nop, [(0, 3), (1, 1), (2, 1), (3, 1), (5, 1), (6, 1), (7, 1)]),
  (81, 2, .iload 7, []),
  (83, 2, .iload 6, []),
  (85, 3, .if_icmp .gt 32, [(117, 0)]),
  (88, 1, .aload_n 0, [(0, 0)]),
  (89, 3, .getfield 18, [(8, 8)]),
  (92, 2, .iload 5, []),
  (94, 2, .bipush 13, [(13, 0)]),
  (96, 1, .imul, []),
  (97, 2, .iload 7, []),
  (99, 1, .iadd, []),
  (100, 1, .aload_n 0, [(0, 0)]),
  (101, 1, .iload_n 1, [(1, 0)]),
  (102, 2, .iload 5, []),
  (104, 2, .iload 7, []),
  (106, 1, .iload_n 3, [(3, 0)]),
  (107, 3, .invokevirtual 100, [(92, 4), (2, 0), (8, 0)]),
  (110, 1, .lastore, []),
  (111, 3, .iinc 7 1, [(1, 0)]),
  (114, 3, .goto (-33), [(81, 0)]),
  (117, 3, .iinc 5 (-1), [(1, 1)]),
  (120, 3, .goto (-59), [(61, 0)]),
  (123, 1, .return_, [])]
/-- PackedForest$Sizes.findRest (III)V -/
def zt91 : zzT := (⟨"PackedForest$Sizes", "findRest", "(III)V"⟩, prog_10_method_8_code, 8, none, 0, zr91)
def zr92 : List zzI := [(0, 3, .ldc2_w 52, [(1152921504606846976, 0)]),
  (3, 2, .lstore 5, []),
  (5, 1, .iload_n 1, [(1, 0)]),
  (6, 1, .iconst 4, [(4, 0)]),
  (7, 1, .imul, []),
  (8, 1, .iload_n 2, [(2, 0)]),
  (9, 1, .iadd, []),
  (10, 2, .bipush 91, [(91, 0)]),
  (12, 1, .imul, []),
  (13, 2, .istore 7, []),
  (15, 1, .aload_n 0, [(0, 0)]),
  (16, 3, .getfield 25, [(8, 1)]),
  (19, 1, .iload_n 1, [(1, 0)]),
  (20, 1, .iload_n 2, [(2, 0)]),
  (21, 1, .iload_n 3, [(3, 0)]),
  (22, 2, .iload 4, []),
  (24, 3, .invokevirtual 104, [(56, 4), (1, 0), (0, 0)]),
  (27, 2, .istore 8, []),
  (29, 1, .iload_n 3, [(3, 0)]),
  (30, 2, .istore 9, []),
  (32, 0, .nop, [(0, 3), (2, 1), (3, 1), (4, 1), (5, 2), (7, 1), (8, 1), (9, 1)]),
  (32, 2, .iload 9, []),
  (34, 2, .iload 4, []),
  (36, 3, .if_icmp .gt 63, [(99, 0)]),
  (39, 2, .iload 8, []),
  (41, 2, .iload 9, []),
  (43, 1, .ishr, []),
  (44, 3, .ifCond .eq 55, [(99, 0)]),
  (47, 2, .iload 8, []),
  (49, 2, .iload 9, []),
  (51, 1, .ishr, []),
  (52, 1, .iconst 1, [(1, 0)]),
  (53, 1, .iand, []),
  (54, 3, .ifCond .eq 39, [(93, 0)]),
  (57, 2, .lload 5, []),
  (59, 1, .aload_n 0, [(0, 0)]),
  (60, 3, .getfield 18, [(8, 8)]),
  (63, 1, .iload_n 2, [(2, 0)]),
  (64, 1, .iconst 1, [(1, 0)]),
  (65, 1, .iadd, []),
  (66, 2, .bipush 13, [(13, 0)]),
  (68, 1, .imul, []),
  (69, 2, .iload 9, []),
  (71, 1, .iadd, []),
  (72, 1, .laload, []),
  (73, 1, .aload_n 0, [(0, 0)]),
  (74, 3, .getfield 15, [(8, 7)]),
  (77, 2, .iload 7, []),
  (79, 1, .iload_n 3, [(3, 0)]),
  (80, 2, .iload 9, []),
  (82, 3, .invokestatic 54, [(135, 2), (1, 0)]),
  (85, 1, .iadd, []),
  (86, 1, .laload, []),
  (87, 1, .ladd, []),
  (88, 3, .invokestatic 108, [(2, 2), (2, 0)]),
  (91, 2, .lstore 5, []),
  (93, 3, .iinc 9 1, [(1, 0)]),
  (96, 3, .goto (-64), [(32, 0)]),
  (99, 2, .lload 5, []),
  (101, 1, .lreturn, [])]
/-- PackedForest$Sizes.restFrom (IIII)J -/
def zt92 : zzT := (⟨"PackedForest$Sizes", "restFrom", "(IIII)J"⟩, prog_10_method_9_code, 10, (some .long), 2, zr92)
def zr93 : List zzI := [(0, 1, .aload_n 0, [(0, 0)]),
  (1, 1, .iconst 0, [(0, 0)]),
  (2, 3, .putfield 114, [(8, 4)]),
  (5, 1, .aload_n 0, [(0, 0)]),
  (6, 1, .aload_n 0, [(0, 0)]),
  (7, 3, .getfield 21, [(8, 0)]),
  (10, 3, .getfield 44, [(7, 2)]),
  (13, 3, .putfield 117, [(8, 5)]),
  (16, 1, .aload_n 0, [(0, 0)]),
  (17, 1, .aload_n 0, [(0, 0)]),
  (18, 1, .aload_n 0, [(0, 0)]),
  (19, 3, .getfield 21, [(8, 0)]),
  (22, 3, .getfield 29, [(7, 0)]),
  (25, 3, .getfield 35, [(4, 7)]),
  (28, 1, .aload_n 0, [(0, 0)]),
  (29, 3, .getfield 21, [(8, 0)]),
  (32, 3, .getfield 29, [(7, 0)]),
  (35, 3, .getfield 41, [(4, 2)]),
  (38, 1, .iconst 0, [(0, 0)]),
  (39, 1, .iaload, []),
  (40, 2, .bipush 26, [(26, 0)]),
  (42, 1, .isub, []),
  (43, 1, .iaload, []),
  (44, 1, .aload_n 0, [(0, 0)]),
  (45, 3, .getfield 114, [(8, 4)]),
  (48, 1, .aload_n 0, [(0, 0)]),
  (49, 3, .getfield 117, [(8, 5)]),
  (52, 3, .invokevirtual 48, [(90, 3), (1, 0), (8, 0)]),
  (55, 3, .putfield 120, [(8, 3)]),
  (58, 1, .lload_n 1, [(1, 0)]),
  (59, 1, .lstore_n 3, [(3, 0)]),
  (60, 1, .iconst 0, [(0, 0)]),
  (61, 2, .istore 5, []),
  (63, 0, .nop, [(0, 3), (3, 2), (5, 1)]),
  (63, 2, .iload 5, []),
  (65, 3, .sipush 1092, [(1092, 0)]),
  (68, 3, .if_icmp .ge 31, [(99, 0)]),
  (71, 1, .lload_n 3, [(3, 0)]),
  (72, 1, .lconst 0, [(0, 0)]),
  (73, 1, .lcmp, []),
  (74, 3, .ifCond .le 25, [(99, 0)]),
  (77, 1, .aload_n 0, [(0, 0)]),
  (78, 3, .getfield 120, [(8, 3)]),
  (81, 1, .iconst (-1), [(1, 1)]),
  (82, 3, .if_icmp .eq 17, [(99, 0)]),
  (85, 1, .aload_n 0, [(0, 0)]),
  (86, 1, .lload_n 3, [(3, 0)]),
  (87, 1, .lconst 1, [(1, 0)]),
  (88, 1, .lsub, []),
  (89, 3, .invokevirtual 123, [(94, 1), (2, 0), (8, 0)]),
  (92, 1, .lstore_n 3, [(3, 0)]),
  (93, 3, .iinc 5 1, [(1, 0)]),
  (96, 3, .goto (-33), [(63, 0)]),
  (99, 1, .return_, [])]
/-- PackedForest$Sizes.seek (J)V -/
def zt93 : zzT := (⟨"PackedForest$Sizes", "seek", "(J)V"⟩, prog_10_method_10_code, 6, none, 0, zr93)
def zr94 : List zzI := [(0, 1, .aload_n 0, [(0, 0)]),
  (1, 1, .aload_n 0, [(0, 0)]),
  (2, 3, .getfield 120, [(8, 3)]),
  (5, 1, .aload_n 0, [(0, 0)]),
  (6, 3, .getfield 114, [(8, 4)]),
  (9, 1, .aload_n 0, [(0, 0)]),
  (10, 3, .getfield 117, [(8, 5)]),
  (13, 3, .invokevirtual 93, [(91, 3), (0, 0), (8, 0)]),
  (16, 1, .lload_n 1, [(1, 0)]),
  (17, 1, .lstore_n 3, [(3, 0)]),
  (18, 1, .aload_n 0, [(0, 0)]),
  (19, 3, .getfield 114, [(8, 4)]),
  (22, 2, .istore 5, []),
  (24, 1, .iconst 0, [(0, 0)]),
  (25, 2, .istore 6, []),
  (27, 0, .nop, [(0, 3), (3, 2), (5, 1), (6, 1)]),
  (27, 2, .iload 6, []),
  (29, 1, .aload_n 0, [(0, 0)]),
  (30, 3, .getfield 21, [(8, 0)]),
  (33, 3, .getfield 29, [(7, 0)]),
  (36, 3, .getfield 76, [(4, 3)]),
  (39, 1, .aload_n 0, [(0, 0)]),
  (40, 3, .getfield 120, [(8, 3)]),
  (43, 1, .iaload, []),
  (44, 3, .if_icmp .ge 105, [(149, 0)]),
  (47, 1, .aload_n 0, [(0, 0)]),
  (48, 2, .iload 6, []),
  (50, 2, .iload 5, []),
  (52, 3, .invokevirtual 127, [(95, 2), (1, 0), (8, 0)]),
  (55, 2, .istore 7, []),
  (57, 1, .aload_n 0, [(0, 0)]),
  (58, 3, .getfield 15, [(8, 7)]),
  (61, 1, .aload_n 0, [(0, 0)]),
  (62, 3, .getfield 120, [(8, 3)]),
  (65, 1, .iconst 4, [(4, 0)]),
  (66, 1, .imul, []),
  (67, 2, .iload 6, []),
  (69, 1, .iadd, []),
  (70, 2, .bipush 91, [(91, 0)]),
  (72, 1, .imul, []),
  (73, 2, .iload 5, []),
  (75, 2, .iload 7, []),
  (77, 3, .invokestatic 54, [(135, 2), (1, 0)]),
  (80, 1, .iadd, []),
  (81, 1, .laload, []),
  (82, 2, .lstore 8, []),
  (84, 1, .lload_n 3, [(3, 0)]),
  (85, 2, .lload 8, []),
  (87, 1, .lcmp, []),
  (88, 3, .ifCond .ge 46, [(134, 0)]),
  (91, 1, .aload_n 0, [(0, 0)]),
  (92, 1, .aload_n 0, [(0, 0)]),
  (93, 1, .aload_n 0, [(0, 0)]),
  (94, 3, .getfield 25, [(8, 1)]),
  (97, 1, .aload_n 0, [(0, 0)]),
  (98, 3, .getfield 120, [(8, 3)]),
  (101, 2, .iload 6, []),
  (103, 2, .iload 5, []),
  (105, 2, .iload 7, []),
  (107, 3, .invokevirtual 130, [(55, 4), (1, 0), (0, 0)]),
  (110, 2, .iload 5, []),
  (112, 2, .iload 7, []),
  (114, 3, .invokevirtual 48, [(90, 3), (1, 0), (8, 0)]),
  (117, 3, .putfield 120, [(8, 3)]),
  (120, 1, .aload_n 0, [(0, 0)]),
  (121, 2, .iload 5, []),
  (123, 3, .putfield 114, [(8, 4)]),
  (126, 1, .aload_n 0, [(0, 0)]),
  (127, 2, .iload 7, []),
  (129, 3, .putfield 117, [(8, 5)]),
  (132, 1, .lload_n 3, [(3, 0)]),
  (133, 1, .lreturn, []),
  (134, 1, .lload_n 3, [(3, 0)]),
  (135, 2, .lload 8, []),
  (137, 1, .lsub, []),
  (138, 1, .lstore_n 3, [(3, 0)]),
  (139, 2, .iload 7, []),
  (141, 2, .istore 5, []),
  (143, 3, .iinc 6 1, [(1, 0)]),
  (146, 3, .goto (-119), [(27, 0)]),
  (149, 1, .lconst 0, [(0, 0)]),
  (150, 1, .lreturn, [])]
/-- PackedForest$Sizes.goDown (J)J -/
def zt94 : zzT := (⟨"PackedForest$Sizes", "goDown", "(J)J"⟩, prog_10_method_11_code, 10, (some .long), 2, zr94)
def zr95 : List zzI := [(0, 1, .aload_n 0, [(0, 0)]),
  (1, 3, .getfield 18, [(8, 8)]),
  (4, 1, .iload_n 1, [(1, 0)]),
  (5, 2, .bipush 13, [(13, 0)]),
  (7, 1, .imul, []),
  (8, 1, .iload_n 2, [(2, 0)]),
  (9, 1, .iadd, []),
  (10, 1, .laload, []),
  (11, 1, .lstore_n 3, [(3, 0)]),
  (12, 1, .aload_n 0, [(0, 0)]),
  (13, 3, .getfield 120, [(8, 3)]),
  (16, 1, .iconst 4, [(4, 0)]),
  (17, 1, .imul, []),
  (18, 1, .iload_n 1, [(1, 0)]),
  (19, 1, .iadd, []),
  (20, 2, .bipush 91, [(91, 0)]),
  (22, 1, .imul, []),
  (23, 2, .istore 5, []),
  (25, 1, .iload_n 2, [(2, 0)]),
  (26, 2, .istore 6, []),
  (28, 0, .nop, [(0, 3), (1, 1), (2, 1), (3, 2), (5, 1), (6, 1)]),
  (28, 2, .iload 6, []),
  (30, 1, .aload_n 0, [(0, 0)]),
  (31, 3, .getfield 117, [(8, 5)]),
  (34, 3, .if_icmp .ge 46, [(80, 0)]),
  (37, 1, .aload_n 0, [(0, 0)]),
  (38, 3, .getfield 18, [(8, 8)]),
  (41, 1, .iload_n 1, [(1, 0)]),
  (42, 1, .iconst 1, [(1, 0)]),
  (43, 1, .iadd, []),
  (44, 2, .bipush 13, [(13, 0)]),
  (46, 1, .imul, []),
  (47, 2, .iload 6, []),
  (49, 1, .iadd, []),
  (50, 1, .laload, []),
  (51, 1, .aload_n 0, [(0, 0)]),
  (52, 3, .getfield 15, [(8, 7)]),
  (55, 2, .iload 5, []),
  (57, 1, .iload_n 2, [(2, 0)]),
  (58, 2, .iload 6, []),
  (60, 3, .invokestatic 54, [(135, 2), (1, 0)]),
  (63, 1, .iadd, []),
  (64, 1, .laload, []),
  (65, 1, .ladd, []),
  (66, 1, .lload_n 3, [(3, 0)]),
  (67, 1, .lcmp, []),
  (68, 3, .ifCond .ne 6, [(74, 0)]),
  (71, 2, .iload 6, []),
  (73, 1, .ireturn, []),
  (74, 3, .iinc 6 1, [(1, 0)]),
  (77, 3, .goto (-49), [(28, 0)]),
  (80, 1, .aload_n 0, [(0, 0)]),
  (81, 3, .getfield 117, [(8, 5)]),
  (84, 1, .ireturn, [])]
/-- PackedForest$Sizes.firstEnd (II)I -/
def zt95 : zzT := (⟨"PackedForest$Sizes", "firstEnd", "(II)I"⟩, prog_10_method_12_code, 7, (some .int), 1, zr95)
def zr96 : List zzI := [(0, 1, .iconst 0, [(0, 0)]),
  (1, 1, .istore_n 1, [(1, 0)]),
  (2, 1, .iconst 0, [(0, 0)]),
  (3, 1, .istore_n 2, [(2, 0)]),
  (4, 0, .nop, [(0, 3), (1, 1), (2, 1)]),
  (4, 1, .iload_n 2, [(2, 0)]),
  (5, 1, .iconst 0, [(0, 0)]),
  (6, 1, .aload_n 0, [(0, 0)]),
  (7, 3, .getfield 21, [(3, 0)]),
  (10, 3, .getfield 29, [(7, 2)]),
  (13, 1, .iconst 1, [(1, 0)]),
  (14, 1, .iadd, []),
  (15, 3, .invokestatic 35, [(135, 2), (1, 0)]),
  (18, 3, .if_icmp .ge 21, [(39, 0)]),
  (21, 1, .iload_n 1, [(1, 0)]),
  (22, 1, .aload_n 0, [(0, 0)]),
  (23, 3, .getfield 9, [(3, 4)]),
  (26, 1, .iload_n 2, [(2, 0)]),
  (27, 1, .iaload, []),
  (28, 3, .invokestatic 39, [(3, 1), (1, 0)]),
  (31, 1, .iadd, []),
  (32, 1, .istore_n 1, [(1, 0)]),
  (33, 3, .iinc 2 1, [(1, 0)]),
  (36, 3, .goto (-32), [(4, 0)]),
  (39, 1, .iload_n 1, [(1, 0)]),
  (40, 1, .ireturn, [])]
/-- PackedForest$Forest.howManyPieces ()I -/
def zt96 : zzT := (⟨"PackedForest$Forest", "howManyPieces", "()I"⟩, prog_5_method_2_code, 3, (some .int), 1, zr96)
def zr97 : List zzI := [(0, 1, .aload_n 0, [(0, 0)]),
  (1, 3, .getfield 45, [(3, 2)]),
  (4, 3, .ifCond .eq 4, [(8, 0)]),
  (7, 1, .return_, []),
  (8, 1, .aload_n 0, [(0, 0)]),
  (9, 3, .getfield 25, [(3, 1)]),
  (12, 3, .invokevirtual 49, [(58, 0), (0, 0), (0, 0)]),
  (15, 1, .aload_n 0, [(0, 0)]),
  (16, 3, .getfield 9, [(3, 4)]),
  (19, 1, .iconst 0, [(0, 0)]),
  (20, 3, .invokestatic 54, [(5, 2), (0, 0)]),
  (23, 1, .aload_n 0, [(0, 0)]),
  (24, 3, .getfield 21, [(3, 0)]),
  (27, 3, .getfield 59, [(7, 0)]),
  (30, 3, .getfield 63, [(4, 2)]),
  (33, 1, .iconst 0, [(0, 0)]),
  (34, 1, .iaload, []),
  (35, 2, .bipush 26, [(26, 0)]),
  (37, 1, .isub, []),
  (38, 1, .istore_n 1, [(1, 0)]),
  (39, 1, .aload_n 0, [(0, 0)]),
  (40, 3, .getfield 9, [(3, 4)]),
  (43, 1, .iconst 0, [(0, 0)]),
  (44, 1, .aload_n 0, [(0, 0)]),
  (45, 3, .getfield 21, [(3, 0)]),
  (48, 3, .getfield 29, [(7, 2)]),
  (51, 3, .invokestatic 35, [(135, 2), (1, 0)]),
  (54, 1, .aload_n 0, [(0, 0)]),
  (55, 3, .getfield 25, [(3, 1)]),
  (58, 1, .iconst 0, [(0, 0)]),
  (59, 1, .aload_n 0, [(0, 0)]),
  (60, 3, .getfield 21, [(3, 0)]),
  (63, 3, .getfield 29, [(7, 2)]),
  (66, 3, .invokevirtual 68, [(52, 2), (1, 0), (0, 0)]),
  (69, 1, .aload_n 0, [(0, 0)]),
  (70, 3, .getfield 21, [(3, 0)]),
  (73, 3, .getfield 59, [(7, 0)]),
  (76, 3, .getfield 71, [(4, 7)]),
  (79, 1, .iload_n 1, [(1, 0)]),
  (80, 1, .iaload, []),
  (81, 1, .iand, []),
  (82, 1, .iastore, []),
  (83, 1, .aload_n 0, [(0, 0)]),
  (84, 3, .getfield 21, [(3, 0)]),
  (87, 3, .getfield 29, [(7, 2)]),
  (90, 1, .istore_n 2, [(2, 0)]),
  (91, 0, .nop, [(0, 3), (2, 1)]),
  (91, 1, .iload_n 2, [(2, 0)]),
  (92, 3, .ifCond .lt 38, [(130, 0)]),
  (95, 1, .iconst 0, [(0, 0)]),
  (96, 1, .istore_n 3, [(3, 0)]),
  (97, 0, .nop, [(0, 3), (2, 1), (3, 1)]),
  (97, 1, .iload_n 3, [(3, 0)]),
  (98, 1, .iload_n 2, [(2, 0)]),
  (99, 1, .iadd, []),
  (100, 1, .aload_n 0, [(0, 0)]),
  (101, 3, .getfield 21, [(3, 0)]),
  (104, 3, .getfield 29, [(7, 2)]),
  (107, 3, .if_icmp .gt 17, [(124, 0)]),
  (110, 1, .aload_n 0, [(0, 0)]),
  (111, 1, .iload_n 3, [(3, 0)]),
  (112, 1, .iload_n 3, [(3, 0)]),
  (113, 1, .iload_n 2, [(2, 0)]),
  (114, 1, .iadd, []),
  (115, 3, .invokevirtual 74, [(98, 2), (0, 0), (3, 0)]),
  (118, 3, .iinc 3 1, [(1, 0)]),
  (121, 3, .goto (-24), [(97, 0)]),
  (124, 3, .iinc 2 (-1), [(1, 1)]),
  (127, 3, .goto (-36), [(91, 0)]),
  (130, 1, .aload_n 0, [(0, 0)]),
  (131, 1, .iconst 1, [(1, 0)]),
  (132, 3, .putfield 45, [(3, 2)]),
  (135, 1, .aload_n 0, [(0, 0)]),
  (136, 1, .iconst 0, [(0, 0)]),
  (137, 3, .putfield 78, [(3, 3)]),
  (140, 1, .return_, [])]
/-- PackedForest$Forest.find ()V -/
def zt97 : zzT := (⟨"PackedForest$Forest", "find", "()V"⟩, prog_5_method_3_code, 4, none, 0, zr97)
def zr98 : List zzI := [(0, 1, .iconst 0, [(0, 0)]),
  (1, 1, .istore_n 3, [(3, 0)]),
  (2, 1, .iconst (-1), [(1, 1)]),
  (3, 2, .istore 4, []),
  (5, 1, .iconst 0, [(0, 0)]),
  (6, 2, .istore 5, []),
  (8, 0, .nop, [(0, 3), (1, 1), (2, 1), (3, 1), (4, 1), (5, 1)]),
  (8, 2, .iload 5, []),
  (10, 2, .bipush 12, [(12, 0)]),
  (12, 3, .if_icmp .gt 79, [(91, 0)]),
  (15, 2, .iload 4, []),
  (17, 1, .iload_n 3, [(3, 0)]),
  (18, 3, .if_icmp .eq 73, [(91, 0)]),
  (21, 1, .iload_n 3, [(3, 0)]),
  (22, 2, .istore 4, []),
  (24, 1, .iconst 0, [(0, 0)]),
  (25, 2, .istore 6, []),
  (27, 0, .nop, [(0, 3), (1, 1), (2, 1), (3, 1), (4, 1), (5, 1), (6, 1)]),
  (27, 2, .iload 6, []),
  (29, 1, .aload_n 0, [(0, 0)]),
  (30, 3, .getfield 21, [(3, 0)]),
  (33, 3, .getfield 59, [(7, 0)]),
  (36, 3, .getfield 81, [(4, 0)]),
  (39, 3, .if_icmp .ge 46, [(85, 0)]),
  (42, 1, .aload_n 0, [(0, 0)]),
  (43, 3, .getfield 9, [(3, 4)]),
  (46, 1, .iload_n 1, [(1, 0)]),
  (47, 1, .iload_n 2, [(2, 0)]),
  (48, 3, .invokestatic 35, [(135, 2), (1, 0)]),
  (51, 1, .iaload, []),
  (52, 1, .iload_n 3, [(3, 0)]),
  (53, 1, .iconst (-1), [(1, 1)]),
  (54, 1, .ixor, []),
  (55, 1, .iand, []),
  (56, 2, .iload 6, []),
  (58, 1, .ishr, []),
  (59, 1, .iconst 1, [(1, 0)]),
  (60, 1, .iand, []),
  (61, 3, .ifCond .eq 18, [(79, 0)]),
  (64, 1, .iload_n 3, [(3, 0)]),
  (65, 1, .iconst 1, [(1, 0)]),
  (66, 2, .iload 6, []),
  (68, 1, .ishl, []),
  (69, 1, .ior, []),
  (70, 1, .istore_n 3, [(3, 0)]),
  (71, 1, .aload_n 0, [(0, 0)]),
  (72, 2, .iload 6, []),
  (74, 1, .iload_n 1, [(1, 0)]),
  (75, 1, .iload_n 2, [(2, 0)]),
  (76, 3, .invokevirtual 84, [(99, 3), (0, 0), (3, 0)]),
  (79, 3, .iinc 6 1, [(1, 0)]),
  (82, 3, .goto (-55), [(27, 0)]),
  (85, 3, .iinc 5 1, [(1, 0)]),
  (88, 3, .goto (-80), [(8, 0)]),
  (91, 1, .return_, [])]
/-- PackedForest$Forest.spread (II)V -/
def zt98 : zzT := (⟨"PackedForest$Forest", "spread", "(II)V"⟩, prog_5_method_4_code, 7, none, 0, zr98)
def zr99 : List zzI := [(0, 1, .aload_n 0, [(0, 0)]),
  (1, 3, .getfield 21, [(3, 0)]),
  (4, 3, .getfield 59, [(7, 0)]),
  (7, 3, .getfield 88, [(4, 3)]),
  (10, 1, .iload_n 1, [(1, 0)]),
  (11, 1, .iaload, []),
  (12, 2, .istore 4, []),
  (14, 1, .aload_n 0, [(0, 0)]),
  (15, 1, .iload_n 1, [(1, 0)]),
  (16, 1, .iload_n 2, [(2, 0)]),
  (17, 1, .iload_n 3, [(3, 0)]),
  (18, 3, .invokevirtual 91, [(100, 3), (0, 0), (3, 0)]),
  (21, 1, .aload_n 0, [(0, 0)]),
  (22, 3, .getfield 15, [(3, 8)]),
  (25, 1, .iconst 0, [(0, 0)]),
  (26, 1, .iconst 1, [(1, 0)]),
  (27, 1, .iload_n 2, [(2, 0)]),
  (28, 1, .ishl, []),
  (29, 1, .iastore, []),
  (30, 1, .iconst 0, [(0, 0)]),
  (31, 2, .istore 5, []),
  (33, 0, .nop, [(0, 3), (1, 1), (2, 1), (3, 1), (4, 1), (5, 1)]),
  (33, 2, .iload 5, []),
  (35, 2, .iload 4, []),
  (37, 3, .if_icmp .ge 63, [(100, 0)]),
  (40, 1, .aload_n 0, [(0, 0)]),
  (41, 3, .getfield 15, [(3, 8)]),
  (44, 2, .iload 5, []),
  (46, 1, .iconst 1, [(1, 0)]),
  (47, 1, .iadd, []),
  (48, 1, .aload_n 0, [(0, 0)]),
  (49, 3, .getfield 25, [(3, 1)]),
  (52, 1, .iload_n 1, [(1, 0)]),
  (53, 2, .iload 5, []),
  (55, 1, .aload_n 0, [(0, 0)]),
  (56, 3, .getfield 15, [(3, 8)]),
  (59, 2, .iload 5, []),
  (61, 1, .iaload, []),
  (62, 1, .iload_n 3, [(3, 0)]),
  (63, 3, .invokevirtual 94, [(65, 4), (1, 0), (0, 0)]),
  (66, 1, .iastore, []),
  (67, 1, .aload_n 0, [(0, 0)]),
  (68, 3, .getfield 21, [(3, 0)]),
  (71, 3, .getfield 59, [(7, 0)]),
  (74, 1, .iload_n 1, [(1, 0)]),
  (75, 2, .iload 5, []),
  (77, 3, .invokevirtual 98, [(6, 2), (1, 0), (4, 0)]),
  (80, 2, .bipush 26, [(26, 0)]),
  (82, 3, .if_icmp .lt 12, [(94, 0)]),
  (85, 1, .aload_n 0, [(0, 0)]),
  (86, 1, .iload_n 1, [(1, 0)]),
  (87, 2, .iload 5, []),
  (89, 1, .iload_n 2, [(2, 0)]),
  (90, 1, .iload_n 3, [(3, 0)]),
  (91, 3, .invokevirtual 101, [(101, 4), (0, 0), (3, 0)]),
  (94, 3, .iinc 5 1, [(1, 0)]),
  (97, 3, .goto (-64), [(33, 0)]),
  (100, 1, .return_, [])]
/-- PackedForest$Forest.markBelow (III)V -/
def zt99 : zzT := (⟨"PackedForest$Forest", "markBelow", "(III)V"⟩, prog_5_method_5_code, 6, none, 0, zr99)
def zr100 : List zzI := [(0, 1, .aload_n 0, [(0, 0)]),
  (1, 3, .getfield 21, [(3, 0)]),
  (4, 3, .getfield 59, [(7, 0)]),
  (7, 3, .getfield 88, [(4, 3)]),
  (10, 1, .iload_n 1, [(1, 0)]),
  (11, 1, .iaload, []),
  (12, 2, .istore 4, []),
  (14, 1, .aload_n 0, [(0, 0)]),
  (15, 3, .getfield 18, [(3, 9)]),
  (18, 2, .iload 4, []),
  (20, 1, .iconst 1, [(1, 0)]),
  (21, 1, .iload_n 3, [(3, 0)]),
  (22, 1, .ishl, []),
  (23, 1, .iastore, []),
  (24, 2, .iload 4, []),
  (26, 1, .iconst 1, [(1, 0)]),
  (27, 1, .isub, []),
  (28, 2, .istore 5, []),
  (30, 0, .nop, [(0, 3), (1, 1), (2, 1), (3, 1), (5, 1)]),
  (30, 2, .iload 5, []),
  (32, 3, .ifCond .lt 72, [(104, 0)]),
  (35, 1, .aload_n 0, [(0, 0)]),
  (36, 3, .getfield 18, [(3, 9)]),
  (39, 2, .iload 5, []),
  (41, 1, .iconst 0, [(0, 0)]),
  (42, 1, .iastore, []),
  (43, 1, .iload_n 2, [(2, 0)]),
  (44, 2, .istore 6, []),
  (46, 0, .nop, [(0, 3), (1, 1), (2, 1), (3, 1), (5, 1), (6, 1)]),
  (46, 2, .iload 6, []),
  (48, 1, .iload_n 3, [(3, 0)]),
  (49, 3, .if_icmp .gt 49, [(98, 0)]),
  (52, 1, .aload_n 0, [(0, 0)]),
  (53, 3, .getfield 25, [(3, 1)]),
  (56, 1, .iload_n 1, [(1, 0)]),
  (57, 2, .iload 5, []),
  (59, 2, .iload 6, []),
  (61, 1, .iload_n 3, [(3, 0)]),
  (62, 3, .invokevirtual 105, [(56, 4), (1, 0), (0, 0)]),
  (65, 1, .aload_n 0, [(0, 0)]),
  (66, 3, .getfield 18, [(3, 9)]),
  (69, 2, .iload 5, []),
  (71, 1, .iconst 1, [(1, 0)]),
  (72, 1, .iadd, []),
  (73, 1, .iaload, []),
  (74, 1, .iand, []),
  (75, 3, .ifCond .eq 17, [(92, 0)]),
  (78, 1, .aload_n 0, [(0, 0)]),
  (79, 3, .getfield 18, [(3, 9)]),
  (82, 2, .iload 5, []),
  (84, 1, .dup2, []),
  (85, 1, .iaload, []),
  (86, 1, .iconst 1, [(1, 0)]),
  (87, 2, .iload 6, []),
  (89, 1, .ishl, []),
  (90, 1, .ior, []),
  (91, 1, .iastore, []),
  (92, 3, .iinc 6 1, [(1, 0)]),
  (95, 3, .goto (-49), [(46, 0)]),
  (98, 3, .iinc 5 (-1), [(1, 1)]),
  (101, 3, .goto (-71), [(30, 0)]),
  (104, 1, .return_, [])]
/-- PackedForest$Forest.findHopeful (III)V -/
def zt100 : zzT := (⟨"PackedForest$Forest", "findHopeful", "(III)V"⟩, prog_5_method_6_code, 7, none, 0, zr100)
def zr101 : List zzI := [(0, 1, .iload_n 3, [(3, 0)]),
  (1, 2, .istore 5, []),
  (3, 0, .nop, [(0, 3), (1, 1), (2, 1), (4, 1), (5, 1)]),
  (3, 2, .iload 5, []),
  (5, 2, .iload 4, []),
  (7, 3, .if_icmp .gt 114, [(121, 0)]),
  (10, 1, .aload_n 0, [(0, 0)]),
  (11, 3, .getfield 15, [(3, 8)]),
  (14, 1, .iload_n 2, [(2, 0)]),
  (15, 1, .iaload, []),
  (16, 2, .iload 5, []),
  (18, 1, .ishr, []),
  (19, 1, .iconst 1, [(1, 0)]),
  (20, 1, .iand, []),
  (21, 3, .ifCond .ne 7, [(28, 0)]),
  (24, 1, .iconst 0, [(0, 0)]),
  (25, 3, .goto 25, [(50, 0)]),
  (28, 1, .aload_n 0, [(0, 0)]),
  (29, 3, .getfield 25, [(3, 1)]),
  (32, 1, .iload_n 1, [(1, 0)]),
  (33, 1, .iload_n 2, [(2, 0)]),
  (34, 2, .iload 5, []),
  (36, 2, .iload 4, []),
  (38, 3, .invokevirtual 105, [(56, 4), (1, 0), (0, 0)]),
  (41, 1, .aload_n 0, [(0, 0)]),
  (42, 3, .getfield 18, [(3, 9)]),
  (45, 1, .iload_n 2, [(2, 0)]),
  (46, 1, .iconst 1, [(1, 0)]),
  (47, 1, .iadd, []),
  (48, 1, .iaload, []),
  (49, 1, .iand, []),
  (50, 2, .istore 6, []),
  (52, 2, .iload 5, []),
  (54, 2, .istore 7, []),
  (56, 0, .nop, [(0, 3), (1, 1), (2, 1), (4, 1), (5, 1), (6, 1), (7, 1)]),
  (56, 2, .iload 7, []),
  (58, 2, .iload 4, []),
  (60, 3, .if_icmp .gt 55, [(115, 0)]),
  (63, 2, .iload 6, []),
  (65, 2, .iload 7, []),
  (67, 1, .ishr, []),
  (68, 3, .ifCond .eq 47, [(115, 0)]),
  (71, 2, .iload 6, []),
  (73, 2, .iload 7, []),
  (75, 1, .ishr, []),
  (76, 1, .iconst 1, [(1, 0)]),
  (77, 1, .iand, []),
  (78, 3, .ifCond .eq 31, [(109, 0)]),
  (81, 1, .aload_n 0, [(0, 0)]),
  (82, 3, .getfield 9, [(3, 4)]),
  (85, 2, .iload 5, []),
  (87, 2, .iload 7, []),
  (89, 3, .invokestatic 35, [(135, 2), (1, 0)]),
  (92, 1, .dup2, []),
  (93, 1, .iaload, []),
  (94, 1, .aload_n 0, [(0, 0)]),
  (95, 3, .getfield 25, [(3, 1)]),
  (98, 1, .iload_n 1, [(1, 0)]),
  (99, 1, .iload_n 2, [(2, 0)]),
  (100, 2, .iload 5, []),
  (102, 2, .iload 7, []),
  (104, 3, .invokevirtual 108, [(55, 4), (1, 0), (0, 0)]),
  (107, 1, .ior, []),
  (108, 1, .iastore, []),
  (109, 3, .iinc 7 1, [(1, 0)]),
  (112, 3, .goto (-56), [(56, 0)]),
  (115, 3, .iinc 5 1, [(1, 0)]),
  (118, 3, .goto (-115), [(3, 0)]),
  (121, 1, .return_, [])]
/-- PackedForest$Forest.markPart (IIII)V -/
def zt101 : zzT := (⟨"PackedForest$Forest", "markPart", "(IIII)V"⟩, prog_5_method_7_code, 8, none, 0, zr101)
def zr102 : List zzI := [(0, 1, .aload_n 0, [(0, 0)]),
  (1, 3, .getfield 78, [(3, 3)]),
  (4, 3, .ifCond .eq 4, [(8, 0)]),
  (7, 1, .return_, []),
  (8, 1, .aload_n 0, [(0, 0)]),
  (9, 1, .iconst 0, [(0, 0)]),
  (10, 3, .putfield 111, [(3, 5)]),
  (13, 1, .aload_n 0, [(0, 0)]),
  (14, 1, .iconst 0, [(0, 0)]),
  (15, 3, .putfield 114, [(3, 6)]),
  (18, 1, .aload_n 0, [(0, 0)]),
  (19, 2, .bipush (-2), [(2, 1)]),
  (21, 3, .putfield 117, [(3, 7)]),
  (24, 1, .iconst 0, [(0, 0)]),
  (25, 1, .istore_n 1, [(1, 0)]),
  (26, 0, .nop, [(0, 3), (1, 1)]),
  (26, 1, .iload_n 1, [(1, 0)]),
  (27, 1, .aload_n 0, [(0, 0)]),
  (28, 3, .getfield 21, [(3, 0)]),
  (31, 3, .getfield 29, [(7, 2)]),
  (34, 3, .if_icmp .gt 38, [(72, 0)]),
  (37, 1, .iconst 0, [(0, 0)]),
  (38, 1, .istore_n 2, [(2, 0)]),
  (39, 0, .nop, [(0, 3), (1, 1), (2, 1)]),
  (39, 1, .iload_n 2, [(2, 0)]),
  (40, 1, .iload_n 1, [(1, 0)]),
  (41, 1, .iadd, []),
  (42, 1, .aload_n 0, [(0, 0)]),
  (43, 3, .getfield 21, [(3, 0)]),
  (46, 3, .getfield 29, [(7, 2)]),
  (49, 3, .if_icmp .gt 17, [(66, 0)]),
  (52, 1, .aload_n 0, [(0, 0)]),
  (53, 1, .iload_n 2, [(2, 0)]),
  (54, 1, .iload_n 2, [(2, 0)]),
  (55, 1, .iload_n 1, [(1, 0)]),
  (56, 1, .iadd, []),
  (57, 3, .invokevirtual 120, [(103, 2), (0, 0), (3, 0)]),
  (60, 3, .iinc 2 1, [(1, 0)]),
  (63, 3, .goto (-24), [(39, 0)]),
  (66, 3, .iinc 1 1, [(1, 0)]),
  (69, 3, .goto (-43), [(26, 0)]),
  (72, 1, .aload_n 0, [(0, 0)]),
  (73, 1, .iconst 1, [(1, 0)]),
  (74, 3, .putfield 78, [(3, 3)]),
  (77, 1, .return_, [])]
/-- PackedForest$Forest.tally ()V -/
def zt102 : zzT := (⟨"PackedForest$Forest", "tally", "()V"⟩, prog_5_method_8_code, 3, none, 0, zr102)
def zr103 : List zzI := [(0, 1, .aload_n 0, [(0, 0)]),
  (1, 3, .getfield 9, [(3, 4)]),
  (4, 1, .iload_n 1, [(1, 0)]),
  (5, 1, .iload_n 2, [(2, 0)]),
  (6, 3, .invokestatic 35, [(135, 2), (1, 0)]),
  (9, 1, .iaload, []),
  (10, 1, .istore_n 3, [(3, 0)]),
  (11, 1, .iconst 0, [(0, 0)]),
  (12, 2, .istore 4, []),
  (14, 0, .nop, [(0, 3), (1, 1), (2, 1), (3, 1), (4, 1)]),
  (14, 2, .iload 4, []),
  (16, 2, .bipush 26, [(26, 0)]),
  (18, 3, .if_icmp .ge 95, [(113, 0)]),
  (21, 1, .iload_n 3, [(3, 0)]),
  (22, 3, .ifCond .eq 91, [(113, 0)]),
  (25, 1, .iload_n 3, [(3, 0)]),
  (26, 1, .aload_n 0, [(0, 0)]),
  (27, 3, .getfield 21, [(3, 0)]),
  (30, 3, .getfield 59, [(7, 0)]),
  (33, 3, .getfield 71, [(4, 7)]),
  (36, 2, .iload 4, []),
  (38, 1, .iaload, []),
  (39, 1, .iand, []),
  (40, 2, .istore 5, []),
  (42, 2, .iload 5, []),
  (44, 3, .ifCond .eq 63, [(107, 0)]),
  (47, 1, .aload_n 0, [(0, 0)]),
  (48, 1, .dup, []),
  (49, 3, .getfield 111, [(3, 5)]),
  (52, 1, .iconst 1, [(1, 0)]),
  (53, 1, .iadd, []),
  (54, 3, .putfield 111, [(3, 5)]),
  (57, 1, .aload_n 0, [(0, 0)]),
  (58, 2, .iload 5, []),
  (60, 1, .iload_n 1, [(1, 0)]),
  (61, 1, .iload_n 2, [(2, 0)]),
  (62, 3, .invokevirtual 123, [(104, 3), (4, 0), (3, 0)]),
  (65, 3, .ifCond .eq 42, [(107, 0)]),
  (68, 1, .aload_n 0, [(0, 0)]),
  (69, 1, .dup, []),
  (70, 3, .getfield 114, [(3, 6)]),
  (73, 1, .iconst 1, [(1, 0)]),
  (74, 1, .iadd, []),
  (75, 3, .putfield 114, [(3, 6)]),
  (78, 1, .aload_n 0, [(0, 0)]),
  (79, 1, .aload_n 0, [(0, 0)]),
  (80, 3, .getfield 117, [(3, 7)]),
  (83, 2, .bipush (-2), [(2, 1)]),
  (85, 3, .if_icmp .ne 9, [(94, 0)]),
  (88, 1, .iload_n 2, [(2, 0)]),
  (89, 1, .iload_n 1, [(1, 0)]),
  (90, 1, .isub, []),
  (91, 3, .goto 13, [(104, 0)]),
  (94, 1, .aload_n 0, [(0, 0)]),
  (95, 3, .getfield 117, [(3, 7)]),
  (98, 1, .iload_n 2, [(2, 0)]),
  (99, 1, .iload_n 1, [(1, 0)]),
  (100, 1, .isub, []),
  (101, 3, .invokestatic 127, [(1, 2), (1, 0)]),
  (104, 3, .putfield 117, [(3, 7)]),
  (107, 3, .iinc 4 1, [(1, 0)]),
  (110, 3, .goto (-96), [(14, 0)]),
  (113, 1, .return_, [])]
/-- PackedForest$Forest.tallySpan (II)V -/
def zt103 : zzT := (⟨"PackedForest$Forest", "tallySpan", "(II)V"⟩, prog_5_method_9_code, 6, none, 0, zr103)
def zr104 : List zzI := [(0, 1, .iconst 0, [(0, 0)]),
  (1, 2, .istore 4, []),
  (3, 1, .iconst 0, [(0, 0)]),
  (4, 2, .istore 5, []),
  (6, 0, .nop, [(0, 3), (1, 1), (2, 1), (3, 1), (4, 1), (5, 1)]),
  (6, 2, .iload 5, []),
  (8, 1, .aload_n 0, [(0, 0)]),
  (9, 3, .getfield 21, [(3, 0)]),
  (12, 3, .getfield 59, [(7, 0)]),
  (15, 3, .getfield 81, [(4, 0)]),
  (18, 3, .if_icmp .ge 34, [(52, 0)]),
  (21, 1, .iload_n 1, [(1, 0)]),
  (22, 2, .iload 5, []),
  (24, 1, .ishr, []),
  (25, 1, .iconst 1, [(1, 0)]),
  (26, 1, .iand, []),
  (27, 3, .ifCond .eq 19, [(46, 0)]),
  (30, 2, .iload 4, []),
  (32, 1, .aload_n 0, [(0, 0)]),
  (33, 3, .getfield 25, [(3, 1)]),
  (36, 2, .iload 5, []),
  (38, 1, .iload_n 2, [(2, 0)]),
  (39, 1, .iload_n 3, [(3, 0)]),
  (40, 3, .invokevirtual 132, [(66, 3), (1, 0), (0, 0)]),
  (43, 1, .iadd, []),
  (44, 2, .istore 4, []),
  (46, 3, .iinc 5 1, [(1, 0)]),
  (49, 3, .goto (-43), [(6, 0)]),
  (52, 2, .iload 4, []),
  (54, 1, .iconst 1, [(1, 0)]),
  (55, 3, .if_icmp .le 7, [(62, 0)]),
  (58, 1, .iconst 1, [(1, 0)]),
  (59, 3, .goto 4, [(63, 0)]),
  (62, 1, .iconst 0, [(0, 0)]),
  (63, 1, .ireturn, [])]
/-- PackedForest$Forest.isAmbiguous (III)Z -/
def zt104 : zzT := (⟨"PackedForest$Forest", "isAmbiguous", "(III)Z"⟩, prog_5_method_10_code, 6, (some .boolean), 4, zr104)
def zr105 : List zzI := [(0, 1, .aload_n 0, [(0, 0)]),
  (1, 3, .getfield 22, [(6, 1)]),
  (4, 1, .istore_n 1, [(1, 0)]),
  (5, 0, .nop, [(0, 3), (1, 1)]),
  (5, 1, .iload_n 1, [(1, 0)]),
  (6, 1, .aload_n 0, [(0, 0)]),
  (7, 3, .getfield 18, [(6, 0)]),
  (10, 3, .getfield 26, [(7, 2)]),
  (13, 3, .if_icmp .gt 27, [(40, 0)]),
  (16, 1, .iload_n 1, [(1, 0)]),
  (17, 1, .istore_n 2, [(2, 0)]),
  (18, 0, .nop, [(0, 3), (1, 1), (2, 1)]),
  (18, 1, .iload_n 2, [(2, 0)]),
  (19, 3, .ifCond .lt 15, [(34, 0)]),
  (22, 1, .aload_n 0, [(0, 0)]),
  (23, 1, .iload_n 2, [(2, 0)]),
  (24, 1, .iload_n 1, [(1, 0)]),
  (25, 3, .invokevirtual 31, [(107, 2), (0, 0), (6, 0)]),
  (28, 3, .iinc 2 (-1), [(1, 1)]),
  (31, 3, .goto (-13), [(18, 0)]),
  (34, 3, .iinc 1 1, [(1, 0)]),
  (37, 3, .goto (-32), [(5, 0)]),
  (40, 1, .aload_n 0, [(0, 0)]),
  (41, 1, .aload_n 0, [(0, 0)]),
  (42, 3, .getfield 18, [(6, 0)]),
  (45, 3, .getfield 26, [(7, 2)]),
  (48, 1, .iconst 1, [(1, 0)]),
  (49, 1, .iadd, []),
  (50, 3, .putfield 22, [(6, 1)]),
  (53, 1, .return_, [])]
/-- PackedForest$Mender.fill ()V -/
def zt105 : zzT := (⟨"PackedForest$Mender", "fill", "()V"⟩, prog_8_method_2_code, 3, none, 0, zr105)
def zr106 : List zzI := [(0, 1, .aload_n 0, [(0, 0)]),
  (1, 3, .getfield 9, [(6, 2)]),
  (4, 1, .aload_n 0, [(0, 0)]),
  (5, 3, .getfield 18, [(6, 0)]),
  (8, 3, .getfield 35, [(7, 0)]),
  (11, 3, .getfield 39, [(4, 2)]),
  (14, 1, .iconst 0, [(0, 0)]),
  (15, 1, .iaload, []),
  (16, 2, .bipush 26, [(26, 0)]),
  (18, 1, .isub, []),
  (19, 2, .bipush 91, [(91, 0)]),
  (21, 1, .imul, []),
  (22, 1, .iconst 0, [(0, 0)]),
  (23, 1, .aload_n 0, [(0, 0)]),
  (24, 3, .getfield 18, [(6, 0)]),
  (27, 3, .getfield 26, [(7, 2)]),
  (30, 3, .invokestatic 44, [(135, 2), (1, 0)]),
  (33, 1, .iadd, []),
  (34, 1, .iaload, []),
  (35, 1, .ireturn, [])]
/-- PackedForest$Mender.wholeCost ()I -/
def zt106 : zzT := (⟨"PackedForest$Mender", "wholeCost", "()I"⟩, prog_8_method_3_code, 1, (some .int), 1, zr106)
def zr107 : List zzI := [(0, 1, .iload_n 1, [(1, 0)]),
  (1, 1, .iload_n 2, [(2, 0)]),
  (2, 3, .invokestatic 44, [(135, 2), (1, 0)]),
  (5, 1, .istore_n 3, [(3, 0)]),
  (6, 1, .iconst 0, [(0, 0)]),
  (7, 2, .istore 4, []),
  (9, 0, .nop, [(0, 3), (1, 1), (2, 1), (3, 1), (4, 1)]),
  (9, 2, .iload 4, []),
  (11, 2, .bipush 26, [(26, 0)]),
  (13, 3, .if_icmp .ge 23, [(36, 0)]),
  (16, 1, .aload_n 0, [(0, 0)]),
  (17, 3, .getfield 9, [(6, 2)]),
  (20, 2, .iload 4, []),
  (22, 2, .bipush 91, [(91, 0)]),
  (24, 1, .imul, []),
  (25, 1, .iload_n 3, [(3, 0)]),
  (26, 1, .iadd, []),
  (27, 2, .ldc 48, [(268435456, 0)]),
  (29, 1, .iastore, []),
  (30, 3, .iinc 4 1, [(1, 0)]),
  (33, 3, .goto (-24), [(9, 0)]),
  (36, 1, .iconst 1, [(1, 0)]),
  (37, 2, .istore 4, []),
  (39, 1, .iconst 0, [(0, 0)]),
  (40, 2, .istore 5, []),
  (42, 0, .nop, [(0, 3), (1, 1), (2, 1), (3, 1), (4, 1), (5, 1)]),
  (42, 2, .iload 5, []),
  (44, 3, .sipush 1000, [(1000, 0)]),
  (47, 3, .if_icmp .ge 127, [(174, 0)]),
  (50, 2, .iload 4, []),
  (52, 3, .ifCond .eq 122, [(174, 0)]),
  (55, 1, .iconst 0, [(0, 0)]),
  (56, 2, .istore 4, []),
  (58, 1, .iconst 0, [(0, 0)]),
  (59, 2, .istore 6, []),
  (61, 0, .nop, [(0, 3), (1, 1), (2, 1), (3, 1), (4, 1), (5, 1), (6, 1)]),
  (61, 2, .iload 6, []),
  (63, 1, .aload_n 0, [(0, 0)]),
  (64, 3, .getfield 18, [(6, 0)]),
  (67, 3, .getfield 35, [(7, 0)]),
  (70, 3, .getfield 49, [(4, 0)]),
  (73, 3, .if_icmp .ge 95, [(168, 0)]),
  (76, 1, .aload_n 0, [(0, 0)]),
  (77, 3, .getfield 18, [(6, 0)]),
  (80, 2, .iload 6, []),
  (82, 3, .invokevirtual 52, [(23, 1), (4, 0), (7, 0)]),
  (85, 3, .ifCond .eq 77, [(162, 0)]),
  (88, 1, .aload_n 0, [(0, 0)]),
  (89, 3, .getfield 18, [(6, 0)]),
  (92, 3, .getfield 35, [(7, 0)]),
  (95, 3, .getfield 39, [(4, 2)]),
  (98, 2, .iload 6, []),
  (100, 1, .iaload, []),
  (101, 2, .bipush 26, [(26, 0)]),
  (103, 1, .isub, []),
  (104, 2, .bipush 91, [(91, 0)]),
  (106, 1, .imul, []),
  (107, 1, .iload_n 3, [(3, 0)]),
  (108, 1, .iadd, []),
  (109, 2, .istore 7, []),
  (111, 1, .aload_n 0, [(0, 0)]),
  (112, 2, .iload 6, []),
  (114, 1, .iload_n 1, [(1, 0)]),
  (115, 1, .iload_n 2, [(2, 0)]),
  (116, 3, .invokevirtual 56, [(108, 3), (1, 0), (6, 0)]),
  (119, 2, .istore 8, []),
  (121, 2, .iload 4, []),
  (123, 2, .iload 8, []),
  (125, 1, .aload_n 0, [(0, 0)]),
  (126, 3, .getfield 9, [(6, 2)]),
  (129, 2, .iload 7, []),
  (131, 1, .iaload, []),
  (132, 3, .if_icmp .ge 7, [(139, 0)]),
  (135, 1, .iconst 1, [(1, 0)]),
  (136, 3, .goto 4, [(140, 0)]),
  (139, 1, .iconst 0, [(0, 0)]),
  (140, 1, .ior, []),
  (141, 2, .istore 4, []),
  (143, 1, .aload_n 0, [(0, 0)]),
  (144, 3, .getfield 9, [(6, 2)]),
  (147, 2, .iload 7, []),
  (149, 2, .iload 8, []),
  (151, 1, .aload_n 0, [(0, 0)]),
  (152, 3, .getfield 9, [(6, 2)]),
  (155, 2, .iload 7, []),
  (157, 1, .iaload, []),
  (158, 3, .invokestatic 60, [(1, 2), (1, 0)]),
  (161, 1, .iastore, []),
  (162, 3, .iinc 6 1, [(1, 0)]),
  (165, 3, .goto (-104), [(61, 0)]),
  (168, 3, .iinc 5 1, [(1, 0)]),
  (171, 3, .goto (-129), [(42, 0)]),
  (174, 1, .return_, [])]
/-- PackedForest$Mender.settle (II)V -/
def zt107 : zzT := (⟨"PackedForest$Mender", "settle", "(II)V"⟩, prog_8_method_4_code, 9, none, 0, zr107)
def zr108 : List zzI := [(0, 1, .aload_n 0, [(0, 0)]),
  (1, 3, .getfield 18, [(6, 0)]),
  (4, 3, .getfield 35, [(7, 0)]),
  (7, 3, .getfield 65, [(4, 3)]),
  (10, 1, .iload_n 1, [(1, 0)]),
  (11, 1, .iaload, []),
  (12, 2, .istore 4, []),
  (14, 2, .iload 4, []),
  (16, 3, .ifCond .ne 7, [(23, 0)]),
  (19, 1, .iload_n 3, [(3, 0)]),
  (20, 1, .iload_n 2, [(2, 0)]),
  (21, 1, .isub, []),
  (22, 1, .ireturn, []),
  (23, 1, .aload_n 0, [(0, 0)]),
  (24, 3, .getfield 15, [(6, 3)]),
  (27, 2, .ldc 48, [(268435456, 0)]),
  (29, 3, .invokestatic 68, [(5, 2), (0, 0)]),
  (32, 1, .aload_n 0, [(0, 0)]),
  (33, 3, .getfield 15, [(6, 3)]),
  (36, 1, .iload_n 2, [(2, 0)]),
  (37, 1, .iconst 0, [(0, 0)]),
  (38, 1, .iastore, []),
  (39, 1, .iconst 0, [(0, 0)]),
  (40, 2, .istore 5, []),
  (42, 0, .nop, [(0, 3), (1, 1), (2, 1), (3, 1), (4, 1), (5, 1)]),
  (42, 2, .iload 5, []),
  (44, 2, .iload 4, []),
  (46, 3, .if_icmp .ge 55, [(101, 0)]),
  (49, 1, .aload_n 0, [(0, 0)]),
  (50, 3, .getfield 18, [(6, 0)]),
  (53, 3, .getfield 35, [(7, 0)]),
  (56, 1, .iload_n 1, [(1, 0)]),
  (57, 2, .iload 5, []),
  (59, 3, .invokevirtual 74, [(6, 2), (1, 0), (4, 0)]),
  (62, 2, .istore 6, []),
  (64, 1, .iload_n 3, [(3, 0)]),
  (65, 2, .istore 7, []),
  (67, 0, .nop, [(0, 3), (1, 1), (2, 1), (3, 1), (4, 1), (5, 1), (6, 1), (7, 1)]),
  (67, 2, .iload 7, []),
  (69, 1, .iload_n 2, [(2, 0)]),
  (70, 3, .if_icmp .lt 25, [(95, 0)]),
  (73, 1, .aload_n 0, [(0, 0)]),
  (74, 3, .getfield 15, [(6, 3)]),
  (77, 2, .iload 7, []),
  (79, 1, .aload_n 0, [(0, 0)]),
  (80, 2, .iload 6, []),
  (82, 1, .iload_n 2, [(2, 0)]),
  (83, 2, .iload 7, []),
  (85, 3, .invokevirtual 77, [(109, 3), (1, 0), (6, 0)]),
  (88, 1, .iastore, []),
  (89, 3, .iinc 7 (-1), [(1, 1)]),
  (92, 3, .goto (-25), [(67, 0)]),
  (95, 3, .iinc 5 1, [(1, 0)]),
  (98, 3, .goto (-56), [(42, 0)]),
  (101, 1, .aload_n 0, [(0, 0)]),
  (102, 3, .getfield 15, [(6, 3)]),
  (105, 1, .iload_n 3, [(3, 0)]),
  (106, 1, .iaload, []),
  (107, 1, .ireturn, [])]
/-- PackedForest$Mender.costOf (III)I -/
def zt108 : zzT := (⟨"PackedForest$Mender", "costOf", "(III)I"⟩, prog_8_method_5_code, 8, (some .int), 1, zr108)
def zr109 : List zzI := [(0, 2, .ldc 48, [(268435456, 0)]),
  (2, 2, .istore 4, []),
  (4, 1, .iload_n 2, [(2, 0)]),
  (5, 2, .istore 5, []),
  (7, 0, .nop, [(0, 3), (1, 1), (3, 1), (4, 1), (5, 1)]),
  (7, 2, .iload 5, []),
  (9, 1, .iload_n 3, [(3, 0)]),
  (10, 3, .if_icmp .gt 44, [(54, 0)]),
  (13, 1, .aload_n 0, [(0, 0)]),
  (14, 3, .getfield 15, [(6, 3)]),
  (17, 2, .iload 5, []),
  (19, 1, .iaload, []),
  (20, 2, .iload 4, []),
  (22, 3, .if_icmp .ge 26, [(48, 0)]),
  (25, 2, .iload 4, []),
  (27, 1, .aload_n 0, [(0, 0)]),
  (28, 3, .getfield 15, [(6, 3)]),
  (31, 2, .iload 5, []),
  (33, 1, .iaload, []),
  (34, 1, .aload_n 0, [(0, 0)]),
  (35, 1, .iload_n 1, [(1, 0)]),
  (36, 2, .iload 5, []),
  (38, 1, .iload_n 3, [(3, 0)]),
  (39, 3, .invokevirtual 80, [(110, 3), (1, 0), (6, 0)]),
  (42, 1, .iadd, []),
  (43, 3, .invokestatic 60, [(1, 2), (1, 0)]),
  (46, 2, .istore 4, []),
  (48, 3, .iinc 5 1, [(1, 0)]),
  (51, 3, .goto (-44), [(7, 0)]),
  (54, 2, .iload 4, []),
  (56, 1, .ireturn, [])]
/-- PackedForest$Mender.costTo (III)I -/
def zt109 : zzT := (⟨"PackedForest$Mender", "costTo", "(III)I"⟩, prog_8_method_6_code, 6, (some .int), 1, zr109)
def zr110 : List zzI := [(0, 1, .iload_n 1, [(1, 0)]),
  (1, 2, .bipush 26, [(26, 0)]),
  (3, 3, .if_icmp .ge 13, [(16, 0)]),
  (6, 1, .aload_n 0, [(0, 0)]),
  (7, 1, .iload_n 1, [(1, 0)]),
  (8, 1, .iload_n 2, [(2, 0)]),
  (9, 1, .iload_n 3, [(3, 0)]),
  (10, 3, .invokevirtual 83, [(111, 3), (1, 0), (6, 0)]),
  (13, 3, .goto 21, [(34, 0)]),
  (16, 1, .aload_n 0, [(0, 0)]),
  (17, 3, .getfield 9, [(6, 2)]),
  (20, 1, .iload_n 1, [(1, 0)]),
  (21, 2, .bipush 26, [(26, 0)]),
  (23, 1, .isub, []),
  (24, 2, .bipush 91, [(91, 0)]),
  (26, 1, .imul, []),
  (27, 1, .iload_n 2, [(2, 0)]),
  (28, 1, .iload_n 3, [(3, 0)]),
  (29, 3, .invokestatic 44, [(135, 2), (1, 0)]),
  (32, 1, .iadd, []),
  (33, 1, .iaload, []),
  (34, 1, .ireturn, [])]
/-- PackedForest$Mender.partCost (III)I -/
def zt110 : zzT := (⟨"PackedForest$Mender", "partCost", "(III)I"⟩, prog_8_method_7_code, 4, (some .int), 1, zr110)
def zr111 : List zzI := [(0, 1, .iload_n 2, [(2, 0)]),
  (1, 2, .istore 4, []),
  (3, 0, .nop, [(0, 3), (1, 1), (2, 1), (3, 1), (4, 1)]),
  (3, 2, .iload 4, []),
  (5, 1, .iload_n 3, [(3, 0)]),
  (6, 3, .if_icmp .ge 29, [(35, 0)]),
  (9, 1, .aload_n 0, [(0, 0)]),
  (10, 3, .getfield 18, [(6, 0)]),
  (13, 3, .getfield 86, [(7, 1)]),
  (16, 2, .iload 4, []),
  (18, 1, .iaload, []),
  (19, 1, .iload_n 1, [(1, 0)]),
  (20, 3, .if_icmp .ne 9, [(29, 0)]),
  (23, 1, .iload_n 3, [(3, 0)]),
  (24, 1, .iload_n 2, [(2, 0)]),
  (25, 1, .isub, []),
  (26, 1, .iconst 1, [(1, 0)]),
  (27, 1, .isub, []),
  (28, 1, .ireturn, []),
  (29, 3, .iinc 4 1, [(1, 0)]),
  (32, 3, .goto (-29), [(3, 0)]),
  (35, 1, .iload_n 3, [(3, 0)]),
  (36, 1, .iload_n 2, [(2, 0)]),
  (37, 3, .if_icmp .ne 7, [(44, 0)]),
  (40, 1, .iconst 1, [(1, 0)]),
  (41, 3, .goto 6, [(47, 0)]),
  (44, 1, .iload_n 3, [(3, 0)]),
  (45, 1, .iload_n 2, [(2, 0)]),
  (46, 1, .isub, []),
  (47, 1, .ireturn, [])]
/-- PackedForest$Mender.smallCost (III)I -/
def zt111 : zzT := (⟨"PackedForest$Mender", "smallCost", "(III)I"⟩, prog_8_method_8_code, 5, (some .int), 1, zr111)
def zr112 : List zzI := [(0, 1, .aload_n 0, [(0, 0)]),
  (1, 1, .aload_n 0, [(0, 0)]),
  (2, 3, .getfield 15, [(9, 0)]),
  (5, 3, .getfield 19, [(7, 9)]),
  (8, 1, .i2l, []),
  (9, 3, .putfield 25, [(9, 3)]),
  (12, 1, .iconst 0, [(0, 0)]),
  (13, 1, .istore_n 2, [(2, 0)]),
  (14, 1, .iconst 0, [(0, 0)]),
  (15, 1, .istore_n 3, [(3, 0)]),
  (16, 0, .nop, [(0, 3), (1, 1), (2, 1), (3, 1)]),
  (16, 1, .iload_n 3, [(3, 0)]),
  (17, 1, .iload_n 1, [(1, 0)]),
  (18, 3, .if_icmp .ge 14, [(32, 0)]),
  (21, 1, .aload_n 0, [(0, 0)]),
  (22, 3, .invokevirtual 28, [(114, 0), (4, 0), (9, 0)]),
  (25, 1, .istore_n 2, [(2, 0)]),
  (26, 3, .iinc 3 1, [(1, 0)]),
  (29, 3, .goto (-13), [(16, 0)]),
  (32, 1, .iload_n 2, [(2, 0)]),
  (33, 1, .ireturn, [])]
/-- PackedForest$Speaker.speakTimes (I)Z -/
def zt112 : zzT := (⟨"PackedForest$Speaker", "speakTimes", "(I)Z"⟩, prog_11_method_2_code, 4, (some .boolean), 4, zr112)
def zr113 : List zzI := [(0, 1, .aload_n 0, [(0, 0)]),
  (1, 1, .aload_n 0, [(0, 0)]),
  (2, 3, .getfield 25, [(9, 3)]),
  (5, 3, .ldc2_w 32, [(1103515245, 0)]),
  (8, 1, .lmul, []),
  (9, 3, .ldc2_w 34, [(12345, 0)]),
  (12, 1, .ladd, []),
  (13, 3, .ldc2_w 36, [(2147483647, 0)]),
  (16, 1, .land, []),
  (17, 3, .putfield 25, [(9, 3)]),
  (20, 1, .aload_n 0, [(0, 0)]),
  (21, 3, .getfield 25, [(9, 3)]),
  (24, 2, .bipush 16, [(16, 0)]),
  (26, 1, .lshr, []),
  (27, 1, .l2i, []),
  (28, 1, .ireturn, [])]
/-- PackedForest$Speaker.draw ()I -/
def zt113 : zzT := (⟨"PackedForest$Speaker", "draw", "()I"⟩, prog_11_method_3_code, 1, (some .int), 1, zr113)
def zr114 : List zzI := [(0, 1, .aload_n 0, [(0, 0)]),
  (1, 3, .getfield 9, [(9, 1)]),
  (4, 1, .iconst 0, [(0, 0)]),
  (5, 1, .aload_n 0, [(0, 0)]),
  (6, 3, .getfield 15, [(9, 0)]),
  (9, 3, .getfield 38, [(7, 0)]),
  (12, 3, .getfield 42, [(4, 2)]),
  (15, 1, .iconst 0, [(0, 0)]),
  (16, 1, .iaload, []),
  (17, 1, .iastore, []),
  (18, 1, .aload_n 0, [(0, 0)]),
  (19, 1, .iconst 1, [(1, 0)]),
  (20, 3, .putfield 47, [(9, 2)]),
  (23, 1, .iconst 0, [(0, 0)]),
  (24, 1, .istore_n 1, [(1, 0)]),
  (25, 0, .nop, [(0, 3), (1, 1)]),
  (25, 1, .iload_n 1, [(1, 0)]),
  (26, 2, .bipush 30, [(30, 0)]),
  (28, 3, .if_icmp .ge 48, [(76, 0)]),
  (31, 1, .aload_n 0, [(0, 0)]),
  (32, 3, .invokevirtual 50, [(115, 0), (1, 0), (9, 0)]),
  (35, 1, .istore_n 2, [(2, 0)]),
  (36, 1, .iload_n 2, [(2, 0)]),
  (37, 1, .iconst (-1), [(1, 1)]),
  (38, 3, .if_icmp .ne 5, [(43, 0)]),
  (41, 1, .iconst 1, [(1, 0)]),
  (42, 1, .ireturn, []),
  (43, 1, .aload_n 0, [(0, 0)]),
  (44, 1, .aload_n 0, [(0, 0)]),
  (45, 3, .getfield 9, [(9, 1)]),
  (48, 1, .iload_n 2, [(2, 0)]),
  (49, 1, .iaload, []),
  (50, 3, .invokevirtual 54, [(116, 1), (1, 0), (9, 0)]),
  (53, 1, .istore_n 3, [(3, 0)]),
  (54, 1, .iload_n 3, [(3, 0)]),
  (55, 1, .iconst (-1), [(1, 1)]),
  (56, 3, .if_icmp .eq 12, [(68, 0)]),
  (59, 1, .aload_n 0, [(0, 0)]),
  (60, 1, .iload_n 2, [(2, 0)]),
  (61, 1, .iload_n 3, [(3, 0)]),
  (62, 3, .invokevirtual 58, [(117, 2), (4, 0), (9, 0)]),
  (65, 3, .ifCond .ne 5, [(70, 0)]),
  (68, 1, .iconst 0, [(0, 0)]),
  (69, 1, .ireturn, []),
  (70, 3, .iinc 1 1, [(1, 0)]),
  (73, 3, .goto (-48), [(25, 0)]),
  (76, 1, .aload_n 0, [(0, 0)]),
  (77, 3, .invokevirtual 50, [(115, 0), (1, 0), (9, 0)]),
  (80, 1, .iconst (-1), [(1, 1)]),
  (81, 3, .if_icmp .ne 7, [(88, 0)]),
  (84, 1, .iconst 1, [(1, 0)]),
  (85, 3, .goto 4, [(89, 0)]),
  (88, 1, .iconst 0, [(0, 0)]),
  (89, 1, .ireturn, [])]
/-- PackedForest$Speaker.speak ()Z -/
def zt114 : zzT := (⟨"PackedForest$Speaker", "speak", "()Z"⟩, prog_11_method_4_code, 4, (some .boolean), 4, zr114)
def zr115 : List zzI := [(0, 1, .iconst 0, [(0, 0)]),
  (1, 1, .istore_n 1, [(1, 0)]),
  (2, 0, .nop, [(0, 3), (1, 1)]),
  (2, 1, .iload_n 1, [(1, 0)]),
  (3, 1, .aload_n 0, [(0, 0)]),
  (4, 3, .getfield 47, [(9, 2)]),
  (7, 3, .if_icmp .ge 22, [(29, 0)]),
  (10, 1, .aload_n 0, [(0, 0)]),
  (11, 3, .getfield 9, [(9, 1)]),
  (14, 1, .iload_n 1, [(1, 0)]),
  (15, 1, .iaload, []),
  (16, 2, .bipush 26, [(26, 0)]),
  (18, 3, .if_icmp .lt 5, [(23, 0)]),
  (21, 1, .iload_n 1, [(1, 0)]),
  (22, 1, .ireturn, []),
  (23, 3, .iinc 1 1, [(1, 0)]),
  (26, 3, .goto (-24), [(2, 0)]),
  (29, 1, .iconst (-1), [(1, 1)]),
  (30, 1, .ireturn, [])]
/-- PackedForest$Speaker.firstCapital ()I -/
def zt115 : zzT := (⟨"PackedForest$Speaker", "firstCapital", "()I"⟩, prog_11_method_5_code, 2, (some .int), 1, zr115)
def zr116 : List zzI := [(0, 1, .aload_n 0, [(0, 0)]),
  (1, 3, .getfield 15, [(9, 0)]),
  (4, 3, .getfield 38, [(7, 0)]),
  (7, 3, .getfield 62, [(4, 7)]),
  (10, 1, .iload_n 1, [(1, 0)]),
  (11, 2, .bipush 26, [(26, 0)]),
  (13, 1, .isub, []),
  (14, 1, .iaload, []),
  (15, 1, .aload_n 0, [(0, 0)]),
  (16, 3, .getfield 15, [(9, 0)]),
  (19, 3, .invokevirtual 65, [(22, 0), (1, 0), (7, 0)]),
  (22, 1, .iand, []),
  (23, 1, .istore_n 2, [(2, 0)]),
  (24, 1, .iload_n 2, [(2, 0)]),
  (25, 3, .invokestatic 68, [(3, 1), (1, 0)]),
  (28, 1, .istore_n 3, [(3, 0)]),
  (29, 1, .iload_n 3, [(3, 0)]),
  (30, 3, .ifCond .ne 5, [(35, 0)]),
  (33, 1, .iconst (-1), [(1, 1)]),
  (34, 1, .ireturn, []),
  (35, 1, .aload_n 0, [(0, 0)]),
  (36, 3, .invokevirtual 73, [(113, 0), (1, 0), (9, 0)]),
  (39, 1, .iload_n 3, [(3, 0)]),
  (40, 1, .irem, []),
  (41, 2, .istore 4, []),
  (43, 1, .iconst 0, [(0, 0)]),
  (44, 2, .istore 5, []),
  (46, 0, .nop, [(0, 3), (2, 1), (4, 1), (5, 1)]),
  (46, 2, .iload 5, []),
  (48, 1, .aload_n 0, [(0, 0)]),
  (49, 3, .getfield 15, [(9, 0)]),
  (52, 3, .getfield 38, [(7, 0)]),
  (55, 3, .getfield 76, [(4, 0)]),
  (58, 3, .if_icmp .ge 29, [(87, 0)]),
  (61, 1, .iload_n 2, [(2, 0)]),
  (62, 2, .iload 5, []),
  (64, 1, .ishr, []),
  (65, 1, .iconst 1, [(1, 0)]),
  (66, 1, .iand, []),
  (67, 3, .ifCond .eq 14, [(81, 0)]),
  (70, 2, .iload 4, []),
  (72, 3, .ifCond .ne 6, [(78, 0)]),
  (75, 2, .iload 5, []),
  (77, 1, .ireturn, []),
  (78, 3, .iinc 4 (-1), [(1, 1)]),
  (81, 3, .iinc 5 1, [(1, 0)]),
  (84, 3, .goto (-38), [(46, 0)]),
  (87, 1, .iconst (-1), [(1, 1)]),
  (88, 1, .ireturn, [])]
/-- PackedForest$Speaker.drawnRule (I)I -/
def zt116 : zzT := (⟨"PackedForest$Speaker", "drawnRule", "(I)I"⟩, prog_11_method_6_code, 6, (some .int), 1, zr116)
def zr117 : List zzI := [(0, 1, .aload_n 0, [(0, 0)]),
  (1, 3, .getfield 15, [(9, 0)]),
  (4, 3, .getfield 38, [(7, 0)]),
  (7, 3, .getfield 79, [(4, 3)]),
  (10, 1, .iload_n 2, [(2, 0)]),
  (11, 1, .iaload, []),
  (12, 1, .istore_n 3, [(3, 0)]),
  (13, 1, .aload_n 0, [(0, 0)]),
  (14, 3, .getfield 47, [(9, 2)]),
  (17, 1, .iconst 1, [(1, 0)]),
  (18, 1, .isub, []),
  (19, 1, .iload_n 3, [(3, 0)]),
  (20, 1, .iadd, []),
  (21, 2, .istore 4, []),
  (23, 2, .iload 4, []),
  (25, 2, .bipush 24, [(24, 0)]),
  (27, 3, .if_icmp .le 5, [(32, 0)]),
  (30, 1, .iconst 0, [(0, 0)]),
  (31, 1, .ireturn, []),
  (32, 1, .aload_n 0, [(0, 0)]),
  (33, 3, .getfield 9, [(9, 1)]),
  (36, 1, .iload_n 1, [(1, 0)]),
  (37, 1, .iconst 1, [(1, 0)]),
  (38, 1, .iadd, []),
  (39, 1, .aload_n 0, [(0, 0)]),
  (40, 3, .getfield 9, [(9, 1)]),
  (43, 1, .iload_n 1, [(1, 0)]),
  (44, 1, .iload_n 3, [(3, 0)]),
  (45, 1, .iadd, []),
  (46, 1, .aload_n 0, [(0, 0)]),
  (47, 3, .getfield 47, [(9, 2)]),
  (50, 1, .iload_n 1, [(1, 0)]),
  (51, 1, .isub, []),
  (52, 1, .iconst 1, [(1, 0)]),
  (53, 1, .isub, []),
  (54, 3, .invokestatic 82, [(0, 5), (0, 0)]),
  (57, 1, .iconst 0, [(0, 0)]),
  (58, 2, .istore 5, []),
  (60, 0, .nop, [(0, 3), (1, 1), (2, 1), (3, 1), (4, 1), (5, 1)]),
  (60, 2, .iload 5, []),
  (62, 1, .iload_n 3, [(3, 0)]),
  (63, 3, .if_icmp .ge 31, [(94, 0)]),
  (66, 1, .aload_n 0, [(0, 0)]),
  (67, 3, .getfield 9, [(9, 1)]),
  (70, 1, .iload_n 1, [(1, 0)]),
  (71, 2, .iload 5, []),
  (73, 1, .iadd, []),
  (74, 1, .aload_n 0, [(0, 0)]),
  (75, 3, .getfield 15, [(9, 0)]),
  (78, 3, .getfield 38, [(7, 0)]),
  (81, 1, .iload_n 2, [(2, 0)]),
  (82, 2, .iload 5, []),
  (84, 3, .invokevirtual 88, [(6, 2), (1, 0), (4, 0)]),
  (87, 1, .iastore, []),
  (88, 3, .iinc 5 1, [(1, 0)]),
  (91, 3, .goto (-31), [(60, 0)]),
  (94, 1, .aload_n 0, [(0, 0)]),
  (95, 2, .iload 4, []),
  (97, 3, .putfield 47, [(9, 2)]),
  (100, 1, .iconst 1, [(1, 0)]),
  (101, 1, .ireturn, [])]
/-- PackedForest$Speaker.replace (II)Z -/
def zt117 : zzT := (⟨"PackedForest$Speaker", "replace", "(II)Z"⟩, prog_11_method_7_code, 6, (some .boolean), 4, zr117)
def zr118 : List zzI := [(0, 1, .aload_n 0, [(0, 0)]),
  (1, 3, .getfield 105, [(11, 1)]),
  (4, 2, .bipush 20, [(20, 0)]),
  (6, 1, .iadd, []),
  (7, 3, .sipush 400, [(400, 0)]),
  (10, 3, .if_icmp .le 5, [(15, 0)]),
  (13, 1, .iconst (-1), [(1, 1)]),
  (14, 1, .ireturn, []),
  (15, 1, .aload_n 0, [(0, 0)]),
  (16, 1, .iload_n 1, [(1, 0)]),
  (17, 3, .invokevirtual 109, [(119, 1), (0, 0), (11, 0)]),
  (20, 1, .aload_n 0, [(0, 0)]),
  (21, 1, .iload_n 2, [(2, 0)]),
  (22, 3, .invokevirtual 109, [(119, 1), (0, 0), (11, 0)]),
  (25, 1, .aload_n 0, [(0, 0)]),
  (26, 1, .iload_n 3, [(3, 0)]),
  (27, 3, .invokevirtual 109, [(119, 1), (0, 0), (11, 0)]),
  (30, 1, .aload_n 0, [(0, 0)]),
  (31, 2, .iload 4, []),
  (33, 3, .invokevirtual 109, [(119, 1), (0, 0), (11, 0)]),
  (36, 1, .aload_n 0, [(0, 0)]),
  (37, 2, .iload 5, []),
  (39, 3, .invokevirtual 109, [(119, 1), (0, 0), (11, 0)]),
  (42, 1, .aload_n 0, [(0, 0)]),
  (43, 3, .getfield 105, [(11, 1)]),
  (46, 1, .ireturn, [])]
/-- PackedForest.feed (IIIII)I -/
def zt118 : zzT := (⟨"PackedForest", "feed", "(IIIII)I"⟩, prog_1_method_2_code, 6, (some .int), 1, zr118)
def zr119 : List zzI := [(0, 2, .bipush 24, [(24, 0)]),
  (2, 1, .istore_n 2, [(2, 0)]),
  (3, 0, .nop, [(0, 3), (1, 1), (2, 1)]),
  (3, 1, .iload_n 2, [(2, 0)]),
  (4, 3, .ifCond .lt 45, [(49, 0)]),
  (7, 1, .aload_n 0, [(0, 0)]),
  (8, 3, .getfield 105, [(11, 1)]),
  (11, 3, .sipush 400, [(400, 0)]),
  (14, 3, .if_icmp .ge 29, [(43, 0)]),
  (17, 1, .aload_n 0, [(0, 0)]),
  (18, 3, .getfield 9, [(11, 0)]),
  (21, 1, .aload_n 0, [(0, 0)]),
  (22, 3, .getfield 105, [(11, 1)]),
  (25, 1, .iload_n 1, [(1, 0)]),
  (26, 1, .iload_n 2, [(2, 0)]),
  (27, 1, .iushr, []),
  (28, 3, .sipush 255, [(255, 0)]),
  (31, 1, .iand, []),
  (32, 1, .iastore, []),
  (33, 1, .aload_n 0, [(0, 0)]),
  (34, 1, .dup, []),
  (35, 3, .getfield 105, [(11, 1)]),
  (38, 1, .iconst 1, [(1, 0)]),
  (39, 1, .iadd, []),
  (40, 3, .putfield 105, [(11, 1)]),
  (43, 3, .iinc 2 (-8), [(8, 1)]),
  (46, 3, .goto (-43), [(3, 0)]),
  (49, 1, .return_, [])]
/-- PackedForest.putBytes (I)V -/
def zt119 : zzT := (⟨"PackedForest", "putBytes", "(I)V"⟩, prog_1_method_3_code, 3, none, 0, zr119)
def zr120 : List zzI := [(0, 1, .iload_n 1, [(1, 0)]),
  (1, 3, .ifCond .lt 11, [(12, 0)]),
  (4, 1, .iload_n 1, [(1, 0)]),
  (5, 1, .aload_n 0, [(0, 0)]),
  (6, 3, .getfield 105, [(11, 1)]),
  (9, 3, .if_icmp .le 5, [(14, 0)]),
  (12, 1, .iconst (-1), [(1, 1)]),
  (13, 1, .ireturn, []),
  (14, 1, .aload_n 0, [(0, 0)]),
  (15, 1, .iload_n 1, [(1, 0)]),
  (16, 3, .putfield 105, [(11, 1)]),
  (19, 1, .iload_n 1, [(1, 0)]),
  (20, 1, .ireturn, [])]
/-- PackedForest.end (I)I -/
def zt120 : zzT := (⟨"PackedForest", "end", "(I)I"⟩, prog_1_method_4_code, 2, (some .int), 1, zr120)
def zr121 : List zzI := [(0, 1, .aload_n 0, [(0, 0)]),
  (1, 3, .getfield 105, [(11, 1)]),
  (4, 1, .istore_n 1, [(1, 0)]),
  (5, 1, .aload_n 0, [(0, 0)]),
  (6, 1, .iconst 0, [(0, 0)]),
  (7, 3, .putfield 105, [(11, 1)]),
  (10, 1, .aload_n 0, [(0, 0)]),
  (11, 3, .getfield 27, [(11, 4)]),
  (14, 1, .aload_n 0, [(0, 0)]),
  (15, 3, .getfield 9, [(11, 0)]),
  (18, 1, .iload_n 1, [(1, 0)]),
  (19, 3, .invokevirtual 113, [(10, 2), (1, 0), (4, 0)]),
  (22, 1, .istore_n 2, [(2, 0)]),
  (23, 1, .iload_n 2, [(2, 0)]),
  (24, 3, .ifCond .ne 24, [(48, 0)]),
  (27, 1, .aload_n 0, [(0, 0)]),
  (28, 3, .getfield 43, [(11, 6)]),
  (31, 1, .aload_n 0, [(0, 0)]),
  (32, 3, .getfield 27, [(11, 4)]),
  (35, 1, .iconst 0, [(0, 0)]),
  (36, 3, .invokevirtual 117, [(47, 2), (4, 0), (10, 0)]),
  (39, 3, .ifCond .ne 9, [(48, 0)]),
  (42, 1, .iload_n 1, [(1, 0)]),
  (43, 1, .iconst 5, [(5, 0)]),
  (44, 3, .invokestatic 121, [(122, 2), (1, 0)]),
  (47, 1, .istore_n 2, [(2, 0)]),
  (48, 1, .iload_n 2, [(2, 0)]),
  (49, 3, .ifCond .eq 8, [(57, 0)]),
  (52, 2, .bipush (-2), [(2, 1)]),
  (54, 1, .iload_n 2, [(2, 0)]),
  (55, 1, .isub, []),
  (56, 1, .ireturn, []),
  (57, 1, .aload_n 0, [(0, 0)]),
  (58, 3, .getfield 16, [(11, 2)]),
  (61, 1, .aload_n 0, [(0, 0)]),
  (62, 3, .getfield 27, [(11, 4)]),
  (65, 3, .invokevirtual 125, [(21, 1), (0, 0), (7, 0)]),
  (68, 1, .aload_n 0, [(0, 0)]),
  (69, 3, .invokevirtual 129, [(123, 0), (0, 0), (11, 0)]),
  (72, 1, .aload_n 0, [(0, 0)]),
  (73, 3, .getfield 16, [(11, 2)]),
  (76, 3, .getfield 132, [(7, 0)]),
  (79, 3, .getfield 135, [(4, 0)]),
  (82, 1, .ireturn, [])]
/-- PackedForest.grammar ()I -/
def zt121 : zzT := (⟨"PackedForest", "grammar", "()I"⟩, prog_1_method_5_code, 3, (some .int), 1, zr121)
def zr122 : List zzI := [(0, 1, .iconst 1, [(1, 0)]),
  (1, 2, .bipush 8, [(8, 0)]),
  (3, 1, .iload_n 0, [(0, 0)]),
  (4, 1, .imul, []),
  (5, 1, .iadd, []),
  (6, 1, .iload_n 1, [(1, 0)]),
  (7, 1, .iadd, []),
  (8, 1, .ireturn, [])]
/-- PackedForest.faultAt (II)I -/
def zt122 : zzT := (⟨"PackedForest", "faultAt", "(II)I"⟩, prog_1_method_6_code, 2, (some .int), 1, zr122)
def zr123 : List zzI := [(0, 1, .aload_n 0, [(0, 0)]),
  (1, 3, .getfield 36, [(11, 5)]),
  (4, 1, .iconst 0, [(0, 0)]),
  (5, 3, .putfield 138, [(2, 1)]),
  (8, 1, .aload_n 0, [(0, 0)]),
  (9, 3, .getfield 52, [(11, 7)]),
  (12, 1, .iconst 0, [(0, 0)]),
  (13, 3, .putfield 142, [(0, 2)]),
  (16, 1, .aload_n 0, [(0, 0)]),
  (17, 3, .getfield 94, [(11, 13)]),
  (20, 1, .iconst 0, [(0, 0)]),
  (21, 3, .putfield 145, [(6, 1)]),
  (24, 1, .aload_n 0, [(0, 0)]),
  (25, 3, .getfield 64, [(11, 9)]),
  (28, 1, .iconst 0, [(0, 0)]),
  (29, 3, .putfield 146, [(5, 3)]),
  (32, 1, .aload_n 0, [(0, 0)]),
  (33, 3, .invokevirtual 147, [(124, 0), (0, 0), (11, 0)]),
  (36, 1, .return_, [])]
/-- PackedForest.rulesChanged ()V -/
def zt123 : zzT := (⟨"PackedForest", "rulesChanged", "()V"⟩, prog_1_method_7_code, 1, none, 0, zr123)
def zr124 : List zzI := [(0, 1, .aload_n 0, [(0, 0)]),
  (1, 3, .getfield 56, [(11, 8)]),
  (4, 1, .iconst 0, [(0, 0)]),
  (5, 3, .putfield 142, [(0, 2)]),
  (8, 1, .aload_n 0, [(0, 0)]),
  (9, 3, .getfield 73, [(11, 10)]),
  (12, 1, .iconst 0, [(0, 0)]),
  (13, 3, .putfield 150, [(1, 2)]),
  (16, 1, .aload_n 0, [(0, 0)]),
  (17, 3, .getfield 80, [(11, 11)]),
  (20, 1, .iconst 0, [(0, 0)]),
  (21, 3, .putfield 151, [(8, 2)]),
  (24, 1, .aload_n 0, [(0, 0)]),
  (25, 3, .getfield 87, [(11, 12)]),
  (28, 1, .iconst 0, [(0, 0)]),
  (29, 3, .putfield 152, [(3, 2)]),
  (32, 1, .return_, [])]
/-- PackedForest.filtersChanged ()V -/
def zt124 : zzT := (⟨"PackedForest", "filtersChanged", "()V"⟩, prog_1_method_8_code, 1, none, 0, zr124)
def zr125 : List zzI := [(0, 1, .iload_n 1, [(1, 0)]),
  (1, 1, .iconst 1, [(1, 0)]),
  (2, 1, .iadd, []),
  (3, 1, .istore_n 2, [(2, 0)]),
  (4, 1, .aload_n 0, [(0, 0)]),
  (5, 3, .getfield 52, [(11, 7)]),
  (8, 1, .aload_n 0, [(0, 0)]),
  (9, 3, .getfield 52, [(11, 7)]),
  (12, 3, .getfield 142, [(0, 2)]),
  (15, 1, .iload_n 2, [(2, 0)]),
  (16, 3, .invokestatic 153, [(1, 2), (1, 0)]),
  (19, 3, .putfield 142, [(0, 2)]),
  (22, 1, .aload_n 0, [(0, 0)]),
  (23, 3, .getfield 94, [(11, 13)]),
  (26, 1, .aload_n 0, [(0, 0)]),
  (27, 3, .getfield 94, [(11, 13)]),
  (30, 3, .getfield 145, [(6, 1)]),
  (33, 1, .iload_n 2, [(2, 0)]),
  (34, 3, .invokestatic 153, [(1, 2), (1, 0)]),
  (37, 3, .putfield 145, [(6, 1)]),
  (40, 1, .aload_n 0, [(0, 0)]),
  (41, 3, .getfield 56, [(11, 8)]),
  (44, 1, .aload_n 0, [(0, 0)]),
  (45, 3, .getfield 56, [(11, 8)]),
  (48, 3, .getfield 142, [(0, 2)]),
  (51, 1, .iload_n 2, [(2, 0)]),
  (52, 3, .invokestatic 153, [(1, 2), (1, 0)]),
  (55, 3, .putfield 142, [(0, 2)]),
  (58, 1, .aload_n 0, [(0, 0)]),
  (59, 3, .getfield 73, [(11, 10)]),
  (62, 1, .aload_n 0, [(0, 0)]),
  (63, 3, .getfield 73, [(11, 10)]),
  (66, 3, .getfield 150, [(1, 2)]),
  (69, 1, .iload_n 2, [(2, 0)]),
  (70, 3, .invokestatic 153, [(1, 2), (1, 0)]),
  (73, 3, .putfield 150, [(1, 2)]),
  (76, 1, .aload_n 0, [(0, 0)]),
  (77, 3, .getfield 80, [(11, 11)]),
  (80, 1, .aload_n 0, [(0, 0)]),
  (81, 3, .getfield 80, [(11, 11)]),
  (84, 3, .getfield 151, [(8, 2)]),
  (87, 1, .iload_n 2, [(2, 0)]),
  (88, 3, .invokestatic 153, [(1, 2), (1, 0)]),
  (91, 3, .putfield 151, [(8, 2)]),
  (94, 1, .aload_n 0, [(0, 0)]),
  (95, 3, .getfield 64, [(11, 9)]),
  (98, 1, .iconst 0, [(0, 0)]),
  (99, 3, .putfield 146, [(5, 3)]),
  (102, 1, .aload_n 0, [(0, 0)]),
  (103, 3, .getfield 87, [(11, 12)]),
  (106, 1, .iconst 0, [(0, 0)]),
  (107, 3, .putfield 152, [(3, 2)]),
  (110, 1, .return_, [])]
/-- PackedForest.textChanged (I)V -/
def zt125 : zzT := (⟨"PackedForest", "textChanged", "(I)V"⟩, prog_1_method_9_code, 3, none, 0, zr125)
def zr126 : List zzI := [(0, 1, .aload_n 0, [(0, 0)]),
  (1, 3, .getfield 36, [(11, 5)]),
  (4, 3, .invokevirtual 158, [(31, 0), (0, 0), (2, 0)]),
  (7, 1, .aload_n 0, [(0, 0)]),
  (8, 3, .getfield 36, [(11, 5)]),
  (11, 1, .areturn, [])]
/-- PackedForest.foundFacts ()LPackedForest$Facts; -/
def zt126 : zzT := (⟨"PackedForest", "foundFacts", "()LPackedForest$Facts;"⟩, prog_1_method_10_code, 1, (some (.object "PackedForest$Facts")), 3, zr126)
def zr127 : List zzI := [(0, 1, .aload_n 0, [(0, 0)]),
  (1, 3, .getfield 43, [(11, 6)]),
  (4, 3, .getfield 160, [(10, 0)]),
  (7, 3, .ifCond .ne 25, [(32, 0)]),
  (10, 1, .aload_n 0, [(0, 0)]),
  (11, 3, .getfield 43, [(11, 6)]),
  (14, 1, .aload_n 0, [(0, 0)]),
  (15, 3, .getfield 16, [(11, 2)]),
  (18, 3, .getfield 132, [(7, 0)]),
  (21, 1, .aload_n 0, [(0, 0)]),
  (22, 3, .getfield 16, [(11, 2)]),
  (25, 3, .getfield 161, [(7, 3)]),
  (28, 3, .invokevirtual 117, [(47, 2), (4, 0), (10, 0)]),
  (31, 1, .pop, []),
  (32, 1, .aload_n 0, [(0, 0)]),
  (33, 3, .getfield 43, [(11, 6)]),
  (36, 1, .areturn, [])]
/-- PackedForest.foundStates ()LPackedForest$States; -/
def zt127 : zzT := (⟨"PackedForest", "foundStates", "()LPackedForest$States;"⟩, prog_1_method_11_code, 1, (some (.object "PackedForest$States")), 3, zr127)
def zr128 : List zzI := [(0, 1, .aload_n 0, [(0, 0)]),
  (1, 3, .getfield 16, [(11, 2)]),
  (4, 3, .getfield 132, [(7, 0)]),
  (7, 3, .getfield 135, [(4, 0)]),
  (10, 3, .ifCond .ne 7, [(17, 0)]),
  (13, 1, .iconst 1, [(1, 0)]),
  (14, 3, .goto 4, [(18, 0)]),
  (17, 1, .iconst 0, [(0, 0)]),
  (18, 1, .ireturn, [])]
/-- PackedForest.noGrammar ()Z -/
def zt128 : zzT := (⟨"PackedForest", "noGrammar", "()Z"⟩, prog_1_method_12_code, 1, (some .boolean), 4, zr128)
def zr129 : List zzI := [(0, 1, .iload_n 1, [(1, 0)]),
  (1, 3, .ifCond .lt 21, [(22, 0)]),
  (4, 1, .iload_n 1, [(1, 0)]),
  (5, 1, .aload_n 0, [(0, 0)]),
  (6, 3, .getfield 16, [(11, 2)]),
  (9, 3, .getfield 132, [(7, 0)]),
  (12, 3, .getfield 135, [(4, 0)]),
  (15, 3, .if_icmp .ge 7, [(22, 0)]),
  (18, 1, .iconst 1, [(1, 0)]),
  (19, 3, .goto 4, [(23, 0)]),
  (22, 1, .iconst 0, [(0, 0)]),
  (23, 1, .ireturn, [])]
/-- PackedForest.isRule (I)Z -/
def zt129 : zzT := (⟨"PackedForest", "isRule", "(I)Z"⟩, prog_1_method_13_code, 2, (some .boolean), 4, zr129)
def zr130 : List zzI := [(0, 1, .aload_n 0, [(0, 0)]),
  (1, 3, .invokevirtual 164, [(128, 0), (4, 0), (11, 0)]),
  (4, 3, .ifCond .ne 22, [(26, 0)]),
  (7, 1, .iload_n 1, [(1, 0)]),
  (8, 3, .ifCond .lt 18, [(26, 0)]),
  (11, 1, .iload_n 1, [(1, 0)]),
  (12, 1, .aload_n 0, [(0, 0)]),
  (13, 3, .invokevirtual 168, [(127, 0), (3, 26), (11, 0)]),
  (16, 3, .getfield 172, [(10, 1)]),
  (19, 3, .if_icmp .ge 7, [(26, 0)]),
  (22, 1, .iconst 1, [(1, 0)]),
  (23, 3, .goto 4, [(27, 0)]),
  (26, 1, .iconst 0, [(0, 0)]),
  (27, 1, .ireturn, [])]
/-- PackedForest.isState (I)Z -/
def zt130 : zzT := (⟨"PackedForest", "isState", "(I)Z"⟩, prog_1_method_14_code, 2, (some .boolean), 4, zr130)
def zr131 : List zzI := [(0, 1, .iload_n 1, [(1, 0)]),
  (1, 2, .bipush 26, [(26, 0)]),
  (3, 3, .if_icmp .lt 33, [(36, 0)]),
  (6, 1, .iload_n 1, [(1, 0)]),
  (7, 2, .bipush 52, [(52, 0)]),
  (9, 3, .if_icmp .ge 27, [(36, 0)]),
  (12, 1, .aload_n 0, [(0, 0)]),
  (13, 3, .getfield 16, [(11, 2)]),
  (16, 3, .getfield 132, [(7, 0)]),
  (19, 3, .getfield 175, [(4, 1)]),
  (22, 1, .iload_n 1, [(1, 0)]),
  (23, 2, .bipush 26, [(26, 0)]),
  (25, 1, .isub, []),
  (26, 1, .ishr, []),
  (27, 1, .iconst 1, [(1, 0)]),
  (28, 1, .iand, []),
  (29, 3, .ifCond .eq 7, [(36, 0)]),
  (32, 1, .iconst 1, [(1, 0)]),
  (33, 3, .goto 4, [(37, 0)]),
  (36, 1, .iconst 0, [(0, 0)]),
  (37, 1, .ireturn, [])]
/-- PackedForest.isLeft (I)Z -/
def zt131 : zzT := (⟨"PackedForest", "isLeft", "(I)Z"⟩, prog_1_method_15_code, 2, (some .boolean), 4, zr131)
def zr132 : List zzI := [(0, 1, .iload_n 1, [(1, 0)]),
  (1, 3, .ifCond .lt 23, [(24, 0)]),
  (4, 1, .iload_n 1, [(1, 0)]),
  (5, 1, .iload_n 2, [(2, 0)]),
  (6, 3, .if_icmp .gt 18, [(24, 0)]),
  (9, 1, .iload_n 2, [(2, 0)]),
  (10, 1, .aload_n 0, [(0, 0)]),
  (11, 3, .getfield 16, [(11, 2)]),
  (14, 3, .getfield 178, [(7, 2)]),
  (17, 3, .if_icmp .gt 7, [(24, 0)]),
  (20, 1, .iconst 1, [(1, 0)]),
  (21, 3, .goto 4, [(25, 0)]),
  (24, 1, .iconst 0, [(0, 0)]),
  (25, 1, .ireturn, [])]
/-- PackedForest.isSpan (II)Z -/
def zt132 : zzT := (⟨"PackedForest", "isSpan", "(II)Z"⟩, prog_1_method_16_code, 3, (some .boolean), 4, zr132)
def zr133 : List zzI := [(0, 1, .aload_n 0, [(0, 0)]),
  (1, 3, .invokevirtual 164, [(128, 0), (4, 0), (11, 0)]),
  (4, 3, .ifCond .ne 22, [(26, 0)]),
  (7, 1, .iload_n 1, [(1, 0)]),
  (8, 3, .ifCond .lt 18, [(26, 0)]),
  (11, 1, .iload_n 1, [(1, 0)]),
  (12, 1, .aload_n 0, [(0, 0)]),
  (13, 3, .getfield 16, [(11, 2)]),
  (16, 3, .getfield 178, [(7, 2)]),
  (19, 3, .if_icmp .gt 7, [(26, 0)]),
  (22, 1, .iconst 1, [(1, 0)]),
  (23, 3, .goto 4, [(27, 0)]),
  (26, 1, .iconst 0, [(0, 0)]),
  (27, 1, .ireturn, [])]
/-- PackedForest.isLevel (I)Z -/
def zt133 : zzT := (⟨"PackedForest", "isLevel", "(I)Z"⟩, prog_1_method_17_code, 2, (some .boolean), 4, zr133)
def zr134 : List zzI := [(0, 1, .iload_n 0, [(0, 0)]),
  (1, 3, .ifCond .lt 13, [(14, 0)]),
  (4, 1, .iload_n 0, [(0, 0)]),
  (5, 2, .bipush 26, [(26, 0)]),
  (7, 3, .if_icmp .ge 7, [(14, 0)]),
  (10, 1, .iconst 1, [(1, 0)]),
  (11, 3, .goto 4, [(15, 0)]),
  (14, 1, .iconst 0, [(0, 0)]),
  (15, 1, .ireturn, [])]
/-- PackedForest.isSmall (I)Z -/
def zt134 : zzT := (⟨"PackedForest", "isSmall", "(I)Z"⟩, prog_1_method_18_code, 1, (some .boolean), 4, zr134)
def zr135 : List zzI := [(0, 1, .iload_n 1, [(1, 0)]),
  (1, 1, .iload_n 1, [(1, 0)]),
  (2, 1, .iconst 1, [(1, 0)]),
  (3, 1, .iadd, []),
  (4, 1, .imul, []),
  (5, 1, .iconst 1, [(1, 0)]),
  (6, 1, .ishr, []),
  (7, 1, .iload_n 0, [(0, 0)]),
  (8, 1, .iadd, []),
  (9, 1, .ireturn, [])]
/-- PackedForest.span (II)I -/
def zt135 : zzT := (⟨"PackedForest", "span", "(II)I"⟩, prog_1_method_19_code, 2, (some .int), 1, zr135)
def zr136 : List zzI := [(0, 1, .aload_n 0, [(0, 0)]),
  (1, 1, .iload_n 1, [(1, 0)]),
  (2, 3, .invokevirtual 181, [(129, 1), (4, 0), (11, 0)]),
  (5, 3, .ifCond .ne 5, [(10, 0)]),
  (8, 1, .iconst (-1), [(1, 1)]),
  (9, 1, .ireturn, []),
  (10, 1, .iload_n 2, [(2, 0)]),
  (11, 33, .tableswitch 97 0 4 #[33, 46, 59, 72, 85], [(108, 0), (0, 44), (1, 57), (2, 70), (3, 83), (4, 96)]),
  (44, 1, .aload_n 0, [(0, 0)]),
  (45, 3, .getfield 16, [(11, 2)]),
  (48, 3, .getfield 132, [(7, 0)]),
  (51, 3, .getfield 185, [(4, 2)]),
  (54, 1, .iload_n 1, [(1, 0)]),
  (55, 1, .iaload, []),
  (56, 1, .ireturn, []),
  (57, 1, .aload_n 0, [(0, 0)]),
  (58, 3, .getfield 16, [(11, 2)]),
  (61, 3, .getfield 132, [(7, 0)]),
  (64, 3, .getfield 188, [(4, 3)]),
  (67, 1, .iload_n 1, [(1, 0)]),
  (68, 1, .iaload, []),
  (69, 1, .ireturn, []),
  (70, 1, .aload_n 0, [(0, 0)]),
  (71, 3, .getfield 16, [(11, 2)]),
  (74, 3, .getfield 132, [(7, 0)]),
  (77, 3, .getfield 191, [(4, 4)]),
  (80, 1, .iload_n 1, [(1, 0)]),
  (81, 1, .iaload, []),
  (82, 1, .ireturn, []),
  (83, 1, .aload_n 0, [(0, 0)]),
  (84, 3, .getfield 16, [(11, 2)]),
  (87, 3, .getfield 132, [(7, 0)]),
  (90, 3, .getfield 194, [(4, 5)]),
  (93, 1, .iload_n 1, [(1, 0)]),
  (94, 1, .iaload, []),
  (95, 1, .ireturn, []),
  (96, 1, .aload_n 0, [(0, 0)]),
  (97, 3, .getfield 16, [(11, 2)]),
  (100, 3, .getfield 161, [(7, 3)]),
  (103, 1, .iload_n 1, [(1, 0)]),
  (104, 1, .ishr, []),
  (105, 1, .iconst 1, [(1, 0)]),
  (106, 1, .iand, []),
  (107, 1, .ireturn, []),
  (108, 1, .iconst (-1), [(1, 1)]),
  (109, 1, .ireturn, [])]
/-- PackedForest.rule (II)I -/
def zt136 : zzT := (⟨"PackedForest", "rule", "(II)I"⟩, prog_1_method_20_code, 3, (some .int), 1, zr136)
def zr137 : List zzI := [(0, 1, .aload_n 0, [(0, 0)]),
  (1, 1, .iload_n 1, [(1, 0)]),
  (2, 3, .invokevirtual 181, [(129, 1), (4, 0), (11, 0)]),
  (5, 3, .ifCond .eq 23, [(28, 0)]),
  (8, 1, .iload_n 2, [(2, 0)]),
  (9, 3, .ifCond .lt 19, [(28, 0)]),
  (12, 1, .iload_n 2, [(2, 0)]),
  (13, 1, .aload_n 0, [(0, 0)]),
  (14, 3, .getfield 16, [(11, 2)]),
  (17, 3, .getfield 132, [(7, 0)]),
  (20, 3, .getfield 188, [(4, 3)]),
  (23, 1, .iload_n 1, [(1, 0)]),
  (24, 1, .iaload, []),
  (25, 3, .if_icmp .lt 5, [(30, 0)]),
  (28, 1, .iconst (-1), [(1, 1)]),
  (29, 1, .ireturn, []),
  (30, 1, .aload_n 0, [(0, 0)]),
  (31, 3, .getfield 16, [(11, 2)]),
  (34, 3, .getfield 132, [(7, 0)]),
  (37, 1, .iload_n 1, [(1, 0)]),
  (38, 1, .iload_n 2, [(2, 0)]),
  (39, 3, .invokevirtual 197, [(6, 2), (1, 0), (4, 0)]),
  (42, 1, .ireturn, [])]
/-- PackedForest.symbol (II)I -/
def zt137 : zzT := (⟨"PackedForest", "symbol", "(II)I"⟩, prog_1_method_21_code, 3, (some .int), 1, zr137)
def zr138 : List zzI := [(0, 1, .aload_n 0, [(0, 0)]),
  (1, 3, .invokevirtual 164, [(128, 0), (4, 0), (11, 0)]),
  (4, 3, .ifCond .eq 5, [(9, 0)]),
  (7, 1, .iconst (-1), [(1, 1)]),
  (8, 1, .ireturn, []),
  (9, 1, .iload_n 1, [(1, 0)]),
  (10, 38, .tableswitch 89 0 5 #[38, 46, 54, 62, 70, 78], [(99, 0), (0, 48), (1, 56), (2, 64), (3, 72), (4, 80), (5, 88)]),
  (48, 1, .aload_n 0, [(0, 0)]),
  (49, 3, .invokevirtual 200, [(126, 0), (3, 21), (11, 0)]),
  (52, 3, .getfield 204, [(2, 2)]),
  (55, 1, .ireturn, []),
  (56, 1, .aload_n 0, [(0, 0)]),
  (57, 3, .invokevirtual 200, [(126, 0), (3, 21), (11, 0)]),
  (60, 3, .getfield 207, [(2, 3)]),
  (63, 1, .ireturn, []),
  (64, 1, .aload_n 0, [(0, 0)]),
  (65, 3, .invokevirtual 200, [(126, 0), (3, 21), (11, 0)]),
  (68, 3, .getfield 210, [(2, 4)]),
  (71, 1, .ireturn, []),
  (72, 1, .aload_n 0, [(0, 0)]),
  (73, 3, .invokevirtual 200, [(126, 0), (3, 21), (11, 0)]),
  (76, 3, .getfield 213, [(2, 5)]),
  (79, 1, .ireturn, []),
  (80, 1, .aload_n 0, [(0, 0)]),
  (81, 3, .invokevirtual 200, [(126, 0), (3, 21), (11, 0)]),
  (84, 3, .getfield 216, [(2, 6)]),
  (87, 1, .ireturn, []),
  (88, 1, .aload_n 0, [(0, 0)]),
  (89, 3, .getfield 16, [(11, 2)]),
  (92, 3, .getfield 132, [(7, 0)]),
  (95, 3, .getfield 175, [(4, 1)]),
  (98, 1, .ireturn, []),
  (99, 1, .iconst (-1), [(1, 1)]),
  (100, 1, .ireturn, [])]
/-- PackedForest.facts (I)I -/
def zt138 : zzT := (⟨"PackedForest", "facts", "(I)I"⟩, prog_1_method_22_code, 2, (some .int), 1, zr138)
def zr139 : List zzI := [(0, 1, .aload_n 0, [(0, 0)]),
  (1, 1, .iload_n 1, [(1, 0)]),
  (2, 3, .invokevirtual 219, [(131, 1), (4, 0), (11, 0)]),
  (5, 3, .ifCond .eq 18, [(23, 0)]),
  (8, 1, .aload_n 0, [(0, 0)]),
  (9, 3, .invokevirtual 200, [(126, 0), (3, 21), (11, 0)]),
  (12, 3, .getfield 222, [(2, 7)]),
  (15, 1, .iload_n 1, [(1, 0)]),
  (16, 2, .bipush 26, [(26, 0)]),
  (18, 1, .isub, []),
  (19, 1, .iaload, []),
  (20, 3, .goto 4, [(24, 0)]),
  (23, 1, .iconst (-1), [(1, 1)]),
  (24, 1, .ireturn, [])]
/-- PackedForest.firsts (I)I -/
def zt139 : zzT := (⟨"PackedForest", "firsts", "(I)I"⟩, prog_1_method_23_code, 2, (some .int), 1, zr139)
def zr140 : List zzI := [(0, 1, .aload_n 0, [(0, 0)]),
  (1, 1, .iload_n 1, [(1, 0)]),
  (2, 3, .invokevirtual 219, [(131, 1), (4, 0), (11, 0)]),
  (5, 3, .ifCond .eq 18, [(23, 0)]),
  (8, 1, .aload_n 0, [(0, 0)]),
  (9, 3, .invokevirtual 200, [(126, 0), (3, 21), (11, 0)]),
  (12, 3, .getfield 225, [(2, 8)]),
  (15, 1, .iload_n 1, [(1, 0)]),
  (16, 2, .bipush 26, [(26, 0)]),
  (18, 1, .isub, []),
  (19, 1, .iaload, []),
  (20, 3, .goto 4, [(24, 0)]),
  (23, 1, .iconst (-1), [(1, 1)]),
  (24, 1, .ireturn, [])]
/-- PackedForest.follows (I)I -/
def zt140 : zzT := (⟨"PackedForest", "follows", "(I)I"⟩, prog_1_method_24_code, 2, (some .int), 1, zr140)
def zr141 : List zzI := [(0, 1, .aload_n 0, [(0, 0)]),
  (1, 1, .iload_n 1, [(1, 0)]),
  (2, 3, .invokevirtual 219, [(131, 1), (4, 0), (11, 0)]),
  (5, 3, .ifCond .eq 18, [(23, 0)]),
  (8, 1, .aload_n 0, [(0, 0)]),
  (9, 3, .invokevirtual 200, [(126, 0), (3, 21), (11, 0)]),
  (12, 3, .getfield 228, [(2, 9)]),
  (15, 1, .iload_n 1, [(1, 0)]),
  (16, 2, .bipush 26, [(26, 0)]),
  (18, 1, .isub, []),
  (19, 1, .iaload, []),
  (20, 3, .goto 4, [(24, 0)]),
  (23, 1, .iconst (-1), [(1, 1)]),
  (24, 1, .ireturn, [])]
/-- PackedForest.shortest (I)I -/
def zt141 : zzT := (⟨"PackedForest", "shortest", "(I)I"⟩, prog_1_method_25_code, 2, (some .int), 1, zr141)
def zr142 : List zzI := [(0, 1, .aload_n 0, [(0, 0)]),
  (1, 3, .invokevirtual 164, [(128, 0), (4, 0), (11, 0)]),
  (4, 3, .ifCond .eq 7, [(11, 0)]),
  (7, 1, .iconst (-1), [(1, 1)]),
  (8, 3, .goto 10, [(18, 0)]),
  (11, 1, .aload_n 0, [(0, 0)]),
  (12, 3, .invokevirtual 168, [(127, 0), (3, 26), (11, 0)]),
  (15, 3, .getfield 172, [(10, 1)]),
  (18, 1, .ireturn, [])]
/-- PackedForest.states ()I -/
def zt142 : zzT := (⟨"PackedForest", "states", "()I"⟩, prog_1_method_26_code, 1, (some .int), 1, zr142)
def zr143 : List zzI := [(0, 1, .aload_n 0, [(0, 0)]),
  (1, 1, .iload_n 1, [(1, 0)]),
  (2, 3, .invokevirtual 231, [(130, 1), (4, 0), (11, 0)]),
  (5, 3, .ifCond .eq 13, [(18, 0)]),
  (8, 1, .iload_n 2, [(2, 0)]),
  (9, 3, .ifCond .lt 9, [(18, 0)]),
  (12, 1, .iload_n 2, [(2, 0)]),
  (13, 2, .bipush 52, [(52, 0)]),
  (15, 3, .if_icmp .lt 5, [(20, 0)]),
  (18, 1, .iconst (-1), [(1, 1)]),
  (19, 1, .ireturn, []),
  (20, 1, .aload_n 0, [(0, 0)]),
  (21, 3, .invokevirtual 168, [(127, 0), (3, 26), (11, 0)]),
  (24, 1, .iload_n 1, [(1, 0)]),
  (25, 1, .iload_n 2, [(2, 0)]),
  (26, 3, .invokevirtual 234, [(44, 2), (1, 0), (10, 0)]),
  (29, 1, .ireturn, [])]
/-- PackedForest.goes (II)I -/
def zt143 : zzT := (⟨"PackedForest", "goes", "(II)I"⟩, prog_1_method_27_code, 3, (some .int), 1, zr143)
def zr144 : List zzI := [(0, 1, .aload_n 0, [(0, 0)]),
  (1, 1, .iload_n 1, [(1, 0)]),
  (2, 3, .invokevirtual 231, [(130, 1), (4, 0), (11, 0)]),
  (5, 3, .ifCond .eq 11, [(16, 0)]),
  (8, 1, .aload_n 0, [(0, 0)]),
  (9, 1, .iload_n 2, [(2, 0)]),
  (10, 3, .invokevirtual 181, [(129, 1), (4, 0), (11, 0)]),
  (13, 3, .ifCond .ne 5, [(18, 0)]),
  (16, 1, .iconst (-1), [(1, 1)]),
  (17, 1, .ireturn, []),
  (18, 1, .aload_n 0, [(0, 0)]),
  (19, 3, .invokevirtual 168, [(127, 0), (3, 26), (11, 0)]),
  (22, 1, .iload_n 1, [(1, 0)]),
  (23, 1, .iload_n 2, [(2, 0)]),
  (24, 3, .invokevirtual 237, [(45, 2), (1, 0), (10, 0)]),
  (27, 1, .ireturn, [])]
/-- PackedForest.points (II)I -/
def zt144 : zzT := (⟨"PackedForest", "points", "(II)I"⟩, prog_1_method_28_code, 3, (some .int), 1, zr144)
def zr145 : List zzI := [(0, 1, .aload_n 0, [(0, 0)]),
  (1, 1, .iload_n 1, [(1, 0)]),
  (2, 3, .invokevirtual 231, [(130, 1), (4, 0), (11, 0)]),
  (5, 3, .ifCond .ne 5, [(10, 0)]),
  (8, 1, .iconst (-1), [(1, 1)]),
  (9, 1, .ireturn, []),
  (10, 1, .aload_n 0, [(0, 0)]),
  (11, 3, .invokevirtual 200, [(126, 0), (3, 21), (11, 0)]),
  (14, 3, .getfield 204, [(2, 2)]),
  (17, 1, .istore_n 2, [(2, 0)]),
  (18, 1, .iconst 0, [(0, 0)]),
  (19, 1, .istore_n 3, [(3, 0)]),
  (20, 1, .iconst 0, [(0, 0)]),
  (21, 2, .istore 4, []),
  (23, 0, .nop, [(0, 3), (1, 1), (2, 1), (3, 1), (4, 1)]),
  (23, 2, .iload 4, []),
  (25, 1, .aload_n 0, [(0, 0)]),
  (26, 3, .getfield 16, [(11, 2)]),
  (29, 3, .getfield 132, [(7, 0)]),
  (32, 3, .getfield 135, [(4, 0)]),
  (35, 3, .if_icmp .ge 43, [(78, 0)]),
  (38, 1, .aload_n 0, [(0, 0)]),
  (39, 3, .getfield 43, [(11, 6)]),
  (42, 1, .iload_n 1, [(1, 0)]),
  (43, 2, .iload 4, []),
  (45, 3, .invokevirtual 237, [(45, 2), (1, 0), (10, 0)]),
  (48, 1, .aload_n 0, [(0, 0)]),
  (49, 3, .getfield 16, [(11, 2)]),
  (52, 3, .getfield 132, [(7, 0)]),
  (55, 2, .iload 4, []),
  (57, 1, .iload_n 2, [(2, 0)]),
  (58, 3, .invokevirtual 240, [(8, 2), (1, 0), (4, 0)]),
  (61, 1, .iand, []),
  (62, 3, .ifCond .eq 10, [(72, 0)]),
  (65, 1, .iload_n 3, [(3, 0)]),
  (66, 1, .iconst 1, [(1, 0)]),
  (67, 2, .iload 4, []),
  (69, 1, .ishl, []),
  (70, 1, .ior, []),
  (71, 1, .istore_n 3, [(3, 0)]),
  (72, 3, .iinc 4 1, [(1, 0)]),
  (75, 3, .goto (-52), [(23, 0)]),
  (78, 1, .iload_n 3, [(3, 0)]),
  (79, 1, .ireturn, [])]
/-- PackedForest.done (I)I -/
def zt145 : zzT := (⟨"PackedForest", "done", "(I)I"⟩, prog_1_method_29_code, 5, (some .int), 1, zr145)
def zr146 : List zzI := [(0, 1, .aload_n 0, [(0, 0)]),
  (1, 3, .invokevirtual 164, [(128, 0), (4, 0), (11, 0)]),
  (4, 3, .ifCond .eq 5, [(9, 0)]),
  (7, 1, .iconst (-1), [(1, 1)]),
  (8, 1, .ireturn, []),
  (9, 1, .aload_n 0, [(0, 0)]),
  (10, 3, .invokevirtual 168, [(127, 0), (3, 26), (11, 0)]),
  (13, 1, .pop, []),
  (14, 1, .aload_n 0, [(0, 0)]),
  (15, 3, .invokevirtual 200, [(126, 0), (3, 21), (11, 0)]),
  (18, 1, .pop, []),
  (19, 1, .iconst 0, [(0, 0)]),
  (20, 1, .istore_n 1, [(1, 0)]),
  (21, 1, .iconst 0, [(0, 0)]),
  (22, 1, .istore_n 2, [(2, 0)]),
  (23, 0, .nop, [(0, 3), (1, 1), (2, 1)]),
  (23, 1, .iload_n 2, [(2, 0)]),
  (24, 1, .aload_n 0, [(0, 0)]),
  (25, 3, .getfield 43, [(11, 6)]),
  (28, 3, .getfield 172, [(10, 1)]),
  (31, 3, .if_icmp .ge 20, [(51, 0)]),
  (34, 1, .aload_n 0, [(0, 0)]),
  (35, 1, .iload_n 2, [(2, 0)]),
  (36, 3, .invokevirtual 243, [(147, 1), (4, 0), (11, 0)]),
  (39, 3, .ifCond .eq 6, [(45, 0)]),
  (42, 3, .iinc 1 1, [(1, 0)]),
  (45, 3, .iinc 2 1, [(1, 0)]),
  (48, 3, .goto (-25), [(23, 0)]),
  (51, 1, .iload_n 1, [(1, 0)]),
  (52, 1, .ireturn, [])]
/-- PackedForest.clashes ()I -/
def zt146 : zzT := (⟨"PackedForest", "clashes", "()I"⟩, prog_1_method_30_code, 3, (some .int), 1, zr146)
def zr147 : List zzI := [(0, 1, .aload_n 0, [(0, 0)]),
  (1, 3, .getfield 43, [(11, 6)]),
  (4, 1, .iload_n 1, [(1, 0)]),
  (5, 3, .invokevirtual 246, [(46, 1), (1, 0), (10, 0)]),
  (8, 1, .istore_n 2, [(2, 0)]),
  (9, 1, .iconst 0, [(0, 0)]),
  (10, 1, .istore_n 3, [(3, 0)]),
  (11, 0, .nop, [(0, 3), (1, 1), (2, 1), (3, 1)]),
  (11, 1, .iload_n 3, [(3, 0)]),
  (12, 1, .aload_n 0, [(0, 0)]),
  (13, 3, .getfield 16, [(11, 2)]),
  (16, 3, .getfield 132, [(7, 0)]),
  (19, 3, .getfield 135, [(4, 0)]),
  (22, 3, .if_icmp .ge 79, [(101, 0)]),
  (25, 1, .iconst 1, [(1, 0)]),
  (26, 1, .aload_n 0, [(0, 0)]),
  (27, 3, .getfield 16, [(11, 2)]),
  (30, 3, .getfield 132, [(7, 0)]),
  (33, 3, .getfield 188, [(4, 3)]),
  (36, 1, .iload_n 3, [(3, 0)]),
  (37, 1, .iaload, []),
  (38, 1, .ishl, []),
  (39, 2, .istore 4, []),
  (41, 1, .aload_n 0, [(0, 0)]),
  (42, 3, .getfield 43, [(11, 6)]),
  (45, 1, .iload_n 1, [(1, 0)]),
  (46, 1, .iload_n 3, [(3, 0)]),
  (47, 3, .invokevirtual 237, [(45, 2), (1, 0), (10, 0)]),
  (50, 2, .iload 4, []),
  (52, 1, .iand, []),
  (53, 3, .ifCond .eq 42, [(95, 0)]),
  (56, 1, .aload_n 0, [(0, 0)]),
  (57, 3, .getfield 36, [(11, 5)]),
  (60, 3, .getfield 225, [(2, 8)]),
  (63, 1, .aload_n 0, [(0, 0)]),
  (64, 3, .getfield 16, [(11, 2)]),
  (67, 3, .getfield 132, [(7, 0)]),
  (70, 3, .getfield 185, [(4, 2)]),
  (73, 1, .iload_n 3, [(3, 0)]),
  (74, 1, .iaload, []),
  (75, 2, .bipush 26, [(26, 0)]),
  (77, 1, .isub, []),
  (78, 1, .iaload, []),
  (79, 2, .istore 5, []),
  (81, 1, .iload_n 2, [(2, 0)]),
  (82, 2, .iload 5, []),
  (84, 1, .iand, []),
  (85, 3, .ifCond .eq 5, [(90, 0)]),
  (88, 1, .iconst 1, [(1, 0)]),
  (89, 1, .ireturn, []),
  (90, 1, .iload_n 2, [(2, 0)]),
  (91, 2, .iload 5, []),
  (93, 1, .ior, []),
  (94, 1, .istore_n 2, [(2, 0)]),
  (95, 3, .iinc 3 1, [(1, 0)]),
  (98, 3, .goto (-87), [(11, 0)]),
  (101, 1, .iconst 0, [(0, 0)]),
  (102, 1, .ireturn, [])]
/-- PackedForest.hasClash (I)Z -/
def zt147 : zzT := (⟨"PackedForest", "hasClash", "(I)Z"⟩, prog_1_method_31_code, 6, (some .boolean), 4, zr147)
def zr148 : List zzI := [(0, 1, .aload_n 0, [(0, 0)]),
  (1, 3, .invokevirtual 164, [(128, 0), (4, 0), (11, 0)]),
  (4, 3, .ifCond .ne 22, [(26, 0)]),
  (7, 1, .iload_n 1, [(1, 0)]),
  (8, 3, .invokestatic 250, [(134, 1), (4, 0)]),
  (11, 3, .ifCond .eq 15, [(26, 0)]),
  (14, 1, .aload_n 0, [(0, 0)]),
  (15, 3, .getfield 16, [(11, 2)]),
  (18, 3, .getfield 178, [(7, 2)]),
  (21, 2, .bipush 12, [(12, 0)]),
  (23, 3, .if_icmp .lt 5, [(28, 0)]),
  (26, 1, .iconst (-1), [(1, 1)]),
  (27, 1, .ireturn, []),
  (28, 1, .aload_n 0, [(0, 0)]),
  (29, 3, .getfield 16, [(11, 2)]),
  (32, 1, .iconst 0, [(0, 0)]),
  (33, 1, .iconst 0, [(0, 0)]),
  (34, 3, .invokevirtual 253, [(24, 2), (0, 0), (7, 0)]),
  (37, 1, .aload_n 0, [(0, 0)]),
  (38, 3, .getfield 16, [(11, 2)]),
  (41, 1, .iload_n 1, [(1, 0)]),
  (42, 3, .invokevirtual 257, [(25, 1), (0, 0), (7, 0)]),
  (45, 1, .aload_n 0, [(0, 0)]),
  (46, 1, .aload_n 0, [(0, 0)]),
  (47, 3, .getfield 16, [(11, 2)]),
  (50, 3, .getfield 178, [(7, 2)]),
  (53, 1, .iconst 1, [(1, 0)]),
  (54, 1, .isub, []),
  (55, 3, .invokevirtual 260, [(125, 1), (0, 0), (11, 0)]),
  (58, 1, .aload_n 0, [(0, 0)]),
  (59, 3, .getfield 16, [(11, 2)]),
  (62, 3, .getfield 178, [(7, 2)]),
  (65, 1, .ireturn, [])]
/-- PackedForest.read (I)I -/
def zt148 : zzT := (⟨"PackedForest", "read", "(I)I"⟩, prog_1_method_32_code, 2, (some .int), 1, zr148)
def zr149 : List zzI := [(0, 1, .aload_n 0, [(0, 0)]),
  (1, 3, .getfield 16, [(11, 2)]),
  (4, 3, .getfield 178, [(7, 2)]),
  (7, 3, .ifCond .ne 5, [(12, 0)]),
  (10, 1, .iconst (-1), [(1, 1)]),
  (11, 1, .ireturn, []),
  (12, 1, .aload_n 0, [(0, 0)]),
  (13, 3, .getfield 16, [(11, 2)]),
  (16, 3, .invokevirtual 263, [(26, 0), (1, 0), (7, 0)]),
  (19, 1, .istore_n 1, [(1, 0)]),
  (20, 1, .aload_n 0, [(0, 0)]),
  (21, 3, .getfield 16, [(11, 2)]),
  (24, 1, .iconst 1, [(1, 0)]),
  (25, 1, .iload_n 1, [(1, 0)]),
  (26, 3, .invokevirtual 253, [(24, 2), (0, 0), (7, 0)]),
  (29, 1, .aload_n 0, [(0, 0)]),
  (30, 1, .aload_n 0, [(0, 0)]),
  (31, 3, .getfield 16, [(11, 2)]),
  (34, 3, .getfield 178, [(7, 2)]),
  (37, 3, .invokevirtual 260, [(125, 1), (0, 0), (11, 0)]),
  (40, 1, .iload_n 1, [(1, 0)]),
  (41, 1, .ireturn, [])]
/-- PackedForest.drop ()I -/
def zt149 : zzT := (⟨"PackedForest", "drop", "()I"⟩, prog_1_method_33_code, 2, (some .int), 1, zr149)
def zr150 : List zzI := [(0, 1, .iload_n 1, [(1, 0)]),
  (1, 3, .ifCond .lt 34, [(35, 0)]),
  (4, 1, .iload_n 1, [(1, 0)]),
  (5, 1, .aload_n 0, [(0, 0)]),
  (6, 3, .getfield 16, [(11, 2)]),
  (9, 3, .getfield 178, [(7, 2)]),
  (12, 3, .if_icmp .ge 23, [(35, 0)]),
  (15, 1, .iload_n 2, [(2, 0)]),
  (16, 3, .invokestatic 250, [(134, 1), (4, 0)]),
  (19, 3, .ifCond .eq 16, [(35, 0)]),
  (22, 1, .aload_n 0, [(0, 0)]),
  (23, 3, .getfield 16, [(11, 2)]),
  (26, 3, .getfield 267, [(7, 1)]),
  (29, 1, .iload_n 1, [(1, 0)]),
  (30, 1, .iaload, []),
  (31, 1, .iload_n 2, [(2, 0)]),
  (32, 3, .if_icmp .ne 5, [(37, 0)]),
  (35, 1, .iconst (-1), [(1, 1)]),
  (36, 1, .ireturn, []),
  (37, 1, .aload_n 0, [(0, 0)]),
  (38, 3, .getfield 16, [(11, 2)]),
  (41, 3, .getfield 267, [(7, 1)]),
  (44, 1, .iload_n 1, [(1, 0)]),
  (45, 1, .iaload, []),
  (46, 1, .istore_n 3, [(3, 0)]),
  (47, 1, .aload_n 0, [(0, 0)]),
  (48, 3, .getfield 16, [(11, 2)]),
  (51, 1, .iconst 2, [(2, 0)]),
  (52, 1, .iload_n 1, [(1, 0)]),
  (53, 1, .iconst 5, [(5, 0)]),
  (54, 1, .ishl, []),
  (55, 1, .iload_n 3, [(3, 0)]),
  (56, 1, .ior, []),
  (57, 3, .invokevirtual 253, [(24, 2), (0, 0), (7, 0)]),
  (60, 1, .aload_n 0, [(0, 0)]),
  (61, 3, .getfield 16, [(11, 2)]),
  (64, 3, .getfield 267, [(7, 1)]),
  (67, 1, .iload_n 1, [(1, 0)]),
  (68, 1, .iload_n 2, [(2, 0)]),
  (69, 1, .iastore, []),
  (70, 1, .aload_n 0, [(0, 0)]),
  (71, 1, .iload_n 1, [(1, 0)]),
  (72, 3, .invokevirtual 260, [(125, 1), (0, 0), (11, 0)]),
  (75, 1, .iload_n 3, [(3, 0)]),
  (76, 1, .ireturn, [])]
/-- PackedForest.change (II)I -/
def zt150 : zzT := (⟨"PackedForest", "change", "(II)I"⟩, prog_1_method_34_code, 4, (some .int), 1, zr150)
def zr151 : List zzI := [(0, 1, .aload_n 0, [(0, 0)]),
  (1, 1, .iload_n 1, [(1, 0)]),
  (2, 3, .invokevirtual 181, [(129, 1), (4, 0), (11, 0)]),
  (5, 3, .ifCond .ne 5, [(10, 0)]),
  (8, 1, .iconst (-1), [(1, 1)]),
  (9, 1, .ireturn, []),
  (10, 1, .aload_n 0, [(0, 0)]),
  (11, 3, .getfield 16, [(11, 2)]),
  (14, 3, .getfield 161, [(7, 3)]),
  (17, 1, .iconst 1, [(1, 0)]),
  (18, 1, .iload_n 1, [(1, 0)]),
  (19, 1, .ishl, []),
  (20, 1, .ixor, []),
  (21, 1, .istore_n 2, [(2, 0)]),
  (22, 1, .aload_n 0, [(0, 0)]),
  (23, 3, .getfield 43, [(11, 6)]),
  (26, 1, .aload_n 0, [(0, 0)]),
  (27, 3, .getfield 16, [(11, 2)]),
  (30, 3, .getfield 132, [(7, 0)]),
  (33, 1, .iload_n 2, [(2, 0)]),
  (34, 3, .invokevirtual 117, [(47, 2), (4, 0), (10, 0)]),
  (37, 3, .ifCond .ne 6, [(43, 0)]),
  (40, 2, .bipush (-2), [(2, 1)]),
  (42, 1, .ireturn, []),
  (43, 1, .aload_n 0, [(0, 0)]),
  (44, 3, .getfield 16, [(11, 2)]),
  (47, 1, .iconst 3, [(3, 0)]),
  (48, 1, .iload_n 1, [(1, 0)]),
  (49, 3, .invokevirtual 253, [(24, 2), (0, 0), (7, 0)]),
  (52, 1, .aload_n 0, [(0, 0)]),
  (53, 3, .getfield 16, [(11, 2)]),
  (56, 1, .iload_n 2, [(2, 0)]),
  (57, 3, .putfield 161, [(7, 3)]),
  (60, 1, .aload_n 0, [(0, 0)]),
  (61, 3, .invokevirtual 129, [(123, 0), (0, 0), (11, 0)]),
  (64, 1, .aload_n 0, [(0, 0)]),
  (65, 3, .getfield 43, [(11, 6)]),
  (68, 3, .getfield 172, [(10, 1)]),
  (71, 1, .ireturn, [])]
/-- PackedForest.strike (I)I -/
def zt151 : zzT := (⟨"PackedForest", "strike", "(I)I"⟩, prog_1_method_35_code, 3, (some .int), 1, zr151)
def zr152 : List zzI := [(0, 1, .aload_n 0, [(0, 0)]),
  (1, 1, .iload_n 1, [(1, 0)]),
  (2, 3, .invokevirtual 181, [(129, 1), (4, 0), (11, 0)]),
  (5, 3, .ifCond .eq 31, [(36, 0)]),
  (8, 1, .aload_n 0, [(0, 0)]),
  (9, 1, .iload_n 3, [(3, 0)]),
  (10, 3, .invokevirtual 181, [(129, 1), (4, 0), (11, 0)]),
  (13, 3, .ifCond .eq 23, [(36, 0)]),
  (16, 1, .iload_n 2, [(2, 0)]),
  (17, 3, .ifCond .lt 19, [(36, 0)]),
  (20, 1, .iload_n 2, [(2, 0)]),
  (21, 1, .aload_n 0, [(0, 0)]),
  (22, 3, .getfield 16, [(11, 2)]),
  (25, 3, .getfield 132, [(7, 0)]),
  (28, 3, .getfield 188, [(4, 3)]),
  (31, 1, .iload_n 1, [(1, 0)]),
  (32, 1, .iaload, []),
  (33, 3, .if_icmp .lt 5, [(38, 0)]),
  (36, 1, .iconst (-1), [(1, 1)]),
  (37, 1, .ireturn, []),
  (38, 1, .aload_n 0, [(0, 0)]),
  (39, 3, .getfield 16, [(11, 2)]),
  (42, 3, .getfield 132, [(7, 0)]),
  (45, 1, .iload_n 1, [(1, 0)]),
  (46, 1, .iload_n 2, [(2, 0)]),
  (47, 3, .invokevirtual 197, [(6, 2), (1, 0), (4, 0)]),
  (50, 1, .aload_n 0, [(0, 0)]),
  (51, 3, .getfield 16, [(11, 2)]),
  (54, 3, .getfield 132, [(7, 0)]),
  (57, 3, .getfield 185, [(4, 2)]),
  (60, 1, .iload_n 3, [(3, 0)]),
  (61, 1, .iaload, []),
  (62, 3, .if_icmp .eq 5, [(67, 0)]),
  (65, 1, .iconst (-1), [(1, 1)]),
  (66, 1, .ireturn, []),
  (67, 1, .iload_n 1, [(1, 0)]),
  (68, 1, .iconst 4, [(4, 0)]),
  (69, 1, .imul, []),
  (70, 1, .iload_n 2, [(2, 0)]),
  (71, 1, .iadd, []),
  (72, 2, .istore 4, []),
  (74, 1, .aload_n 0, [(0, 0)]),
  (75, 3, .getfield 16, [(11, 2)]),
  (78, 2, .iload 4, []),
  (80, 1, .iload_n 3, [(3, 0)]),
  (81, 3, .invokevirtual 270, [(27, 2), (4, 0), (7, 0)]),
  (84, 3, .ifCond .ne 17, [(101, 0)]),
  (87, 1, .aload_n 0, [(0, 0)]),
  (88, 3, .getfield 16, [(11, 2)]),
  (91, 3, .getfield 274, [(7, 5)]),
  (94, 2, .bipush 8, [(8, 0)]),
  (96, 3, .if_icmp .lt 5, [(101, 0)]),
  (99, 1, .iconst (-1), [(1, 1)]),
  (100, 1, .ireturn, []),
  (101, 1, .aload_n 0, [(0, 0)]),
  (102, 3, .getfield 16, [(11, 2)]),
  (105, 1, .iconst 4, [(4, 0)]),
  (106, 2, .iload 4, []),
  (108, 1, .iconst 4, [(4, 0)]),
  (109, 1, .ishl, []),
  (110, 1, .iload_n 3, [(3, 0)]),
  (111, 1, .ior, []),
  (112, 3, .invokevirtual 253, [(24, 2), (0, 0), (7, 0)]),
  (115, 1, .aload_n 0, [(0, 0)]),
  (116, 3, .getfield 16, [(11, 2)]),
  (119, 2, .iload 4, []),
  (121, 1, .iload_n 3, [(3, 0)]),
  (122, 3, .invokevirtual 277, [(28, 2), (0, 0), (7, 0)]),
  (125, 1, .aload_n 0, [(0, 0)]),
  (126, 3, .invokevirtual 147, [(124, 0), (0, 0), (11, 0)]),
  (129, 1, .aload_n 0, [(0, 0)]),
  (130, 3, .getfield 16, [(11, 2)]),
  (133, 3, .getfield 274, [(7, 5)]),
  (136, 1, .ireturn, [])]
/-- PackedForest.ban (III)I -/
def zt152 : zzT := (⟨"PackedForest", "ban", "(III)I"⟩, prog_1_method_36_code, 5, (some .int), 1, zr152)
def zr153 : List zzI := [(0, 1, .aload_n 0, [(0, 0)]),
  (1, 3, .invokevirtual 164, [(128, 0), (4, 0), (11, 0)]),
  (4, 3, .ifCond .ne 12, [(16, 0)]),
  (7, 1, .iload_n 1, [(1, 0)]),
  (8, 3, .ifCond .lt 8, [(16, 0)]),
  (11, 1, .iload_n 1, [(1, 0)]),
  (12, 1, .iconst 3, [(3, 0)]),
  (13, 3, .if_icmp .lt 5, [(18, 0)]),
  (16, 1, .iconst (-1), [(1, 1)]),
  (17, 1, .ireturn, []),
  (18, 1, .aload_n 0, [(0, 0)]),
  (19, 3, .getfield 16, [(11, 2)]),
  (22, 1, .iconst 5, [(5, 0)]),
  (23, 1, .iload_n 1, [(1, 0)]),
  (24, 3, .invokevirtual 253, [(24, 2), (0, 0), (7, 0)]),
  (27, 1, .aload_n 0, [(0, 0)]),
  (28, 3, .getfield 16, [(11, 2)]),
  (31, 1, .dup, []),
  (32, 3, .getfield 280, [(7, 6)]),
  (35, 1, .iconst 1, [(1, 0)]),
  (36, 1, .iload_n 1, [(1, 0)]),
  (37, 1, .ishl, []),
  (38, 1, .ixor, []),
  (39, 3, .putfield 280, [(7, 6)]),
  (42, 1, .aload_n 0, [(0, 0)]),
  (43, 3, .invokevirtual 147, [(124, 0), (0, 0), (11, 0)]),
  (46, 1, .aload_n 0, [(0, 0)]),
  (47, 3, .getfield 16, [(11, 2)]),
  (50, 3, .getfield 280, [(7, 6)]),
  (53, 1, .ireturn, [])]
/-- PackedForest.filter (I)I -/
def zt153 : zzT := (⟨"PackedForest", "filter", "(I)I"⟩, prog_1_method_37_code, 2, (some .int), 1, zr153)
def zr154 : List zzI := [(0, 1, .aload_n 0, [(0, 0)]),
  (1, 3, .getfield 16, [(11, 2)]),
  (4, 3, .getfield 283, [(7, 8)]),
  (7, 3, .ifCond .ne 6, [(13, 0)]),
  (10, 2, .bipush (-2), [(2, 1)]),
  (12, 1, .ireturn, []),
  (13, 1, .aload_n 0, [(0, 0)]),
  (14, 3, .getfield 16, [(11, 2)]),
  (17, 1, .dup, []),
  (18, 3, .getfield 283, [(7, 8)]),
  (21, 1, .iconst 1, [(1, 0)]),
  (22, 1, .isub, []),
  (23, 3, .putfield 283, [(7, 8)]),
  (26, 1, .aload_n 0, [(0, 0)]),
  (27, 3, .getfield 16, [(11, 2)]),
  (30, 3, .getfield 286, [(7, 7)]),
  (33, 1, .aload_n 0, [(0, 0)]),
  (34, 3, .getfield 16, [(11, 2)]),
  (37, 3, .getfield 283, [(7, 8)]),
  (40, 1, .iaload, []),
  (41, 1, .istore_n 1, [(1, 0)]),
  (42, 1, .iload_n 1, [(1, 0)]),
  (43, 1, .iconst 3, [(3, 0)]),
  (44, 1, .ishr, []),
  (45, 1, .istore_n 2, [(2, 0)]),
  (46, 1, .iload_n 1, [(1, 0)]),
  (47, 2, .bipush 7, [(7, 0)]),
  (49, 1, .iand, []),
  (50, 34, .tableswitch 156 0 4 #[34, 56, 80, 105, 135], [(206, 0), (0, 84), (1, 106), (2, 130), (3, 155), (4, 185)]),
  (84, 1, .aload_n 0, [(0, 0)]),
  (85, 3, .getfield 16, [(11, 2)]),
  (88, 3, .invokevirtual 263, [(26, 0), (1, 0), (7, 0)]),
  (91, 1, .pop, []),
  (92, 1, .aload_n 0, [(0, 0)]),
  (93, 1, .aload_n 0, [(0, 0)]),
  (94, 3, .getfield 16, [(11, 2)]),
  (97, 3, .getfield 178, [(7, 2)]),
  (100, 3, .invokevirtual 260, [(125, 1), (0, 0), (11, 0)]),
  (103, 3, .goto 122, [(225, 0)]),
  (106, 1, .aload_n 0, [(0, 0)]),
  (107, 3, .getfield 16, [(11, 2)]),
  (110, 1, .iload_n 2, [(2, 0)]),
  (111, 3, .invokevirtual 257, [(25, 1), (0, 0), (7, 0)]),
  (114, 1, .aload_n 0, [(0, 0)]),
  (115, 1, .aload_n 0, [(0, 0)]),
  (116, 3, .getfield 16, [(11, 2)]),
  (119, 3, .getfield 178, [(7, 2)]),
  (122, 1, .iconst 1, [(1, 0)]),
  (123, 1, .isub, []),
  (124, 3, .invokevirtual 260, [(125, 1), (0, 0), (11, 0)]),
  (127, 3, .goto 98, [(225, 0)]),
  (130, 1, .aload_n 0, [(0, 0)]),
  (131, 3, .getfield 16, [(11, 2)]),
  (134, 3, .getfield 267, [(7, 1)]),
  (137, 1, .iload_n 2, [(2, 0)]),
  (138, 1, .iconst 5, [(5, 0)]),
  (139, 1, .ishr, []),
  (140, 1, .iload_n 2, [(2, 0)]),
  (141, 2, .bipush 31, [(31, 0)]),
  (143, 1, .iand, []),
  (144, 1, .iastore, []),
  (145, 1, .aload_n 0, [(0, 0)]),
  (146, 1, .iload_n 2, [(2, 0)]),
  (147, 1, .iconst 5, [(5, 0)]),
  (148, 1, .ishr, []),
  (149, 3, .invokevirtual 260, [(125, 1), (0, 0), (11, 0)]),
  (152, 3, .goto 73, [(225, 0)]),
  (155, 1, .aload_n 0, [(0, 0)]),
  (156, 3, .getfield 16, [(11, 2)]),
  (159, 1, .dup, []),
  (160, 3, .getfield 161, [(7, 3)]),
  (163, 1, .iconst 1, [(1, 0)]),
  (164, 1, .iload_n 2, [(2, 0)]),
  (165, 1, .ishl, []),
  (166, 1, .ixor, []),
  (167, 3, .putfield 161, [(7, 3)]),
  (170, 1, .aload_n 0, [(0, 0)]),
  (171, 3, .getfield 43, [(11, 6)]),
  (174, 1, .iconst 0, [(0, 0)]),
  (175, 3, .putfield 160, [(10, 0)]),
  (178, 1, .aload_n 0, [(0, 0)]),
  (179, 3, .invokevirtual 129, [(123, 0), (0, 0), (11, 0)]),
  (182, 3, .goto 43, [(225, 0)]),
  (185, 1, .aload_n 0, [(0, 0)]),
  (186, 3, .getfield 16, [(11, 2)]),
  (189, 1, .iload_n 2, [(2, 0)]),
  (190, 1, .iconst 4, [(4, 0)]),
  (191, 1, .ishr, []),
  (192, 1, .iload_n 2, [(2, 0)]),
  (193, 2, .bipush 15, [(15, 0)]),
  (195, 1, .iand, []),
  (196, 3, .invokevirtual 277, [(28, 2), (0, 0), (7, 0)]),
  (199, 1, .aload_n 0, [(0, 0)]),
  (200, 3, .invokevirtual 147, [(124, 0), (0, 0), (11, 0)]),
  (203, 3, .goto 22, [(225, 0)]),
  (206, 1, .aload_n 0, [(0, 0)]),
  (207, 3, .getfield 16, [(11, 2)]),
  (210, 1, .dup, []),
  (211, 3, .getfield 280, [(7, 6)]),
  (214, 1, .iconst 1, [(1, 0)]),
  (215, 1, .iload_n 2, [(2, 0)]),
  (216, 1, .ishl, []),
  (217, 1, .ixor, []),
  (218, 3, .putfield 280, [(7, 6)]),
  (221, 1, .aload_n 0, [(0, 0)]),
  (222, 3, .invokevirtual 147, [(124, 0), (0, 0), (11, 0)]),
  (225, 1, .aload_n 0, [(0, 0)]),
  (226, 3, .getfield 16, [(11, 2)]),
  (229, 3, .getfield 283, [(7, 8)]),
  (232, 1, .ireturn, [])]
/-- PackedForest.undo ()I -/
def zt154 : zzT := (⟨"PackedForest", "undo", "()I"⟩, prog_1_method_38_code, 3, (some .int), 1, zr154)
def zr155 : List zzI := [(0, 1, .iload_n 1, [(1, 0)]),
  (1, 3, .ifCond .lt 26, [(27, 0)]),
  (4, 1, .iload_n 1, [(1, 0)]),
  (5, 1, .aload_n 0, [(0, 0)]),
  (6, 3, .getfield 16, [(11, 2)]),
  (9, 3, .getfield 178, [(7, 2)]),
  (12, 3, .if_icmp .ge 15, [(27, 0)]),
  (15, 1, .aload_n 0, [(0, 0)]),
  (16, 3, .getfield 16, [(11, 2)]),
  (19, 3, .getfield 267, [(7, 1)]),
  (22, 1, .iload_n 1, [(1, 0)]),
  (23, 1, .iaload, []),
  (24, 3, .goto 4, [(28, 0)]),
  (27, 1, .iconst (-1), [(1, 1)]),
  (28, 1, .ireturn, [])]
/-- PackedForest.letter (I)I -/
def zt155 : zzT := (⟨"PackedForest", "letter", "(I)I"⟩, prog_1_method_39_code, 2, (some .int), 1, zr155)
def zr156 : List zzI := [(0, 1, .aload_n 0, [(0, 0)]),
  (1, 1, .iload_n 1, [(1, 0)]),
  (2, 3, .invokevirtual 289, [(133, 1), (4, 0), (11, 0)]),
  (5, 3, .ifCond .ne 5, [(10, 0)]),
  (8, 1, .iconst (-1), [(1, 1)]),
  (9, 1, .ireturn, []),
  (10, 1, .iload_n 2, [(2, 0)]),
  (11, 1, .iconst (-1), [(1, 1)]),
  (12, 3, .if_icmp .eq 13, [(25, 0)]),
  (15, 1, .aload_n 0, [(0, 0)]),
  (16, 1, .iload_n 2, [(2, 0)]),
  (17, 3, .invokevirtual 231, [(130, 1), (4, 0), (11, 0)]),
  (20, 3, .ifCond .ne 5, [(25, 0)]),
  (23, 1, .iconst (-1), [(1, 1)]),
  (24, 1, .ireturn, []),
  (25, 1, .aload_n 0, [(0, 0)]),
  (26, 3, .invokevirtual 168, [(127, 0), (3, 26), (11, 0)]),
  (29, 1, .pop, []),
  (30, 1, .aload_n 0, [(0, 0)]),
  (31, 3, .getfield 64, [(11, 9)]),
  (34, 3, .invokevirtual 292, [(73, 0), (0, 0), (5, 0)]),
  (37, 1, .iload_n 2, [(2, 0)]),
  (38, 1, .iconst (-1), [(1, 1)]),
  (39, 3, .if_icmp .ne 12, [(51, 0)]),
  (42, 1, .aload_n 0, [(0, 0)]),
  (43, 3, .getfield 64, [(11, 9)]),
  (46, 1, .iload_n 1, [(1, 0)]),
  (47, 3, .invokevirtual 293, [(70, 1), (1, 0), (5, 0)]),
  (50, 1, .ireturn, []),
  (51, 1, .aload_n 0, [(0, 0)]),
  (52, 3, .getfield 64, [(11, 9)]),
  (55, 1, .iload_n 1, [(1, 0)]),
  (56, 1, .iload_n 2, [(2, 0)]),
  (57, 3, .invokevirtual 296, [(68, 2), (4, 0), (5, 0)]),
  (60, 3, .ifCond .eq 7, [(67, 0)]),
  (63, 1, .iconst 1, [(1, 0)]),
  (64, 3, .goto 4, [(68, 0)]),
  (67, 1, .iconst 0, [(0, 0)]),
  (68, 1, .ireturn, [])]
/-- PackedForest.alive (II)I -/
def zt156 : zzT := (⟨"PackedForest", "alive", "(II)I"⟩, prog_1_method_40_code, 3, (some .int), 1, zr156)
def zr157 : List zzI := [(0, 1, .aload_n 0, [(0, 0)]),
  (1, 1, .iload_n 1, [(1, 0)]),
  (2, 3, .invokevirtual 289, [(133, 1), (4, 0), (11, 0)]),
  (5, 3, .ifCond .ne 5, [(10, 0)]),
  (8, 1, .iconst (-1), [(1, 1)]),
  (9, 1, .ireturn, []),
  (10, 1, .iload_n 2, [(2, 0)]),
  (11, 1, .iconst (-1), [(1, 1)]),
  (12, 3, .if_icmp .eq 13, [(25, 0)]),
  (15, 1, .aload_n 0, [(0, 0)]),
  (16, 1, .iload_n 2, [(2, 0)]),
  (17, 3, .invokevirtual 231, [(130, 1), (4, 0), (11, 0)]),
  (20, 3, .ifCond .ne 5, [(25, 0)]),
  (23, 1, .iconst (-1), [(1, 1)]),
  (24, 1, .ireturn, []),
  (25, 1, .aload_n 0, [(0, 0)]),
  (26, 3, .invokevirtual 168, [(127, 0), (3, 26), (11, 0)]),
  (29, 1, .pop, []),
  (30, 1, .aload_n 0, [(0, 0)]),
  (31, 3, .getfield 64, [(11, 9)]),
  (34, 3, .invokevirtual 292, [(73, 0), (0, 0), (5, 0)]),
  (37, 1, .iload_n 2, [(2, 0)]),
  (38, 1, .iconst (-1), [(1, 1)]),
  (39, 3, .if_icmp .ne 14, [(53, 0)]),
  (42, 1, .aload_n 0, [(0, 0)]),
  (43, 3, .getfield 64, [(11, 9)]),
  (46, 1, .iload_n 1, [(1, 0)]),
  (47, 3, .invokevirtual 299, [(71, 1), (1, 0), (5, 0)]),
  (50, 3, .goto 12, [(62, 0)]),
  (53, 1, .aload_n 0, [(0, 0)]),
  (54, 3, .getfield 64, [(11, 9)]),
  (57, 1, .iload_n 1, [(1, 0)]),
  (58, 1, .iload_n 2, [(2, 0)]),
  (59, 3, .invokevirtual 302, [(69, 2), (1, 0), (5, 0)]),
  (62, 1, .ireturn, [])]
/-- PackedForest.links (II)I -/
def zt157 : zzT := (⟨"PackedForest", "links", "(II)I"⟩, prog_1_method_41_code, 3, (some .int), 1, zr157)
def zr158 : List zzI := [(0, 1, .aload_n 0, [(0, 0)]),
  (1, 1, .iload_n 1, [(1, 0)]),
  (2, 3, .invokevirtual 289, [(133, 1), (4, 0), (11, 0)]),
  (5, 3, .ifCond .ne 5, [(10, 0)]),
  (8, 1, .iconst (-1), [(1, 1)]),
  (9, 1, .ireturn, []),
  (10, 1, .aload_n 0, [(0, 0)]),
  (11, 3, .invokevirtual 168, [(127, 0), (3, 26), (11, 0)]),
  (14, 1, .pop, []),
  (15, 1, .aload_n 0, [(0, 0)]),
  (16, 3, .getfield 64, [(11, 9)]),
  (19, 3, .invokevirtual 292, [(73, 0), (0, 0), (5, 0)]),
  (22, 1, .aload_n 0, [(0, 0)]),
  (23, 3, .getfield 64, [(11, 9)]),
  (26, 1, .iload_n 1, [(1, 0)]),
  (27, 3, .invokevirtual 305, [(72, 1), (1, 0), (5, 0)]),
  (30, 1, .ireturn, [])]
/-- PackedForest.expects (I)I -/
def zt158 : zzT := (⟨"PackedForest", "expects", "(I)I"⟩, prog_1_method_42_code, 2, (some .int), 1, zr158)
def zr159 : List zzI := [(0, 1, .aload_n 0, [(0, 0)]),
  (1, 1, .iload_n 1, [(1, 0)]),
  (2, 3, .invokevirtual 219, [(131, 1), (4, 0), (11, 0)]),
  (5, 3, .ifCond .eq 12, [(17, 0)]),
  (8, 1, .aload_n 0, [(0, 0)]),
  (9, 1, .iload_n 2, [(2, 0)]),
  (10, 1, .iload_n 3, [(3, 0)]),
  (11, 3, .invokevirtual 308, [(132, 2), (4, 0), (11, 0)]),
  (14, 3, .ifCond .ne 5, [(19, 0)]),
  (17, 1, .iconst (-1), [(1, 1)]),
  (18, 1, .ireturn, []),
  (19, 1, .aload_n 0, [(0, 0)]),
  (20, 3, .getfield 52, [(11, 7)]),
  (23, 3, .invokevirtual 311, [(58, 0), (0, 0), (0, 0)]),
  (26, 1, .aload_n 0, [(0, 0)]),
  (27, 3, .getfield 52, [(11, 7)]),
  (30, 1, .iload_n 1, [(1, 0)]),
  (31, 1, .iload_n 2, [(2, 0)]),
  (32, 1, .iload_n 3, [(3, 0)]),
  (33, 3, .invokevirtual 314, [(53, 3), (4, 0), (0, 0)]),
  (36, 3, .ifCond .eq 7, [(43, 0)]),
  (39, 1, .iconst 1, [(1, 0)]),
  (40, 3, .goto 4, [(44, 0)]),
  (43, 1, .iconst 0, [(0, 0)]),
  (44, 1, .ireturn, [])]
/-- PackedForest.derives (III)I -/
def zt159 : zzT := (⟨"PackedForest", "derives", "(III)I"⟩, prog_1_method_43_code, 4, (some .int), 1, zr159)
def zr160 : List zzI := [(0, 1, .aload_n 0, [(0, 0)]),
  (1, 1, .iload_n 1, [(1, 0)]),
  (2, 3, .invokevirtual 219, [(131, 1), (4, 0), (11, 0)]),
  (5, 3, .ifCond .eq 12, [(17, 0)]),
  (8, 1, .aload_n 0, [(0, 0)]),
  (9, 1, .iload_n 2, [(2, 0)]),
  (10, 1, .iload_n 3, [(3, 0)]),
  (11, 3, .invokevirtual 308, [(132, 2), (4, 0), (11, 0)]),
  (14, 3, .ifCond .ne 5, [(19, 0)]),
  (17, 1, .iconst (-1), [(1, 1)]),
  (18, 1, .ireturn, []),
  (19, 1, .aload_n 0, [(0, 0)]),
  (20, 3, .getfield 73, [(11, 10)]),
  (23, 3, .invokevirtual 318, [(80, 0), (0, 0), (1, 0)]),
  (26, 1, .aload_n 0, [(0, 0)]),
  (27, 3, .getfield 73, [(11, 10)]),
  (30, 1, .aload_n 0, [(0, 0)]),
  (31, 3, .getfield 16, [(11, 2)]),
  (34, 3, .getfield 132, [(7, 0)]),
  (37, 3, .getfield 319, [(4, 7)]),
  (40, 1, .iload_n 1, [(1, 0)]),
  (41, 2, .bipush 26, [(26, 0)]),
  (43, 1, .isub, []),
  (44, 1, .iaload, []),
  (45, 1, .iload_n 2, [(2, 0)]),
  (46, 1, .iload_n 3, [(3, 0)]),
  (47, 3, .invokestatic 322, [(135, 2), (1, 0)]),
  (50, 3, .invokevirtual 325, [(79, 2), (2, 0), (1, 0)]),
  (53, 2, .lstore 4, []),
  (55, 2, .lload 4, []),
  (57, 3, .ldc2_w 329, [(1099511627776, 0)]),
  (60, 1, .lcmp, []),
  (61, 3, .ifCond .ne 6, [(67, 0)]),
  (64, 2, .bipush (-3), [(3, 1)]),
  (66, 1, .ireturn, []),
  (67, 2, .lload 4, []),
  (69, 3, .ldc2_w 331, [(2147483648, 0)]),
  (72, 1, .lcmp, []),
  (73, 3, .ifCond .lt 8, [(81, 0)]),
  (76, 2, .bipush (-2), [(2, 1)]),
  (78, 3, .goto 6, [(84, 0)]),
  (81, 2, .lload 4, []),
  (83, 1, .l2i, []),
  (84, 1, .ireturn, [])]
/-- PackedForest.trees (III)I -/
def zt160 : zzT := (⟨"PackedForest", "trees", "(III)I"⟩, prog_1_method_44_code, 6, (some .int), 1, zr160)
def zr161 : List zzI := [(0, 1, .aload_n 0, [(0, 0)]),
  (1, 1, .iload_n 1, [(1, 0)]),
  (2, 3, .invokevirtual 181, [(129, 1), (4, 0), (11, 0)]),
  (5, 3, .ifCond .eq 12, [(17, 0)]),
  (8, 1, .aload_n 0, [(0, 0)]),
  (9, 1, .iload_n 2, [(2, 0)]),
  (10, 1, .iload_n 3, [(3, 0)]),
  (11, 3, .invokevirtual 308, [(132, 2), (4, 0), (11, 0)]),
  (14, 3, .ifCond .ne 5, [(19, 0)]),
  (17, 1, .iconst (-1), [(1, 1)]),
  (18, 1, .ireturn, []),
  (19, 1, .aload_n 0, [(0, 0)]),
  (20, 3, .getfield 87, [(11, 12)]),
  (23, 3, .invokevirtual 333, [(97, 0), (0, 0), (3, 0)]),
  (26, 1, .aload_n 0, [(0, 0)]),
  (27, 3, .getfield 87, [(11, 12)]),
  (30, 3, .getfield 334, [(3, 4)]),
  (33, 1, .iload_n 2, [(2, 0)]),
  (34, 1, .iload_n 3, [(3, 0)]),
  (35, 3, .invokestatic 322, [(135, 2), (1, 0)]),
  (38, 1, .iaload, []),
  (39, 1, .iload_n 1, [(1, 0)]),
  (40, 1, .ishr, []),
  (41, 1, .iconst 1, [(1, 0)]),
  (42, 1, .iand, []),
  (43, 1, .ireturn, [])]
/-- PackedForest.piece (III)I -/
def zt161 : zzT := (⟨"PackedForest", "piece", "(III)I"⟩, prog_1_method_45_code, 4, (some .int), 1, zr161)
def zr162 : List zzI := [(0, 1, .aload_n 0, [(0, 0)]),
  (1, 1, .iload_n 1, [(1, 0)]),
  (2, 3, .invokevirtual 181, [(129, 1), (4, 0), (11, 0)]),
  (5, 3, .ifCond .eq 12, [(17, 0)]),
  (8, 1, .aload_n 0, [(0, 0)]),
  (9, 1, .iload_n 2, [(2, 0)]),
  (10, 1, .iload_n 3, [(3, 0)]),
  (11, 3, .invokevirtual 308, [(132, 2), (4, 0), (11, 0)]),
  (14, 3, .ifCond .ne 5, [(19, 0)]),
  (17, 1, .iconst (-1), [(1, 1)]),
  (18, 1, .ireturn, []),
  (19, 1, .aload_n 0, [(0, 0)]),
  (20, 3, .getfield 56, [(11, 8)]),
  (23, 3, .invokevirtual 311, [(58, 0), (0, 0), (0, 0)]),
  (26, 1, .aload_n 0, [(0, 0)]),
  (27, 3, .getfield 56, [(11, 8)]),
  (30, 1, .iload_n 1, [(1, 0)]),
  (31, 1, .iload_n 2, [(2, 0)]),
  (32, 1, .iload_n 3, [(3, 0)]),
  (33, 3, .invokevirtual 337, [(66, 3), (1, 0), (0, 0)]),
  (36, 1, .ireturn, [])]
/-- PackedForest.ways (III)I -/
def zt162 : zzT := (⟨"PackedForest", "ways", "(III)I"⟩, prog_1_method_46_code, 4, (some .int), 1, zr162)
def zr163 : List zzI := [(0, 1, .aload_n 0, [(0, 0)]),
  (1, 3, .invokevirtual 164, [(128, 0), (4, 0), (11, 0)]),
  (4, 3, .ifCond .ne 12, [(16, 0)]),
  (7, 1, .iload_n 1, [(1, 0)]),
  (8, 3, .ifCond .lt 8, [(16, 0)]),
  (11, 1, .iload_n 1, [(1, 0)]),
  (12, 1, .iconst 3, [(3, 0)]),
  (13, 3, .if_icmp .le 5, [(18, 0)]),
  (16, 1, .iconst (-1), [(1, 1)]),
  (17, 1, .ireturn, []),
  (18, 1, .aload_n 0, [(0, 0)]),
  (19, 3, .getfield 87, [(11, 12)]),
  (22, 3, .invokevirtual 333, [(97, 0), (0, 0), (3, 0)]),
  (25, 1, .iload_n 1, [(1, 0)]),
  (26, 3, .ifCond .ne 11, [(37, 0)]),
  (29, 1, .aload_n 0, [(0, 0)]),
  (30, 3, .getfield 87, [(11, 12)]),
  (33, 3, .invokevirtual 341, [(96, 0), (1, 0), (3, 0)]),
  (36, 1, .ireturn, []),
  (37, 1, .aload_n 0, [(0, 0)]),
  (38, 3, .getfield 87, [(11, 12)]),
  (41, 3, .invokevirtual 344, [(102, 0), (0, 0), (3, 0)]),
  (44, 1, .iload_n 1, [(1, 0)]),
  (45, 1, .iconst 1, [(1, 0)]),
  (46, 3, .if_icmp .ne 11, [(57, 0)]),
  (49, 1, .aload_n 0, [(0, 0)]),
  (50, 3, .getfield 87, [(11, 12)]),
  (53, 3, .getfield 347, [(3, 5)]),
  (56, 1, .ireturn, []),
  (57, 1, .iload_n 1, [(1, 0)]),
  (58, 1, .iconst 2, [(2, 0)]),
  (59, 3, .if_icmp .ne 13, [(72, 0)]),
  (62, 1, .aload_n 0, [(0, 0)]),
  (63, 3, .getfield 87, [(11, 12)]),
  (66, 3, .getfield 350, [(3, 6)]),
  (69, 3, .goto 10, [(79, 0)]),
  (72, 1, .aload_n 0, [(0, 0)]),
  (73, 3, .getfield 87, [(11, 12)]),
  (76, 3, .getfield 353, [(3, 7)]),
  (79, 1, .ireturn, [])]
/-- PackedForest.forest (I)I -/
def zt163 : zzT := (⟨"PackedForest", "forest", "(I)I"⟩, prog_1_method_47_code, 2, (some .int), 1, zr163)
def zr164 : List zzI := [(0, 1, .aload_n 0, [(0, 0)]),
  (1, 3, .invokevirtual 164, [(128, 0), (4, 0), (11, 0)]),
  (4, 3, .ifCond .eq 5, [(9, 0)]),
  (7, 1, .iconst (-1), [(1, 1)]),
  (8, 1, .ireturn, []),
  (9, 1, .aload_n 0, [(0, 0)]),
  (10, 3, .getfield 80, [(11, 11)]),
  (13, 3, .invokevirtual 356, [(86, 0), (0, 0), (8, 0)]),
  (16, 1, .aload_n 0, [(0, 0)]),
  (17, 3, .getfield 80, [(11, 11)]),
  (20, 3, .invokevirtual 357, [(85, 0), (2, 0), (8, 0)]),
  (23, 1, .lstore_n 1, [(1, 0)]),
  (24, 1, .lload_n 1, [(1, 0)]),
  (25, 3, .ldc2_w 361, [(1152921504606846976, 0)]),
  (28, 1, .lcmp, []),
  (29, 3, .ifCond .lt 8, [(37, 0)]),
  (32, 2, .bipush (-2), [(2, 1)]),
  (34, 3, .goto 5, [(39, 0)]),
  (37, 1, .lload_n 1, [(1, 0)]),
  (38, 1, .l2i, []),
  (39, 1, .ireturn, [])]
/-- PackedForest.smallest ()I -/
def zt164 : zzT := (⟨"PackedForest", "smallest", "()I"⟩, prog_1_method_48_code, 3, (some .int), 1, zr164)
def zr165 : List zzI := [(0, 1, .aload_n 0, [(0, 0)]),
  (1, 3, .invokevirtual 164, [(128, 0), (4, 0), (11, 0)]),
  (4, 3, .ifCond .ne 16, [(20, 0)]),
  (7, 1, .iload_n 1, [(1, 0)]),
  (8, 3, .ifCond .lt 12, [(20, 0)]),
  (11, 1, .iload_n 2, [(2, 0)]),
  (12, 3, .ifCond .lt 8, [(20, 0)]),
  (15, 1, .iload_n 2, [(2, 0)]),
  (16, 1, .iconst 2, [(2, 0)]),
  (17, 3, .if_icmp .le 5, [(22, 0)]),
  (20, 1, .iconst (-1), [(1, 1)]),
  (21, 1, .ireturn, []),
  (22, 1, .aload_n 0, [(0, 0)]),
  (23, 3, .getfield 80, [(11, 11)]),
  (26, 3, .invokevirtual 356, [(86, 0), (0, 0), (8, 0)]),
  (29, 1, .aload_n 0, [(0, 0)]),
  (30, 3, .getfield 80, [(11, 11)]),
  (33, 3, .invokevirtual 357, [(85, 0), (2, 0), (8, 0)]),
  (36, 1, .lstore_n 3, [(3, 0)]),
  (37, 1, .lload_n 3, [(3, 0)]),
  (38, 3, .ldc2_w 361, [(1152921504606846976, 0)]),
  (41, 1, .lcmp, []),
  (42, 3, .ifCond .ge 10, [(52, 0)]),
  (45, 1, .iload_n 1, [(1, 0)]),
  (46, 1, .i2l, []),
  (47, 1, .lload_n 3, [(3, 0)]),
  (48, 1, .lcmp, []),
  (49, 3, .ifCond .lt 5, [(54, 0)]),
  (52, 1, .iconst (-1), [(1, 1)]),
  (53, 1, .ireturn, []),
  (54, 1, .aload_n 0, [(0, 0)]),
  (55, 3, .getfield 80, [(11, 11)]),
  (58, 1, .iload_n 1, [(1, 0)]),
  (59, 1, .i2l, []),
  (60, 3, .invokevirtual 363, [(93, 1), (0, 0), (8, 0)]),
  (63, 1, .iload_n 2, [(2, 0)]),
  (64, 3, .ifCond .ne 11, [(75, 0)]),
  (67, 1, .aload_n 0, [(0, 0)]),
  (68, 3, .getfield 80, [(11, 11)]),
  (71, 3, .getfield 367, [(8, 3)]),
  (74, 1, .ireturn, []),
  (75, 1, .iload_n 2, [(2, 0)]),
  (76, 1, .iconst 1, [(1, 0)]),
  (77, 3, .if_icmp .ne 13, [(90, 0)]),
  (80, 1, .aload_n 0, [(0, 0)]),
  (81, 3, .getfield 80, [(11, 11)]),
  (84, 3, .getfield 370, [(8, 4)]),
  (87, 3, .goto 10, [(97, 0)]),
  (90, 1, .aload_n 0, [(0, 0)]),
  (91, 3, .getfield 80, [(11, 11)]),
  (94, 3, .getfield 373, [(8, 5)]),
  (97, 1, .ireturn, [])]
/-- PackedForest.tree (II)I -/
def zt165 : zzT := (⟨"PackedForest", "tree", "(II)I"⟩, prog_1_method_49_code, 5, (some .int), 1, zr165)
def zr166 : List zzI := [(0, 1, .aload_n 0, [(0, 0)]),
  (1, 3, .invokevirtual 164, [(128, 0), (4, 0), (11, 0)]),
  (4, 3, .ifCond .eq 5, [(9, 0)]),
  (7, 1, .iconst (-1), [(1, 1)]),
  (8, 1, .ireturn, []),
  (9, 1, .aload_n 0, [(0, 0)]),
  (10, 3, .getfield 52, [(11, 7)]),
  (13, 3, .invokevirtual 311, [(58, 0), (0, 0), (0, 0)]),
  (16, 1, .aload_n 0, [(0, 0)]),
  (17, 3, .getfield 16, [(11, 2)]),
  (20, 3, .getfield 178, [(7, 2)]),
  (23, 1, .istore_n 1, [(1, 0)]),
  (24, 0, .nop, [(0, 3), (1, 1)]),
  (24, 1, .iload_n 1, [(1, 0)]),
  (25, 3, .ifCond .lt 35, [(60, 0)]),
  (28, 1, .aload_n 0, [(0, 0)]),
  (29, 3, .getfield 52, [(11, 7)]),
  (32, 1, .aload_n 0, [(0, 0)]),
  (33, 3, .getfield 16, [(11, 2)]),
  (36, 3, .getfield 132, [(7, 0)]),
  (39, 3, .getfield 185, [(4, 2)]),
  (42, 1, .iconst 0, [(0, 0)]),
  (43, 1, .iaload, []),
  (44, 1, .iconst 0, [(0, 0)]),
  (45, 1, .iload_n 1, [(1, 0)]),
  (46, 3, .invokevirtual 314, [(53, 3), (4, 0), (0, 0)]),
  (49, 3, .ifCond .eq 5, [(54, 0)]),
  (52, 1, .iload_n 1, [(1, 0)]),
  (53, 1, .ireturn, []),
  (54, 3, .iinc 1 (-1), [(1, 1)]),
  (57, 3, .goto (-33), [(24, 0)]),
  (60, 2, .bipush (-2), [(2, 1)]),
  (62, 1, .ireturn, [])]
/-- PackedForest.whole ()I -/
def zt166 : zzT := (⟨"PackedForest", "whole", "()I"⟩, prog_1_method_50_code, 2, (some .int), 1, zr166)
def zr167 : List zzI := [(0, 1, .aload_n 0, [(0, 0)]),
  (1, 3, .invokevirtual 164, [(128, 0), (4, 0), (11, 0)]),
  (4, 3, .ifCond .eq 5, [(9, 0)]),
  (7, 1, .iconst (-1), [(1, 1)]),
  (8, 1, .ireturn, []),
  (9, 1, .aload_n 0, [(0, 0)]),
  (10, 3, .getfield 94, [(11, 13)]),
  (13, 3, .invokevirtual 376, [(105, 0), (0, 0), (6, 0)]),
  (16, 1, .aload_n 0, [(0, 0)]),
  (17, 3, .getfield 94, [(11, 13)]),
  (20, 3, .invokevirtual 377, [(106, 0), (1, 0), (6, 0)]),
  (23, 1, .istore_n 1, [(1, 0)]),
  (24, 1, .iload_n 1, [(1, 0)]),
  (25, 3, .ldc_w 380, [(268435456, 0)]),
  (28, 3, .if_icmp .lt 8, [(36, 0)]),
  (31, 2, .bipush (-2), [(2, 1)]),
  (33, 3, .goto 4, [(37, 0)]),
  (36, 1, .iload_n 1, [(1, 0)]),
  (37, 1, .ireturn, [])]
/-- PackedForest.mend ()I -/
def zt167 : zzT := (⟨"PackedForest", "mend", "()I"⟩, prog_1_method_51_code, 2, (some .int), 1, zr167)
def zr168 : List zzI := [(0, 1, .iload_n 1, [(1, 0)]),
  (1, 3, .ifCond .ge 5, [(6, 0)]),
  (4, 1, .iconst (-1), [(1, 1)]),
  (5, 1, .ireturn, []),
  (6, 1, .aload_n 0, [(0, 0)]),
  (7, 3, .getfield 16, [(11, 2)]),
  (10, 3, .getfield 381, [(7, 9)]),
  (13, 1, .istore_n 2, [(2, 0)]),
  (14, 1, .aload_n 0, [(0, 0)]),
  (15, 3, .getfield 16, [(11, 2)]),
  (18, 1, .iload_n 1, [(1, 0)]),
  (19, 3, .putfield 381, [(7, 9)]),
  (22, 1, .iload_n 2, [(2, 0)]),
  (23, 1, .ireturn, [])]
/-- PackedForest.seed (I)I -/
def zt168 : zzT := (⟨"PackedForest", "seed", "(I)I"⟩, prog_1_method_52_code, 3, (some .int), 1, zr168)
def zr169 : List zzI := [(0, 1, .aload_n 0, [(0, 0)]),
  (1, 3, .invokevirtual 164, [(128, 0), (4, 0), (11, 0)]),
  (4, 3, .ifCond .ne 25, [(29, 0)]),
  (7, 1, .iload_n 1, [(1, 0)]),
  (8, 1, .iconst 1, [(1, 0)]),
  (9, 3, .if_icmp .lt 20, [(29, 0)]),
  (12, 1, .iload_n 1, [(1, 0)]),
  (13, 2, .bipush 10, [(10, 0)]),
  (15, 3, .if_icmp .gt 14, [(29, 0)]),
  (18, 1, .iload_n 2, [(2, 0)]),
  (19, 1, .iconst (-1), [(1, 1)]),
  (20, 3, .if_icmp .lt 9, [(29, 0)]),
  (23, 1, .iload_n 2, [(2, 0)]),
  (24, 2, .bipush 24, [(24, 0)]),
  (26, 3, .if_icmp .lt 6, [(32, 0)]),
  (29, 2, .bipush (-3), [(3, 1)]),
  (31, 1, .ireturn, []),
  (32, 1, .aload_n 0, [(0, 0)]),
  (33, 3, .getfield 101, [(11, 14)]),
  (36, 1, .iload_n 1, [(1, 0)]),
  (37, 3, .invokevirtual 384, [(112, 1), (4, 0), (9, 0)]),
  (40, 3, .ifCond .ne 6, [(46, 0)]),
  (43, 2, .bipush (-2), [(2, 1)]),
  (45, 1, .ireturn, []),
  (46, 1, .iload_n 2, [(2, 0)]),
  (47, 1, .iconst (-1), [(1, 1)]),
  (48, 3, .if_icmp .ne 11, [(59, 0)]),
  (51, 1, .aload_n 0, [(0, 0)]),
  (52, 3, .getfield 101, [(11, 14)]),
  (55, 3, .getfield 387, [(9, 2)]),
  (58, 1, .ireturn, []),
  (59, 1, .iload_n 2, [(2, 0)]),
  (60, 1, .aload_n 0, [(0, 0)]),
  (61, 3, .getfield 101, [(11, 14)]),
  (64, 3, .getfield 387, [(9, 2)]),
  (67, 3, .if_icmp .ge 15, [(82, 0)]),
  (70, 1, .aload_n 0, [(0, 0)]),
  (71, 3, .getfield 101, [(11, 14)]),
  (74, 3, .getfield 388, [(9, 1)]),
  (77, 1, .iload_n 2, [(2, 0)]),
  (78, 1, .iaload, []),
  (79, 3, .goto 4, [(83, 0)]),
  (82, 1, .iconst (-1), [(1, 1)]),
  (83, 1, .ireturn, [])]
/-- PackedForest.spoken (II)I -/
def zt169 : zzT := (⟨"PackedForest", "spoken", "(II)I"⟩, prog_1_method_53_code, 3, (some .int), 1, zr169)
def zr170 : List zzI := [(0, 1, .iload_n 1, [(1, 0)]),
  (1, 51, .tableswitch 139 0 8 #[51, 62, 86, 94, 102, 110, 118, 126, 134], [(140, 0), (0, 52), (1, 63), (2, 87), (3, 95), (4, 103), (5, 111), (6, 119), (7, 127), (8, 135)]),
  (52, 1, .aload_n 0, [(0, 0)]),
  (53, 3, .getfield 16, [(11, 2)]),
  (56, 3, .getfield 132, [(7, 0)]),
  (59, 3, .getfield 135, [(4, 0)]),
  (62, 1, .ireturn, []),
  (63, 1, .aload_n 0, [(0, 0)]),
  (64, 3, .invokevirtual 164, [(128, 0), (4, 0), (11, 0)]),
  (67, 3, .ifCond .eq 7, [(74, 0)]),
  (70, 1, .iconst (-1), [(1, 1)]),
  (71, 3, .goto 15, [(86, 0)]),
  (74, 1, .aload_n 0, [(0, 0)]),
  (75, 3, .getfield 16, [(11, 2)]),
  (78, 3, .getfield 132, [(7, 0)]),
  (81, 3, .getfield 185, [(4, 2)]),
  (84, 1, .iconst 0, [(0, 0)]),
  (85, 1, .iaload, []),
  (86, 1, .ireturn, []),
  (87, 1, .aload_n 0, [(0, 0)]),
  (88, 3, .getfield 16, [(11, 2)]),
  (91, 3, .getfield 178, [(7, 2)]),
  (94, 1, .ireturn, []),
  (95, 1, .aload_n 0, [(0, 0)]),
  (96, 3, .getfield 16, [(11, 2)]),
  (99, 3, .getfield 161, [(7, 3)]),
  (102, 1, .ireturn, []),
  (103, 1, .aload_n 0, [(0, 0)]),
  (104, 3, .getfield 16, [(11, 2)]),
  (107, 3, .getfield 274, [(7, 5)]),
  (110, 1, .ireturn, []),
  (111, 1, .aload_n 0, [(0, 0)]),
  (112, 3, .getfield 16, [(11, 2)]),
  (115, 3, .getfield 280, [(7, 6)]),
  (118, 1, .ireturn, []),
  (119, 1, .aload_n 0, [(0, 0)]),
  (120, 3, .getfield 16, [(11, 2)]),
  (123, 3, .getfield 283, [(7, 8)]),
  (126, 1, .ireturn, []),
  (127, 1, .aload_n 0, [(0, 0)]),
  (128, 3, .getfield 16, [(11, 2)]),
  (131, 3, .getfield 381, [(7, 9)]),
  (134, 1, .ireturn, []),
  (135, 1, .aload_n 0, [(0, 0)]),
  (136, 3, .getfield 105, [(11, 1)]),
  (139, 1, .ireturn, []),
  (140, 1, .iconst (-1), [(1, 1)]),
  (141, 1, .ireturn, [])]
/-- PackedForest.count (I)I -/
def zt170 : zzT := (⟨"PackedForest", "count", "(I)I"⟩, prog_1_method_54_code, 2, (some .int), 1, zr170)
def zr171 : List zzI := [(0, 1, .iload_n 1, [(1, 0)]),
  (1, 3, .ifCond .lt 8, [(9, 0)]),
  (4, 1, .iload_n 1, [(1, 0)]),
  (5, 1, .iconst 4, [(4, 0)]),
  (6, 3, .if_icmp .lt 5, [(11, 0)]),
  (9, 1, .iconst (-1), [(1, 1)]),
  (10, 1, .ireturn, []),
  (11, 1, .aload_n 0, [(0, 0)]),
  (12, 3, .getfield 20, [(11, 3)]),
  (15, 1, .iload_n 1, [(1, 0)]),
  (16, 1, .aaload, []),
  (17, 1, .aload_n 0, [(0, 0)]),
  (18, 3, .getfield 16, [(11, 2)]),
  (21, 3, .invokevirtual 391, [(20, 1), (0, 0), (7, 0)]),
  (24, 1, .aload_n 0, [(0, 0)]),
  (25, 3, .getfield 20, [(11, 3)]),
  (28, 1, .iload_n 1, [(1, 0)]),
  (29, 1, .aaload, []),
  (30, 1, .iconst 1, [(1, 0)]),
  (31, 3, .putfield 394, [(7, 10)]),
  (34, 1, .aload_n 0, [(0, 0)]),
  (35, 3, .getfield 16, [(11, 2)]),
  (38, 3, .getfield 178, [(7, 2)]),
  (41, 1, .ireturn, [])]
/-- PackedForest.image (I)I -/
def zt171 : zzT := (⟨"PackedForest", "image", "(I)I"⟩, prog_1_method_55_code, 2, (some .int), 1, zr171)
def zr172 : List zzI := [(0, 1, .iload_n 1, [(1, 0)]),
  (1, 3, .ifCond .lt 20, [(21, 0)]),
  (4, 1, .iload_n 1, [(1, 0)]),
  (5, 1, .iconst 4, [(4, 0)]),
  (6, 3, .if_icmp .ge 15, [(21, 0)]),
  (9, 1, .aload_n 0, [(0, 0)]),
  (10, 3, .getfield 20, [(11, 3)]),
  (13, 1, .iload_n 1, [(1, 0)]),
  (14, 1, .aaload, []),
  (15, 3, .getfield 394, [(7, 10)]),
  (18, 3, .ifCond .ne 5, [(23, 0)]),
  (21, 1, .iconst (-1), [(1, 1)]),
  (22, 1, .ireturn, []),
  (23, 1, .aload_n 0, [(0, 0)]),
  (24, 3, .getfield 16, [(11, 2)]),
  (27, 1, .aload_n 0, [(0, 0)]),
  (28, 3, .getfield 20, [(11, 3)]),
  (31, 1, .iload_n 1, [(1, 0)]),
  (32, 1, .aaload, []),
  (33, 3, .invokevirtual 391, [(20, 1), (0, 0), (7, 0)]),
  (36, 1, .aload_n 0, [(0, 0)]),
  (37, 3, .getfield 43, [(11, 6)]),
  (40, 1, .iconst 0, [(0, 0)]),
  (41, 3, .putfield 160, [(10, 0)]),
  (44, 1, .aload_n 0, [(0, 0)]),
  (45, 3, .invokevirtual 129, [(123, 0), (0, 0), (11, 0)]),
  (48, 1, .aload_n 0, [(0, 0)]),
  (49, 3, .getfield 16, [(11, 2)]),
  (52, 3, .getfield 178, [(7, 2)]),
  (55, 1, .ireturn, [])]
/-- PackedForest.back (I)I -/
def zt172 : zzT := (⟨"PackedForest", "back", "(I)I"⟩, prog_1_method_56_code, 2, (some .int), 1, zr172)
def zr173 : List zzI := [(0, 1, .lload_n 0, [(0, 0)]),
  (1, 1, .lload_n 2, [(2, 0)]),
  (2, 1, .lcmp, []),
  (3, 3, .ifCond .lt 14, [(17, 0)]),
  (6, 1, .lload_n 0, [(0, 0)]),
  (7, 2, .lload 4, []),
  (9, 1, .lcmp, []),
  (10, 3, .ifCond .gt 7, [(17, 0)]),
  (13, 1, .iconst 1, [(1, 0)]),
  (14, 3, .goto 4, [(18, 0)]),
  (17, 1, .iconst 0, [(0, 0)]),
  (18, 1, .ireturn, [])]
/-- PackedForestModel.in (JJJ)Z -/
def zt173 : zzT := (⟨"PackedForestModel", "in", "(JJJ)Z"⟩, prog_14_method_3_code, 6, (some .boolean), 4, zr173)
def zr174 : List zzI := [(0, 1, .iload_n 0, [(0, 0)]),
  (1, 1, .iload_n 1, [(1, 0)]),
  (2, 1, .ishr, []),
  (3, 1, .iconst 1, [(1, 0)]),
  (4, 1, .iand, []),
  (5, 1, .iconst 1, [(1, 0)]),
  (6, 3, .if_icmp .ne 7, [(13, 0)]),
  (9, 1, .iconst 1, [(1, 0)]),
  (10, 3, .goto 4, [(14, 0)]),
  (13, 1, .iconst 0, [(0, 0)]),
  (14, 1, .ireturn, [])]
/-- PackedForestModel.has (II)Z -/
def zt174 : zzT := (⟨"PackedForestModel", "has", "(II)Z"⟩, prog_14_method_4_code, 2, (some .boolean), 4, zr174)
def zr175 : List zzI := [(0, 1, .aload_n 0, [(0, 0)]),
  (1, 3, .getfield 9, [(12, 1)]),
  (4, 1, .iconst 0, [(0, 0)]),
  (5, 1, .iaload, []),
  (6, 3, .ifCond .le 7, [(13, 0)]),
  (9, 1, .iconst 1, [(1, 0)]),
  (10, 3, .goto 4, [(14, 0)]),
  (13, 1, .iconst 0, [(0, 0)]),
  (14, 1, .ireturn, [])]
/-- PackedForestModel.isGrammar ()Z -/
def zt175 : zzT := (⟨"PackedForestModel", "isGrammar", "()Z"⟩, prog_14_method_5_code, 1, (some .boolean), 4, zr175)
def zr176 : List zzI := [(0, 1, .iload_n 1, [(1, 0)]),
  (1, 1, .i2l, []),
  (2, 1, .lconst 0, [(0, 0)]),
  (3, 1, .aload_n 0, [(0, 0)]),
  (4, 3, .getfield 9, [(12, 1)]),
  (7, 1, .iconst 0, [(0, 0)]),
  (8, 1, .iaload, []),
  (9, 1, .iconst 1, [(1, 0)]),
  (10, 1, .isub, []),
  (11, 1, .i2l, []),
  (12, 3, .invokestatic 158, [(173, 3), (4, 0)]),
  (15, 1, .ireturn, [])]
/-- PackedForestModel.isRule (I)Z -/
def zt176 : zzT := (⟨"PackedForestModel", "isRule", "(I)Z"⟩, prog_14_method_6_code, 2, (some .boolean), 4, zr176)
def zr177 : List zzI := [(0, 1, .aload_n 0, [(0, 0)]),
  (1, 3, .getfield 9, [(12, 1)]),
  (4, 1, .iconst 3, [(3, 0)]),
  (5, 1, .iaload, []),
  (6, 1, .iload_n 1, [(1, 0)]),
  (7, 3, .invokestatic 162, [(174, 2), (4, 0)]),
  (10, 3, .ifCond .ne 7, [(17, 0)]),
  (13, 1, .iconst 1, [(1, 0)]),
  (14, 3, .goto 4, [(18, 0)]),
  (17, 1, .iconst 0, [(0, 0)]),
  (18, 1, .ireturn, [])]
/-- PackedForestModel.isOn (I)Z -/
def zt177 : zzT := (⟨"PackedForestModel", "isOn", "(I)Z"⟩, prog_14_method_7_code, 2, (some .boolean), 4, zr177)
def zr178 : List zzI := [(0, 1, .iload_n 0, [(0, 0)]),
  (1, 2, .bipush 26, [(26, 0)]),
  (3, 3, .if_icmp .lt 7, [(10, 0)]),
  (6, 1, .iconst 1, [(1, 0)]),
  (7, 3, .goto 4, [(11, 0)]),
  (10, 1, .iconst 0, [(0, 0)]),
  (11, 1, .ireturn, [])]
/-- PackedForestModel.isCapital (I)Z -/
def zt178 : zzT := (⟨"PackedForestModel", "isCapital", "(I)Z"⟩, prog_14_method_8_code, 1, (some .boolean), 4, zr178)
def zr179 : List zzI := [(0, 1, .iconst 0, [(0, 0)]),
  (1, 1, .istore_n 2, [(2, 0)]),
  (2, 0, .nop, [(0, 3), (1, 1), (2, 1)]),
  (2, 1, .iload_n 2, [(2, 0)]),
  (3, 1, .aload_n 0, [(0, 0)]),
  (4, 3, .getfield 9, [(12, 1)]),
  (7, 1, .iconst 0, [(0, 0)]),
  (8, 1, .iaload, []),
  (9, 3, .if_icmp .ge 21, [(30, 0)]),
  (12, 1, .aload_n 0, [(0, 0)]),
  (13, 3, .getfield 13, [(12, 2)]),
  (16, 1, .iload_n 2, [(2, 0)]),
  (17, 1, .iaload, []),
  (18, 1, .iload_n 1, [(1, 0)]),
  (19, 3, .if_icmp .ne 5, [(24, 0)]),
  (22, 1, .iconst 1, [(1, 0)]),
  (23, 1, .ireturn, []),
  (24, 3, .iinc 2 1, [(1, 0)]),
  (27, 3, .goto (-25), [(2, 0)]),
  (30, 1, .iconst 0, [(0, 0)]),
  (31, 1, .ireturn, [])]
/-- PackedForestModel.isLeft (I)Z -/
def zt179 : zzT := (⟨"PackedForestModel", "isLeft", "(I)Z"⟩, prog_14_method_9_code, 3, (some .boolean), 4, zr179)
def zr180 : List zzI := [(0, 1, .iconst 0, [(0, 0)]),
  (1, 1, .istore_n 2, [(2, 0)]),
  (2, 0, .nop, [(0, 3), (1, 3), (2, 1)]),
  (2, 1, .iload_n 2, [(2, 0)]),
  (3, 1, .aload_n 0, [(0, 0)]),
  (4, 1, .arraylength, []),
  (5, 3, .if_icmp .ge 15, [(20, 0)]),
  (8, 1, .aload_n 1, [(1, 0)]),
  (9, 1, .iload_n 2, [(2, 0)]),
  (10, 1, .aload_n 0, [(0, 0)]),
  (11, 1, .iload_n 2, [(2, 0)]),
  (12, 1, .iaload, []),
  (13, 1, .iastore, []),
  (14, 3, .iinc 2 1, [(1, 0)]),
  (17, 3, .goto (-15), [(2, 0)]),
  (20, 1, .return_, [])]
/-- PackedForestModel.copies ([I[I)V -/
def zt180 : zzT := (⟨"PackedForestModel", "copies", "([I[I)V"⟩, prog_14_method_10_code, 3, none, 0, zr180)
def zr181 : List zzI := [(0, 1, .aload_n 0, [(0, 0)]),
  (1, 3, .getfield 166, [(12, 16)]),
  (4, 2, .bipush 20, [(20, 0)]),
  (6, 1, .iadd, []),
  (7, 3, .sipush 400, [(400, 0)]),
  (10, 3, .if_icmp .le 5, [(15, 0)]),
  (13, 1, .iconst (-1), [(1, 1)]),
  (14, 1, .ireturn, []),
  (15, 1, .aload_n 0, [(0, 0)]),
  (16, 1, .iload_n 1, [(1, 0)]),
  (17, 3, .invokevirtual 169, [(182, 1), (0, 0), (12, 0)]),
  (20, 1, .aload_n 0, [(0, 0)]),
  (21, 1, .iload_n 2, [(2, 0)]),
  (22, 3, .invokevirtual 169, [(182, 1), (0, 0), (12, 0)]),
  (25, 1, .aload_n 0, [(0, 0)]),
  (26, 1, .iload_n 3, [(3, 0)]),
  (27, 3, .invokevirtual 169, [(182, 1), (0, 0), (12, 0)]),
  (30, 1, .aload_n 0, [(0, 0)]),
  (31, 2, .iload 4, []),
  (33, 3, .invokevirtual 169, [(182, 1), (0, 0), (12, 0)]),
  (36, 1, .aload_n 0, [(0, 0)]),
  (37, 2, .iload 5, []),
  (39, 3, .invokevirtual 169, [(182, 1), (0, 0), (12, 0)]),
  (42, 1, .aload_n 0, [(0, 0)]),
  (43, 3, .getfield 166, [(12, 16)]),
  (46, 1, .ireturn, [])]
/-- PackedForestModel.feed (IIIII)I -/
def zt181 : zzT := (⟨"PackedForestModel", "feed", "(IIIII)I"⟩, prog_14_method_11_code, 6, (some .int), 1, zr181)
def zr182 : List zzI := [(0, 2, .bipush 24, [(24, 0)]),
  (2, 1, .istore_n 2, [(2, 0)]),
  (3, 0, .nop, [(0, 3), (1, 1), (2, 1)]),
  (3, 1, .iload_n 2, [(2, 0)]),
  (4, 3, .ifCond .lt 32, [(36, 0)]),
  (7, 1, .aload_n 0, [(0, 0)]),
  (8, 3, .getfield 52, [(12, 19)]),
  (11, 1, .aload_n 0, [(0, 0)]),
  (12, 3, .getfield 166, [(12, 16)]),
  (15, 1, .iload_n 1, [(1, 0)]),
  (16, 1, .iload_n 2, [(2, 0)]),
  (17, 1, .ishr, []),
  (18, 1, .i2b, []),
  (19, 1, .bastore, []),
  (20, 1, .aload_n 0, [(0, 0)]),
  (21, 1, .dup, []),
  (22, 3, .getfield 166, [(12, 16)]),
  (25, 1, .iconst 1, [(1, 0)]),
  (26, 1, .iadd, []),
  (27, 3, .putfield 166, [(12, 16)]),
  (30, 3, .iinc 2 (-8), [(8, 1)]),
  (33, 3, .goto (-30), [(3, 0)]),
  (36, 1, .return_, [])]
/-- PackedForestModel.put (I)V -/
def zt182 : zzT := (⟨"PackedForestModel", "put", "(I)V"⟩, prog_14_method_12_code, 3, none, 0, zr182)
def zr183 : List zzI := [(0, 1, .iload_n 1, [(1, 0)]),
  (1, 3, .ifCond .lt 11, [(12, 0)]),
  (4, 1, .iload_n 1, [(1, 0)]),
  (5, 1, .aload_n 0, [(0, 0)]),
  (6, 3, .getfield 166, [(12, 16)]),
  (9, 3, .if_icmp .le 5, [(14, 0)]),
  (12, 1, .iconst (-1), [(1, 1)]),
  (13, 1, .ireturn, []),
  (14, 1, .aload_n 0, [(0, 0)]),
  (15, 1, .iload_n 1, [(1, 0)]),
  (16, 3, .putfield 166, [(12, 16)]),
  (19, 1, .iload_n 1, [(1, 0)]),
  (20, 1, .ireturn, [])]
/-- PackedForestModel.end (I)I -/
def zt183 : zzT := (⟨"PackedForestModel", "end", "(I)I"⟩, prog_14_method_13_code, 2, (some .int), 1, zr183)
def zr184 : List zzI := [(0, 1, .aload_n 0, [(0, 0)]),
  (1, 3, .getfield 173, [(12, 18)]),
  (4, 3, .ifCond .ne 15, [(19, 0)]),
  (7, 1, .aload_n 0, [(0, 0)]),
  (8, 1, .iconst 1, [(1, 0)]),
  (9, 2, .bipush 8, [(8, 0)]),
  (11, 1, .iload_n 2, [(2, 0)]),
  (12, 1, .imul, []),
  (13, 1, .iadd, []),
  (14, 1, .iload_n 1, [(1, 0)]),
  (15, 1, .iadd, []),
  (16, 3, .putfield 173, [(12, 18)]),
  (19, 1, .return_, [])]
/-- PackedForestModel.fails (II)V -/
def zt184 : zzT := (⟨"PackedForestModel", "fails", "(II)V"⟩, prog_14_method_14_code, 3, none, 0, zr184)
def zr185 : List zzI := [(0, 0, .nop, [(0, 3)]),
  (0, 1, .aload_n 0, [(0, 0)]),
  (1, 3, .getfield 176, [(12, 17)]),
  (4, 1, .aload_n 0, [(0, 0)]),
  (5, 3, .getfield 166, [(12, 16)]),
  (8, 3, .if_icmp .ge 30, [(38, 0)]),
  (11, 1, .aload_n 0, [(0, 0)]),
  (12, 3, .getfield 52, [(12, 19)]),
  (15, 1, .aload_n 0, [(0, 0)]),
  (16, 3, .getfield 176, [(12, 17)]),
  (19, 1, .baload, []),
  (20, 2, .bipush 32, [(32, 0)]),
  (22, 3, .if_icmp .ne 16, [(38, 0)]),
  (25, 1, .aload_n 0, [(0, 0)]),
  (26, 1, .dup, []),
  (27, 3, .getfield 176, [(12, 17)]),
  (30, 1, .iconst 1, [(1, 0)]),
  (31, 1, .iadd, []),
  (32, 3, .putfield 176, [(12, 17)]),
  (35, 3, .goto (-35), [(0, 0)]),
  (38, 1, .aload_n 0, [(0, 0)]),
  (39, 3, .getfield 176, [(12, 17)]),
  (42, 1, .aload_n 0, [(0, 0)]),
  (43, 3, .getfield 166, [(12, 16)]),
  (46, 3, .if_icmp .ge 19, [(65, 0)]),
  (49, 1, .aload_n 0, [(0, 0)]),
  (50, 3, .getfield 52, [(12, 19)]),
  (53, 1, .aload_n 0, [(0, 0)]),
  (54, 3, .getfield 176, [(12, 17)]),
  (57, 1, .baload, []),
  (58, 3, .sipush 255, [(255, 0)]),
  (61, 1, .iand, []),
  (62, 3, .goto 4, [(66, 0)]),
  (65, 1, .iconst (-1), [(1, 1)]),
  (66, 1, .ireturn, [])]
/-- PackedForestModel.sign ()I -/
def zt185 : zzT := (⟨"PackedForestModel", "sign", "()I"⟩, prog_14_method_15_code, 1, (some .int), 1, zr185)
def zr186 : List zzI := [(0, 1, .iload_n 0, [(0, 0)]),
  (1, 1, .i2l, []),
  (2, 3, .ldc2_w 179, [(97, 0)]),
  (5, 3, .ldc2_w 181, [(122, 0)]),
  (8, 3, .invokestatic 158, [(173, 3), (4, 0)]),
  (11, 3, .ifCond .eq 8, [(19, 0)]),
  (14, 1, .iload_n 0, [(0, 0)]),
  (15, 2, .bipush 97, [(97, 0)]),
  (17, 1, .isub, []),
  (18, 1, .ireturn, []),
  (19, 1, .iload_n 0, [(0, 0)]),
  (20, 1, .i2l, []),
  (21, 3, .ldc2_w 183, [(65, 0)]),
  (24, 3, .ldc2_w 185, [(90, 0)]),
  (27, 3, .invokestatic 158, [(173, 3), (4, 0)]),
  (30, 3, .ifCond .eq 13, [(43, 0)]),
  (33, 1, .iload_n 0, [(0, 0)]),
  (34, 2, .bipush 65, [(65, 0)]),
  (36, 1, .isub, []),
  (37, 2, .bipush 26, [(26, 0)]),
  (39, 1, .iadd, []),
  (40, 3, .goto 4, [(44, 0)]),
  (43, 1, .iconst (-1), [(1, 1)]),
  (44, 1, .ireturn, [])]
/-- PackedForestModel.letterOf (I)I -/
def zt186 : zzT := (⟨"PackedForestModel", "letterOf", "(I)I"⟩, prog_14_method_16_code, 1, (some .int), 1, zr186)
def zr187 : List zzI := [(0, 1, .iconst 0, [(0, 0)]),
  (1, 1, .istore_n 3, [(3, 0)]),
  (2, 0, .nop, [(0, 3), (1, 1), (2, 1), (3, 1)]),
  (2, 1, .iload_n 3, [(3, 0)]),
  (3, 1, .iload_n 2, [(2, 0)]),
  (4, 3, .if_icmp .ge 21, [(25, 0)]),
  (7, 1, .aload_n 0, [(0, 0)]),
  (8, 3, .getfield 34, [(12, 9)]),
  (11, 1, .iload_n 3, [(3, 0)]),
  (12, 1, .iaload, []),
  (13, 1, .iload_n 1, [(1, 0)]),
  (14, 3, .if_icmp .ne 5, [(19, 0)]),
  (17, 1, .iconst 1, [(1, 0)]),
  (18, 1, .ireturn, []),
  (19, 3, .iinc 3 1, [(1, 0)]),
  (22, 3, .goto (-20), [(2, 0)]),
  (25, 1, .iconst 0, [(0, 0)]),
  (26, 1, .ireturn, [])]
/-- PackedForestModel.isNewLeft (II)Z -/
def zt187 : zzT := (⟨"PackedForestModel", "isNewLeft", "(II)Z"⟩, prog_14_method_17_code, 4, (some .boolean), 4, zr187)
def zr188 : List zzI := [(0, 1, .iconst 0, [(0, 0)]),
  (1, 1, .istore_n 1, [(1, 0)]),
  (2, 1, .iconst 0, [(0, 0)]),
  (3, 1, .istore_n 2, [(2, 0)]),
  (4, 0, .nop, [(0, 3), (1, 1), (2, 1)]),
  (4, 1, .iload_n 2, [(2, 0)]),
  (5, 1, .aload_n 0, [(0, 0)]),
  (6, 3, .getfield 187, [(12, 15)]),
  (9, 3, .if_icmp .ge 31, [(40, 0)]),
  (12, 1, .iload_n 1, [(1, 0)]),
  (13, 1, .aload_n 0, [(0, 0)]),
  (14, 1, .aload_n 0, [(0, 0)]),
  (15, 3, .getfield 34, [(12, 9)]),
  (18, 1, .iload_n 2, [(2, 0)]),
  (19, 1, .iaload, []),
  (20, 1, .iload_n 2, [(2, 0)]),
  (21, 3, .invokevirtual 190, [(187, 2), (4, 0), (12, 0)]),
  (24, 3, .ifCond .eq 7, [(31, 0)]),
  (27, 1, .iconst 0, [(0, 0)]),
  (28, 3, .goto 4, [(32, 0)]),
  (31, 1, .iconst 1, [(1, 0)]),
  (32, 1, .iadd, []),
  (33, 1, .istore_n 1, [(1, 0)]),
  (34, 3, .iinc 2 1, [(1, 0)]),
  (37, 3, .goto (-33), [(4, 0)]),
  (40, 1, .iload_n 1, [(1, 0)]),
  (41, 1, .ireturn, [])]
/-- PackedForestModel.newLefts ()I -/
def zt188 : zzT := (⟨"PackedForestModel", "newLefts", "()I"⟩, prog_14_method_18_code, 3, (some .int), 1, zr188)
def zr189 : List zzI := [(0, 1, .aload_n 0, [(0, 0)]),
  (1, 3, .invokevirtual 193, [(185, 0), (1, 0), (12, 0)]),
  (4, 3, .invokestatic 197, [(186, 1), (1, 0)]),
  (7, 1, .istore_n 1, [(1, 0)]),
  (8, 1, .iload_n 1, [(1, 0)]),
  (9, 3, .invokestatic 201, [(178, 1), (4, 0)]),
  (12, 3, .ifCond .ne 13, [(25, 0)]),
  (15, 1, .aload_n 0, [(0, 0)]),
  (16, 1, .iconst 0, [(0, 0)]),
  (17, 1, .aload_n 0, [(0, 0)]),
  (18, 3, .getfield 176, [(12, 17)]),
  (21, 3, .invokevirtual 205, [(184, 2), (0, 0), (12, 0)]),
  (24, 1, .return_, []),
  (25, 1, .aload_n 0, [(0, 0)]),
  (26, 3, .getfield 187, [(12, 15)]),
  (29, 2, .bipush 12, [(12, 0)]),
  (31, 3, .if_icmp .eq 23, [(54, 0)]),
  (34, 1, .aload_n 0, [(0, 0)]),
  (35, 1, .iload_n 1, [(1, 0)]),
  (36, 1, .aload_n 0, [(0, 0)]),
  (37, 3, .getfield 187, [(12, 15)]),
  (40, 3, .invokevirtual 190, [(187, 2), (4, 0), (12, 0)]),
  (43, 3, .ifCond .ne 21, [(64, 0)]),
  (46, 1, .aload_n 0, [(0, 0)]),
  (47, 3, .invokevirtual 209, [(188, 0), (1, 0), (12, 0)]),
  (50, 1, .iconst 5, [(5, 0)]),
  (51, 3, .if_icmp .ne 13, [(64, 0)]),
  (54, 1, .aload_n 0, [(0, 0)]),
  (55, 1, .iconst 4, [(4, 0)]),
  (56, 1, .aload_n 0, [(0, 0)]),
  (57, 3, .getfield 176, [(12, 17)]),
  (60, 3, .invokevirtual 205, [(184, 2), (0, 0), (12, 0)]),
  (63, 1, .return_, []),
  (64, 1, .aload_n 0, [(0, 0)]),
  (65, 3, .getfield 34, [(12, 9)]),
  (68, 1, .aload_n 0, [(0, 0)]),
  (69, 3, .getfield 187, [(12, 15)]),
  (72, 1, .iload_n 1, [(1, 0)]),
  (73, 1, .iastore, []),
  (74, 1, .aload_n 0, [(0, 0)]),
  (75, 3, .getfield 37, [(12, 10)]),
  (78, 1, .aload_n 0, [(0, 0)]),
  (79, 3, .getfield 187, [(12, 15)]),
  (82, 1, .iconst 0, [(0, 0)]),
  (83, 1, .iastore, []),
  (84, 1, .aload_n 0, [(0, 0)]),
  (85, 3, .getfield 43, [(12, 12)]),
  (88, 1, .aload_n 0, [(0, 0)]),
  (89, 3, .getfield 187, [(12, 15)]),
  (92, 1, .iconst 0, [(0, 0)]),
  (93, 1, .iastore, []),
  (94, 1, .aload_n 0, [(0, 0)]),
  (95, 3, .getfield 46, [(12, 13)]),
  (98, 1, .aload_n 0, [(0, 0)]),
  (99, 3, .getfield 187, [(12, 15)]),
  (102, 1, .iconst 0, [(0, 0)]),
  (103, 1, .iastore, []),
  (104, 1, .aload_n 0, [(0, 0)]),
  (105, 1, .dup, []),
  (106, 3, .getfield 187, [(12, 15)]),
  (109, 1, .iconst 1, [(1, 0)]),
  (110, 1, .iadd, []),
  (111, 3, .putfield 187, [(12, 15)]),
  (114, 1, .aload_n 0, [(0, 0)]),
  (115, 1, .dup, []),
  (116, 3, .getfield 176, [(12, 17)]),
  (119, 1, .iconst 1, [(1, 0)]),
  (120, 1, .iadd, []),
  (121, 3, .putfield 176, [(12, 17)]),
  (124, 1, .return_, [])]
/-- PackedForestModel.readsLeft ()V -/
def zt189 : zzT := (⟨"PackedForestModel", "readsLeft", "()V"⟩, prog_14_method_19_code, 2, none, 0, zr189)
def zr190 : List zzI := [(0, 1, .aload_n 0, [(0, 0)]),
  (1, 3, .getfield 187, [(12, 15)]),
  (4, 1, .iconst 1, [(1, 0)]),
  (5, 1, .isub, []),
  (6, 1, .istore_n 1, [(1, 0)]),
  (7, 1, .aload_n 0, [(0, 0)]),
  (8, 3, .invokevirtual 193, [(185, 0), (1, 0), (12, 0)]),
  (11, 2, .bipush 61, [(61, 0)]),
  (13, 3, .if_icmp .eq 13, [(26, 0)]),
  (16, 1, .aload_n 0, [(0, 0)]),
  (17, 1, .iconst 0, [(0, 0)]),
  (18, 1, .aload_n 0, [(0, 0)]),
  (19, 3, .getfield 176, [(12, 17)]),
  (22, 3, .invokevirtual 205, [(184, 2), (0, 0), (12, 0)]),
  (25, 1, .return_, []),
  (26, 1, .aload_n 0, [(0, 0)]),
  (27, 1, .dup, []),
  (28, 3, .getfield 176, [(12, 17)]),
  (31, 1, .iconst 1, [(1, 0)]),
  (32, 1, .iadd, []),
  (33, 3, .putfield 176, [(12, 17)]),
  (36, 1, .aload_n 0, [(0, 0)]),
  (37, 3, .invokevirtual 193, [(185, 0), (1, 0), (12, 0)]),
  (40, 3, .invokestatic 197, [(186, 1), (1, 0)]),
  (43, 1, .istore_n 2, [(2, 0)]),
  (44, 0, .nop, [(0, 3), (1, 1), (2, 1)]),
  (44, 1, .iload_n 2, [(2, 0)]),
  (45, 1, .iconst (-1), [(1, 1)]),
  (46, 3, .if_icmp .eq 89, [(135, 0)]),
  (49, 1, .aload_n 0, [(0, 0)]),
  (50, 3, .getfield 37, [(12, 10)]),
  (53, 1, .iload_n 1, [(1, 0)]),
  (54, 1, .iaload, []),
  (55, 1, .iconst 4, [(4, 0)]),
  (56, 3, .if_icmp .ne 13, [(69, 0)]),
  (59, 1, .aload_n 0, [(0, 0)]),
  (60, 1, .iconst 3, [(3, 0)]),
  (61, 1, .aload_n 0, [(0, 0)]),
  (62, 3, .getfield 176, [(12, 17)]),
  (65, 3, .invokevirtual 205, [(184, 2), (0, 0), (12, 0)]),
  (68, 1, .return_, []),
  (69, 1, .aload_n 0, [(0, 0)]),
  (70, 3, .getfield 40, [(12, 11)]),
  (73, 1, .iconst 4, [(4, 0)]),
  (74, 1, .iload_n 1, [(1, 0)]),
  (75, 1, .imul, []),
  (76, 1, .aload_n 0, [(0, 0)]),
  (77, 3, .getfield 37, [(12, 10)]),
  (80, 1, .iload_n 1, [(1, 0)]),
  (81, 1, .iaload, []),
  (82, 1, .iadd, []),
  (83, 1, .iload_n 2, [(2, 0)]),
  (84, 1, .iastore, []),
  (85, 1, .aload_n 0, [(0, 0)]),
  (86, 3, .getfield 49, [(12, 14)]),
  (89, 1, .iconst 4, [(4, 0)]),
  (90, 1, .iload_n 1, [(1, 0)]),
  (91, 1, .imul, []),
  (92, 1, .aload_n 0, [(0, 0)]),
  (93, 3, .getfield 37, [(12, 10)]),
  (96, 1, .iload_n 1, [(1, 0)]),
  (97, 1, .iaload, []),
  (98, 1, .iadd, []),
  (99, 1, .aload_n 0, [(0, 0)]),
  (100, 3, .getfield 176, [(12, 17)]),
  (103, 1, .iastore, []),
  (104, 1, .aload_n 0, [(0, 0)]),
  (105, 3, .getfield 37, [(12, 10)]),
  (108, 1, .iload_n 1, [(1, 0)]),
  (109, 1, .dup2, []),
  (110, 1, .iaload, []),
  (111, 1, .iconst 1, [(1, 0)]),
  (112, 1, .iadd, []),
  (113, 1, .iastore, []),
  (114, 1, .aload_n 0, [(0, 0)]),
  (115, 1, .dup, []),
  (116, 3, .getfield 176, [(12, 17)]),
  (119, 1, .iconst 1, [(1, 0)]),
  (120, 1, .iadd, []),
  (121, 3, .putfield 176, [(12, 17)]),
  (124, 1, .aload_n 0, [(0, 0)]),
  (125, 3, .invokevirtual 193, [(185, 0), (1, 0), (12, 0)]),
  (128, 3, .invokestatic 197, [(186, 1), (1, 0)]),
  (131, 1, .istore_n 2, [(2, 0)]),
  (132, 3, .goto (-88), [(44, 0)]),
  (135, 1, .return_, [])]
/-- PackedForestModel.readsRight ()V -/
def zt190 : zzT := (⟨"PackedForestModel", "readsRight", "()V"⟩, prog_14_method_20_code, 3, none, 0, zr190)
def zr191 : List zzI := [(0, 1, .iload_n 0, [(0, 0)]),
  (1, 35, .lookupswitch 41 #[(33, 39), (60, 35), (62, 37)], [(42, 0), (33, 40), (60, 36), (62, 38)]),
  (36, 1, .iconst 1, [(1, 0)]),
  (37, 1, .ireturn, []),
  (38, 1, .iconst 2, [(2, 0)]),
  (39, 1, .ireturn, []),
  (40, 1, .iconst 3, [(3, 0)]),
  (41, 1, .ireturn, []),
  (42, 1, .iconst 0, [(0, 0)]),
  (43, 1, .ireturn, [])]
/-- PackedForestModel.sideOf (I)I -/
def zt191 : zzT := (⟨"PackedForestModel", "sideOf", "(I)I"⟩, prog_14_method_21_code, 1, (some .int), 1, zr191)
def zr192 : List zzI := [(0, 1, .aload_n 0, [(0, 0)]),
  (1, 3, .getfield 187, [(12, 15)]),
  (4, 1, .iconst 1, [(1, 0)]),
  (5, 1, .isub, []),
  (6, 1, .istore_n 1, [(1, 0)]),
  (7, 1, .aload_n 0, [(0, 0)]),
  (8, 3, .getfield 173, [(12, 18)]),
  (11, 3, .ifCond .gt 12, [(23, 0)]),
  (14, 1, .aload_n 0, [(0, 0)]),
  (15, 3, .invokevirtual 193, [(185, 0), (1, 0), (12, 0)]),
  (18, 2, .bipush 58, [(58, 0)]),
  (20, 3, .if_icmp .eq 4, [(24, 0)]),
  (23, 1, .return_, []),
  (24, 1, .aload_n 0, [(0, 0)]),
  (25, 1, .dup, []),
  (26, 3, .getfield 176, [(12, 17)]),
  (29, 1, .iconst 1, [(1, 0)]),
  (30, 1, .iadd, []),
  (31, 3, .putfield 176, [(12, 17)]),
  (34, 1, .aload_n 0, [(0, 0)]),
  (35, 3, .invokevirtual 193, [(185, 0), (1, 0), (12, 0)]),
  (38, 1, .istore_n 2, [(2, 0)]),
  (39, 1, .iload_n 2, [(2, 0)]),
  (40, 1, .i2l, []),
  (41, 3, .ldc2_w 212, [(49, 0)]),
  (44, 3, .ldc2_w 214, [(57, 0)]),
  (47, 3, .invokestatic 158, [(173, 3), (4, 0)]),
  (50, 3, .ifCond .ne 22, [(72, 0)]),
  (53, 1, .aload_n 0, [(0, 0)]),
  (54, 1, .iload_n 2, [(2, 0)]),
  (55, 1, .iconst (-1), [(1, 1)]),
  (56, 3, .if_icmp .ne 7, [(63, 0)]),
  (59, 1, .iconst 0, [(0, 0)]),
  (60, 3, .goto 4, [(64, 0)]),
  (63, 1, .iconst 1, [(1, 0)]),
  (64, 1, .aload_n 0, [(0, 0)]),
  (65, 3, .getfield 176, [(12, 17)]),
  (68, 3, .invokevirtual 205, [(184, 2), (0, 0), (12, 0)]),
  (71, 1, .return_, []),
  (72, 1, .aload_n 0, [(0, 0)]),
  (73, 3, .getfield 43, [(12, 12)]),
  (76, 1, .iload_n 1, [(1, 0)]),
  (77, 1, .iload_n 2, [(2, 0)]),
  (78, 2, .bipush 48, [(48, 0)]),
  (80, 1, .isub, []),
  (81, 1, .iastore, []),
  (82, 1, .aload_n 0, [(0, 0)]),
  (83, 1, .dup, []),
  (84, 3, .getfield 176, [(12, 17)]),
  (87, 1, .iconst 1, [(1, 0)]),
  (88, 1, .iadd, []),
  (89, 3, .putfield 176, [(12, 17)]),
  (92, 1, .aload_n 0, [(0, 0)]),
  (93, 3, .getfield 46, [(12, 13)]),
  (96, 1, .iload_n 1, [(1, 0)]),
  (97, 1, .aload_n 0, [(0, 0)]),
  (98, 3, .invokevirtual 193, [(185, 0), (1, 0), (12, 0)]),
  (101, 3, .invokestatic 216, [(191, 1), (1, 0)]),
  (104, 1, .iastore, []),
  (105, 1, .aload_n 0, [(0, 0)]),
  (106, 1, .dup, []),
  (107, 3, .getfield 176, [(12, 17)]),
  (110, 1, .aload_n 0, [(0, 0)]),
  (111, 3, .getfield 46, [(12, 13)]),
  (114, 1, .iload_n 1, [(1, 0)]),
  (115, 1, .iaload, []),
  (116, 3, .ifCond .le 7, [(123, 0)]),
  (119, 1, .iconst 1, [(1, 0)]),
  (120, 3, .goto 4, [(124, 0)]),
  (123, 1, .iconst 0, [(0, 0)]),
  (124, 1, .iadd, []),
  (125, 3, .putfield 176, [(12, 17)]),
  (128, 1, .return_, [])]
/-- PackedForestModel.readsRank ()V -/
def zt192 : zzT := (⟨"PackedForestModel", "readsRank", "()V"⟩, prog_14_method_22_code, 3, none, 0, zr192)
def zr193 : List zzI := [(0, 1, .aload_n 0, [(0, 0)]),
  (1, 3, .getfield 173, [(12, 18)]),
  (4, 3, .ifCond .le 5, [(9, 0)]),
  (7, 1, .iconst 0, [(0, 0)]),
  (8, 1, .ireturn, []),
  (9, 1, .aload_n 0, [(0, 0)]),
  (10, 3, .invokevirtual 193, [(185, 0), (1, 0), (12, 0)]),
  (13, 1, .istore_n 1, [(1, 0)]),
  (14, 1, .iload_n 1, [(1, 0)]),
  (15, 1, .iconst (-1), [(1, 1)]),
  (16, 3, .if_icmp .eq 18, [(34, 0)]),
  (19, 1, .iload_n 1, [(1, 0)]),
  (20, 2, .bipush 59, [(59, 0)]),
  (22, 3, .if_icmp .eq 12, [(34, 0)]),
  (25, 1, .aload_n 0, [(0, 0)]),
  (26, 1, .iconst 0, [(0, 0)]),
  (27, 1, .aload_n 0, [(0, 0)]),
  (28, 3, .getfield 176, [(12, 17)]),
  (31, 3, .invokevirtual 205, [(184, 2), (0, 0), (12, 0)]),
  (34, 1, .aload_n 0, [(0, 0)]),
  (35, 1, .dup, []),
  (36, 3, .getfield 176, [(12, 17)]),
  (39, 1, .iconst 1, [(1, 0)]),
  (40, 1, .iadd, []),
  (41, 3, .putfield 176, [(12, 17)]),
  (44, 1, .iload_n 1, [(1, 0)]),
  (45, 2, .bipush 59, [(59, 0)]),
  (47, 3, .if_icmp .ne 7, [(54, 0)]),
  (50, 1, .iconst 1, [(1, 0)]),
  (51, 3, .goto 4, [(55, 0)]),
  (54, 1, .iconst 0, [(0, 0)]),
  (55, 1, .ireturn, [])]
/-- PackedForestModel.isMore ()Z -/
def zt193 : zzT := (⟨"PackedForestModel", "isMore", "()Z"⟩, prog_14_method_23_code, 2, (some .boolean), 4, zr193)
def zr194 : List zzI := [(0, 1, .aload_n 0, [(0, 0)]),
  (1, 1, .iconst 0, [(0, 0)]),
  (2, 3, .putfield 176, [(12, 17)]),
  (5, 1, .aload_n 0, [(0, 0)]),
  (6, 1, .iconst 0, [(0, 0)]),
  (7, 3, .putfield 173, [(12, 18)]),
  (10, 1, .aload_n 0, [(0, 0)]),
  (11, 1, .iconst 0, [(0, 0)]),
  (12, 3, .putfield 187, [(12, 15)]),
  (15, 1, .iconst 1, [(1, 0)]),
  (16, 1, .istore_n 1, [(1, 0)]),
  (17, 0, .nop, [(0, 3), (1, 1)]),
  (17, 1, .iload_n 1, [(1, 0)]),
  (18, 3, .ifCond .eq 30, [(48, 0)]),
  (21, 1, .aload_n 0, [(0, 0)]),
  (22, 3, .invokevirtual 219, [(189, 0), (0, 0), (12, 0)]),
  (25, 1, .aload_n 0, [(0, 0)]),
  (26, 3, .getfield 173, [(12, 18)]),
  (29, 3, .ifCond .ne 7, [(36, 0)]),
  (32, 1, .aload_n 0, [(0, 0)]),
  (33, 3, .invokevirtual 222, [(190, 0), (0, 0), (12, 0)]),
  (36, 1, .aload_n 0, [(0, 0)]),
  (37, 3, .invokevirtual 225, [(192, 0), (0, 0), (12, 0)]),
  (40, 1, .aload_n 0, [(0, 0)]),
  (41, 3, .invokevirtual 228, [(193, 0), (4, 0), (12, 0)]),
  (44, 1, .istore_n 1, [(1, 0)]),
  (45, 3, .goto (-28), [(17, 0)]),
  (48, 1, .iconst 0, [(0, 0)]),
  (49, 1, .istore_n 2, [(2, 0)]),
  (50, 0, .nop, [(0, 3), (2, 1)]),
  (50, 1, .iload_n 2, [(2, 0)]),
  (51, 1, .aload_n 0, [(0, 0)]),
  (52, 3, .getfield 187, [(12, 15)]),
  (55, 3, .if_icmp .ge 89, [(144, 0)]),
  (58, 1, .aload_n 0, [(0, 0)]),
  (59, 3, .getfield 173, [(12, 18)]),
  (62, 3, .ifCond .ne 82, [(144, 0)]),
  (65, 1, .iconst 0, [(0, 0)]),
  (66, 1, .istore_n 3, [(3, 0)]),
  (67, 0, .nop, [(0, 3), (2, 1), (3, 1)]),
  (67, 1, .iload_n 3, [(3, 0)]),
  (68, 1, .aload_n 0, [(0, 0)]),
  (69, 3, .getfield 37, [(12, 10)]),
  (72, 1, .iload_n 2, [(2, 0)]),
  (73, 1, .iaload, []),
  (74, 3, .if_icmp .ge 64, [(138, 0)]),
  (77, 1, .aload_n 0, [(0, 0)]),
  (78, 3, .getfield 173, [(12, 18)]),
  (81, 3, .ifCond .ne 57, [(138, 0)]),
  (84, 1, .aload_n 0, [(0, 0)]),
  (85, 3, .getfield 40, [(12, 11)]),
  (88, 1, .iconst 4, [(4, 0)]),
  (89, 1, .iload_n 2, [(2, 0)]),
  (90, 1, .imul, []),
  (91, 1, .iload_n 3, [(3, 0)]),
  (92, 1, .iadd, []),
  (93, 1, .iaload, []),
  (94, 2, .istore 4, []),
  (96, 2, .iload 4, []),
  (98, 3, .invokestatic 201, [(178, 1), (4, 0)]),
  (101, 3, .ifCond .eq 31, [(132, 0)]),
  (104, 1, .aload_n 0, [(0, 0)]),
  (105, 2, .iload 4, []),
  (107, 1, .aload_n 0, [(0, 0)]),
  (108, 3, .getfield 187, [(12, 15)]),
  (111, 3, .invokevirtual 190, [(187, 2), (4, 0), (12, 0)]),
  (114, 3, .ifCond .ne 18, [(132, 0)]),
  (117, 1, .aload_n 0, [(0, 0)]),
  (118, 1, .iconst 2, [(2, 0)]),
  (119, 1, .aload_n 0, [(0, 0)]),
  (120, 3, .getfield 49, [(12, 14)]),
  (123, 1, .iconst 4, [(4, 0)]),
  (124, 1, .iload_n 2, [(2, 0)]),
  (125, 1, .imul, []),
  (126, 1, .iload_n 3, [(3, 0)]),
  (127, 1, .iadd, []),
  (128, 1, .iaload, []),
  (129, 3, .invokevirtual 205, [(184, 2), (0, 0), (12, 0)]),
  (132, 3, .iinc 3 1, [(1, 0)]),
  (135, 3, .goto (-68), [(67, 0)]),
  (138, 3, .iinc 2 1, [(1, 0)]),
  (141, 3, .goto (-91), [(50, 0)]),
  (144, 1, .return_, [])]
/-- PackedForestModel.readsAll ()V -/
def zt194 : zzT := (⟨"PackedForestModel", "readsAll", "()V"⟩, prog_14_method_24_code, 5, none, 0, zr194)
def zr195 : List zzI := [(0, 1, .aload_n 0, [(0, 0)]),
  (1, 3, .getfield 9, [(12, 1)]),
  (4, 1, .aload_n 0, [(0, 0)]),
  (5, 3, .getfield 56, [(12, 20)]),
  (8, 3, .invokestatic 232, [(180, 2), (0, 0)]),
  (11, 1, .aload_n 0, [(0, 0)]),
  (12, 3, .getfield 13, [(12, 2)]),
  (15, 1, .aload_n 0, [(0, 0)]),
  (16, 3, .getfield 59, [(12, 21)]),
  (19, 3, .invokestatic 232, [(180, 2), (0, 0)]),
  (22, 1, .aload_n 0, [(0, 0)]),
  (23, 3, .getfield 16, [(12, 3)]),
  (26, 1, .aload_n 0, [(0, 0)]),
  (27, 3, .getfield 62, [(12, 22)]),
  (30, 3, .invokestatic 232, [(180, 2), (0, 0)]),
  (33, 1, .aload_n 0, [(0, 0)]),
  (34, 3, .getfield 19, [(12, 4)]),
  (37, 1, .aload_n 0, [(0, 0)]),
  (38, 3, .getfield 65, [(12, 23)]),
  (41, 3, .invokestatic 232, [(180, 2), (0, 0)]),
  (44, 1, .aload_n 0, [(0, 0)]),
  (45, 3, .getfield 22, [(12, 5)]),
  (48, 1, .aload_n 0, [(0, 0)]),
  (49, 3, .getfield 68, [(12, 24)]),
  (52, 3, .invokestatic 232, [(180, 2), (0, 0)]),
  (55, 1, .aload_n 0, [(0, 0)]),
  (56, 3, .getfield 25, [(12, 6)]),
  (59, 1, .aload_n 0, [(0, 0)]),
  (60, 3, .getfield 71, [(12, 25)]),
  (63, 3, .invokestatic 232, [(180, 2), (0, 0)]),
  (66, 1, .return_, [])]
/-- PackedForestModel.keepsOld ()V -/
def zt195 : zzT := (⟨"PackedForestModel", "keepsOld", "()V"⟩, prog_14_method_25_code, 1, none, 0, zr195)
def zr196 : List zzI := [(0, 1, .aload_n 0, [(0, 0)]),
  (1, 3, .getfield 56, [(12, 20)]),
  (4, 1, .aload_n 0, [(0, 0)]),
  (5, 3, .getfield 9, [(12, 1)]),
  (8, 3, .invokestatic 232, [(180, 2), (0, 0)]),
  (11, 1, .aload_n 0, [(0, 0)]),
  (12, 3, .getfield 59, [(12, 21)]),
  (15, 1, .aload_n 0, [(0, 0)]),
  (16, 3, .getfield 13, [(12, 2)]),
  (19, 3, .invokestatic 232, [(180, 2), (0, 0)]),
  (22, 1, .aload_n 0, [(0, 0)]),
  (23, 3, .getfield 62, [(12, 22)]),
  (26, 1, .aload_n 0, [(0, 0)]),
  (27, 3, .getfield 16, [(12, 3)]),
  (30, 3, .invokestatic 232, [(180, 2), (0, 0)]),
  (33, 1, .aload_n 0, [(0, 0)]),
  (34, 3, .getfield 65, [(12, 23)]),
  (37, 1, .aload_n 0, [(0, 0)]),
  (38, 3, .getfield 19, [(12, 4)]),
  (41, 3, .invokestatic 232, [(180, 2), (0, 0)]),
  (44, 1, .aload_n 0, [(0, 0)]),
  (45, 3, .getfield 68, [(12, 24)]),
  (48, 1, .aload_n 0, [(0, 0)]),
  (49, 3, .getfield 22, [(12, 5)]),
  (52, 3, .invokestatic 232, [(180, 2), (0, 0)]),
  (55, 1, .aload_n 0, [(0, 0)]),
  (56, 3, .getfield 71, [(12, 25)]),
  (59, 1, .aload_n 0, [(0, 0)]),
  (60, 3, .getfield 25, [(12, 6)]),
  (63, 3, .invokestatic 232, [(180, 2), (0, 0)]),
  (66, 1, .return_, [])]
/-- PackedForestModel.laysOld ()V -/
def zt196 : zzT := (⟨"PackedForestModel", "laysOld", "()V"⟩, prog_14_method_26_code, 1, none, 0, zr196)
def zr197 : List zzI := [(0, 1, .aload_n 0, [(0, 0)]),
  (1, 3, .getfield 34, [(12, 9)]),
  (4, 1, .aload_n 0, [(0, 0)]),
  (5, 3, .getfield 13, [(12, 2)]),
  (8, 3, .invokestatic 232, [(180, 2), (0, 0)]),
  (11, 1, .aload_n 0, [(0, 0)]),
  (12, 3, .getfield 37, [(12, 10)]),
  (15, 1, .aload_n 0, [(0, 0)]),
  (16, 3, .getfield 16, [(12, 3)]),
  (19, 3, .invokestatic 232, [(180, 2), (0, 0)]),
  (22, 1, .aload_n 0, [(0, 0)]),
  (23, 3, .getfield 40, [(12, 11)]),
  (26, 1, .aload_n 0, [(0, 0)]),
  (27, 3, .getfield 19, [(12, 4)]),
  (30, 3, .invokestatic 232, [(180, 2), (0, 0)]),
  (33, 1, .aload_n 0, [(0, 0)]),
  (34, 3, .getfield 43, [(12, 12)]),
  (37, 1, .aload_n 0, [(0, 0)]),
  (38, 3, .getfield 22, [(12, 5)]),
  (41, 3, .invokestatic 232, [(180, 2), (0, 0)]),
  (44, 1, .aload_n 0, [(0, 0)]),
  (45, 3, .getfield 46, [(12, 13)]),
  (48, 1, .aload_n 0, [(0, 0)]),
  (49, 3, .getfield 25, [(12, 6)]),
  (52, 3, .invokestatic 232, [(180, 2), (0, 0)]),
  (55, 1, .aload_n 0, [(0, 0)]),
  (56, 3, .getfield 9, [(12, 1)]),
  (59, 1, .iconst 0, [(0, 0)]),
  (60, 1, .aload_n 0, [(0, 0)]),
  (61, 3, .getfield 187, [(12, 15)]),
  (64, 1, .iastore, []),
  (65, 1, .aload_n 0, [(0, 0)]),
  (66, 3, .getfield 9, [(12, 1)]),
  (69, 1, .iconst 1, [(1, 0)]),
  (70, 1, .aload_n 0, [(0, 0)]),
  (71, 3, .getfield 34, [(12, 9)]),
  (74, 1, .iconst 0, [(0, 0)]),
  (75, 1, .iaload, []),
  (76, 1, .iastore, []),
  (77, 1, .aload_n 0, [(0, 0)]),
  (78, 3, .getfield 9, [(12, 1)]),
  (81, 1, .iconst 3, [(3, 0)]),
  (82, 1, .iconst 0, [(0, 0)]),
  (83, 1, .iastore, []),
  (84, 1, .return_, [])]
/-- PackedForestModel.takesNew ()V -/
def zt197 : zzT := (⟨"PackedForestModel", "takesNew", "()V"⟩, prog_14_method_27_code, 1, none, 0, zr197)
def zr198 : List zzI := [(0, 1, .aload_n 0, [(0, 0)]),
  (1, 3, .invokevirtual 236, [(194, 0), (0, 0), (12, 0)]),
  (4, 1, .aload_n 0, [(0, 0)]),
  (5, 3, .getfield 166, [(12, 16)]),
  (8, 1, .istore_n 1, [(1, 0)]),
  (9, 1, .aload_n 0, [(0, 0)]),
  (10, 1, .iconst 0, [(0, 0)]),
  (11, 3, .putfield 166, [(12, 16)]),
  (14, 1, .aload_n 0, [(0, 0)]),
  (15, 3, .getfield 173, [(12, 18)]),
  (18, 3, .ifCond .le 11, [(29, 0)]),
  (21, 2, .bipush (-2), [(2, 1)]),
  (23, 1, .aload_n 0, [(0, 0)]),
  (24, 3, .getfield 173, [(12, 18)]),
  (27, 1, .isub, []),
  (28, 1, .ireturn, []),
  (29, 1, .aload_n 0, [(0, 0)]),
  (30, 3, .invokevirtual 239, [(195, 0), (0, 0), (12, 0)]),
  (33, 1, .aload_n 0, [(0, 0)]),
  (34, 3, .invokevirtual 242, [(197, 0), (0, 0), (12, 0)]),
  (37, 1, .aload_n 0, [(0, 0)]),
  (38, 1, .iconst 0, [(0, 0)]),
  (39, 3, .putfield 245, [(12, 36)]),
  (42, 1, .aload_n 0, [(0, 0)]),
  (43, 3, .invokevirtual 248, [(228, 0), (4, 0), (12, 0)]),
  (46, 3, .ifCond .ne 24, [(70, 0)]),
  (49, 1, .aload_n 0, [(0, 0)]),
  (50, 3, .invokevirtual 251, [(196, 0), (0, 0), (12, 0)]),
  (53, 1, .aload_n 0, [(0, 0)]),
  (54, 1, .iconst 0, [(0, 0)]),
  (55, 3, .putfield 245, [(12, 36)]),
  (58, 2, .bipush (-2), [(2, 1)]),
  (60, 1, .iconst 1, [(1, 0)]),
  (61, 2, .bipush 8, [(8, 0)]),
  (63, 1, .iload_n 1, [(1, 0)]),
  (64, 1, .imul, []),
  (65, 1, .iadd, []),
  (66, 1, .iconst 5, [(5, 0)]),
  (67, 1, .iadd, []),
  (68, 1, .isub, []),
  (69, 1, .ireturn, []),
  (70, 1, .aload_n 0, [(0, 0)]),
  (71, 3, .getfield 9, [(12, 1)]),
  (74, 1, .iconst 2, [(2, 0)]),
  (75, 1, .iconst 0, [(0, 0)]),
  (76, 1, .iastore, []),
  (77, 1, .aload_n 0, [(0, 0)]),
  (78, 3, .getfield 9, [(12, 1)]),
  (81, 1, .iconst 4, [(4, 0)]),
  (82, 1, .iconst 0, [(0, 0)]),
  (83, 1, .iastore, []),
  (84, 1, .aload_n 0, [(0, 0)]),
  (85, 3, .getfield 9, [(12, 1)]),
  (88, 1, .iconst 5, [(5, 0)]),
  (89, 2, .bipush 7, [(7, 0)]),
  (91, 1, .iastore, []),
  (92, 1, .aload_n 0, [(0, 0)]),
  (93, 1, .iconst 0, [(0, 0)]),
  (94, 3, .putfield 254, [(12, 39)]),
  (97, 1, .aload_n 0, [(0, 0)]),
  (98, 3, .getfield 9, [(12, 1)]),
  (101, 1, .iconst 0, [(0, 0)]),
  (102, 1, .iaload, []),
  (103, 1, .ireturn, [])]
/-- PackedForestModel.grammar ()I -/
def zt198 : zzT := (⟨"PackedForestModel", "grammar", "()I"⟩, prog_14_method_28_code, 2, (some .int), 1, zr198)
def zr199 : List zzI := [(0, 1, .aload_n 0, [(0, 0)]),
  (1, 1, .iload_n 1, [(1, 0)]),
  (2, 3, .invokevirtual 257, [(176, 1), (4, 0), (12, 0)]),
  (5, 3, .ifCond .ne 5, [(10, 0)]),
  (8, 1, .iconst (-1), [(1, 1)]),
  (9, 1, .ireturn, []),
  (10, 1, .iload_n 2, [(2, 0)]),
  (11, 33, .tableswitch 75 0 4 #[33, 40, 47, 54, 61], [(86, 0), (0, 44), (1, 51), (2, 58), (3, 65), (4, 72)]),
  (44, 1, .aload_n 0, [(0, 0)]),
  (45, 3, .getfield 13, [(12, 2)]),
  (48, 1, .iload_n 1, [(1, 0)]),
  (49, 1, .iaload, []),
  (50, 1, .ireturn, []),
  (51, 1, .aload_n 0, [(0, 0)]),
  (52, 3, .getfield 16, [(12, 3)]),
  (55, 1, .iload_n 1, [(1, 0)]),
  (56, 1, .iaload, []),
  (57, 1, .ireturn, []),
  (58, 1, .aload_n 0, [(0, 0)]),
  (59, 3, .getfield 22, [(12, 5)]),
  (62, 1, .iload_n 1, [(1, 0)]),
  (63, 1, .iaload, []),
  (64, 1, .ireturn, []),
  (65, 1, .aload_n 0, [(0, 0)]),
  (66, 3, .getfield 25, [(12, 6)]),
  (69, 1, .iload_n 1, [(1, 0)]),
  (70, 1, .iaload, []),
  (71, 1, .ireturn, []),
  (72, 1, .aload_n 0, [(0, 0)]),
  (73, 1, .iload_n 1, [(1, 0)]),
  (74, 3, .invokevirtual 260, [(177, 1), (4, 0), (12, 0)]),
  (77, 3, .ifCond .eq 7, [(84, 0)]),
  (80, 1, .iconst 0, [(0, 0)]),
  (81, 3, .goto 4, [(85, 0)]),
  (84, 1, .iconst 1, [(1, 0)]),
  (85, 1, .ireturn, []),
  (86, 1, .iconst (-1), [(1, 1)]),
  (87, 1, .ireturn, [])]
/-- PackedForestModel.rule (II)I -/
def zt199 : zzT := (⟨"PackedForestModel", "rule", "(II)I"⟩, prog_14_method_29_code, 3, (some .int), 1, zr199)
def zr200 : List zzI := [(0, 1, .aload_n 0, [(0, 0)]),
  (1, 1, .iload_n 1, [(1, 0)]),
  (2, 3, .invokevirtual 257, [(176, 1), (4, 0), (12, 0)]),
  (5, 3, .ifCond .eq 34, [(39, 0)]),
  (8, 1, .iload_n 2, [(2, 0)]),
  (9, 1, .i2l, []),
  (10, 1, .lconst 0, [(0, 0)]),
  (11, 1, .aload_n 0, [(0, 0)]),
  (12, 3, .getfield 16, [(12, 3)]),
  (15, 1, .iload_n 1, [(1, 0)]),
  (16, 1, .iaload, []),
  (17, 1, .iconst 1, [(1, 0)]),
  (18, 1, .isub, []),
  (19, 1, .i2l, []),
  (20, 3, .invokestatic 158, [(173, 3), (4, 0)]),
  (23, 3, .ifCond .eq 16, [(39, 0)]),
  (26, 1, .aload_n 0, [(0, 0)]),
  (27, 3, .getfield 19, [(12, 4)]),
  (30, 1, .iconst 4, [(4, 0)]),
  (31, 1, .iload_n 1, [(1, 0)]),
  (32, 1, .imul, []),
  (33, 1, .iload_n 2, [(2, 0)]),
  (34, 1, .iadd, []),
  (35, 1, .iaload, []),
  (36, 3, .goto 4, [(40, 0)]),
  (39, 1, .iconst (-1), [(1, 1)]),
  (40, 1, .ireturn, [])]
/-- PackedForestModel.symbol (II)I -/
def zt200 : zzT := (⟨"PackedForestModel", "symbol", "(II)I"⟩, prog_14_method_30_code, 3, (some .int), 1, zr200)
def zr201 : List zzI := [(0, 1, .iload_n 0, [(0, 0)]),
  (1, 3, .invokestatic 201, [(178, 1), (4, 0)]),
  (4, 3, .ifCond .eq 12, [(16, 0)]),
  (7, 1, .iconst 1, [(1, 0)]),
  (8, 1, .iload_n 0, [(0, 0)]),
  (9, 2, .bipush 26, [(26, 0)]),
  (11, 1, .isub, []),
  (12, 1, .ishl, []),
  (13, 3, .goto 4, [(17, 0)]),
  (16, 1, .iconst 0, [(0, 0)]),
  (17, 1, .ireturn, [])]
/-- PackedForestModel.bitOf (I)I -/
def zt201 : zzT := (⟨"PackedForestModel", "bitOf", "(I)I"⟩, prog_14_method_31_code, 1, (some .int), 1, zr201)
def zr202 : List zzI := [(0, 1, .iload_n 3, [(3, 0)]),
  (1, 2, .istore 6, []),
  (3, 0, .nop, [(0, 3), (1, 1), (2, 1), (4, 1), (5, 1), (6, 1)]),
  (3, 2, .iload 6, []),
  (5, 2, .iload 4, []),
  (7, 3, .if_icmp .ge 41, [(48, 0)]),
  (10, 1, .aload_n 0, [(0, 0)]),
  (11, 3, .getfield 19, [(12, 4)]),
  (14, 1, .iconst 4, [(4, 0)]),
  (15, 1, .iload_n 2, [(2, 0)]),
  (16, 1, .imul, []),
  (17, 2, .iload 6, []),
  (19, 1, .iadd, []),
  (20, 1, .iaload, []),
  (21, 2, .istore 7, []),
  (23, 2, .iload 6, []),
  (25, 2, .iload 5, []),
  (27, 3, .if_icmp .eq 15, [(42, 0)]),
  (30, 2, .iload 7, []),
  (32, 3, .invokestatic 263, [(201, 1), (1, 0)]),
  (35, 1, .iload_n 1, [(1, 0)]),
  (36, 1, .iand, []),
  (37, 3, .ifCond .ne 5, [(42, 0)]),
  (40, 1, .iconst 0, [(0, 0)]),
  (41, 1, .ireturn, []),
  (42, 3, .iinc 6 1, [(1, 0)]),
  (45, 3, .goto (-42), [(3, 0)]),
  (48, 1, .iconst 1, [(1, 0)]),
  (49, 1, .ireturn, [])]
/-- PackedForestModel.areIn (IIIII)Z -/
def zt202 : zzT := (⟨"PackedForestModel", "areIn", "(IIIII)Z"⟩, prog_14_method_32_code, 8, (some .boolean), 4, zr202)
def zr203 : List zzI := [(0, 1, .iconst 0, [(0, 0)]),
  (1, 1, .istore_n 3, [(3, 0)]),
  (2, 0, .nop, [(0, 3), (1, 1), (2, 1), (3, 1)]),
  (2, 1, .iload_n 3, [(3, 0)]),
  (3, 1, .aload_n 0, [(0, 0)]),
  (4, 3, .getfield 16, [(12, 3)]),
  (7, 1, .iload_n 2, [(2, 0)]),
  (8, 1, .iaload, []),
  (9, 3, .if_icmp .ge 41, [(50, 0)]),
  (12, 1, .aload_n 0, [(0, 0)]),
  (13, 3, .getfield 19, [(12, 4)]),
  (16, 1, .iconst 4, [(4, 0)]),
  (17, 1, .iload_n 2, [(2, 0)]),
  (18, 1, .imul, []),
  (19, 1, .iload_n 3, [(3, 0)]),
  (20, 1, .iadd, []),
  (21, 1, .iaload, []),
  (22, 2, .istore 4, []),
  (24, 2, .iload 4, []),
  (26, 3, .invokestatic 201, [(178, 1), (4, 0)]),
  (29, 3, .ifCond .eq 15, [(44, 0)]),
  (32, 2, .iload 4, []),
  (34, 3, .invokestatic 263, [(201, 1), (1, 0)]),
  (37, 1, .iload_n 1, [(1, 0)]),
  (38, 1, .iand, []),
  (39, 3, .ifCond .ne 5, [(44, 0)]),
  (42, 1, .iconst 0, [(0, 0)]),
  (43, 1, .ireturn, []),
  (44, 3, .iinc 3 1, [(1, 0)]),
  (47, 3, .goto (-45), [(2, 0)]),
  (50, 1, .iconst 1, [(1, 0)]),
  (51, 1, .ireturn, [])]
/-- PackedForestModel.areCapitalsIn (II)Z -/
def zt203 : zzT := (⟨"PackedForestModel", "areCapitalsIn", "(II)Z"⟩, prog_14_method_33_code, 5, (some .boolean), 4, zr203)
def zr204 : List zzI := [(0, 1, .iload_n 1, [(1, 0)]),
  (1, 1, .istore_n 2, [(2, 0)]),
  (2, 1, .iconst 0, [(0, 0)]),
  (3, 1, .istore_n 3, [(3, 0)]),
  (4, 0, .nop, [(0, 3), (2, 1), (3, 1)]),
  (4, 1, .iload_n 3, [(3, 0)]),
  (5, 1, .aload_n 0, [(0, 0)]),
  (6, 3, .getfield 9, [(12, 1)]),
  (9, 1, .iconst 0, [(0, 0)]),
  (10, 1, .iaload, []),
  (11, 3, .if_icmp .ge 50, [(61, 0)]),
  (14, 1, .iload_n 2, [(2, 0)]),
  (15, 1, .aload_n 0, [(0, 0)]),
  (16, 1, .iload_n 3, [(3, 0)]),
  (17, 3, .invokevirtual 260, [(177, 1), (4, 0), (12, 0)]),
  (20, 3, .ifCond .eq 32, [(52, 0)]),
  (23, 1, .aload_n 0, [(0, 0)]),
  (24, 1, .iload_n 2, [(2, 0)]),
  (25, 1, .iload_n 3, [(3, 0)]),
  (26, 1, .iconst 0, [(0, 0)]),
  (27, 1, .aload_n 0, [(0, 0)]),
  (28, 3, .getfield 16, [(12, 3)]),
  (31, 1, .iload_n 3, [(3, 0)]),
  (32, 1, .iaload, []),
  (33, 1, .iconst (-1), [(1, 1)]),
  (34, 3, .invokevirtual 266, [(202, 5), (4, 0), (12, 0)]),
  (37, 3, .ifCond .eq 15, [(52, 0)]),
  (40, 1, .aload_n 0, [(0, 0)]),
  (41, 3, .getfield 13, [(12, 2)]),
  (44, 1, .iload_n 3, [(3, 0)]),
  (45, 1, .iaload, []),
  (46, 3, .invokestatic 263, [(201, 1), (1, 0)]),
  (49, 3, .goto 4, [(53, 0)]),
  (52, 1, .iconst 0, [(0, 0)]),
  (53, 1, .ior, []),
  (54, 1, .istore_n 2, [(2, 0)]),
  (55, 3, .iinc 3 1, [(1, 0)]),
  (58, 3, .goto (-54), [(4, 0)]),
  (61, 1, .iload_n 2, [(2, 0)]),
  (62, 1, .ireturn, [])]
/-- PackedForestModel.growsEmpty (I)I -/
def zt204 : zzT := (⟨"PackedForestModel", "growsEmpty", "(I)I"⟩, prog_14_method_34_code, 4, (some .int), 1, zr204)
def zr205 : List zzI := [(0, 1, .iload_n 1, [(1, 0)]),
  (1, 1, .istore_n 2, [(2, 0)]),
  (2, 1, .iconst 0, [(0, 0)]),
  (3, 1, .istore_n 3, [(3, 0)]),
  (4, 0, .nop, [(0, 3), (2, 1), (3, 1)]),
  (4, 1, .iload_n 3, [(3, 0)]),
  (5, 1, .aload_n 0, [(0, 0)]),
  (6, 3, .getfield 9, [(12, 1)]),
  (9, 1, .iconst 0, [(0, 0)]),
  (10, 1, .iaload, []),
  (11, 3, .if_icmp .ge 42, [(53, 0)]),
  (14, 1, .iload_n 2, [(2, 0)]),
  (15, 1, .aload_n 0, [(0, 0)]),
  (16, 1, .iload_n 3, [(3, 0)]),
  (17, 3, .invokevirtual 260, [(177, 1), (4, 0), (12, 0)]),
  (20, 3, .ifCond .eq 24, [(44, 0)]),
  (23, 1, .aload_n 0, [(0, 0)]),
  (24, 1, .iload_n 2, [(2, 0)]),
  (25, 1, .iload_n 3, [(3, 0)]),
  (26, 3, .invokevirtual 270, [(203, 2), (4, 0), (12, 0)]),
  (29, 3, .ifCond .eq 15, [(44, 0)]),
  (32, 1, .aload_n 0, [(0, 0)]),
  (33, 3, .getfield 13, [(12, 2)]),
  (36, 1, .iload_n 3, [(3, 0)]),
  (37, 1, .iaload, []),
  (38, 3, .invokestatic 263, [(201, 1), (1, 0)]),
  (41, 3, .goto 4, [(45, 0)]),
  (44, 1, .iconst 0, [(0, 0)]),
  (45, 1, .ior, []),
  (46, 1, .istore_n 2, [(2, 0)]),
  (47, 3, .iinc 3 1, [(1, 0)]),
  (50, 3, .goto (-46), [(4, 0)]),
  (53, 1, .iload_n 2, [(2, 0)]),
  (54, 1, .ireturn, [])]
/-- PackedForestModel.growsEnding (I)I -/
def zt205 : zzT := (⟨"PackedForestModel", "growsEnding", "(I)I"⟩, prog_14_method_35_code, 4, (some .int), 1, zr205)
def zr206 : List zzI := [(0, 1, .iload_n 1, [(1, 0)]),
  (1, 1, .istore_n 2, [(2, 0)]),
  (2, 1, .iconst 0, [(0, 0)]),
  (3, 1, .istore_n 3, [(3, 0)]),
  (4, 0, .nop, [(0, 3), (2, 1), (3, 1)]),
  (4, 1, .iload_n 3, [(3, 0)]),
  (5, 1, .aload_n 0, [(0, 0)]),
  (6, 3, .getfield 9, [(12, 1)]),
  (9, 1, .iconst 0, [(0, 0)]),
  (10, 1, .iaload, []),
  (11, 3, .if_icmp .ge 68, [(79, 0)]),
  (14, 1, .iconst 0, [(0, 0)]),
  (15, 2, .istore 4, []),
  (17, 0, .nop, [(0, 3), (2, 1), (3, 1), (4, 1)]),
  (17, 2, .iload 4, []),
  (19, 1, .aload_n 0, [(0, 0)]),
  (20, 3, .getfield 16, [(12, 3)]),
  (23, 1, .iload_n 3, [(3, 0)]),
  (24, 1, .iaload, []),
  (25, 3, .if_icmp .ge 48, [(73, 0)]),
  (28, 1, .aload_n 0, [(0, 0)]),
  (29, 1, .iload_n 3, [(3, 0)]),
  (30, 3, .invokevirtual 260, [(177, 1), (4, 0), (12, 0)]),
  (33, 3, .ifCond .eq 40, [(73, 0)]),
  (36, 1, .aload_n 0, [(0, 0)]),
  (37, 3, .getfield 13, [(12, 2)]),
  (40, 1, .iload_n 3, [(3, 0)]),
  (41, 1, .iaload, []),
  (42, 3, .invokestatic 263, [(201, 1), (1, 0)]),
  (45, 1, .iload_n 2, [(2, 0)]),
  (46, 1, .iand, []),
  (47, 3, .ifCond .eq 26, [(73, 0)]),
  (50, 1, .iload_n 2, [(2, 0)]),
  (51, 1, .aload_n 0, [(0, 0)]),
  (52, 3, .getfield 19, [(12, 4)]),
  (55, 1, .iconst 4, [(4, 0)]),
  (56, 1, .iload_n 3, [(3, 0)]),
  (57, 1, .imul, []),
  (58, 2, .iload 4, []),
  (60, 1, .iadd, []),
  (61, 1, .iaload, []),
  (62, 3, .invokestatic 263, [(201, 1), (1, 0)]),
  (65, 1, .ior, []),
  (66, 1, .istore_n 2, [(2, 0)]),
  (67, 3, .iinc 4 1, [(1, 0)]),
  (70, 3, .goto (-53), [(17, 0)]),
  (73, 3, .iinc 3 1, [(1, 0)]),
  (76, 3, .goto (-72), [(4, 0)]),
  (79, 1, .iload_n 2, [(2, 0)]),
  (80, 1, .ireturn, [])]
/-- PackedForestModel.growsReached (I)I -/
def zt206 : zzT := (⟨"PackedForestModel", "growsReached", "(I)I"⟩, prog_14_method_36_code, 5, (some .int), 1, zr206)
def zr207 : List zzI := [(0, 1, .aload_n 0, [(0, 0)]),
  (1, 1, .iconst 0, [(0, 0)]),
  (2, 3, .putfield 273, [(12, 26)]),
  (5, 1, .aload_n 0, [(0, 0)]),
  (6, 1, .iconst 0, [(0, 0)]),
  (7, 3, .putfield 276, [(12, 27)]),
  (10, 1, .aload_n 0, [(0, 0)]),
  (11, 1, .aload_n 0, [(0, 0)]),
  (12, 3, .getfield 9, [(12, 1)]),
  (15, 1, .iconst 1, [(1, 0)]),
  (16, 1, .iaload, []),
  (17, 3, .invokestatic 263, [(201, 1), (1, 0)]),
  (20, 3, .putfield 279, [(12, 28)]),
  (23, 1, .aload_n 0, [(0, 0)]),
  (24, 1, .iconst 0, [(0, 0)]),
  (25, 3, .putfield 282, [(12, 29)]),
  (28, 1, .iconst 0, [(0, 0)]),
  (29, 1, .istore_n 1, [(1, 0)]),
  (30, 0, .nop, [(0, 3), (1, 1)]),
  (30, 1, .iload_n 1, [(1, 0)]),
  (31, 2, .bipush 12, [(12, 0)]),
  (33, 3, .if_icmp .ge 45, [(78, 0)]),
  (36, 1, .aload_n 0, [(0, 0)]),
  (37, 1, .aload_n 0, [(0, 0)]),
  (38, 1, .aload_n 0, [(0, 0)]),
  (39, 3, .getfield 273, [(12, 26)]),
  (42, 3, .invokevirtual 285, [(204, 1), (1, 0), (12, 0)]),
  (45, 3, .putfield 273, [(12, 26)]),
  (48, 1, .aload_n 0, [(0, 0)]),
  (49, 1, .aload_n 0, [(0, 0)]),
  (50, 1, .aload_n 0, [(0, 0)]),
  (51, 3, .getfield 276, [(12, 27)]),
  (54, 3, .invokevirtual 288, [(205, 1), (1, 0), (12, 0)]),
  (57, 3, .putfield 276, [(12, 27)]),
  (60, 1, .aload_n 0, [(0, 0)]),
  (61, 1, .aload_n 0, [(0, 0)]),
  (62, 1, .aload_n 0, [(0, 0)]),
  (63, 3, .getfield 279, [(12, 28)]),
  (66, 3, .invokevirtual 291, [(206, 1), (1, 0), (12, 0)]),
  (69, 3, .putfield 279, [(12, 28)]),
  (72, 3, .iinc 1 1, [(1, 0)]),
  (75, 3, .goto (-45), [(30, 0)]),
  (78, 1, .iconst 0, [(0, 0)]),
  (79, 1, .istore_n 1, [(1, 0)]),
  (80, 0, .nop, [(0, 3), (1, 1)]),
  (80, 1, .iload_n 1, [(1, 0)]),
  (81, 1, .aload_n 0, [(0, 0)]),
  (82, 3, .getfield 9, [(12, 1)]),
  (85, 1, .iconst 0, [(0, 0)]),
  (86, 1, .iaload, []),
  (87, 3, .if_icmp .ge 27, [(114, 0)]),
  (90, 1, .aload_n 0, [(0, 0)]),
  (91, 1, .dup, []),
  (92, 3, .getfield 282, [(12, 29)]),
  (95, 1, .aload_n 0, [(0, 0)]),
  (96, 3, .getfield 13, [(12, 2)]),
  (99, 1, .iload_n 1, [(1, 0)]),
  (100, 1, .iaload, []),
  (101, 3, .invokestatic 263, [(201, 1), (1, 0)]),
  (104, 1, .ior, []),
  (105, 3, .putfield 282, [(12, 29)]),
  (108, 3, .iinc 1 1, [(1, 0)]),
  (111, 3, .goto (-31), [(80, 0)]),
  (114, 1, .return_, [])]
/-- PackedForestModel.laysFacts ()V -/
def zt207 : zzT := (⟨"PackedForestModel", "laysFacts", "()V"⟩, prog_14_method_37_code, 2, none, 0, zr207)
def zr208 : List zzI := [(0, 1, .iconst 0, [(0, 0)]),
  (1, 1, .istore_n 2, [(2, 0)]),
  (2, 1, .iconst 0, [(0, 0)]),
  (3, 1, .istore_n 3, [(3, 0)]),
  (4, 0, .nop, [(0, 3), (1, 1), (2, 1), (3, 1)]),
  (4, 1, .iload_n 3, [(3, 0)]),
  (5, 2, .bipush 26, [(26, 0)]),
  (7, 3, .if_icmp .ge 65, [(72, 0)]),
  (10, 1, .aload_n 0, [(0, 0)]),
  (11, 1, .iconst 1, [(1, 0)]),
  (12, 1, .iload_n 3, [(3, 0)]),
  (13, 1, .ishl, []),
  (14, 1, .iload_n 1, [(1, 0)]),
  (15, 3, .invokevirtual 294, [(209, 2), (1, 0), (12, 0)]),
  (18, 2, .istore 4, []),
  (20, 1, .iconst 0, [(0, 0)]),
  (21, 2, .istore 5, []),
  (23, 0, .nop, [(0, 3), (1, 1), (2, 1), (3, 1), (4, 1), (5, 1)]),
  (23, 2, .iload 5, []),
  (25, 1, .iconst 5, [(5, 0)]),
  (26, 3, .if_icmp .ge 21, [(47, 0)]),
  (29, 2, .iload 4, []),
  (31, 1, .aload_n 0, [(0, 0)]),
  (32, 2, .iload 4, []),
  (34, 1, .iload_n 1, [(1, 0)]),
  (35, 3, .invokevirtual 294, [(209, 2), (1, 0), (12, 0)]),
  (38, 1, .ior, []),
  (39, 2, .istore 4, []),
  (41, 3, .iinc 5 1, [(1, 0)]),
  (44, 3, .goto (-21), [(23, 0)]),
  (47, 1, .iload_n 2, [(2, 0)]),
  (48, 2, .iload 4, []),
  (50, 1, .iload_n 3, [(3, 0)]),
  (51, 3, .invokestatic 162, [(174, 2), (4, 0)]),
  (54, 3, .ifCond .eq 9, [(63, 0)]),
  (57, 1, .iconst 1, [(1, 0)]),
  (58, 1, .iload_n 3, [(3, 0)]),
  (59, 1, .ishl, []),
  (60, 3, .goto 4, [(64, 0)]),
  (63, 1, .iconst 0, [(0, 0)]),
  (64, 1, .ior, []),
  (65, 1, .istore_n 2, [(2, 0)]),
  (66, 3, .iinc 3 1, [(1, 0)]),
  (69, 3, .goto (-65), [(4, 0)]),
  (72, 1, .iload_n 2, [(2, 0)]),
  (73, 1, .ireturn, [])]
/-- PackedForestModel.againBy (Z)I -/
def zt208 : zzT := (⟨"PackedForestModel", "againBy", "(Z)I"⟩, prog_14_method_38_code, 6, (some .int), 1, zr208)
def zr209 : List zzI := [(0, 1, .iconst 0, [(0, 0)]),
  (1, 1, .istore_n 3, [(3, 0)]),
  (2, 1, .iconst 0, [(0, 0)]),
  (3, 2, .istore 4, []),
  (5, 0, .nop, [(0, 3), (1, 1), (2, 1), (3, 1), (4, 1)]),
  (5, 2, .iload 4, []),
  (7, 1, .aload_n 0, [(0, 0)]),
  (8, 3, .getfield 9, [(12, 1)]),
  (11, 1, .iconst 0, [(0, 0)]),
  (12, 1, .iaload, []),
  (13, 3, .if_icmp .ge 112, [(125, 0)]),
  (16, 1, .iconst 0, [(0, 0)]),
  (17, 2, .istore 5, []),
  (19, 0, .nop, [(0, 3), (1, 1), (2, 1), (3, 1), (4, 1), (5, 1)]),
  (19, 2, .iload 5, []),
  (21, 1, .aload_n 0, [(0, 0)]),
  (22, 3, .getfield 16, [(12, 3)]),
  (25, 2, .iload 4, []),
  (27, 1, .iaload, []),
  (28, 3, .if_icmp .ge 91, [(119, 0)]),
  (31, 1, .aload_n 0, [(0, 0)]),
  (32, 2, .iload 4, []),
  (34, 3, .invokevirtual 260, [(177, 1), (4, 0), (12, 0)]),
  (37, 3, .ifCond .eq 82, [(119, 0)]),
  (40, 1, .aload_n 0, [(0, 0)]),
  (41, 3, .getfield 13, [(12, 2)]),
  (44, 2, .iload 4, []),
  (46, 1, .iaload, []),
  (47, 3, .invokestatic 263, [(201, 1), (1, 0)]),
  (50, 1, .iload_n 1, [(1, 0)]),
  (51, 1, .iand, []),
  (52, 3, .ifCond .eq 67, [(119, 0)]),
  (55, 1, .aload_n 0, [(0, 0)]),
  (56, 1, .aload_n 0, [(0, 0)]),
  (57, 3, .getfield 273, [(12, 26)]),
  (60, 2, .iload 4, []),
  (62, 1, .iconst 0, [(0, 0)]),
  (63, 1, .iload_n 2, [(2, 0)]),
  (64, 3, .ifCond .eq 13, [(77, 0)]),
  (67, 1, .aload_n 0, [(0, 0)]),
  (68, 3, .getfield 16, [(12, 3)]),
  (71, 2, .iload 4, []),
  (73, 1, .iaload, []),
  (74, 3, .goto 5, [(79, 0)]),
  (77, 2, .iload 5, []),
  (79, 2, .iload 5, []),
  (81, 3, .invokevirtual 266, [(202, 5), (4, 0), (12, 0)]),
  (84, 2, .istore 6, []),
  (86, 1, .iload_n 3, [(3, 0)]),
  (87, 2, .iload 6, []),
  (89, 3, .ifCond .eq 21, [(110, 0)]),
  (92, 1, .aload_n 0, [(0, 0)]),
  (93, 3, .getfield 19, [(12, 4)]),
  (96, 1, .iconst 4, [(4, 0)]),
  (97, 2, .iload 4, []),
  (99, 1, .imul, []),
  (100, 2, .iload 5, []),
  (102, 1, .iadd, []),
  (103, 1, .iaload, []),
  (104, 3, .invokestatic 263, [(201, 1), (1, 0)]),
  (107, 3, .goto 4, [(111, 0)]),
  (110, 1, .iconst 0, [(0, 0)]),
  (111, 1, .ior, []),
  (112, 1, .istore_n 3, [(3, 0)]),
  (113, 3, .iinc 5 1, [(1, 0)]),
  (116, 3, .goto (-97), [(19, 0)]),
  (119, 3, .iinc 4 1, [(1, 0)]),
  (122, 3, .goto (-117), [(5, 0)]),
  (125, 1, .iload_n 3, [(3, 0)]),
  (126, 1, .ireturn, [])]
/-- PackedForestModel.stepsOf (IZ)I -/
def zt209 : zzT := (⟨"PackedForestModel", "stepsOf", "(IZ)I"⟩, prog_14_method_39_code, 7, (some .int), 1, zr209)
def zr210 : List zzI := [(0, 1, .aload_n 0, [(0, 0)]),
  (1, 3, .invokevirtual 298, [(175, 0), (4, 0), (12, 0)]),
  (4, 3, .ifCond .ne 5, [(9, 0)]),
  (7, 1, .iconst (-1), [(1, 1)]),
  (8, 1, .ireturn, []),
  (9, 1, .aload_n 0, [(0, 0)]),
  (10, 3, .invokevirtual 301, [(207, 0), (0, 0), (12, 0)]),
  (13, 1, .iload_n 1, [(1, 0)]),
  (14, 38, .tableswitch 70 0 5 #[38, 43, 48, 53, 59, 65], [(84, 0), (0, 52), (1, 57), (2, 62), (3, 67), (4, 73), (5, 79)]),
  (52, 1, .aload_n 0, [(0, 0)]),
  (53, 3, .getfield 273, [(12, 26)]),
  (56, 1, .ireturn, []),
  (57, 1, .aload_n 0, [(0, 0)]),
  (58, 3, .getfield 276, [(12, 27)]),
  (61, 1, .ireturn, []),
  (62, 1, .aload_n 0, [(0, 0)]),
  (63, 3, .getfield 279, [(12, 28)]),
  (66, 1, .ireturn, []),
  (67, 1, .aload_n 0, [(0, 0)]),
  (68, 1, .iconst 1, [(1, 0)]),
  (69, 3, .invokevirtual 304, [(208, 1), (1, 0), (12, 0)]),
  (72, 1, .ireturn, []),
  (73, 1, .aload_n 0, [(0, 0)]),
  (74, 1, .iconst 0, [(0, 0)]),
  (75, 3, .invokevirtual 304, [(208, 1), (1, 0), (12, 0)]),
  (78, 1, .ireturn, []),
  (79, 1, .aload_n 0, [(0, 0)]),
  (80, 3, .getfield 282, [(12, 29)]),
  (83, 1, .ireturn, []),
  (84, 1, .iconst (-1), [(1, 1)]),
  (85, 1, .ireturn, [])]
/-- PackedForestModel.facts (I)I -/
def zt210 : zzT := (⟨"PackedForestModel", "facts", "(I)I"⟩, prog_14_method_40_code, 2, (some .int), 1, zr210)
def zr211 : List zzI := [(0, 1, .iload_n 1, [(1, 0)]),
  (1, 3, .invokestatic 201, [(178, 1), (4, 0)]),
  (4, 3, .ifCond .eq 15, [(19, 0)]),
  (7, 1, .aload_n 0, [(0, 0)]),
  (8, 3, .getfield 74, [(12, 30)]),
  (11, 1, .iload_n 1, [(1, 0)]),
  (12, 2, .bipush 26, [(26, 0)]),
  (14, 1, .isub, []),
  (15, 1, .iaload, []),
  (16, 3, .goto 6, [(22, 0)]),
  (19, 1, .iconst 1, [(1, 0)]),
  (20, 1, .iload_n 1, [(1, 0)]),
  (21, 1, .ishl, []),
  (22, 1, .ireturn, [])]
/-- PackedForestModel.firstOf (I)I -/
def zt211 : zzT := (⟨"PackedForestModel", "firstOf", "(I)I"⟩, prog_14_method_41_code, 2, (some .int), 1, zr211)
def zr212 : List zzI := [(0, 1, .iconst 0, [(0, 0)]),
  (1, 1, .istore_n 3, [(3, 0)]),
  (2, 1, .iload_n 2, [(2, 0)]),
  (3, 2, .istore 4, []),
  (5, 0, .nop, [(0, 3), (1, 1), (3, 1), (4, 1)]),
  (5, 2, .iload 4, []),
  (7, 1, .aload_n 0, [(0, 0)]),
  (8, 3, .getfield 16, [(12, 3)]),
  (11, 1, .iload_n 1, [(1, 0)]),
  (12, 1, .iaload, []),
  (13, 3, .if_icmp .ge 46, [(59, 0)]),
  (16, 1, .aload_n 0, [(0, 0)]),
  (17, 3, .getfield 19, [(12, 4)]),
  (20, 1, .iconst 4, [(4, 0)]),
  (21, 1, .iload_n 1, [(1, 0)]),
  (22, 1, .imul, []),
  (23, 2, .iload 4, []),
  (25, 1, .iadd, []),
  (26, 1, .iaload, []),
  (27, 2, .istore 5, []),
  (29, 1, .iload_n 3, [(3, 0)]),
  (30, 1, .aload_n 0, [(0, 0)]),
  (31, 2, .iload 5, []),
  (33, 3, .invokevirtual 308, [(211, 1), (1, 0), (12, 0)]),
  (36, 1, .ior, []),
  (37, 1, .istore_n 3, [(3, 0)]),
  (38, 2, .iload 5, []),
  (40, 3, .invokestatic 263, [(201, 1), (1, 0)]),
  (43, 1, .aload_n 0, [(0, 0)]),
  (44, 3, .getfield 273, [(12, 26)]),
  (47, 1, .iand, []),
  (48, 3, .ifCond .ne 5, [(53, 0)]),
  (51, 1, .iload_n 3, [(3, 0)]),
  (52, 1, .ireturn, []),
  (53, 3, .iinc 4 1, [(1, 0)]),
  (56, 3, .goto (-51), [(5, 0)]),
  (59, 1, .iload_n 3, [(3, 0)]),
  (60, 1, .ireturn, [])]
/-- PackedForestModel.firstBehind (II)I -/
def zt212 : zzT := (⟨"PackedForestModel", "firstBehind", "(II)I"⟩, prog_14_method_42_code, 6, (some .int), 1, zr212)
def zr213 : List zzI := [(0, 1, .aload_n 0, [(0, 0)]),
  (1, 3, .invokevirtual 301, [(207, 0), (0, 0), (12, 0)]),
  (4, 1, .iconst 0, [(0, 0)]),
  (5, 1, .istore_n 1, [(1, 0)]),
  (6, 0, .nop, [(0, 3), (1, 1)]),
  (6, 1, .iload_n 1, [(1, 0)]),
  (7, 2, .bipush 26, [(26, 0)]),
  (9, 3, .if_icmp .ge 16, [(25, 0)]),
  (12, 1, .aload_n 0, [(0, 0)]),
  (13, 3, .getfield 74, [(12, 30)]),
  (16, 1, .iload_n 1, [(1, 0)]),
  (17, 1, .iconst 0, [(0, 0)]),
  (18, 1, .iastore, []),
  (19, 3, .iinc 1 1, [(1, 0)]),
  (22, 3, .goto (-16), [(6, 0)]),
  (25, 1, .iconst 0, [(0, 0)]),
  (26, 1, .istore_n 1, [(1, 0)]),
  (27, 0, .nop, [(0, 3), (1, 1)]),
  (27, 1, .iload_n 1, [(1, 0)]),
  (28, 1, .iconst 5, [(5, 0)]),
  (29, 3, .if_icmp .gt 62, [(91, 0)]),
  (32, 1, .iconst 0, [(0, 0)]),
  (33, 1, .istore_n 2, [(2, 0)]),
  (34, 0, .nop, [(0, 3), (1, 1), (2, 1)]),
  (34, 1, .iload_n 2, [(2, 0)]),
  (35, 1, .aload_n 0, [(0, 0)]),
  (36, 3, .getfield 9, [(12, 1)]),
  (39, 1, .iconst 0, [(0, 0)]),
  (40, 1, .iaload, []),
  (41, 3, .if_icmp .ge 44, [(85, 0)]),
  (44, 1, .aload_n 0, [(0, 0)]),
  (45, 3, .getfield 74, [(12, 30)]),
  (48, 1, .aload_n 0, [(0, 0)]),
  (49, 3, .getfield 13, [(12, 2)]),
  (52, 1, .iload_n 2, [(2, 0)]),
  (53, 1, .iaload, []),
  (54, 2, .bipush 26, [(26, 0)]),
  (56, 1, .isub, []),
  (57, 1, .dup2, []),
  (58, 1, .iaload, []),
  (59, 1, .aload_n 0, [(0, 0)]),
  (60, 1, .iload_n 2, [(2, 0)]),
  (61, 3, .invokevirtual 260, [(177, 1), (4, 0), (12, 0)]),
  (64, 3, .ifCond .eq 12, [(76, 0)]),
  (67, 1, .aload_n 0, [(0, 0)]),
  (68, 1, .iload_n 2, [(2, 0)]),
  (69, 1, .iconst 0, [(0, 0)]),
  (70, 3, .invokevirtual 311, [(212, 2), (1, 0), (12, 0)]),
  (73, 3, .goto 4, [(77, 0)]),
  (76, 1, .iconst 0, [(0, 0)]),
  (77, 1, .ior, []),
  (78, 1, .iastore, []),
  (79, 3, .iinc 2 1, [(1, 0)]),
  (82, 3, .goto (-48), [(34, 0)]),
  (85, 3, .iinc 1 1, [(1, 0)]),
  (88, 3, .goto (-61), [(27, 0)]),
  (91, 1, .return_, [])]
/-- PackedForestModel.laysFirst ()V -/
def zt213 : zzT := (⟨"PackedForestModel", "laysFirst", "()V"⟩, prog_14_method_43_code, 3, none, 0, zr213)
def zr214 : List zzI := [(0, 1, .iconst 0, [(0, 0)]),
  (1, 1, .istore_n 2, [(2, 0)]),
  (2, 0, .nop, [(0, 3), (1, 1), (2, 1)]),
  (2, 1, .iload_n 2, [(2, 0)]),
  (3, 1, .aload_n 0, [(0, 0)]),
  (4, 3, .getfield 16, [(12, 3)]),
  (7, 1, .iload_n 1, [(1, 0)]),
  (8, 1, .iaload, []),
  (9, 3, .if_icmp .ge 99, [(108, 0)]),
  (12, 1, .aload_n 0, [(0, 0)]),
  (13, 3, .getfield 19, [(12, 4)]),
  (16, 1, .iconst 4, [(4, 0)]),
  (17, 1, .iload_n 1, [(1, 0)]),
  (18, 1, .imul, []),
  (19, 1, .iload_n 2, [(2, 0)]),
  (20, 1, .iadd, []),
  (21, 1, .iaload, []),
  (22, 1, .istore_n 3, [(3, 0)]),
  (23, 1, .iload_n 3, [(3, 0)]),
  (24, 3, .invokestatic 201, [(178, 1), (4, 0)]),
  (27, 3, .ifCond .eq 75, [(102, 0)]),
  (30, 1, .aload_n 0, [(0, 0)]),
  (31, 3, .getfield 77, [(12, 31)]),
  (34, 1, .iload_n 3, [(3, 0)]),
  (35, 2, .bipush 26, [(26, 0)]),
  (37, 1, .isub, []),
  (38, 1, .dup2, []),
  (39, 1, .iaload, []),
  (40, 1, .aload_n 0, [(0, 0)]),
  (41, 1, .iload_n 1, [(1, 0)]),
  (42, 1, .iload_n 2, [(2, 0)]),
  (43, 1, .iconst 1, [(1, 0)]),
  (44, 1, .iadd, []),
  (45, 3, .invokevirtual 311, [(212, 2), (1, 0), (12, 0)]),
  (48, 1, .ior, []),
  (49, 1, .iastore, []),
  (50, 1, .aload_n 0, [(0, 0)]),
  (51, 3, .getfield 77, [(12, 31)]),
  (54, 1, .iload_n 3, [(3, 0)]),
  (55, 2, .bipush 26, [(26, 0)]),
  (57, 1, .isub, []),
  (58, 1, .dup2, []),
  (59, 1, .iaload, []),
  (60, 1, .aload_n 0, [(0, 0)]),
  (61, 1, .aload_n 0, [(0, 0)]),
  (62, 3, .getfield 273, [(12, 26)]),
  (65, 1, .iload_n 1, [(1, 0)]),
  (66, 1, .iload_n 2, [(2, 0)]),
  (67, 1, .iconst 1, [(1, 0)]),
  (68, 1, .iadd, []),
  (69, 1, .aload_n 0, [(0, 0)]),
  (70, 3, .getfield 16, [(12, 3)]),
  (73, 1, .iload_n 1, [(1, 0)]),
  (74, 1, .iaload, []),
  (75, 1, .iconst (-1), [(1, 1)]),
  (76, 3, .invokevirtual 266, [(202, 5), (4, 0), (12, 0)]),
  (79, 3, .ifCond .eq 20, [(99, 0)]),
  (82, 1, .aload_n 0, [(0, 0)]),
  (83, 3, .getfield 77, [(12, 31)]),
  (86, 1, .aload_n 0, [(0, 0)]),
  (87, 3, .getfield 13, [(12, 2)]),
  (90, 1, .iload_n 1, [(1, 0)]),
  (91, 1, .iaload, []),
  (92, 2, .bipush 26, [(26, 0)]),
  (94, 1, .isub, []),
  (95, 1, .iaload, []),
  (96, 3, .goto 4, [(100, 0)]),
  (99, 1, .iconst 0, [(0, 0)]),
  (100, 1, .ior, []),
  (101, 1, .iastore, []),
  (102, 3, .iinc 2 1, [(1, 0)]),
  (105, 3, .goto (-103), [(2, 0)]),
  (108, 1, .return_, [])]
/-- PackedForestModel.followsIn (I)V -/
def zt214 : zzT := (⟨"PackedForestModel", "followsIn", "(I)V"⟩, prog_14_method_44_code, 4, none, 0, zr214)
def zr215 : List zzI := [(0, 1, .aload_n 0, [(0, 0)]),
  (1, 3, .invokevirtual 315, [(213, 0), (0, 0), (12, 0)]),
  (4, 1, .iconst 0, [(0, 0)]),
  (5, 1, .istore_n 1, [(1, 0)]),
  (6, 0, .nop, [(0, 3), (1, 1)]),
  (6, 1, .iload_n 1, [(1, 0)]),
  (7, 2, .bipush 26, [(26, 0)]),
  (9, 3, .if_icmp .ge 35, [(44, 0)]),
  (12, 1, .aload_n 0, [(0, 0)]),
  (13, 3, .getfield 77, [(12, 31)]),
  (16, 1, .iload_n 1, [(1, 0)]),
  (17, 1, .aload_n 0, [(0, 0)]),
  (18, 3, .getfield 9, [(12, 1)]),
  (21, 1, .iconst 1, [(1, 0)]),
  (22, 1, .iaload, []),
  (23, 1, .iload_n 1, [(1, 0)]),
  (24, 2, .bipush 26, [(26, 0)]),
  (26, 1, .iadd, []),
  (27, 3, .if_icmp .ne 9, [(36, 0)]),
  (30, 3, .ldc_w 318, [(67108864, 0)]),
  (33, 3, .goto 4, [(37, 0)]),
  (36, 1, .iconst 0, [(0, 0)]),
  (37, 1, .iastore, []),
  (38, 3, .iinc 1 1, [(1, 0)]),
  (41, 3, .goto (-35), [(6, 0)]),
  (44, 1, .iconst 0, [(0, 0)]),
  (45, 1, .istore_n 1, [(1, 0)]),
  (46, 0, .nop, [(0, 3), (1, 1)]),
  (46, 1, .iload_n 1, [(1, 0)]),
  (47, 1, .iconst 5, [(5, 0)]),
  (48, 3, .if_icmp .gt 57, [(105, 0)]),
  (51, 1, .iconst 0, [(0, 0)]),
  (52, 1, .istore_n 2, [(2, 0)]),
  (53, 0, .nop, [(0, 3), (1, 1), (2, 1)]),
  (53, 1, .iload_n 2, [(2, 0)]),
  (54, 1, .aload_n 0, [(0, 0)]),
  (55, 3, .getfield 9, [(12, 1)]),
  (58, 1, .iconst 0, [(0, 0)]),
  (59, 1, .iaload, []),
  (60, 3, .if_icmp .ge 39, [(99, 0)]),
  (63, 1, .aload_n 0, [(0, 0)]),
  (64, 1, .iload_n 2, [(2, 0)]),
  (65, 3, .invokevirtual 260, [(177, 1), (4, 0), (12, 0)]),
  (68, 3, .ifCond .eq 25, [(93, 0)]),
  (71, 1, .aload_n 0, [(0, 0)]),
  (72, 3, .getfield 13, [(12, 2)]),
  (75, 1, .iload_n 2, [(2, 0)]),
  (76, 1, .iaload, []),
  (77, 3, .invokestatic 263, [(201, 1), (1, 0)]),
  (80, 1, .aload_n 0, [(0, 0)]),
  (81, 3, .getfield 279, [(12, 28)]),
  (84, 1, .iand, []),
  (85, 3, .ifCond .eq 8, [(93, 0)]),
  (88, 1, .aload_n 0, [(0, 0)]),
  (89, 1, .iload_n 2, [(2, 0)]),
  (90, 3, .invokevirtual 319, [(214, 1), (0, 0), (12, 0)]),
  (93, 3, .iinc 2 1, [(1, 0)]),
  (96, 3, .goto (-43), [(53, 0)]),
  (99, 3, .iinc 1 1, [(1, 0)]),
  (102, 3, .goto (-56), [(46, 0)]),
  (105, 1, .return_, [])]
/-- PackedForestModel.laysFollow ()V -/
def zt215 : zzT := (⟨"PackedForestModel", "laysFollow", "()V"⟩, prog_14_method_45_code, 3, none, 0, zr215)
def zr216 : List zzI := [(0, 1, .aload_n 0, [(0, 0)]),
  (1, 1, .iload_n 1, [(1, 0)]),
  (2, 3, .invokevirtual 322, [(179, 1), (4, 0), (12, 0)]),
  (5, 3, .ifCond .ne 5, [(10, 0)]),
  (8, 1, .iconst (-1), [(1, 1)]),
  (9, 1, .ireturn, []),
  (10, 1, .aload_n 0, [(0, 0)]),
  (11, 3, .invokevirtual 315, [(213, 0), (0, 0), (12, 0)]),
  (14, 1, .aload_n 0, [(0, 0)]),
  (15, 3, .getfield 74, [(12, 30)]),
  (18, 1, .iload_n 1, [(1, 0)]),
  (19, 2, .bipush 26, [(26, 0)]),
  (21, 1, .isub, []),
  (22, 1, .iaload, []),
  (23, 1, .ireturn, [])]
/-- PackedForestModel.firsts (I)I -/
def zt216 : zzT := (⟨"PackedForestModel", "firsts", "(I)I"⟩, prog_14_method_46_code, 2, (some .int), 1, zr216)
def zr217 : List zzI := [(0, 1, .aload_n 0, [(0, 0)]),
  (1, 1, .iload_n 1, [(1, 0)]),
  (2, 3, .invokevirtual 322, [(179, 1), (4, 0), (12, 0)]),
  (5, 3, .ifCond .ne 5, [(10, 0)]),
  (8, 1, .iconst (-1), [(1, 1)]),
  (9, 1, .ireturn, []),
  (10, 1, .aload_n 0, [(0, 0)]),
  (11, 3, .invokevirtual 325, [(215, 0), (0, 0), (12, 0)]),
  (14, 1, .aload_n 0, [(0, 0)]),
  (15, 3, .getfield 77, [(12, 31)]),
  (18, 1, .iload_n 1, [(1, 0)]),
  (19, 2, .bipush 26, [(26, 0)]),
  (21, 1, .isub, []),
  (22, 1, .iaload, []),
  (23, 1, .ireturn, [])]
/-- PackedForestModel.follows (I)I -/
def zt217 : zzT := (⟨"PackedForestModel", "follows", "(I)I"⟩, prog_14_method_47_code, 2, (some .int), 1, zr217)
def zr218 : List zzI := [(0, 1, .iconst 0, [(0, 0)]),
  (1, 1, .istore_n 2, [(2, 0)]),
  (2, 1, .iconst 0, [(0, 0)]),
  (3, 1, .istore_n 3, [(3, 0)]),
  (4, 0, .nop, [(0, 3), (1, 1), (2, 1), (3, 1)]),
  (4, 1, .iload_n 3, [(3, 0)]),
  (5, 1, .aload_n 0, [(0, 0)]),
  (6, 3, .getfield 16, [(12, 3)]),
  (9, 1, .iload_n 1, [(1, 0)]),
  (10, 1, .iaload, []),
  (11, 3, .if_icmp .ge 48, [(59, 0)]),
  (14, 1, .aload_n 0, [(0, 0)]),
  (15, 3, .getfield 19, [(12, 4)]),
  (18, 1, .iconst 4, [(4, 0)]),
  (19, 1, .iload_n 1, [(1, 0)]),
  (20, 1, .imul, []),
  (21, 1, .iload_n 3, [(3, 0)]),
  (22, 1, .iadd, []),
  (23, 1, .iaload, []),
  (24, 2, .istore 4, []),
  (26, 1, .iload_n 2, [(2, 0)]),
  (27, 2, .iload 4, []),
  (29, 3, .invokestatic 201, [(178, 1), (4, 0)]),
  (32, 3, .ifCond .eq 16, [(48, 0)]),
  (35, 1, .aload_n 0, [(0, 0)]),
  (36, 3, .getfield 80, [(12, 32)]),
  (39, 2, .iload 4, []),
  (41, 2, .bipush 26, [(26, 0)]),
  (43, 1, .isub, []),
  (44, 1, .iaload, []),
  (45, 3, .goto 4, [(49, 0)]),
  (48, 1, .iconst 1, [(1, 0)]),
  (49, 3, .invokestatic 328, [(219, 2), (1, 0)]),
  (52, 1, .istore_n 2, [(2, 0)]),
  (53, 3, .iinc 3 1, [(1, 0)]),
  (56, 3, .goto (-52), [(4, 0)]),
  (59, 1, .iload_n 2, [(2, 0)]),
  (60, 1, .ireturn, [])]
/-- PackedForestModel.fewestIn (I)I -/
def zt218 : zzT := (⟨"PackedForestModel", "fewestIn", "(I)I"⟩, prog_14_method_48_code, 5, (some .int), 1, zr218)
def zr219 : List zzI := [(0, 1, .iload_n 0, [(0, 0)]),
  (1, 3, .ldc_w 331, [(2000000000, 0)]),
  (4, 1, .iload_n 1, [(1, 0)]),
  (5, 1, .isub, []),
  (6, 3, .if_icmp .lt 9, [(15, 0)]),
  (9, 3, .ldc_w 331, [(2000000000, 0)]),
  (12, 3, .goto 6, [(18, 0)]),
  (15, 1, .iload_n 0, [(0, 0)]),
  (16, 1, .iload_n 1, [(1, 0)]),
  (17, 1, .iadd, []),
  (18, 1, .ireturn, [])]
/-- PackedForestModel.joined (II)I -/
def zt219 : zzT := (⟨"PackedForestModel", "joined", "(II)I"⟩, prog_14_method_49_code, 2, (some .int), 1, zr219)
def zr220 : List zzI := [(0, 1, .aload_n 0, [(0, 0)]),
  (1, 1, .iload_n 1, [(1, 0)]),
  (2, 3, .invokevirtual 322, [(179, 1), (4, 0), (12, 0)]),
  (5, 3, .ifCond .ne 5, [(10, 0)]),
  (8, 1, .iconst (-1), [(1, 1)]),
  (9, 1, .ireturn, []),
  (10, 1, .iconst 0, [(0, 0)]),
  (11, 1, .istore_n 2, [(2, 0)]),
  (12, 0, .nop, [(0, 3), (1, 1), (2, 1)]),
  (12, 1, .iload_n 2, [(2, 0)]),
  (13, 2, .bipush 26, [(26, 0)]),
  (15, 3, .if_icmp .ge 18, [(33, 0)]),
  (18, 1, .aload_n 0, [(0, 0)]),
  (19, 3, .getfield 80, [(12, 32)]),
  (22, 1, .iload_n 2, [(2, 0)]),
  (23, 3, .ldc_w 331, [(2000000000, 0)]),
  (26, 1, .iastore, []),
  (27, 3, .iinc 2 1, [(1, 0)]),
  (30, 3, .goto (-18), [(12, 0)]),
  (33, 1, .iconst 0, [(0, 0)]),
  (34, 1, .istore_n 2, [(2, 0)]),
  (35, 0, .nop, [(0, 3), (1, 1), (2, 1)]),
  (35, 1, .iload_n 2, [(2, 0)]),
  (36, 2, .bipush 12, [(12, 0)]),
  (38, 3, .if_icmp .gt 90, [(128, 0)]),
  (41, 1, .iconst 0, [(0, 0)]),
  (42, 1, .istore_n 3, [(3, 0)]),
  (43, 0, .nop, [(0, 3), (1, 1), (2, 1), (3, 1)]),
  (43, 1, .iload_n 3, [(3, 0)]),
  (44, 1, .aload_n 0, [(0, 0)]),
  (45, 3, .getfield 9, [(12, 1)]),
  (48, 1, .iconst 0, [(0, 0)]),
  (49, 1, .iaload, []),
  (50, 3, .if_icmp .ge 72, [(122, 0)]),
  (53, 1, .aload_n 0, [(0, 0)]),
  (54, 3, .getfield 13, [(12, 2)]),
  (57, 1, .iload_n 3, [(3, 0)]),
  (58, 1, .iaload, []),
  (59, 2, .bipush 26, [(26, 0)]),
  (61, 1, .isub, []),
  (62, 2, .istore 4, []),
  (64, 1, .aload_n 0, [(0, 0)]),
  (65, 1, .iload_n 3, [(3, 0)]),
  (66, 3, .invokevirtual 260, [(177, 1), (4, 0), (12, 0)]),
  (69, 3, .ifCond .eq 11, [(80, 0)]),
  (72, 1, .aload_n 0, [(0, 0)]),
  (73, 1, .iload_n 3, [(3, 0)]),
  (74, 3, .invokevirtual 332, [(218, 1), (1, 0), (12, 0)]),
  (77, 3, .goto 6, [(83, 0)]),
  (80, 3, .ldc_w 331, [(2000000000, 0)]),
  (83, 2, .istore 5, []),
  (85, 1, .aload_n 0, [(0, 0)]),
  (86, 3, .getfield 80, [(12, 32)]),
  (89, 2, .iload 4, []),
  (91, 2, .iload 5, []),
  (93, 1, .aload_n 0, [(0, 0)]),
  (94, 3, .getfield 80, [(12, 32)]),
  (97, 2, .iload 4, []),
  (99, 1, .iaload, []),
  (100, 3, .if_icmp .ge 8, [(108, 0)]),
  (103, 2, .iload 5, []),
  (105, 3, .goto 10, [(115, 0)]),
  (108, 1, .aload_n 0, [(0, 0)]),
  (109, 3, .getfield 80, [(12, 32)]),
  (112, 2, .iload 4, []),
  (114, 1, .iaload, []),
  (115, 1, .iastore, []),
  (116, 3, .iinc 3 1, [(1, 0)]),
  (119, 3, .goto (-76), [(43, 0)]),
  (122, 3, .iinc 2 1, [(1, 0)]),
  (125, 3, .goto (-90), [(35, 0)]),
  (128, 1, .aload_n 0, [(0, 0)]),
  (129, 3, .getfield 80, [(12, 32)]),
  (132, 1, .iload_n 1, [(1, 0)]),
  (133, 2, .bipush 26, [(26, 0)]),
  (135, 1, .isub, []),
  (136, 1, .iaload, []),
  (137, 1, .istore_n 2, [(2, 0)]),
  (138, 1, .iload_n 2, [(2, 0)]),
  (139, 3, .ldc_w 331, [(2000000000, 0)]),
  (142, 3, .if_icmp .lt 8, [(150, 0)]),
  (145, 2, .bipush (-2), [(2, 1)]),
  (147, 3, .goto 4, [(151, 0)]),
  (150, 1, .iload_n 2, [(2, 0)]),
  (151, 1, .ireturn, [])]
/-- PackedForestModel.shortest (I)I -/
def zt220 : zzT := (⟨"PackedForestModel", "shortest", "(I)I"⟩, prog_14_method_50_code, 6, (some .int), 1, zr220)
def zr221 : List zzI := [(0, 1, .lconst 1, [(1, 0)]),
  (1, 1, .iconst 5, [(5, 0)]),
  (2, 1, .iload_n 0, [(0, 0)]),
  (3, 1, .imul, []),
  (4, 1, .iload_n 1, [(1, 0)]),
  (5, 1, .iadd, []),
  (6, 1, .lshl, []),
  (7, 1, .lreturn, [])]
/-- PackedForestModel.point (II)J -/
def zt221 : zzT := (⟨"PackedForestModel", "point", "(II)J"⟩, prog_14_method_51_code, 2, (some .long), 2, zr221)
def zr222 : List zzI := [(0, 1, .lload_n 0, [(0, 0)]),
  (1, 1, .iconst 5, [(5, 0)]),
  (2, 1, .iload_n 2, [(2, 0)]),
  (3, 1, .imul, []),
  (4, 1, .iload_n 3, [(3, 0)]),
  (5, 1, .iadd, []),
  (6, 1, .lshr, []),
  (7, 1, .lconst 1, [(1, 0)]),
  (8, 1, .land, []),
  (9, 1, .lconst 1, [(1, 0)]),
  (10, 1, .lcmp, []),
  (11, 3, .ifCond .ne 7, [(18, 0)]),
  (14, 1, .iconst 1, [(1, 0)]),
  (15, 3, .goto 4, [(19, 0)]),
  (18, 1, .iconst 0, [(0, 0)]),
  (19, 1, .ireturn, [])]
/-- PackedForestModel.isPoint (JII)Z -/
def zt222 : zzT := (⟨"PackedForestModel", "isPoint", "(JII)Z"⟩, prog_14_method_52_code, 4, (some .boolean), 4, zr222)
def zr223 : List zzI := [(0, 1, .lconst 0, [(0, 0)]),
  (1, 1, .lstore_n 2, [(2, 0)]),
  (2, 1, .iconst 0, [(0, 0)]),
  (3, 2, .istore 4, []),
  (5, 0, .nop, [(0, 3), (1, 1), (2, 2), (4, 1)]),
  (5, 2, .iload 4, []),
  (7, 1, .aload_n 0, [(0, 0)]),
  (8, 3, .getfield 9, [(12, 1)]),
  (11, 1, .iconst 0, [(0, 0)]),
  (12, 1, .iaload, []),
  (13, 3, .if_icmp .ge 42, [(55, 0)]),
  (16, 1, .lload_n 2, [(2, 0)]),
  (17, 1, .aload_n 0, [(0, 0)]),
  (18, 2, .iload 4, []),
  (20, 3, .invokevirtual 260, [(177, 1), (4, 0), (12, 0)]),
  (23, 3, .ifCond .eq 23, [(46, 0)]),
  (26, 1, .aload_n 0, [(0, 0)]),
  (27, 3, .getfield 13, [(12, 2)]),
  (30, 2, .iload 4, []),
  (32, 1, .iaload, []),
  (33, 1, .iload_n 1, [(1, 0)]),
  (34, 3, .if_icmp .ne 12, [(46, 0)]),
  (37, 2, .iload 4, []),
  (39, 1, .iconst 0, [(0, 0)]),
  (40, 3, .invokestatic 335, [(221, 2), (2, 0)]),
  (43, 3, .goto 4, [(47, 0)]),
  (46, 1, .lconst 0, [(0, 0)]),
  (47, 1, .lor, []),
  (48, 1, .lstore_n 2, [(2, 0)]),
  (49, 3, .iinc 4 1, [(1, 0)]),
  (52, 3, .goto (-47), [(5, 0)]),
  (55, 1, .lload_n 2, [(2, 0)]),
  (56, 1, .lreturn, [])]
/-- PackedForestModel.begun (I)J -/
def zt223 : zzT := (⟨"PackedForestModel", "begun", "(I)J"⟩, prog_14_method_53_code, 5, (some .long), 2, zr223)
def zr224 : List zzI := [(0, 1, .lload_n 1, [(1, 0)]),
  (1, 1, .lstore_n 3, [(3, 0)]),
  (2, 1, .lconst 0, [(0, 0)]),
  (3, 2, .lstore 5, []),
  (5, 0, .nop, [(0, 3), (3, 2), (5, 2)]),
  (5, 1, .lload_n 3, [(3, 0)]),
  (6, 2, .lload 5, []),
  (8, 1, .lcmp, []),
  (9, 3, .ifCond .eq 96, [(105, 0)]),
  (12, 1, .lload_n 3, [(3, 0)]),
  (13, 2, .lstore 5, []),
  (15, 1, .iconst 0, [(0, 0)]),
  (16, 2, .istore 7, []),
  (18, 0, .nop, [(0, 3), (3, 2), (5, 2), (7, 1)]),
  (18, 2, .iload 7, []),
  (20, 1, .aload_n 0, [(0, 0)]),
  (21, 3, .getfield 9, [(12, 1)]),
  (24, 1, .iconst 0, [(0, 0)]),
  (25, 1, .iaload, []),
  (26, 3, .if_icmp .ge 76, [(102, 0)]),
  (29, 1, .iconst 0, [(0, 0)]),
  (30, 2, .istore 8, []),
  (32, 0, .nop, [(0, 3), (3, 2), (5, 2), (7, 1), (8, 1)]),
  (32, 2, .iload 8, []),
  (34, 1, .aload_n 0, [(0, 0)]),
  (35, 3, .getfield 16, [(12, 3)]),
  (38, 2, .iload 7, []),
  (40, 1, .iaload, []),
  (41, 3, .if_icmp .ge 55, [(96, 0)]),
  (44, 1, .aload_n 0, [(0, 0)]),
  (45, 3, .getfield 19, [(12, 4)]),
  (48, 1, .iconst 4, [(4, 0)]),
  (49, 2, .iload 7, []),
  (51, 1, .imul, []),
  (52, 2, .iload 8, []),
  (54, 1, .iadd, []),
  (55, 1, .iaload, []),
  (56, 2, .istore 9, []),
  (58, 1, .lload_n 3, [(3, 0)]),
  (59, 1, .lload_n 3, [(3, 0)]),
  (60, 2, .iload 7, []),
  (62, 2, .iload 8, []),
  (64, 3, .invokestatic 339, [(222, 3), (4, 0)]),
  (67, 3, .ifCond .eq 20, [(87, 0)]),
  (70, 2, .iload 9, []),
  (72, 3, .invokestatic 201, [(178, 1), (4, 0)]),
  (75, 3, .ifCond .eq 12, [(87, 0)]),
  (78, 1, .aload_n 0, [(0, 0)]),
  (79, 2, .iload 9, []),
  (81, 3, .invokevirtual 343, [(223, 1), (2, 0), (12, 0)]),
  (84, 3, .goto 4, [(88, 0)]),
  (87, 1, .lconst 0, [(0, 0)]),
  (88, 1, .lor, []),
  (89, 1, .lstore_n 3, [(3, 0)]),
  (90, 3, .iinc 8 1, [(1, 0)]),
  (93, 3, .goto (-61), [(32, 0)]),
  (96, 3, .iinc 7 1, [(1, 0)]),
  (99, 3, .goto (-81), [(18, 0)]),
  (102, 3, .goto (-97), [(5, 0)]),
  (105, 1, .lload_n 3, [(3, 0)]),
  (106, 1, .lreturn, [])]
/-- PackedForestModel.closed (J)J -/
def zt224 : zzT := (⟨"PackedForestModel", "closed", "(J)J"⟩, prog_14_method_54_code, 10, (some .long), 2, zr224)
def zr225 : List zzI := [(0, 1, .lconst 0, [(0, 0)]),
  (1, 2, .lstore 4, []),
  (3, 1, .iconst 0, [(0, 0)]),
  (4, 2, .istore 6, []),
  (6, 0, .nop, [(0, 3), (1, 2), (3, 1), (4, 2), (6, 1)]),
  (6, 2, .iload 6, []),
  (8, 1, .aload_n 0, [(0, 0)]),
  (9, 3, .getfield 9, [(12, 1)]),
  (12, 1, .iconst 0, [(0, 0)]),
  (13, 1, .iaload, []),
  (14, 3, .if_icmp .ge 75, [(89, 0)]),
  (17, 1, .iconst 0, [(0, 0)]),
  (18, 2, .istore 7, []),
  (20, 0, .nop, [(0, 3), (1, 2), (3, 1), (4, 2), (6, 1), (7, 1)]),
  (20, 2, .iload 7, []),
  (22, 1, .aload_n 0, [(0, 0)]),
  (23, 3, .getfield 16, [(12, 3)]),
  (26, 2, .iload 6, []),
  (28, 1, .iaload, []),
  (29, 3, .if_icmp .ge 54, [(83, 0)]),
  (32, 2, .lload 4, []),
  (34, 1, .lload_n 1, [(1, 0)]),
  (35, 2, .iload 6, []),
  (37, 2, .iload 7, []),
  (39, 3, .invokestatic 339, [(222, 3), (4, 0)]),
  (42, 3, .ifCond .eq 31, [(73, 0)]),
  (45, 1, .aload_n 0, [(0, 0)]),
  (46, 3, .getfield 19, [(12, 4)]),
  (49, 1, .iconst 4, [(4, 0)]),
  (50, 2, .iload 6, []),
  (52, 1, .imul, []),
  (53, 2, .iload 7, []),
  (55, 1, .iadd, []),
  (56, 1, .iaload, []),
  (57, 1, .iload_n 3, [(3, 0)]),
  (58, 3, .if_icmp .ne 15, [(73, 0)]),
  (61, 2, .iload 6, []),
  (63, 2, .iload 7, []),
  (65, 1, .iconst 1, [(1, 0)]),
  (66, 1, .iadd, []),
  (67, 3, .invokestatic 335, [(221, 2), (2, 0)]),
  (70, 3, .goto 4, [(74, 0)]),
  (73, 1, .lconst 0, [(0, 0)]),
  (74, 1, .lor, []),
  (75, 2, .lstore 4, []),
  (77, 3, .iinc 7 1, [(1, 0)]),
  (80, 3, .goto (-60), [(20, 0)]),
  (83, 3, .iinc 6 1, [(1, 0)]),
  (86, 3, .goto (-80), [(6, 0)]),
  (89, 1, .aload_n 0, [(0, 0)]),
  (90, 2, .lload 4, []),
  (92, 3, .invokevirtual 347, [(224, 1), (2, 0), (12, 0)]),
  (95, 1, .lreturn, [])]
/-- PackedForestModel.moved (JI)J -/
def zt225 : zzT := (⟨"PackedForestModel", "moved", "(JI)J"⟩, prog_14_method_55_code, 8, (some .long), 2, zr225)
def zr226 : List zzI := [(0, 1, .iconst 0, [(0, 0)]),
  (1, 1, .istore_n 3, [(3, 0)]),
  (2, 0, .nop, [(0, 3), (1, 2), (3, 1)]),
  (2, 1, .iload_n 3, [(3, 0)]),
  (3, 1, .aload_n 0, [(0, 0)]),
  (4, 3, .getfield 351, [(12, 35)]),
  (7, 3, .if_icmp .ge 22, [(29, 0)]),
  (10, 1, .aload_n 0, [(0, 0)]),
  (11, 3, .getfield 83, [(12, 33)]),
  (14, 1, .iload_n 3, [(3, 0)]),
  (15, 1, .laload, []),
  (16, 1, .lload_n 1, [(1, 0)]),
  (17, 1, .lcmp, []),
  (18, 3, .ifCond .ne 5, [(23, 0)]),
  (21, 1, .iload_n 3, [(3, 0)]),
  (22, 1, .ireturn, []),
  (23, 3, .iinc 3 1, [(1, 0)]),
  (26, 3, .goto (-24), [(2, 0)]),
  (29, 1, .iconst (-1), [(1, 1)]),
  (30, 1, .ireturn, [])]
/-- PackedForestModel.numberOf (J)I -/
def zt226 : zzT := (⟨"PackedForestModel", "numberOf", "(J)I"⟩, prog_14_method_56_code, 4, (some .int), 1, zr226)
def zr227 : List zzI := [(0, 1, .aload_n 0, [(0, 0)]),
  (1, 1, .aload_n 0, [(0, 0)]),
  (2, 3, .getfield 83, [(12, 33)]),
  (5, 1, .iload_n 1, [(1, 0)]),
  (6, 1, .laload, []),
  (7, 1, .iload_n 2, [(2, 0)]),
  (8, 3, .invokevirtual 354, [(225, 2), (2, 0), (12, 0)]),
  (11, 1, .lstore_n 3, [(3, 0)]),
  (12, 1, .aload_n 0, [(0, 0)]),
  (13, 3, .getfield 87, [(12, 34)]),
  (16, 2, .bipush 52, [(52, 0)]),
  (18, 1, .iload_n 1, [(1, 0)]),
  (19, 1, .imul, []),
  (20, 1, .iload_n 2, [(2, 0)]),
  (21, 1, .iadd, []),
  (22, 1, .iconst (-1), [(1, 1)]),
  (23, 1, .iastore, []),
  (24, 1, .lload_n 3, [(3, 0)]),
  (25, 1, .lconst 0, [(0, 0)]),
  (26, 1, .lcmp, []),
  (27, 3, .ifCond .ne 5, [(32, 0)]),
  (30, 1, .iconst 1, [(1, 0)]),
  (31, 1, .ireturn, []),
  (32, 1, .aload_n 0, [(0, 0)]),
  (33, 1, .lload_n 3, [(3, 0)]),
  (34, 3, .invokevirtual 358, [(226, 1), (1, 0), (12, 0)]),
  (37, 2, .istore 5, []),
  (39, 2, .iload 5, []),
  (41, 1, .iconst (-1), [(1, 1)]),
  (42, 3, .if_icmp .ne 38, [(80, 0)]),
  (45, 1, .aload_n 0, [(0, 0)]),
  (46, 3, .getfield 351, [(12, 35)]),
  (49, 2, .bipush 90, [(90, 0)]),
  (51, 3, .if_icmp .ne 5, [(56, 0)]),
  (54, 1, .iconst 0, [(0, 0)]),
  (55, 1, .ireturn, []),
  (56, 1, .aload_n 0, [(0, 0)]),
  (57, 3, .getfield 351, [(12, 35)]),
  (60, 2, .istore 5, []),
  (62, 1, .aload_n 0, [(0, 0)]),
  (63, 3, .getfield 83, [(12, 33)]),
  (66, 2, .iload 5, []),
  (68, 1, .lload_n 3, [(3, 0)]),
  (69, 1, .lastore, []),
  (70, 1, .aload_n 0, [(0, 0)]),
  (71, 1, .dup, []),
  (72, 3, .getfield 351, [(12, 35)]),
  (75, 1, .iconst 1, [(1, 0)]),
  (76, 1, .iadd, []),
  (77, 3, .putfield 351, [(12, 35)]),
  (80, 1, .aload_n 0, [(0, 0)]),
  (81, 3, .getfield 87, [(12, 34)]),
  (84, 2, .bipush 52, [(52, 0)]),
  (86, 1, .iload_n 1, [(1, 0)]),
  (87, 1, .imul, []),
  (88, 1, .iload_n 2, [(2, 0)]),
  (89, 1, .iadd, []),
  (90, 2, .iload 5, []),
  (92, 1, .iastore, []),
  (93, 1, .iconst 1, [(1, 0)]),
  (94, 1, .ireturn, [])]
/-- PackedForestModel.laysGo (II)Z -/
def zt227 : zzT := (⟨"PackedForestModel", "laysGo", "(II)Z"⟩, prog_14_method_57_code, 6, (some .boolean), 4, zr227)
def zr228 : List zzI := [(0, 1, .aload_n 0, [(0, 0)]),
  (1, 3, .getfield 245, [(12, 36)]),
  (4, 1, .iconst 1, [(1, 0)]),
  (5, 1, .iand, []),
  (6, 3, .ifCond .eq 5, [(11, 0)]),
  (9, 1, .iconst 1, [(1, 0)]),
  (10, 1, .ireturn, []),
  (11, 1, .aload_n 0, [(0, 0)]),
  (12, 3, .getfield 83, [(12, 33)]),
  (15, 1, .iconst 0, [(0, 0)]),
  (16, 1, .aload_n 0, [(0, 0)]),
  (17, 1, .aload_n 0, [(0, 0)]),
  (18, 1, .aload_n 0, [(0, 0)]),
  (19, 3, .getfield 9, [(12, 1)]),
  (22, 1, .iconst 1, [(1, 0)]),
  (23, 1, .iaload, []),
  (24, 3, .invokevirtual 343, [(223, 1), (2, 0), (12, 0)]),
  (27, 3, .invokevirtual 347, [(224, 1), (2, 0), (12, 0)]),
  (30, 1, .lastore, []),
  (31, 1, .aload_n 0, [(0, 0)]),
  (32, 1, .iconst 1, [(1, 0)]),
  (33, 3, .putfield 351, [(12, 35)]),
  (36, 1, .iconst 0, [(0, 0)]),
  (37, 1, .istore_n 1, [(1, 0)]),
  (38, 0, .nop, [(0, 3), (1, 1)]),
  (38, 1, .iload_n 1, [(1, 0)]),
  (39, 1, .aload_n 0, [(0, 0)]),
  (40, 3, .getfield 351, [(12, 35)]),
  (43, 3, .if_icmp .ge 40, [(83, 0)]),
  (46, 1, .iconst 0, [(0, 0)]),
  (47, 1, .istore_n 2, [(2, 0)]),
  (48, 0, .nop, [(0, 3), (1, 1), (2, 1)]),
  (48, 1, .iload_n 2, [(2, 0)]),
  (49, 2, .bipush 52, [(52, 0)]),
  (51, 3, .if_icmp .ge 26, [(77, 0)]),
  (54, 1, .aload_n 0, [(0, 0)]),
  (55, 1, .iload_n 1, [(1, 0)]),
  (56, 1, .iload_n 2, [(2, 0)]),
  (57, 2, .bipush 26, [(26, 0)]),
  (59, 1, .iadd, []),
  (60, 2, .bipush 52, [(52, 0)]),
  (62, 1, .irem, []),
  (63, 3, .invokevirtual 362, [(227, 2), (4, 0), (12, 0)]),
  (66, 3, .ifCond .ne 5, [(71, 0)]),
  (69, 1, .iconst 0, [(0, 0)]),
  (70, 1, .ireturn, []),
  (71, 3, .iinc 2 1, [(1, 0)]),
  (74, 3, .goto (-26), [(48, 0)]),
  (77, 3, .iinc 1 1, [(1, 0)]),
  (80, 3, .goto (-42), [(38, 0)]),
  (83, 1, .aload_n 0, [(0, 0)]),
  (84, 1, .dup, []),
  (85, 3, .getfield 245, [(12, 36)]),
  (88, 1, .iconst 1, [(1, 0)]),
  (89, 1, .ior, []),
  (90, 3, .putfield 245, [(12, 36)]),
  (93, 1, .iconst 1, [(1, 0)]),
  (94, 1, .ireturn, [])]
/-- PackedForestModel.laysStates ()Z -/
def zt228 : zzT := (⟨"PackedForestModel", "laysStates", "()Z"⟩, prog_14_method_58_code, 3, (some .boolean), 4, zr228)
def zr229 : List zzI := [(0, 1, .aload_n 0, [(0, 0)]),
  (1, 3, .invokevirtual 298, [(175, 0), (4, 0), (12, 0)]),
  (4, 3, .ifCond .eq 30, [(34, 0)]),
  (7, 1, .aload_n 0, [(0, 0)]),
  (8, 3, .invokevirtual 248, [(228, 0), (4, 0), (12, 0)]),
  (11, 3, .ifCond .eq 23, [(34, 0)]),
  (14, 1, .iload_n 1, [(1, 0)]),
  (15, 1, .i2l, []),
  (16, 1, .lconst 0, [(0, 0)]),
  (17, 1, .aload_n 0, [(0, 0)]),
  (18, 3, .getfield 351, [(12, 35)]),
  (21, 1, .iconst 1, [(1, 0)]),
  (22, 1, .isub, []),
  (23, 1, .i2l, []),
  (24, 3, .invokestatic 158, [(173, 3), (4, 0)]),
  (27, 3, .ifCond .eq 7, [(34, 0)]),
  (30, 1, .iconst 1, [(1, 0)]),
  (31, 3, .goto 4, [(35, 0)]),
  (34, 1, .iconst 0, [(0, 0)]),
  (35, 1, .ireturn, [])]
/-- PackedForestModel.isState (I)Z -/
def zt229 : zzT := (⟨"PackedForestModel", "isState", "(I)Z"⟩, prog_14_method_59_code, 2, (some .boolean), 4, zr229)
def zr230 : List zzI := [(0, 1, .aload_n 0, [(0, 0)]),
  (1, 3, .invokevirtual 298, [(175, 0), (4, 0), (12, 0)]),
  (4, 3, .ifCond .eq 17, [(21, 0)]),
  (7, 1, .aload_n 0, [(0, 0)]),
  (8, 3, .invokevirtual 248, [(228, 0), (4, 0), (12, 0)]),
  (11, 3, .ifCond .eq 10, [(21, 0)]),
  (14, 1, .aload_n 0, [(0, 0)]),
  (15, 3, .getfield 351, [(12, 35)]),
  (18, 3, .goto 4, [(22, 0)]),
  (21, 1, .iconst (-1), [(1, 1)]),
  (22, 1, .ireturn, [])]
/-- PackedForestModel.states ()I -/
def zt230 : zzT := (⟨"PackedForestModel", "states", "()I"⟩, prog_14_method_60_code, 1, (some .int), 1, zr230)
def zr231 : List zzI := [(0, 1, .aload_n 0, [(0, 0)]),
  (1, 1, .iload_n 1, [(1, 0)]),
  (2, 3, .invokevirtual 365, [(229, 1), (4, 0), (12, 0)]),
  (5, 3, .ifCond .eq 15, [(20, 0)]),
  (8, 1, .iload_n 2, [(2, 0)]),
  (9, 1, .i2l, []),
  (10, 1, .lconst 0, [(0, 0)]),
  (11, 3, .ldc2_w 368, [(51, 0)]),
  (14, 3, .invokestatic 158, [(173, 3), (4, 0)]),
  (17, 3, .ifCond .ne 5, [(22, 0)]),
  (20, 1, .iconst (-1), [(1, 1)]),
  (21, 1, .ireturn, []),
  (22, 1, .aload_n 0, [(0, 0)]),
  (23, 3, .getfield 87, [(12, 34)]),
  (26, 2, .bipush 52, [(52, 0)]),
  (28, 1, .iload_n 1, [(1, 0)]),
  (29, 1, .imul, []),
  (30, 1, .iload_n 2, [(2, 0)]),
  (31, 1, .iadd, []),
  (32, 1, .iaload, []),
  (33, 1, .istore_n 3, [(3, 0)]),
  (34, 1, .iload_n 3, [(3, 0)]),
  (35, 1, .iconst (-1), [(1, 1)]),
  (36, 3, .if_icmp .ne 8, [(44, 0)]),
  (39, 2, .bipush (-2), [(2, 1)]),
  (41, 3, .goto 4, [(45, 0)]),
  (44, 1, .iload_n 3, [(3, 0)]),
  (45, 1, .ireturn, [])]
/-- PackedForestModel.goes (II)I -/
def zt231 : zzT := (⟨"PackedForestModel", "goes", "(II)I"⟩, prog_14_method_61_code, 4, (some .int), 1, zr231)
def zr232 : List zzI := [(0, 1, .aload_n 0, [(0, 0)]),
  (1, 1, .iload_n 1, [(1, 0)]),
  (2, 3, .invokevirtual 365, [(229, 1), (4, 0), (12, 0)]),
  (5, 3, .ifCond .eq 11, [(16, 0)]),
  (8, 1, .aload_n 0, [(0, 0)]),
  (9, 1, .iload_n 2, [(2, 0)]),
  (10, 3, .invokevirtual 257, [(176, 1), (4, 0), (12, 0)]),
  (13, 3, .ifCond .ne 5, [(18, 0)]),
  (16, 1, .iconst (-1), [(1, 1)]),
  (17, 1, .ireturn, []),
  (18, 1, .aload_n 0, [(0, 0)]),
  (19, 3, .getfield 83, [(12, 33)]),
  (22, 1, .iload_n 1, [(1, 0)]),
  (23, 1, .laload, []),
  (24, 1, .iconst 5, [(5, 0)]),
  (25, 1, .iload_n 2, [(2, 0)]),
  (26, 1, .imul, []),
  (27, 1, .lshr, []),
  (28, 3, .ldc2_w 370, [(31, 0)]),
  (31, 1, .land, []),
  (32, 1, .l2i, []),
  (33, 1, .ireturn, [])]
/-- PackedForestModel.points (II)I -/
def zt232 : zzT := (⟨"PackedForestModel", "points", "(II)I"⟩, prog_14_method_62_code, 3, (some .int), 1, zr232)
def zr233 : List zzI := [(0, 1, .aload_n 0, [(0, 0)]),
  (1, 1, .iload_n 1, [(1, 0)]),
  (2, 3, .invokevirtual 365, [(229, 1), (4, 0), (12, 0)]),
  (5, 3, .ifCond .ne 5, [(10, 0)]),
  (8, 1, .iconst (-1), [(1, 1)]),
  (9, 1, .ireturn, []),
  (10, 1, .aload_n 0, [(0, 0)]),
  (11, 3, .invokevirtual 301, [(207, 0), (0, 0), (12, 0)]),
  (14, 1, .iconst 0, [(0, 0)]),
  (15, 1, .istore_n 2, [(2, 0)]),
  (16, 1, .iconst 0, [(0, 0)]),
  (17, 1, .istore_n 3, [(3, 0)]),
  (18, 0, .nop, [(0, 3), (1, 1), (2, 1), (3, 1)]),
  (18, 1, .iload_n 3, [(3, 0)]),
  (19, 1, .aload_n 0, [(0, 0)]),
  (20, 3, .getfield 9, [(12, 1)]),
  (23, 1, .iconst 0, [(0, 0)]),
  (24, 1, .iaload, []),
  (25, 3, .if_icmp .ge 87, [(112, 0)]),
  (28, 1, .iconst 0, [(0, 0)]),
  (29, 2, .istore 4, []),
  (31, 0, .nop, [(0, 3), (1, 1), (2, 1), (3, 1), (4, 1)]),
  (31, 2, .iload 4, []),
  (33, 1, .aload_n 0, [(0, 0)]),
  (34, 3, .getfield 16, [(12, 3)]),
  (37, 1, .iload_n 3, [(3, 0)]),
  (38, 1, .iaload, []),
  (39, 3, .if_icmp .gt 67, [(106, 0)]),
  (42, 1, .aload_n 0, [(0, 0)]),
  (43, 3, .getfield 83, [(12, 33)]),
  (46, 1, .iload_n 1, [(1, 0)]),
  (47, 1, .laload, []),
  (48, 1, .iload_n 3, [(3, 0)]),
  (49, 2, .iload 4, []),
  (51, 3, .invokestatic 339, [(222, 3), (4, 0)]),
  (54, 3, .ifCond .eq 28, [(82, 0)]),
  (57, 1, .aload_n 0, [(0, 0)]),
  (58, 1, .aload_n 0, [(0, 0)]),
  (59, 3, .getfield 273, [(12, 26)]),
  (62, 1, .iload_n 3, [(3, 0)]),
  (63, 2, .iload 4, []),
  (65, 1, .aload_n 0, [(0, 0)]),
  (66, 3, .getfield 16, [(12, 3)]),
  (69, 1, .iload_n 3, [(3, 0)]),
  (70, 1, .iaload, []),
  (71, 1, .iconst (-1), [(1, 1)]),
  (72, 3, .invokevirtual 266, [(202, 5), (4, 0), (12, 0)]),
  (75, 3, .ifCond .eq 7, [(82, 0)]),
  (78, 1, .iconst 1, [(1, 0)]),
  (79, 3, .goto 4, [(83, 0)]),
  (82, 1, .iconst 0, [(0, 0)]),
  (83, 2, .istore 5, []),
  (85, 1, .iload_n 2, [(2, 0)]),
  (86, 2, .iload 5, []),
  (88, 3, .ifCond .eq 9, [(97, 0)]),
  (91, 1, .iconst 1, [(1, 0)]),
  (92, 1, .iload_n 3, [(3, 0)]),
  (93, 1, .ishl, []),
  (94, 3, .goto 4, [(98, 0)]),
  (97, 1, .iconst 0, [(0, 0)]),
  (98, 1, .ior, []),
  (99, 1, .istore_n 2, [(2, 0)]),
  (100, 3, .iinc 4 1, [(1, 0)]),
  (103, 3, .goto (-72), [(31, 0)]),
  (106, 3, .iinc 3 1, [(1, 0)]),
  (109, 3, .goto (-91), [(18, 0)]),
  (112, 1, .iload_n 2, [(2, 0)]),
  (113, 1, .ireturn, [])]
/-- PackedForestModel.done (I)I -/
def zt233 : zzT := (⟨"PackedForestModel", "done", "(I)I"⟩, prog_14_method_63_code, 6, (some .int), 1, zr233)
def zr234 : List zzI := [(0, 1, .iconst 0, [(0, 0)]),
  (1, 1, .istore_n 2, [(2, 0)]),
  (2, 0, .nop, [(0, 3), (1, 1), (2, 1)]),
  (2, 1, .iload_n 2, [(2, 0)]),
  (3, 2, .bipush 26, [(26, 0)]),
  (5, 3, .if_icmp .gt 114, [(119, 0)]),
  (8, 1, .iload_n 2, [(2, 0)]),
  (9, 2, .bipush 26, [(26, 0)]),
  (11, 3, .if_icmp .ge 22, [(33, 0)]),
  (14, 1, .aload_n 0, [(0, 0)]),
  (15, 3, .getfield 87, [(12, 34)]),
  (18, 2, .bipush 52, [(52, 0)]),
  (20, 1, .iload_n 1, [(1, 0)]),
  (21, 1, .imul, []),
  (22, 1, .iload_n 2, [(2, 0)]),
  (23, 1, .iadd, []),
  (24, 1, .iaload, []),
  (25, 1, .iconst (-1), [(1, 1)]),
  (26, 3, .if_icmp .eq 7, [(33, 0)]),
  (29, 1, .iconst 1, [(1, 0)]),
  (30, 3, .goto 4, [(34, 0)]),
  (33, 1, .iconst 0, [(0, 0)]),
  (34, 1, .istore_n 3, [(3, 0)]),
  (35, 1, .iconst 0, [(0, 0)]),
  (36, 2, .istore 4, []),
  (38, 0, .nop, [(0, 3), (1, 1), (2, 1), (3, 1), (4, 1)]),
  (38, 2, .iload 4, []),
  (40, 1, .aload_n 0, [(0, 0)]),
  (41, 3, .getfield 9, [(12, 1)]),
  (44, 1, .iconst 0, [(0, 0)]),
  (45, 1, .iaload, []),
  (46, 3, .if_icmp .ge 60, [(106, 0)]),
  (49, 1, .iload_n 3, [(3, 0)]),
  (50, 1, .aload_n 0, [(0, 0)]),
  (51, 3, .getfield 83, [(12, 33)]),
  (54, 1, .iload_n 1, [(1, 0)]),
  (55, 1, .laload, []),
  (56, 2, .iload 4, []),
  (58, 1, .aload_n 0, [(0, 0)]),
  (59, 3, .getfield 16, [(12, 3)]),
  (62, 2, .iload 4, []),
  (64, 1, .iaload, []),
  (65, 3, .invokestatic 339, [(222, 3), (4, 0)]),
  (68, 3, .ifCond .eq 29, [(97, 0)]),
  (71, 1, .aload_n 0, [(0, 0)]),
  (72, 3, .getfield 77, [(12, 31)]),
  (75, 1, .aload_n 0, [(0, 0)]),
  (76, 3, .getfield 13, [(12, 2)]),
  (79, 2, .iload 4, []),
  (81, 1, .iaload, []),
  (82, 2, .bipush 26, [(26, 0)]),
  (84, 1, .isub, []),
  (85, 1, .iaload, []),
  (86, 1, .iload_n 2, [(2, 0)]),
  (87, 3, .invokestatic 162, [(174, 2), (4, 0)]),
  (90, 3, .ifCond .eq 7, [(97, 0)]),
  (93, 1, .iconst 1, [(1, 0)]),
  (94, 3, .goto 4, [(98, 0)]),
  (97, 1, .iconst 0, [(0, 0)]),
  (98, 1, .iadd, []),
  (99, 1, .istore_n 3, [(3, 0)]),
  (100, 3, .iinc 4 1, [(1, 0)]),
  (103, 3, .goto (-65), [(38, 0)]),
  (106, 1, .iload_n 3, [(3, 0)]),
  (107, 1, .iconst 1, [(1, 0)]),
  (108, 3, .if_icmp .le 5, [(113, 0)]),
  (111, 1, .iconst 1, [(1, 0)]),
  (112, 1, .ireturn, []),
  (113, 3, .iinc 2 1, [(1, 0)]),
  (116, 3, .goto (-114), [(2, 0)]),
  (119, 1, .iconst 0, [(0, 0)]),
  (120, 1, .ireturn, [])]
/-- PackedForestModel.doesClash (I)Z -/
def zt234 : zzT := (⟨"PackedForestModel", "doesClash", "(I)Z"⟩, prog_14_method_64_code, 5, (some .boolean), 4, zr234)
def zr235 : List zzI := [(0, 1, .aload_n 0, [(0, 0)]),
  (1, 3, .invokevirtual 298, [(175, 0), (4, 0), (12, 0)]),
  (4, 3, .ifCond .ne 5, [(9, 0)]),
  (7, 1, .iconst (-1), [(1, 1)]),
  (8, 1, .ireturn, []),
  (9, 1, .aload_n 0, [(0, 0)]),
  (10, 3, .invokevirtual 248, [(228, 0), (4, 0), (12, 0)]),
  (13, 1, .pop, []),
  (14, 1, .aload_n 0, [(0, 0)]),
  (15, 3, .invokevirtual 325, [(215, 0), (0, 0), (12, 0)]),
  (18, 1, .iconst 0, [(0, 0)]),
  (19, 1, .istore_n 1, [(1, 0)]),
  (20, 1, .iconst 0, [(0, 0)]),
  (21, 1, .istore_n 2, [(2, 0)]),
  (22, 0, .nop, [(0, 3), (1, 1), (2, 1)]),
  (22, 1, .iload_n 2, [(2, 0)]),
  (23, 1, .aload_n 0, [(0, 0)]),
  (24, 3, .getfield 351, [(12, 35)]),
  (27, 3, .if_icmp .ge 25, [(52, 0)]),
  (30, 1, .iload_n 1, [(1, 0)]),
  (31, 1, .aload_n 0, [(0, 0)]),
  (32, 1, .iload_n 2, [(2, 0)]),
  (33, 3, .invokevirtual 372, [(234, 1), (4, 0), (12, 0)]),
  (36, 3, .ifCond .eq 7, [(43, 0)]),
  (39, 1, .iconst 1, [(1, 0)]),
  (40, 3, .goto 4, [(44, 0)]),
  (43, 1, .iconst 0, [(0, 0)]),
  (44, 1, .iadd, []),
  (45, 1, .istore_n 1, [(1, 0)]),
  (46, 3, .iinc 2 1, [(1, 0)]),
  (49, 3, .goto (-27), [(22, 0)]),
  (52, 1, .iload_n 1, [(1, 0)]),
  (53, 1, .ireturn, [])]
/-- PackedForestModel.clashes ()I -/
def zt235 : zzT := (⟨"PackedForestModel", "clashes", "()I"⟩, prog_14_method_65_code, 3, (some .int), 1, zr235)
def zr236 : List zzI := [(0, 1, .aload_n 0, [(0, 0)]),
  (1, 1, .dup, []),
  (2, 3, .getfield 245, [(12, 36)]),
  (5, 1, .iconst 1, [(1, 0)]),
  (6, 1, .iand, []),
  (7, 3, .putfield 245, [(12, 36)]),
  (10, 1, .return_, [])]
/-- PackedForestModel.isNew ()V -/
def zt236 : zzT := (⟨"PackedForestModel", "isNew", "()V"⟩, prog_14_method_66_code, 1, none, 0, zr236)
def zr237 : List zzI := [(0, 1, .aload_n 0, [(0, 0)]),
  (1, 3, .getfield 375, [(12, 41)]),
  (4, 3, .ifCond .eq 15, [(19, 0)]),
  (7, 1, .aload_n 0, [(0, 0)]),
  (8, 3, .getfield 90, [(12, 37)]),
  (11, 1, .aload_n 0, [(0, 0)]),
  (12, 3, .getfield 379, [(12, 40)]),
  (15, 1, .iaload, []),
  (16, 3, .goto 4, [(20, 0)]),
  (19, 1, .iload_n 1, [(1, 0)]),
  (20, 1, .istore_n 2, [(2, 0)]),
  (21, 1, .aload_n 0, [(0, 0)]),
  (22, 3, .getfield 90, [(12, 37)]),
  (25, 1, .aload_n 0, [(0, 0)]),
  (26, 3, .getfield 379, [(12, 40)]),
  (29, 1, .iload_n 2, [(2, 0)]),
  (30, 1, .iastore, []),
  (31, 1, .aload_n 0, [(0, 0)]),
  (32, 1, .dup, []),
  (33, 3, .getfield 379, [(12, 40)]),
  (36, 1, .iconst 1, [(1, 0)]),
  (37, 1, .iadd, []),
  (38, 3, .putfield 379, [(12, 40)]),
  (41, 1, .iload_n 2, [(2, 0)]),
  (42, 1, .ireturn, [])]
/-- PackedForestModel.moves (I)I -/
def zt237 : zzT := (⟨"PackedForestModel", "moves", "(I)I"⟩, prog_14_method_67_code, 3, (some .int), 1, zr237)
def zr238 : List zzI := [(0, 1, .iconst 0, [(0, 0)]),
  (1, 1, .istore_n 2, [(2, 0)]),
  (2, 0, .nop, [(0, 3), (1, 3), (2, 1)]),
  (2, 1, .iload_n 2, [(2, 0)]),
  (3, 1, .aload_n 1, [(1, 0)]),
  (4, 1, .arraylength, []),
  (5, 3, .if_icmp .ge 19, [(24, 0)]),
  (8, 1, .aload_n 1, [(1, 0)]),
  (9, 1, .iload_n 2, [(2, 0)]),
  (10, 1, .aload_n 0, [(0, 0)]),
  (11, 1, .aload_n 1, [(1, 0)]),
  (12, 1, .iload_n 2, [(2, 0)]),
  (13, 1, .iaload, []),
  (14, 3, .invokevirtual 382, [(237, 1), (1, 0), (12, 0)]),
  (17, 1, .iastore, []),
  (18, 3, .iinc 2 1, [(1, 0)]),
  (21, 3, .goto (-19), [(2, 0)]),
  (24, 1, .return_, [])]
/-- PackedForestModel.movesRow ([I)V -/
def zt238 : zzT := (⟨"PackedForestModel", "movesRow", "([I)V"⟩, prog_14_method_68_code, 3, none, 0, zr238)
def zr239 : List zzI := [(0, 1, .aload_n 0, [(0, 0)]),
  (1, 2, .bipush 24, [(24, 0)]),
  (3, 1, .iload_n 1, [(1, 0)]),
  (4, 1, .imul, []),
  (5, 3, .putfield 379, [(12, 40)]),
  (8, 1, .aload_n 0, [(0, 0)]),
  (9, 1, .iload_n 2, [(2, 0)]),
  (10, 3, .putfield 375, [(12, 41)]),
  (13, 1, .iconst 2, [(2, 0)]),
  (14, 1, .istore_n 3, [(3, 0)]),
  (15, 0, .nop, [(0, 3), (3, 1)]),
  (15, 1, .iload_n 3, [(3, 0)]),
  (16, 1, .iconst 5, [(5, 0)]),
  (17, 3, .if_icmp .gt 25, [(42, 0)]),
  (20, 1, .aload_n 0, [(0, 0)]),
  (21, 3, .getfield 9, [(12, 1)]),
  (24, 1, .iload_n 3, [(3, 0)]),
  (25, 1, .aload_n 0, [(0, 0)]),
  (26, 1, .aload_n 0, [(0, 0)]),
  (27, 3, .getfield 9, [(12, 1)]),
  (30, 1, .iload_n 3, [(3, 0)]),
  (31, 1, .iaload, []),
  (32, 3, .invokevirtual 382, [(237, 1), (1, 0), (12, 0)]),
  (35, 1, .iastore, []),
  (36, 3, .iinc 3 1, [(1, 0)]),
  (39, 3, .goto (-24), [(15, 0)]),
  (42, 1, .aload_n 0, [(0, 0)]),
  (43, 1, .aload_n 0, [(0, 0)]),
  (44, 3, .getfield 28, [(12, 7)]),
  (47, 3, .invokevirtual 385, [(238, 1), (0, 0), (12, 0)]),
  (50, 1, .aload_n 0, [(0, 0)]),
  (51, 1, .aload_n 0, [(0, 0)]),
  (52, 3, .getfield 31, [(12, 8)]),
  (55, 3, .invokevirtual 385, [(238, 1), (0, 0), (12, 0)]),
  (58, 1, .return_, [])]
/-- PackedForestModel.movesAll (IZ)V -/
def zt239 : zzT := (⟨"PackedForestModel", "movesAll", "(IZ)V"⟩, prog_14_method_69_code, 4, none, 0, zr239)
def zr240 : List zzI := [(0, 1, .aload_n 0, [(0, 0)]),
  (1, 3, .getfield 254, [(12, 39)]),
  (4, 2, .bipush 20, [(20, 0)]),
  (6, 3, .if_icmp .ne 44, [(50, 0)]),
  (9, 2, .bipush 24, [(24, 0)]),
  (11, 1, .istore_n 1, [(1, 0)]),
  (12, 0, .nop, [(0, 3), (1, 1)]),
  (12, 1, .iload_n 1, [(1, 0)]),
  (13, 3, .sipush 480, [(480, 0)]),
  (16, 3, .if_icmp .ge 24, [(40, 0)]),
  (19, 1, .aload_n 0, [(0, 0)]),
  (20, 3, .getfield 90, [(12, 37)]),
  (23, 1, .iload_n 1, [(1, 0)]),
  (24, 2, .bipush 24, [(24, 0)]),
  (26, 1, .isub, []),
  (27, 1, .aload_n 0, [(0, 0)]),
  (28, 3, .getfield 90, [(12, 37)]),
  (31, 1, .iload_n 1, [(1, 0)]),
  (32, 1, .iaload, []),
  (33, 1, .iastore, []),
  (34, 3, .iinc 1 1, [(1, 0)]),
  (37, 3, .goto (-25), [(12, 0)]),
  (40, 1, .aload_n 0, [(0, 0)]),
  (41, 1, .dup, []),
  (42, 3, .getfield 254, [(12, 39)]),
  (45, 1, .iconst 1, [(1, 0)]),
  (46, 1, .isub, []),
  (47, 3, .putfield 254, [(12, 39)]),
  (50, 1, .aload_n 0, [(0, 0)]),
  (51, 1, .aload_n 0, [(0, 0)]),
  (52, 3, .getfield 254, [(12, 39)]),
  (55, 1, .iconst 0, [(0, 0)]),
  (56, 3, .invokevirtual 389, [(239, 2), (0, 0), (12, 0)]),
  (59, 1, .aload_n 0, [(0, 0)]),
  (60, 1, .dup, []),
  (61, 3, .getfield 254, [(12, 39)]),
  (64, 1, .iconst 1, [(1, 0)]),
  (65, 1, .iadd, []),
  (66, 3, .putfield 254, [(12, 39)]),
  (69, 1, .aload_n 0, [(0, 0)]),
  (70, 3, .invokevirtual 393, [(236, 0), (0, 0), (12, 0)]),
  (73, 1, .return_, [])]
/-- PackedForestModel.keepsAct ()V -/
def zt240 : zzT := (⟨"PackedForestModel", "keepsAct", "()V"⟩, prog_14_method_70_code, 2, none, 0, zr240)
def zr241 : List zzI := [(0, 1, .aload_n 0, [(0, 0)]),
  (1, 3, .getfield 254, [(12, 39)]),
  (4, 3, .ifCond .ne 6, [(10, 0)]),
  (7, 2, .bipush (-2), [(2, 1)]),
  (9, 1, .ireturn, []),
  (10, 1, .aload_n 0, [(0, 0)]),
  (11, 1, .dup, []),
  (12, 3, .getfield 254, [(12, 39)]),
  (15, 1, .iconst 1, [(1, 0)]),
  (16, 1, .isub, []),
  (17, 3, .putfield 254, [(12, 39)]),
  (20, 1, .aload_n 0, [(0, 0)]),
  (21, 1, .aload_n 0, [(0, 0)]),
  (22, 3, .getfield 254, [(12, 39)]),
  (25, 1, .iconst 1, [(1, 0)]),
  (26, 3, .invokevirtual 389, [(239, 2), (0, 0), (12, 0)]),
  (29, 1, .aload_n 0, [(0, 0)]),
  (30, 1, .iconst 0, [(0, 0)]),
  (31, 3, .putfield 245, [(12, 36)]),
  (34, 1, .aload_n 0, [(0, 0)]),
  (35, 3, .getfield 254, [(12, 39)]),
  (38, 1, .ireturn, [])]
/-- PackedForestModel.undo ()I -/
def zt241 : zzT := (⟨"PackedForestModel", "undo", "()I"⟩, prog_14_method_71_code, 1, (some .int), 1, zr241)
def zr242 : List zzI := [(0, 1, .aload_n 0, [(0, 0)]),
  (1, 3, .invokevirtual 298, [(175, 0), (4, 0), (12, 0)]),
  (4, 3, .ifCond .eq 26, [(30, 0)]),
  (7, 1, .iload_n 1, [(1, 0)]),
  (8, 1, .i2l, []),
  (9, 1, .lconst 0, [(0, 0)]),
  (10, 3, .ldc2_w 396, [(25, 0)]),
  (13, 3, .invokestatic 158, [(173, 3), (4, 0)]),
  (16, 3, .ifCond .eq 14, [(30, 0)]),
  (19, 1, .aload_n 0, [(0, 0)]),
  (20, 3, .getfield 9, [(12, 1)]),
  (23, 1, .iconst 2, [(2, 0)]),
  (24, 1, .iaload, []),
  (25, 2, .bipush 12, [(12, 0)]),
  (27, 3, .if_icmp .ne 5, [(32, 0)]),
  (30, 1, .iconst (-1), [(1, 1)]),
  (31, 1, .ireturn, []),
  (32, 1, .aload_n 0, [(0, 0)]),
  (33, 3, .invokevirtual 398, [(240, 0), (0, 0), (12, 0)]),
  (36, 1, .aload_n 0, [(0, 0)]),
  (37, 3, .getfield 28, [(12, 7)]),
  (40, 1, .aload_n 0, [(0, 0)]),
  (41, 3, .getfield 9, [(12, 1)]),
  (44, 1, .iconst 2, [(2, 0)]),
  (45, 1, .iaload, []),
  (46, 1, .iload_n 1, [(1, 0)]),
  (47, 1, .iastore, []),
  (48, 1, .aload_n 0, [(0, 0)]),
  (49, 3, .getfield 9, [(12, 1)]),
  (52, 1, .iconst 2, [(2, 0)]),
  (53, 1, .dup2, []),
  (54, 1, .iaload, []),
  (55, 1, .iconst 1, [(1, 0)]),
  (56, 1, .iadd, []),
  (57, 1, .iastore, []),
  (58, 1, .aload_n 0, [(0, 0)]),
  (59, 3, .getfield 9, [(12, 1)]),
  (62, 1, .iconst 2, [(2, 0)]),
  (63, 1, .iaload, []),
  (64, 1, .ireturn, [])]
/-- PackedForestModel.read (I)I -/
def zt242 : zzT := (⟨"PackedForestModel", "read", "(I)I"⟩, prog_14_method_72_code, 2, (some .int), 1, zr242)
def zr243 : List zzI := [(0, 1, .aload_n 0, [(0, 0)]),
  (1, 3, .getfield 9, [(12, 1)]),
  (4, 1, .iconst 2, [(2, 0)]),
  (5, 1, .iaload, []),
  (6, 3, .ifCond .ne 5, [(11, 0)]),
  (9, 1, .iconst (-1), [(1, 1)]),
  (10, 1, .ireturn, []),
  (11, 1, .aload_n 0, [(0, 0)]),
  (12, 3, .invokevirtual 398, [(240, 0), (0, 0), (12, 0)]),
  (15, 1, .aload_n 0, [(0, 0)]),
  (16, 3, .getfield 9, [(12, 1)]),
  (19, 1, .iconst 2, [(2, 0)]),
  (20, 1, .dup2, []),
  (21, 1, .iaload, []),
  (22, 1, .iconst 1, [(1, 0)]),
  (23, 1, .isub, []),
  (24, 1, .iastore, []),
  (25, 1, .aload_n 0, [(0, 0)]),
  (26, 3, .getfield 28, [(12, 7)]),
  (29, 1, .aload_n 0, [(0, 0)]),
  (30, 3, .getfield 9, [(12, 1)]),
  (33, 1, .iconst 2, [(2, 0)]),
  (34, 1, .iaload, []),
  (35, 1, .iaload, []),
  (36, 1, .ireturn, [])]
/-- PackedForestModel.drop ()I -/
def zt243 : zzT := (⟨"PackedForestModel", "drop", "()I"⟩, prog_14_method_73_code, 1, (some .int), 1, zr243)
def zr244 : List zzI := [(0, 1, .iload_n 1, [(1, 0)]),
  (1, 1, .i2l, []),
  (2, 1, .lconst 0, [(0, 0)]),
  (3, 1, .aload_n 0, [(0, 0)]),
  (4, 3, .getfield 9, [(12, 1)]),
  (7, 1, .iconst 2, [(2, 0)]),
  (8, 1, .iaload, []),
  (9, 1, .iconst 1, [(1, 0)]),
  (10, 1, .isub, []),
  (11, 1, .i2l, []),
  (12, 3, .invokestatic 158, [(173, 3), (4, 0)]),
  (15, 3, .ifCond .eq 25, [(40, 0)]),
  (18, 1, .iload_n 2, [(2, 0)]),
  (19, 1, .i2l, []),
  (20, 1, .lconst 0, [(0, 0)]),
  (21, 3, .ldc2_w 396, [(25, 0)]),
  (24, 3, .invokestatic 158, [(173, 3), (4, 0)]),
  (27, 3, .ifCond .eq 13, [(40, 0)]),
  (30, 1, .aload_n 0, [(0, 0)]),
  (31, 3, .getfield 28, [(12, 7)]),
  (34, 1, .iload_n 1, [(1, 0)]),
  (35, 1, .iaload, []),
  (36, 1, .iload_n 2, [(2, 0)]),
  (37, 3, .if_icmp .ne 5, [(42, 0)]),
  (40, 1, .iconst (-1), [(1, 1)]),
  (41, 1, .ireturn, []),
  (42, 1, .aload_n 0, [(0, 0)]),
  (43, 3, .invokevirtual 398, [(240, 0), (0, 0), (12, 0)]),
  (46, 1, .aload_n 0, [(0, 0)]),
  (47, 3, .getfield 28, [(12, 7)]),
  (50, 1, .iload_n 1, [(1, 0)]),
  (51, 1, .iaload, []),
  (52, 1, .istore_n 3, [(3, 0)]),
  (53, 1, .aload_n 0, [(0, 0)]),
  (54, 3, .getfield 28, [(12, 7)]),
  (57, 1, .iload_n 1, [(1, 0)]),
  (58, 1, .iload_n 2, [(2, 0)]),
  (59, 1, .iastore, []),
  (60, 1, .iload_n 3, [(3, 0)]),
  (61, 1, .ireturn, [])]
/-- PackedForestModel.change (II)I -/
def zt244 : zzT := (⟨"PackedForestModel", "change", "(II)I"⟩, prog_14_method_74_code, 4, (some .int), 1, zr244)
def zr245 : List zzI := [(0, 1, .aload_n 0, [(0, 0)]),
  (1, 1, .iload_n 1, [(1, 0)]),
  (2, 3, .invokevirtual 257, [(176, 1), (4, 0), (12, 0)]),
  (5, 3, .ifCond .ne 5, [(10, 0)]),
  (8, 1, .iconst (-1), [(1, 1)]),
  (9, 1, .ireturn, []),
  (10, 1, .aload_n 0, [(0, 0)]),
  (11, 3, .getfield 9, [(12, 1)]),
  (14, 1, .iconst 3, [(3, 0)]),
  (15, 1, .dup2, []),
  (16, 1, .iaload, []),
  (17, 1, .iconst 1, [(1, 0)]),
  (18, 1, .iload_n 1, [(1, 0)]),
  (19, 1, .ishl, []),
  (20, 1, .ixor, []),
  (21, 1, .iastore, []),
  (22, 1, .aload_n 0, [(0, 0)]),
  (23, 1, .iconst 0, [(0, 0)]),
  (24, 3, .putfield 245, [(12, 36)]),
  (27, 1, .aload_n 0, [(0, 0)]),
  (28, 3, .invokevirtual 248, [(228, 0), (4, 0), (12, 0)]),
  (31, 1, .istore_n 2, [(2, 0)]),
  (32, 1, .aload_n 0, [(0, 0)]),
  (33, 3, .getfield 9, [(12, 1)]),
  (36, 1, .iconst 3, [(3, 0)]),
  (37, 1, .dup2, []),
  (38, 1, .iaload, []),
  (39, 1, .iconst 1, [(1, 0)]),
  (40, 1, .iload_n 1, [(1, 0)]),
  (41, 1, .ishl, []),
  (42, 1, .ixor, []),
  (43, 1, .iastore, []),
  (44, 1, .aload_n 0, [(0, 0)]),
  (45, 1, .iconst 0, [(0, 0)]),
  (46, 3, .putfield 245, [(12, 36)]),
  (49, 1, .iload_n 2, [(2, 0)]),
  (50, 3, .ifCond .ne 6, [(56, 0)]),
  (53, 2, .bipush (-2), [(2, 1)]),
  (55, 1, .ireturn, []),
  (56, 1, .aload_n 0, [(0, 0)]),
  (57, 3, .invokevirtual 398, [(240, 0), (0, 0), (12, 0)]),
  (60, 1, .aload_n 0, [(0, 0)]),
  (61, 3, .getfield 9, [(12, 1)]),
  (64, 1, .iconst 3, [(3, 0)]),
  (65, 1, .dup2, []),
  (66, 1, .iaload, []),
  (67, 1, .iconst 1, [(1, 0)]),
  (68, 1, .iload_n 1, [(1, 0)]),
  (69, 1, .ishl, []),
  (70, 1, .ixor, []),
  (71, 1, .iastore, []),
  (72, 1, .aload_n 0, [(0, 0)]),
  (73, 3, .invokevirtual 248, [(228, 0), (4, 0), (12, 0)]),
  (76, 1, .pop, []),
  (77, 1, .aload_n 0, [(0, 0)]),
  (78, 3, .getfield 351, [(12, 35)]),
  (81, 1, .ireturn, [])]
/-- PackedForestModel.strike (I)I -/
def zt245 : zzT := (⟨"PackedForestModel", "strike", "(I)I"⟩, prog_14_method_75_code, 3, (some .int), 1, zr245)
def zr246 : List zzI := [(0, 1, .iconst 0, [(0, 0)]),
  (1, 1, .istore_n 2, [(2, 0)]),
  (2, 0, .nop, [(0, 3), (1, 1), (2, 1)]),
  (2, 1, .iload_n 2, [(2, 0)]),
  (3, 1, .aload_n 0, [(0, 0)]),
  (4, 3, .getfield 9, [(12, 1)]),
  (7, 1, .iconst 4, [(4, 0)]),
  (8, 1, .iaload, []),
  (9, 3, .if_icmp .ge 21, [(30, 0)]),
  (12, 1, .aload_n 0, [(0, 0)]),
  (13, 3, .getfield 31, [(12, 8)]),
  (16, 1, .iload_n 2, [(2, 0)]),
  (17, 1, .iaload, []),
  (18, 1, .iload_n 1, [(1, 0)]),
  (19, 3, .if_icmp .ne 5, [(24, 0)]),
  (22, 1, .iload_n 2, [(2, 0)]),
  (23, 1, .ireturn, []),
  (24, 3, .iinc 2 1, [(1, 0)]),
  (27, 3, .goto (-25), [(2, 0)]),
  (30, 1, .iconst (-1), [(1, 1)]),
  (31, 1, .ireturn, [])]
/-- PackedForestModel.banOf (I)I -/
def zt246 : zzT := (⟨"PackedForestModel", "banOf", "(I)I"⟩, prog_14_method_76_code, 3, (some .int), 1, zr246)
def zr247 : List zzI := [(0, 1, .aload_n 0, [(0, 0)]),
  (1, 1, .iload_n 1, [(1, 0)]),
  (2, 3, .invokevirtual 257, [(176, 1), (4, 0), (12, 0)]),
  (5, 3, .ifCond .eq 48, [(53, 0)]),
  (8, 1, .iload_n 2, [(2, 0)]),
  (9, 1, .i2l, []),
  (10, 1, .lconst 0, [(0, 0)]),
  (11, 1, .aload_n 0, [(0, 0)]),
  (12, 3, .getfield 16, [(12, 3)]),
  (15, 1, .iload_n 1, [(1, 0)]),
  (16, 1, .iaload, []),
  (17, 1, .iconst 1, [(1, 0)]),
  (18, 1, .isub, []),
  (19, 1, .i2l, []),
  (20, 3, .invokestatic 158, [(173, 3), (4, 0)]),
  (23, 3, .ifCond .eq 30, [(53, 0)]),
  (26, 1, .aload_n 0, [(0, 0)]),
  (27, 1, .iload_n 3, [(3, 0)]),
  (28, 3, .invokevirtual 257, [(176, 1), (4, 0), (12, 0)]),
  (31, 3, .ifCond .eq 22, [(53, 0)]),
  (34, 1, .aload_n 0, [(0, 0)]),
  (35, 3, .getfield 19, [(12, 4)]),
  (38, 1, .iconst 4, [(4, 0)]),
  (39, 1, .iload_n 1, [(1, 0)]),
  (40, 1, .imul, []),
  (41, 1, .iload_n 2, [(2, 0)]),
  (42, 1, .iadd, []),
  (43, 1, .iaload, []),
  (44, 1, .aload_n 0, [(0, 0)]),
  (45, 3, .getfield 13, [(12, 2)]),
  (48, 1, .iload_n 3, [(3, 0)]),
  (49, 1, .iaload, []),
  (50, 3, .if_icmp .eq 5, [(55, 0)]),
  (53, 1, .iconst (-1), [(1, 1)]),
  (54, 1, .ireturn, []),
  (55, 2, .bipush 12, [(12, 0)]),
  (57, 1, .iconst 4, [(4, 0)]),
  (58, 1, .iload_n 1, [(1, 0)]),
  (59, 1, .imul, []),
  (60, 1, .iload_n 2, [(2, 0)]),
  (61, 1, .iadd, []),
  (62, 1, .imul, []),
  (63, 1, .iload_n 3, [(3, 0)]),
  (64, 1, .iadd, []),
  (65, 2, .istore 4, []),
  (67, 1, .aload_n 0, [(0, 0)]),
  (68, 2, .iload 4, []),
  (70, 3, .invokevirtual 401, [(246, 1), (1, 0), (12, 0)]),
  (73, 2, .istore 5, []),
  (75, 2, .iload 5, []),
  (77, 1, .iconst (-1), [(1, 1)]),
  (78, 3, .if_icmp .ne 16, [(94, 0)]),
  (81, 1, .aload_n 0, [(0, 0)]),
  (82, 3, .getfield 9, [(12, 1)]),
  (85, 1, .iconst 4, [(4, 0)]),
  (86, 1, .iaload, []),
  (87, 2, .bipush 8, [(8, 0)]),
  (89, 3, .if_icmp .ne 5, [(94, 0)]),
  (92, 1, .iconst (-1), [(1, 1)]),
  (93, 1, .ireturn, []),
  (94, 1, .aload_n 0, [(0, 0)]),
  (95, 3, .invokevirtual 398, [(240, 0), (0, 0), (12, 0)]),
  (98, 2, .iload 5, []),
  (100, 1, .iconst (-1), [(1, 1)]),
  (101, 3, .if_icmp .ne 29, [(130, 0)]),
  (104, 1, .aload_n 0, [(0, 0)]),
  (105, 3, .getfield 31, [(12, 8)]),
  (108, 1, .aload_n 0, [(0, 0)]),
  (109, 3, .getfield 9, [(12, 1)]),
  (112, 1, .iconst 4, [(4, 0)]),
  (113, 1, .iaload, []),
  (114, 2, .iload 4, []),
  (116, 1, .iastore, []),
  (117, 1, .aload_n 0, [(0, 0)]),
  (118, 3, .getfield 9, [(12, 1)]),
  (121, 1, .iconst 4, [(4, 0)]),
  (122, 1, .dup2, []),
  (123, 1, .iaload, []),
  (124, 1, .iconst 1, [(1, 0)]),
  (125, 1, .iadd, []),
  (126, 1, .iastore, []),
  (127, 3, .goto 50, [(177, 0)]),
  (130, 1, .aload_n 0, [(0, 0)]),
  (131, 3, .getfield 9, [(12, 1)]),
  (134, 1, .iconst 4, [(4, 0)]),
  (135, 1, .dup2, []),
  (136, 1, .iaload, []),
  (137, 1, .iconst 1, [(1, 0)]),
  (138, 1, .isub, []),
  (139, 1, .iastore, []),
  (140, 2, .iload 5, []),
  (142, 2, .istore 6, []),
  (144, 0, .nop, [(0, 3), (6, 1)]),
  (144, 2, .iload 6, []),
  (146, 1, .aload_n 0, [(0, 0)]),
  (147, 3, .getfield 9, [(12, 1)]),
  (150, 1, .iconst 4, [(4, 0)]),
  (151, 1, .iaload, []),
  (152, 3, .if_icmp .ge 25, [(177, 0)]),
  (155, 1, .aload_n 0, [(0, 0)]),
  (156, 3, .getfield 31, [(12, 8)]),
  (159, 2, .iload 6, []),
  (161, 1, .aload_n 0, [(0, 0)]),
  (162, 3, .getfield 31, [(12, 8)]),
  (165, 2, .iload 6, []),
  (167, 1, .iconst 1, [(1, 0)]),
  (168, 1, .iadd, []),
  (169, 1, .iaload, []),
  (170, 1, .iastore, []),
  (171, 3, .iinc 6 1, [(1, 0)]),
  (174, 3, .goto (-30), [(144, 0)]),
  (177, 1, .aload_n 0, [(0, 0)]),
  (178, 3, .getfield 9, [(12, 1)]),
  (181, 1, .iconst 4, [(4, 0)]),
  (182, 1, .iaload, []),
  (183, 1, .ireturn, [])]
/-- PackedForestModel.ban (III)I -/
def zt247 : zzT := (⟨"PackedForestModel", "ban", "(III)I"⟩, prog_14_method_77_code, 7, (some .int), 1, zr247)
def zr248 : List zzI := [(0, 1, .aload_n 0, [(0, 0)]),
  (1, 3, .invokevirtual 298, [(175, 0), (4, 0), (12, 0)]),
  (4, 3, .ifCond .eq 15, [(19, 0)]),
  (7, 1, .iload_n 1, [(1, 0)]),
  (8, 1, .i2l, []),
  (9, 1, .lconst 0, [(0, 0)]),
  (10, 3, .ldc2_w 404, [(2, 0)]),
  (13, 3, .invokestatic 158, [(173, 3), (4, 0)]),
  (16, 3, .ifCond .ne 5, [(21, 0)]),
  (19, 1, .iconst (-1), [(1, 1)]),
  (20, 1, .ireturn, []),
  (21, 1, .aload_n 0, [(0, 0)]),
  (22, 3, .invokevirtual 398, [(240, 0), (0, 0), (12, 0)]),
  (25, 1, .aload_n 0, [(0, 0)]),
  (26, 3, .getfield 9, [(12, 1)]),
  (29, 1, .iconst 5, [(5, 0)]),
  (30, 1, .dup2, []),
  (31, 1, .iaload, []),
  (32, 1, .iconst 1, [(1, 0)]),
  (33, 1, .iload_n 1, [(1, 0)]),
  (34, 1, .ishl, []),
  (35, 1, .ixor, []),
  (36, 1, .iastore, []),
  (37, 1, .aload_n 0, [(0, 0)]),
  (38, 3, .getfield 9, [(12, 1)]),
  (41, 1, .iconst 5, [(5, 0)]),
  (42, 1, .iaload, []),
  (43, 1, .ireturn, [])]
/-- PackedForestModel.filter (I)I -/
def zt248 : zzT := (⟨"PackedForestModel", "filter", "(I)I"⟩, prog_14_method_78_code, 2, (some .int), 1, zr248)
def zr249 : List zzI := [(0, 1, .iload_n 1, [(1, 0)]),
  (1, 1, .i2l, []),
  (2, 1, .lconst 0, [(0, 0)]),
  (3, 1, .aload_n 0, [(0, 0)]),
  (4, 3, .getfield 9, [(12, 1)]),
  (7, 1, .iconst 2, [(2, 0)]),
  (8, 1, .iaload, []),
  (9, 1, .iconst 1, [(1, 0)]),
  (10, 1, .isub, []),
  (11, 1, .i2l, []),
  (12, 3, .invokestatic 158, [(173, 3), (4, 0)]),
  (15, 3, .ifCond .eq 12, [(27, 0)]),
  (18, 1, .aload_n 0, [(0, 0)]),
  (19, 3, .getfield 28, [(12, 7)]),
  (22, 1, .iload_n 1, [(1, 0)]),
  (23, 1, .iaload, []),
  (24, 3, .goto 4, [(28, 0)]),
  (27, 1, .iconst (-1), [(1, 1)]),
  (28, 1, .ireturn, [])]
/-- PackedForestModel.letter (I)I -/
def zt249 : zzT := (⟨"PackedForestModel", "letter", "(I)I"⟩, prog_14_method_79_code, 2, (some .int), 1, zr249)
def zr250 : List zzI := [(0, 1, .aload_n 0, [(0, 0)]),
  (1, 3, .getfield 25, [(12, 6)]),
  (4, 1, .iload_n 1, [(1, 0)]),
  (5, 1, .iaload, []),
  (6, 26, .tableswitch 56 1 3 #[26, 36, 54], [(62, 0), (1, 32), (2, 42), (3, 60)]),
  (32, 1, .iload_n 2, [(2, 0)]),
  (33, 3, .ifCond .eq 7, [(40, 0)]),
  (36, 1, .iconst 1, [(1, 0)]),
  (37, 3, .goto 4, [(41, 0)]),
  (40, 1, .iconst 0, [(0, 0)]),
  (41, 1, .ireturn, []),
  (42, 1, .iload_n 2, [(2, 0)]),
  (43, 1, .aload_n 0, [(0, 0)]),
  (44, 3, .getfield 16, [(12, 3)]),
  (47, 1, .iload_n 1, [(1, 0)]),
  (48, 1, .iaload, []),
  (49, 1, .iconst 1, [(1, 0)]),
  (50, 1, .isub, []),
  (51, 3, .if_icmp .eq 7, [(58, 0)]),
  (54, 1, .iconst 1, [(1, 0)]),
  (55, 3, .goto 4, [(59, 0)]),
  (58, 1, .iconst 0, [(0, 0)]),
  (59, 1, .ireturn, []),
  (60, 1, .iconst 1, [(1, 0)]),
  (61, 1, .ireturn, []),
  (62, 1, .iconst 0, [(0, 0)]),
  (63, 1, .ireturn, [])]
/-- PackedForestModel.isBySide (II)Z -/
def zt250 : zzT := (⟨"PackedForestModel", "isBySide", "(II)Z"⟩, prog_14_method_80_code, 3, (some .boolean), 4, zr250)
def zr251 : List zzI := [(0, 1, .aload_n 0, [(0, 0)]),
  (1, 3, .getfield 22, [(12, 5)]),
  (4, 1, .iload_n 1, [(1, 0)]),
  (5, 1, .iaload, []),
  (6, 3, .ifCond .le 16, [(22, 0)]),
  (9, 1, .aload_n 0, [(0, 0)]),
  (10, 3, .getfield 22, [(12, 5)]),
  (13, 1, .iload_n 3, [(3, 0)]),
  (14, 1, .iaload, []),
  (15, 3, .ifCond .le 7, [(22, 0)]),
  (18, 1, .iconst 1, [(1, 0)]),
  (19, 3, .goto 4, [(23, 0)]),
  (22, 1, .iconst 0, [(0, 0)]),
  (23, 2, .istore 4, []),
  (25, 1, .aload_n 0, [(0, 0)]),
  (26, 3, .getfield 9, [(12, 1)]),
  (29, 1, .iconst 5, [(5, 0)]),
  (30, 1, .iaload, []),
  (31, 1, .iconst 0, [(0, 0)]),
  (32, 3, .invokestatic 162, [(174, 2), (4, 0)]),
  (35, 3, .ifCond .eq 25, [(60, 0)]),
  (38, 2, .iload 4, []),
  (40, 3, .ifCond .eq 20, [(60, 0)]),
  (43, 1, .aload_n 0, [(0, 0)]),
  (44, 3, .getfield 22, [(12, 5)]),
  (47, 1, .iload_n 3, [(3, 0)]),
  (48, 1, .iaload, []),
  (49, 1, .aload_n 0, [(0, 0)]),
  (50, 3, .getfield 22, [(12, 5)]),
  (53, 1, .iload_n 1, [(1, 0)]),
  (54, 1, .iaload, []),
  (55, 3, .if_icmp .ge 5, [(60, 0)]),
  (58, 1, .iconst 1, [(1, 0)]),
  (59, 1, .ireturn, []),
  (60, 1, .aload_n 0, [(0, 0)]),
  (61, 3, .getfield 9, [(12, 1)]),
  (64, 1, .iconst 5, [(5, 0)]),
  (65, 1, .iaload, []),
  (66, 1, .iconst 1, [(1, 0)]),
  (67, 3, .invokestatic 162, [(174, 2), (4, 0)]),
  (70, 3, .ifCond .eq 34, [(104, 0)]),
  (73, 2, .iload 4, []),
  (75, 3, .ifCond .eq 29, [(104, 0)]),
  (78, 1, .aload_n 0, [(0, 0)]),
  (79, 3, .getfield 22, [(12, 5)]),
  (82, 1, .iload_n 3, [(3, 0)]),
  (83, 1, .iaload, []),
  (84, 1, .aload_n 0, [(0, 0)]),
  (85, 3, .getfield 22, [(12, 5)]),
  (88, 1, .iload_n 1, [(1, 0)]),
  (89, 1, .iaload, []),
  (90, 3, .if_icmp .ne 14, [(104, 0)]),
  (93, 1, .aload_n 0, [(0, 0)]),
  (94, 1, .iload_n 1, [(1, 0)]),
  (95, 1, .iload_n 2, [(2, 0)]),
  (96, 3, .invokevirtual 406, [(250, 2), (4, 0), (12, 0)]),
  (99, 3, .ifCond .eq 5, [(104, 0)]),
  (102, 1, .iconst 1, [(1, 0)]),
  (103, 1, .ireturn, []),
  (104, 1, .aload_n 0, [(0, 0)]),
  (105, 3, .getfield 9, [(12, 1)]),
  (108, 1, .iconst 5, [(5, 0)]),
  (109, 1, .iaload, []),
  (110, 1, .iconst 2, [(2, 0)]),
  (111, 3, .invokestatic 162, [(174, 2), (4, 0)]),
  (114, 3, .ifCond .eq 25, [(139, 0)]),
  (117, 1, .aload_n 0, [(0, 0)]),
  (118, 2, .bipush 12, [(12, 0)]),
  (120, 1, .iconst 4, [(4, 0)]),
  (121, 1, .iload_n 1, [(1, 0)]),
  (122, 1, .imul, []),
  (123, 1, .iload_n 2, [(2, 0)]),
  (124, 1, .iadd, []),
  (125, 1, .imul, []),
  (126, 1, .iload_n 3, [(3, 0)]),
  (127, 1, .iadd, []),
  (128, 3, .invokevirtual 401, [(246, 1), (1, 0), (12, 0)]),
  (131, 1, .iconst (-1), [(1, 1)]),
  (132, 3, .if_icmp .eq 7, [(139, 0)]),
  (135, 1, .iconst 1, [(1, 0)]),
  (136, 3, .goto 4, [(140, 0)]),
  (139, 1, .iconst 0, [(0, 0)]),
  (140, 1, .ireturn, [])]
/-- PackedForestModel.isForbidden (III)Z -/
def zt251 : zzT := (⟨"PackedForestModel", "isForbidden", "(III)Z"⟩, prog_14_method_81_code, 5, (some .boolean), 4, zr251)
def zr252 : List zzI := [(0, 3, .sipush 169, [(169, 0)]),
  (3, 1, .iload_n 0, [(0, 0)]),
  (4, 1, .imul, []),
  (5, 2, .bipush 13, [(13, 0)]),
  (7, 1, .iload_n 1, [(1, 0)]),
  (8, 1, .imul, []),
  (9, 1, .iadd, []),
  (10, 1, .iload_n 2, [(2, 0)]),
  (11, 1, .iadd, []),
  (12, 1, .ireturn, [])]
/-- PackedForestModel.spot (III)I -/
def zt252 : zzT := (⟨"PackedForestModel", "spot", "(III)I"⟩, prog_14_method_82_code, 3, (some .int), 1, zr252)
def zr253 : List zzI := [(0, 1, .aload_n 0, [(0, 0)]),
  (1, 2, .iload 4, []),
  (3, 3, .invokevirtual 260, [(177, 1), (4, 0), (12, 0)]),
  (6, 3, .ifCond .eq 42, [(48, 0)]),
  (9, 1, .aload_n 0, [(0, 0)]),
  (10, 3, .getfield 13, [(12, 2)]),
  (13, 2, .iload 4, []),
  (15, 1, .iaload, []),
  (16, 1, .aload_n 0, [(0, 0)]),
  (17, 3, .getfield 19, [(12, 4)]),
  (20, 1, .iconst 4, [(4, 0)]),
  (21, 1, .iload_n 2, [(2, 0)]),
  (22, 1, .imul, []),
  (23, 1, .iload_n 3, [(3, 0)]),
  (24, 1, .iadd, []),
  (25, 1, .iaload, []),
  (26, 3, .if_icmp .ne 22, [(48, 0)]),
  (29, 1, .iload_n 1, [(1, 0)]),
  (30, 3, .ifCond .eq 14, [(44, 0)]),
  (33, 1, .aload_n 0, [(0, 0)]),
  (34, 1, .iload_n 2, [(2, 0)]),
  (35, 1, .iload_n 3, [(3, 0)]),
  (36, 2, .iload 4, []),
  (38, 3, .invokevirtual 409, [(251, 3), (4, 0), (12, 0)]),
  (41, 3, .ifCond .ne 7, [(48, 0)]),
  (44, 1, .iconst 1, [(1, 0)]),
  (45, 3, .goto 4, [(49, 0)]),
  (48, 1, .iconst 0, [(0, 0)]),
  (49, 1, .ireturn, [])]
/-- PackedForestModel.isBelow (IIII)Z -/
def zt253 : zzT := (⟨"PackedForestModel", "isBelow", "(IIII)Z"⟩, prog_14_method_83_code, 5, (some .boolean), 4, zr253)
def zr254 : List zzI := [(0, 2, .iload 4, []),
  (2, 1, .iload_n 3, [(3, 0)]),
  (3, 1, .iconst 1, [(1, 0)]),
  (4, 1, .iadd, []),
  (5, 3, .if_icmp .ne 26, [(31, 0)]),
  (8, 1, .aload_n 0, [(0, 0)]),
  (9, 3, .getfield 28, [(12, 7)]),
  (12, 1, .iload_n 3, [(3, 0)]),
  (13, 1, .iaload, []),
  (14, 1, .aload_n 0, [(0, 0)]),
  (15, 3, .getfield 19, [(12, 4)]),
  (18, 1, .iconst 4, [(4, 0)]),
  (19, 1, .iload_n 1, [(1, 0)]),
  (20, 1, .imul, []),
  (21, 1, .iload_n 2, [(2, 0)]),
  (22, 1, .iadd, []),
  (23, 1, .iaload, []),
  (24, 3, .if_icmp .ne 7, [(31, 0)]),
  (27, 1, .iconst 1, [(1, 0)]),
  (28, 3, .goto 4, [(32, 0)]),
  (31, 1, .iconst 0, [(0, 0)]),
  (32, 1, .ireturn, [])]
/-- PackedForestModel.isSmallAt (IIII)Z -/
def zt254 : zzT := (⟨"PackedForestModel", "isSmallAt", "(IIII)Z"⟩, prog_14_method_84_code, 5, (some .boolean), 4, zr254)
def zr255 : List zzI := [(0, 1, .aload_n 0, [(0, 0)]),
  (1, 3, .getfield 19, [(12, 4)]),
  (4, 1, .iconst 4, [(4, 0)]),
  (5, 1, .iload_n 1, [(1, 0)]),
  (6, 1, .imul, []),
  (7, 1, .iload_n 2, [(2, 0)]),
  (8, 1, .iadd, []),
  (9, 1, .iaload, []),
  (10, 3, .invokestatic 201, [(178, 1), (4, 0)]),
  (13, 1, .ireturn, [])]
/-- PackedForestModel.isCapitalAt (II)Z -/
def zt255 : zzT := (⟨"PackedForestModel", "isCapitalAt", "(II)Z"⟩, prog_14_method_85_code, 3, (some .boolean), 4, zr255)
def zr256 : List zzI := [(0, 1, .aload_n 0, [(0, 0)]),
  (1, 1, .iload_n 2, [(2, 0)]),
  (2, 1, .iload_n 3, [(3, 0)]),
  (3, 3, .invokevirtual 413, [(255, 2), (4, 0), (12, 0)]),
  (6, 3, .ifCond .ne 14, [(20, 0)]),
  (9, 1, .aload_n 0, [(0, 0)]),
  (10, 1, .iload_n 2, [(2, 0)]),
  (11, 1, .iload_n 3, [(3, 0)]),
  (12, 2, .iload 4, []),
  (14, 2, .iload 5, []),
  (16, 3, .invokevirtual 416, [(254, 4), (4, 0), (12, 0)]),
  (19, 1, .ireturn, []),
  (20, 1, .iconst 0, [(0, 0)]),
  (21, 2, .istore 6, []),
  (23, 0, .nop, [(0, 3), (1, 1), (2, 1), (3, 1), (4, 1), (5, 1), (6, 1)]),
  (23, 2, .iload 6, []),
  (25, 1, .aload_n 0, [(0, 0)]),
  (26, 3, .getfield 9, [(12, 1)]),
  (29, 1, .iconst 0, [(0, 0)]),
  (30, 1, .iaload, []),
  (31, 3, .if_icmp .ge 46, [(77, 0)]),
  (34, 1, .aload_n 0, [(0, 0)]),
  (35, 3, .getfield 96, [(12, 42)]),
  (38, 3, .sipush 2028, [(2028, 0)]),
  (41, 1, .iload_n 1, [(1, 0)]),
  (42, 1, .imul, []),
  (43, 2, .iload 6, []),
  (45, 2, .iload 4, []),
  (47, 2, .iload 5, []),
  (49, 3, .invokestatic 420, [(252, 3), (1, 0)]),
  (52, 1, .iadd, []),
  (53, 1, .baload, []),
  (54, 3, .ifCond .eq 17, [(71, 0)]),
  (57, 1, .aload_n 0, [(0, 0)]),
  (58, 1, .iload_n 1, [(1, 0)]),
  (59, 1, .iload_n 2, [(2, 0)]),
  (60, 1, .iload_n 3, [(3, 0)]),
  (61, 2, .iload 6, []),
  (63, 3, .invokevirtual 424, [(253, 4), (4, 0), (12, 0)]),
  (66, 3, .ifCond .eq 5, [(71, 0)]),
  (69, 1, .iconst 1, [(1, 0)]),
  (70, 1, .ireturn, []),
  (71, 3, .iinc 6 1, [(1, 0)]),
  (74, 3, .goto (-51), [(23, 0)]),
  (77, 1, .iconst 0, [(0, 0)]),
  (78, 1, .ireturn, [])]
/-- PackedForestModel.canBe (IIIII)Z -/
def zt256 : zzT := (⟨"PackedForestModel", "canBe", "(IIIII)Z"⟩, prog_14_method_86_code, 7, (some .boolean), 4, zr256)
def zr257 : List zzI := [(0, 1, .iconst 0, [(0, 0)]),
  (1, 2, .istore 5, []),
  (3, 0, .nop, [(0, 3), (1, 1), (2, 1), (3, 1), (4, 1), (5, 1)]),
  (3, 2, .iload 5, []),
  (5, 1, .aload_n 0, [(0, 0)]),
  (6, 3, .getfield 16, [(12, 3)]),
  (9, 1, .iload_n 2, [(2, 0)]),
  (10, 1, .iaload, []),
  (11, 3, .if_icmp .gt 126, [(137, 0)]),
  (14, 1, .iload_n 3, [(3, 0)]),
  (15, 2, .istore 6, []),
  (17, 0, .nop, [(0, 3), (1, 1), (2, 1), (3, 1), (4, 1), (5, 1), (6, 1)]),
  (17, 2, .iload 6, []),
  (19, 2, .iload 4, []),
  (21, 3, .if_icmp .gt 110, [(131, 0)]),
  (24, 2, .iload 5, []),
  (26, 3, .ifCond .ne 13, [(39, 0)]),
  (29, 2, .iload 6, []),
  (31, 1, .iload_n 3, [(3, 0)]),
  (32, 3, .if_icmp .ne 7, [(39, 0)]),
  (35, 1, .iconst 1, [(1, 0)]),
  (36, 3, .goto 4, [(40, 0)]),
  (39, 1, .iconst 0, [(0, 0)]),
  (40, 2, .istore 7, []),
  (42, 1, .iload_n 3, [(3, 0)]),
  (43, 2, .istore 8, []),
  (45, 0, .nop, [(0, 3), (1, 1), (2, 1), (3, 1), (4, 1), (5, 1), (6, 1), (7, 1), (8, 1)]),
  (45, 2, .iload 8, []),
  (47, 2, .iload 6, []),
  (49, 3, .if_icmp .gt 61, [(110, 0)]),
  (52, 2, .iload 5, []),
  (54, 3, .ifCond .le 56, [(110, 0)]),
  (57, 2, .iload 7, []),
  (59, 3, .ifCond .ne 51, [(110, 0)]),
  (62, 1, .aload_n 0, [(0, 0)]),
  (63, 3, .getfield 100, [(12, 43)]),
  (66, 2, .bipush 13, [(13, 0)]),
  (68, 2, .iload 5, []),
  (70, 1, .iconst 1, [(1, 0)]),
  (71, 1, .isub, []),
  (72, 1, .imul, []),
  (73, 2, .iload 8, []),
  (75, 1, .iadd, []),
  (76, 1, .baload, []),
  (77, 3, .ifCond .eq 24, [(101, 0)]),
  (80, 1, .aload_n 0, [(0, 0)]),
  (81, 1, .iload_n 1, [(1, 0)]),
  (82, 1, .iload_n 2, [(2, 0)]),
  (83, 2, .iload 5, []),
  (85, 1, .iconst 1, [(1, 0)]),
  (86, 1, .isub, []),
  (87, 2, .iload 8, []),
  (89, 2, .iload 6, []),
  (91, 3, .invokevirtual 427, [(256, 5), (4, 0), (12, 0)]),
  (94, 3, .ifCond .eq 7, [(101, 0)]),
  (97, 1, .iconst 1, [(1, 0)]),
  (98, 3, .goto 4, [(102, 0)]),
  (101, 1, .iconst 0, [(0, 0)]),
  (102, 2, .istore 7, []),
  (104, 3, .iinc 8 1, [(1, 0)]),
  (107, 3, .goto (-62), [(45, 0)]),
  (110, 1, .aload_n 0, [(0, 0)]),
  (111, 3, .getfield 100, [(12, 43)]),
  (114, 2, .bipush 13, [(13, 0)]),
  (116, 2, .iload 5, []),
  (118, 1, .imul, []),
  (119, 2, .iload 6, []),
  (121, 1, .iadd, []),
  (122, 2, .iload 7, []),
  (124, 1, .bastore, []),
  (125, 3, .iinc 6 1, [(1, 0)]),
  (128, 3, .goto (-111), [(17, 0)]),
  (131, 3, .iinc 5 1, [(1, 0)]),
  (134, 3, .goto (-131), [(3, 0)]),
  (137, 1, .return_, [])]
/-- PackedForestModel.laysAhead (IIII)V -/
def zt257 : zzT := (⟨"PackedForestModel", "laysAhead", "(IIII)V"⟩, prog_14_method_87_code, 9, none, 0, zr257)
def zr258 : List zzI := [(0, 1, .aload_n 0, [(0, 0)]),
  (1, 3, .getfield 16, [(12, 3)]),
  (4, 1, .iload_n 1, [(1, 0)]),
  (5, 1, .iaload, []),
  (6, 2, .istore 4, []),
  (8, 0, .nop, [(0, 3), (1, 1), (2, 1), (3, 1), (4, 1)]),
  (8, 2, .iload 4, []),
  (10, 3, .ifCond .lt 135, [(145, 0)]),
  (13, 1, .iload_n 2, [(2, 0)]),
  (14, 2, .istore 5, []),
  (16, 0, .nop, [(0, 3), (1, 1), (2, 1), (3, 1), (4, 1), (5, 1)]),
  (16, 2, .iload 5, []),
  (18, 1, .iload_n 3, [(3, 0)]),
  (19, 3, .if_icmp .gt 120, [(139, 0)]),
  (22, 2, .iload 4, []),
  (24, 1, .aload_n 0, [(0, 0)]),
  (25, 3, .getfield 16, [(12, 3)]),
  (28, 1, .iload_n 1, [(1, 0)]),
  (29, 1, .iaload, []),
  (30, 3, .if_icmp .ne 13, [(43, 0)]),
  (33, 2, .iload 5, []),
  (35, 1, .iload_n 3, [(3, 0)]),
  (36, 3, .if_icmp .ne 7, [(43, 0)]),
  (39, 1, .iconst 1, [(1, 0)]),
  (40, 3, .goto 4, [(44, 0)]),
  (43, 1, .iconst 0, [(0, 0)]),
  (44, 2, .istore 6, []),
  (46, 2, .iload 5, []),
  (48, 2, .istore 7, []),
  (50, 0, .nop, [(0, 3), (1, 1), (2, 1), (3, 1), (4, 1), (5, 1), (6, 1), (7, 1)]),
  (50, 2, .iload 7, []),
  (52, 1, .iload_n 3, [(3, 0)]),
  (53, 3, .if_icmp .gt 65, [(118, 0)]),
  (56, 2, .iload 4, []),
  (58, 1, .aload_n 0, [(0, 0)]),
  (59, 3, .getfield 16, [(12, 3)]),
  (62, 1, .iload_n 1, [(1, 0)]),
  (63, 1, .iaload, []),
  (64, 3, .if_icmp .ge 54, [(118, 0)]),
  (67, 2, .iload 6, []),
  (69, 3, .ifCond .ne 49, [(118, 0)]),
  (72, 1, .aload_n 0, [(0, 0)]),
  (73, 1, .iconst 1, [(1, 0)]),
  (74, 1, .iload_n 1, [(1, 0)]),
  (75, 2, .iload 4, []),
  (77, 2, .iload 5, []),
  (79, 2, .iload 7, []),
  (81, 3, .invokevirtual 427, [(256, 5), (4, 0), (12, 0)]),
  (84, 3, .ifCond .eq 25, [(109, 0)]),
  (87, 1, .aload_n 0, [(0, 0)]),
  (88, 3, .getfield 103, [(12, 44)]),
  (91, 2, .bipush 13, [(13, 0)]),
  (93, 2, .iload 4, []),
  (95, 1, .iconst 1, [(1, 0)]),
  (96, 1, .iadd, []),
  (97, 1, .imul, []),
  (98, 2, .iload 7, []),
  (100, 1, .iadd, []),
  (101, 1, .baload, []),
  (102, 3, .ifCond .eq 7, [(109, 0)]),
  (105, 1, .iconst 1, [(1, 0)]),
  (106, 3, .goto 4, [(110, 0)]),
  (109, 1, .iconst 0, [(0, 0)]),
  (110, 2, .istore 6, []),
  (112, 3, .iinc 7 1, [(1, 0)]),
  (115, 3, .goto (-65), [(50, 0)]),
  (118, 1, .aload_n 0, [(0, 0)]),
  (119, 3, .getfield 103, [(12, 44)]),
  (122, 2, .bipush 13, [(13, 0)]),
  (124, 2, .iload 4, []),
  (126, 1, .imul, []),
  (127, 2, .iload 5, []),
  (129, 1, .iadd, []),
  (130, 2, .iload 6, []),
  (132, 1, .bastore, []),
  (133, 3, .iinc 5 1, [(1, 0)]),
  (136, 3, .goto (-120), [(16, 0)]),
  (139, 3, .iinc 4 (-1), [(1, 1)]),
  (142, 3, .goto (-134), [(8, 0)]),
  (145, 1, .return_, [])]
/-- PackedForestModel.laysBehind (III)V -/
def zt258 : zzT := (⟨"PackedForestModel", "laysBehind", "(III)V"⟩, prog_14_method_88_code, 8, none, 0, zr258)
def zr259 : List zzI := [(0, 3, .sipush 2028, [(2028, 0)]),
  (3, 1, .iload_n 1, [(1, 0)]),
  (4, 1, .imul, []),
  (5, 1, .iload_n 2, [(2, 0)]),
  (6, 1, .iload_n 3, [(3, 0)]),
  (7, 2, .iload 4, []),
  (9, 3, .invokestatic 420, [(252, 3), (1, 0)]),
  (12, 1, .iadd, []),
  (13, 2, .istore 5, []),
  (15, 1, .aload_n 0, [(0, 0)]),
  (16, 3, .getfield 96, [(12, 42)]),
  (19, 2, .iload 5, []),
  (21, 1, .baload, []),
  (22, 3, .ifCond .ne 11, [(33, 0)]),
  (25, 1, .aload_n 0, [(0, 0)]),
  (26, 1, .iload_n 2, [(2, 0)]),
  (27, 3, .invokevirtual 260, [(177, 1), (4, 0), (12, 0)]),
  (30, 3, .ifCond .ne 5, [(35, 0)]),
  (33, 1, .iconst 0, [(0, 0)]),
  (34, 1, .ireturn, []),
  (35, 1, .aload_n 0, [(0, 0)]),
  (36, 1, .iload_n 1, [(1, 0)]),
  (37, 1, .iload_n 2, [(2, 0)]),
  (38, 1, .iload_n 3, [(3, 0)]),
  (39, 2, .iload 4, []),
  (41, 3, .invokevirtual 430, [(257, 4), (0, 0), (12, 0)]),
  (44, 1, .aload_n 0, [(0, 0)]),
  (45, 3, .getfield 96, [(12, 42)]),
  (48, 2, .iload 5, []),
  (50, 1, .aload_n 0, [(0, 0)]),
  (51, 3, .getfield 100, [(12, 43)]),
  (54, 2, .bipush 13, [(13, 0)]),
  (56, 1, .aload_n 0, [(0, 0)]),
  (57, 3, .getfield 16, [(12, 3)]),
  (60, 1, .iload_n 2, [(2, 0)]),
  (61, 1, .iaload, []),
  (62, 1, .imul, []),
  (63, 2, .iload 4, []),
  (65, 1, .iadd, []),
  (66, 1, .baload, []),
  (67, 1, .bastore, []),
  (68, 1, .aload_n 0, [(0, 0)]),
  (69, 3, .getfield 96, [(12, 42)]),
  (72, 2, .iload 5, []),
  (74, 1, .baload, []),
  (75, 1, .ireturn, [])]
/-- PackedForestModel.makesOne (IIII)Z -/
def zt259 : zzT := (⟨"PackedForestModel", "makesOne", "(IIII)Z"⟩, prog_14_method_89_code, 6, (some .boolean), 4, zr259)
def zr260 : List zzI := [(0, 1, .iconst 0, [(0, 0)]),
  (1, 1, .istore_n 3, [(3, 0)]),
  (2, 1, .iconst 0, [(0, 0)]),
  (3, 2, .istore 4, []),
  (5, 0, .nop, [(0, 3), (1, 1), (2, 1), (3, 1), (4, 1)]),
  (5, 2, .iload 4, []),
  (7, 1, .iload_n 2, [(2, 0)]),
  (8, 1, .iadd, []),
  (9, 1, .aload_n 0, [(0, 0)]),
  (10, 3, .getfield 9, [(12, 1)]),
  (13, 1, .iconst 2, [(2, 0)]),
  (14, 1, .iaload, []),
  (15, 3, .if_icmp .gt 55, [(70, 0)]),
  (18, 1, .iconst 0, [(0, 0)]),
  (19, 2, .istore 5, []),
  (21, 0, .nop, [(0, 3), (1, 1), (2, 1), (3, 1), (4, 1), (5, 1)]),
  (21, 2, .iload 5, []),
  (23, 1, .aload_n 0, [(0, 0)]),
  (24, 3, .getfield 9, [(12, 1)]),
  (27, 1, .iconst 0, [(0, 0)]),
  (28, 1, .iaload, []),
  (29, 3, .if_icmp .ge 35, [(64, 0)]),
  (32, 1, .aload_n 0, [(0, 0)]),
  (33, 1, .iload_n 1, [(1, 0)]),
  (34, 2, .iload 5, []),
  (36, 2, .iload 4, []),
  (38, 2, .iload 4, []),
  (40, 1, .iload_n 2, [(2, 0)]),
  (41, 1, .iadd, []),
  (42, 3, .invokevirtual 434, [(259, 4), (4, 0), (12, 0)]),
  (45, 3, .ifCond .ne 7, [(52, 0)]),
  (48, 1, .iload_n 3, [(3, 0)]),
  (49, 3, .ifCond .eq 7, [(56, 0)]),
  (52, 1, .iconst 1, [(1, 0)]),
  (53, 3, .goto 4, [(57, 0)]),
  (56, 1, .iconst 0, [(0, 0)]),
  (57, 1, .istore_n 3, [(3, 0)]),
  (58, 3, .iinc 5 1, [(1, 0)]),
  (61, 3, .goto (-40), [(21, 0)]),
  (64, 3, .iinc 4 1, [(1, 0)]),
  (67, 3, .goto (-62), [(5, 0)]),
  (70, 1, .iload_n 3, [(3, 0)]),
  (71, 1, .ireturn, [])]
/-- PackedForestModel.makesOf (II)Z -/
def zt260 : zzT := (⟨"PackedForestModel", "makesOf", "(II)Z"⟩, prog_14_method_90_code, 6, (some .boolean), 4, zr260)
def zr261 : List zzI := [(0, 1, .iload_n 1, [(1, 0)]),
  (1, 3, .ifCond .ne 7, [(8, 0)]),
  (4, 1, .iconst 2, [(2, 0)]),
  (5, 3, .goto 4, [(9, 0)]),
  (8, 1, .iconst 4, [(4, 0)]),
  (9, 1, .istore_n 2, [(2, 0)]),
  (10, 1, .aload_n 0, [(0, 0)]),
  (11, 3, .getfield 245, [(12, 36)]),
  (14, 1, .iload_n 2, [(2, 0)]),
  (15, 1, .iand, []),
  (16, 3, .ifCond .eq 4, [(20, 0)]),
  (19, 1, .return_, []),
  (20, 1, .iconst 0, [(0, 0)]),
  (21, 1, .istore_n 3, [(3, 0)]),
  (22, 0, .nop, [(0, 3), (1, 1), (2, 1), (3, 1)]),
  (22, 1, .iload_n 3, [(3, 0)]),
  (23, 3, .sipush 2028, [(2028, 0)]),
  (26, 3, .if_icmp .ge 22, [(48, 0)]),
  (29, 1, .aload_n 0, [(0, 0)]),
  (30, 3, .getfield 96, [(12, 42)]),
  (33, 3, .sipush 2028, [(2028, 0)]),
  (36, 1, .iload_n 1, [(1, 0)]),
  (37, 1, .imul, []),
  (38, 1, .iload_n 3, [(3, 0)]),
  (39, 1, .iadd, []),
  (40, 1, .iconst 0, [(0, 0)]),
  (41, 1, .bastore, []),
  (42, 3, .iinc 3 1, [(1, 0)]),
  (45, 3, .goto (-23), [(22, 0)]),
  (48, 1, .iconst 0, [(0, 0)]),
  (49, 1, .istore_n 3, [(3, 0)]),
  (50, 0, .nop, [(0, 3), (1, 1), (2, 1), (3, 1)]),
  (50, 1, .iload_n 3, [(3, 0)]),
  (51, 1, .aload_n 0, [(0, 0)]),
  (52, 3, .getfield 9, [(12, 1)]),
  (55, 1, .iconst 2, [(2, 0)]),
  (56, 1, .iaload, []),
  (57, 3, .if_icmp .gt 28, [(85, 0)]),
  (60, 1, .iconst 1, [(1, 0)]),
  (61, 2, .istore 4, []),
  (63, 0, .nop, [(0, 3), (1, 1), (2, 1), (3, 1), (4, 1)]),
  (63, 2, .iload 4, []),
  (65, 3, .ifCond .eq 14, [(79, 0)]),
  (68, 1, .aload_n 0, [(0, 0)]),
  (69, 1, .iload_n 1, [(1, 0)]),
  (70, 1, .iload_n 3, [(3, 0)]),
  (71, 3, .invokevirtual 437, [(260, 2), (4, 0), (12, 0)]),
  (74, 2, .istore 4, []),
  (76, 3, .goto (-13), [(63, 0)]),
  (79, 3, .iinc 3 1, [(1, 0)]),
  (82, 3, .goto (-32), [(50, 0)]),
  (85, 1, .aload_n 0, [(0, 0)]),
  (86, 1, .dup, []),
  (87, 3, .getfield 245, [(12, 36)]),
  (90, 1, .iload_n 2, [(2, 0)]),
  (91, 1, .ior, []),
  (92, 3, .putfield 245, [(12, 36)]),
  (95, 1, .return_, [])]
/-- PackedForestModel.laysMade (I)V -/
def zt261 : zzT := (⟨"PackedForestModel", "laysMade", "(I)V"⟩, prog_14_method_91_code, 5, none, 0, zr261)
def zr262 : List zzI := [(0, 1, .iload_n 1, [(1, 0)]),
  (1, 3, .invokestatic 201, [(178, 1), (4, 0)]),
  (4, 3, .ifCond .ne 26, [(30, 0)]),
  (7, 1, .iload_n 3, [(3, 0)]),
  (8, 1, .iload_n 2, [(2, 0)]),
  (9, 1, .iconst 1, [(1, 0)]),
  (10, 1, .iadd, []),
  (11, 3, .if_icmp .ne 17, [(28, 0)]),
  (14, 1, .aload_n 0, [(0, 0)]),
  (15, 3, .getfield 28, [(12, 7)]),
  (18, 1, .iload_n 2, [(2, 0)]),
  (19, 1, .iaload, []),
  (20, 1, .iload_n 1, [(1, 0)]),
  (21, 3, .if_icmp .ne 7, [(28, 0)]),
  (24, 1, .iconst 1, [(1, 0)]),
  (25, 3, .goto 4, [(29, 0)]),
  (28, 1, .iconst 0, [(0, 0)]),
  (29, 1, .ireturn, []),
  (30, 1, .iconst 0, [(0, 0)]),
  (31, 2, .istore 4, []),
  (33, 0, .nop, [(0, 3), (1, 1), (2, 1), (3, 1), (4, 1)]),
  (33, 2, .iload 4, []),
  (35, 1, .aload_n 0, [(0, 0)]),
  (36, 3, .getfield 9, [(12, 1)]),
  (39, 1, .iconst 0, [(0, 0)]),
  (40, 1, .iaload, []),
  (41, 3, .if_icmp .ge 37, [(78, 0)]),
  (44, 1, .aload_n 0, [(0, 0)]),
  (45, 3, .getfield 13, [(12, 2)]),
  (48, 2, .iload 4, []),
  (50, 1, .iaload, []),
  (51, 1, .iload_n 1, [(1, 0)]),
  (52, 3, .if_icmp .ne 20, [(72, 0)]),
  (55, 1, .aload_n 0, [(0, 0)]),
  (56, 3, .getfield 96, [(12, 42)]),
  (59, 2, .iload 4, []),
  (61, 1, .iload_n 2, [(2, 0)]),
  (62, 1, .iload_n 3, [(3, 0)]),
  (63, 3, .invokestatic 420, [(252, 3), (1, 0)]),
  (66, 1, .baload, []),
  (67, 3, .ifCond .eq 5, [(72, 0)]),
  (70, 1, .iconst 1, [(1, 0)]),
  (71, 1, .ireturn, []),
  (72, 3, .iinc 4 1, [(1, 0)]),
  (75, 3, .goto (-42), [(33, 0)]),
  (78, 1, .iconst 0, [(0, 0)]),
  (79, 1, .ireturn, [])]
/-- PackedForestModel.isMadeOf (III)Z -/
def zt262 : zzT := (⟨"PackedForestModel", "isMadeOf", "(III)Z"⟩, prog_14_method_92_code, 5, (some .boolean), 4, zr262)
def zr263 : List zzI := [(0, 1, .iload_n 1, [(1, 0)]),
  (1, 3, .ifCond .lt 22, [(23, 0)]),
  (4, 1, .iload_n 1, [(1, 0)]),
  (5, 1, .iload_n 2, [(2, 0)]),
  (6, 3, .if_icmp .gt 17, [(23, 0)]),
  (9, 1, .iload_n 2, [(2, 0)]),
  (10, 1, .aload_n 0, [(0, 0)]),
  (11, 3, .getfield 9, [(12, 1)]),
  (14, 1, .iconst 2, [(2, 0)]),
  (15, 1, .iaload, []),
  (16, 3, .if_icmp .gt 7, [(23, 0)]),
  (19, 1, .iconst 1, [(1, 0)]),
  (20, 3, .goto 4, [(24, 0)]),
  (23, 1, .iconst 0, [(0, 0)]),
  (24, 1, .ireturn, [])]
/-- PackedForestModel.isPart (II)Z -/
def zt263 : zzT := (⟨"PackedForestModel", "isPart", "(II)Z"⟩, prog_14_method_93_code, 3, (some .boolean), 4, zr263)
def zr264 : List zzI := [(0, 1, .aload_n 0, [(0, 0)]),
  (1, 1, .iload_n 1, [(1, 0)]),
  (2, 3, .invokevirtual 322, [(179, 1), (4, 0), (12, 0)]),
  (5, 3, .ifCond .eq 12, [(17, 0)]),
  (8, 1, .aload_n 0, [(0, 0)]),
  (9, 1, .iload_n 2, [(2, 0)]),
  (10, 1, .iload_n 3, [(3, 0)]),
  (11, 3, .invokevirtual 440, [(263, 2), (4, 0), (12, 0)]),
  (14, 3, .ifCond .ne 5, [(19, 0)]),
  (17, 1, .iconst (-1), [(1, 1)]),
  (18, 1, .ireturn, []),
  (19, 1, .aload_n 0, [(0, 0)]),
  (20, 1, .iconst 0, [(0, 0)]),
  (21, 3, .invokevirtual 443, [(261, 1), (0, 0), (12, 0)]),
  (24, 1, .aload_n 0, [(0, 0)]),
  (25, 1, .iload_n 1, [(1, 0)]),
  (26, 1, .iload_n 2, [(2, 0)]),
  (27, 1, .iload_n 3, [(3, 0)]),
  (28, 3, .invokevirtual 446, [(262, 3), (4, 0), (12, 0)]),
  (31, 3, .ifCond .eq 7, [(38, 0)]),
  (34, 1, .iconst 1, [(1, 0)]),
  (35, 3, .goto 4, [(39, 0)]),
  (38, 1, .iconst 0, [(0, 0)]),
  (39, 1, .ireturn, [])]
/-- PackedForestModel.derives (III)I -/
def zt264 : zzT := (⟨"PackedForestModel", "derives", "(III)I"⟩, prog_14_method_94_code, 4, (some .int), 1, zr264)
def zr265 : List zzI := [(0, 1, .aload_n 0, [(0, 0)]),
  (1, 3, .invokevirtual 298, [(175, 0), (4, 0), (12, 0)]),
  (4, 3, .ifCond .ne 5, [(9, 0)]),
  (7, 1, .iconst (-1), [(1, 1)]),
  (8, 1, .ireturn, []),
  (9, 1, .aload_n 0, [(0, 0)]),
  (10, 1, .iconst 0, [(0, 0)]),
  (11, 3, .invokevirtual 443, [(261, 1), (0, 0), (12, 0)]),
  (14, 1, .aload_n 0, [(0, 0)]),
  (15, 3, .getfield 9, [(12, 1)]),
  (18, 1, .iconst 2, [(2, 0)]),
  (19, 1, .iaload, []),
  (20, 1, .istore_n 1, [(1, 0)]),
  (21, 0, .nop, [(0, 3), (1, 1)]),
  (21, 1, .iload_n 1, [(1, 0)]),
  (22, 3, .ifCond .lt 26, [(48, 0)]),
  (25, 1, .aload_n 0, [(0, 0)]),
  (26, 1, .aload_n 0, [(0, 0)]),
  (27, 3, .getfield 9, [(12, 1)]),
  (30, 1, .iconst 1, [(1, 0)]),
  (31, 1, .iaload, []),
  (32, 1, .iconst 0, [(0, 0)]),
  (33, 1, .iload_n 1, [(1, 0)]),
  (34, 3, .invokevirtual 446, [(262, 3), (4, 0), (12, 0)]),
  (37, 3, .ifCond .eq 5, [(42, 0)]),
  (40, 1, .iload_n 1, [(1, 0)]),
  (41, 1, .ireturn, []),
  (42, 3, .iinc 1 (-1), [(1, 1)]),
  (45, 3, .goto (-24), [(21, 0)]),
  (48, 2, .bipush (-2), [(2, 1)]),
  (50, 1, .ireturn, [])]
/-- PackedForestModel.whole ()I -/
def zt265 : zzT := (⟨"PackedForestModel", "whole", "()I"⟩, prog_14_method_95_code, 2, (some .int), 1, zr265)
def zr266 : List zzI := [(0, 1, .iconst 0, [(0, 0)]),
  (1, 2, .istore 4, []),
  (3, 1, .iconst 0, [(0, 0)]),
  (4, 2, .istore 5, []),
  (6, 0, .nop, [(0, 3), (1, 1), (2, 1), (3, 1), (4, 1), (5, 1)]),
  (6, 2, .iload 5, []),
  (8, 2, .bipush 52, [(52, 0)]),
  (10, 3, .if_icmp .ge 71, [(81, 0)]),
  (13, 1, .aload_n 0, [(0, 0)]),
  (14, 3, .getfield 87, [(12, 34)]),
  (17, 2, .bipush 52, [(52, 0)]),
  (19, 1, .iload_n 2, [(2, 0)]),
  (20, 1, .imul, []),
  (21, 2, .iload 5, []),
  (23, 1, .iadd, []),
  (24, 1, .iaload, []),
  (25, 2, .istore 6, []),
  (27, 2, .iload 6, []),
  (29, 1, .iconst (-1), [(1, 1)]),
  (30, 3, .if_icmp .eq 45, [(75, 0)]),
  (33, 1, .aload_n 0, [(0, 0)]),
  (34, 3, .getfield 106, [(12, 45)]),
  (37, 2, .bipush 90, [(90, 0)]),
  (39, 1, .iload_n 3, [(3, 0)]),
  (40, 1, .imul, []),
  (41, 2, .iload 6, []),
  (43, 1, .iadd, []),
  (44, 1, .baload, []),
  (45, 3, .ifCond .ne 30, [(75, 0)]),
  (48, 1, .aload_n 0, [(0, 0)]),
  (49, 2, .iload 5, []),
  (51, 1, .iload_n 1, [(1, 0)]),
  (52, 1, .iload_n 3, [(3, 0)]),
  (53, 3, .invokevirtual 446, [(262, 3), (4, 0), (12, 0)]),
  (56, 3, .ifCond .eq 19, [(75, 0)]),
  (59, 1, .aload_n 0, [(0, 0)]),
  (60, 3, .getfield 106, [(12, 45)]),
  (63, 2, .bipush 90, [(90, 0)]),
  (65, 1, .iload_n 3, [(3, 0)]),
  (66, 1, .imul, []),
  (67, 2, .iload 6, []),
  (69, 1, .iadd, []),
  (70, 1, .iconst 1, [(1, 0)]),
  (71, 1, .bastore, []),
  (72, 1, .iconst 1, [(1, 0)]),
  (73, 2, .istore 4, []),
  (75, 3, .iinc 5 1, [(1, 0)]),
  (78, 3, .goto (-72), [(6, 0)]),
  (81, 2, .iload 4, []),
  (83, 1, .ireturn, [])]
/-- PackedForestModel.wakesFrom (III)Z -/
def zt266 : zzT := (⟨"PackedForestModel", "wakesFrom", "(III)Z"⟩, prog_14_method_96_code, 7, (some .boolean), 4, zr266)
def zr267 : List zzI := [(0, 1, .iconst 0, [(0, 0)]),
  (1, 1, .istore_n 2, [(2, 0)]),
  (2, 1, .iconst 0, [(0, 0)]),
  (3, 1, .istore_n 3, [(3, 0)]),
  (4, 0, .nop, [(0, 3), (1, 1), (2, 1), (3, 1)]),
  (4, 1, .iload_n 3, [(3, 0)]),
  (5, 1, .iload_n 1, [(1, 0)]),
  (6, 3, .if_icmp .gt 63, [(69, 0)]),
  (9, 1, .iconst 0, [(0, 0)]),
  (10, 2, .istore 4, []),
  (12, 0, .nop, [(0, 3), (1, 1), (2, 1), (3, 1), (4, 1)]),
  (12, 2, .iload 4, []),
  (14, 1, .aload_n 0, [(0, 0)]),
  (15, 3, .getfield 351, [(12, 35)]),
  (18, 3, .if_icmp .ge 45, [(63, 0)]),
  (21, 1, .aload_n 0, [(0, 0)]),
  (22, 3, .getfield 106, [(12, 45)]),
  (25, 2, .bipush 90, [(90, 0)]),
  (27, 1, .iload_n 3, [(3, 0)]),
  (28, 1, .imul, []),
  (29, 2, .iload 4, []),
  (31, 1, .iadd, []),
  (32, 1, .baload, []),
  (33, 3, .ifCond .eq 24, [(57, 0)]),
  (36, 1, .aload_n 0, [(0, 0)]),
  (37, 1, .iload_n 3, [(3, 0)]),
  (38, 2, .iload 4, []),
  (40, 1, .iload_n 1, [(1, 0)]),
  (41, 3, .invokevirtual 449, [(266, 3), (4, 0), (12, 0)]),
  (44, 3, .ifCond .ne 7, [(51, 0)]),
  (47, 1, .iload_n 2, [(2, 0)]),
  (48, 3, .ifCond .eq 7, [(55, 0)]),
  (51, 1, .iconst 1, [(1, 0)]),
  (52, 3, .goto 4, [(56, 0)]),
  (55, 1, .iconst 0, [(0, 0)]),
  (56, 1, .istore_n 2, [(2, 0)]),
  (57, 3, .iinc 4 1, [(1, 0)]),
  (60, 3, .goto (-48), [(12, 0)]),
  (63, 3, .iinc 3 1, [(1, 0)]),
  (66, 3, .goto (-62), [(4, 0)]),
  (69, 1, .iload_n 2, [(2, 0)]),
  (70, 1, .ireturn, [])]
/-- PackedForestModel.wakes (I)Z -/
def zt267 : zzT := (⟨"PackedForestModel", "wakes", "(I)Z"⟩, prog_14_method_97_code, 5, (some .boolean), 4, zr267)
def zr268 : List zzI := [(0, 1, .aload_n 0, [(0, 0)]),
  (1, 3, .getfield 245, [(12, 36)]),
  (4, 2, .bipush 8, [(8, 0)]),
  (6, 1, .iand, []),
  (7, 3, .ifCond .eq 4, [(11, 0)]),
  (10, 1, .return_, []),
  (11, 1, .aload_n 0, [(0, 0)]),
  (12, 3, .invokevirtual 248, [(228, 0), (4, 0), (12, 0)]),
  (15, 1, .pop, []),
  (16, 1, .aload_n 0, [(0, 0)]),
  (17, 1, .iconst 0, [(0, 0)]),
  (18, 3, .invokevirtual 443, [(261, 1), (0, 0), (12, 0)]),
  (21, 1, .iconst 0, [(0, 0)]),
  (22, 1, .istore_n 1, [(1, 0)]),
  (23, 0, .nop, [(0, 3), (1, 1)]),
  (23, 1, .iload_n 1, [(1, 0)]),
  (24, 3, .sipush 1170, [(1170, 0)]),
  (27, 3, .if_icmp .ge 24, [(51, 0)]),
  (30, 1, .aload_n 0, [(0, 0)]),
  (31, 3, .getfield 106, [(12, 45)]),
  (34, 1, .iload_n 1, [(1, 0)]),
  (35, 1, .iload_n 1, [(1, 0)]),
  (36, 3, .ifCond .ne 7, [(43, 0)]),
  (39, 1, .iconst 1, [(1, 0)]),
  (40, 3, .goto 4, [(44, 0)]),
  (43, 1, .iconst 0, [(0, 0)]),
  (44, 1, .bastore, []),
  (45, 3, .iinc 1 1, [(1, 0)]),
  (48, 3, .goto (-25), [(23, 0)]),
  (51, 1, .iconst 0, [(0, 0)]),
  (52, 1, .istore_n 1, [(1, 0)]),
  (53, 0, .nop, [(0, 3), (1, 1)]),
  (53, 1, .iload_n 1, [(1, 0)]),
  (54, 1, .aload_n 0, [(0, 0)]),
  (55, 3, .getfield 9, [(12, 1)]),
  (58, 1, .iconst 2, [(2, 0)]),
  (59, 1, .iaload, []),
  (60, 3, .if_icmp .gt 24, [(84, 0)]),
  (63, 1, .iconst 1, [(1, 0)]),
  (64, 1, .istore_n 2, [(2, 0)]),
  (65, 0, .nop, [(0, 3), (1, 1), (2, 1)]),
  (65, 1, .iload_n 2, [(2, 0)]),
  (66, 3, .ifCond .eq 12, [(78, 0)]),
  (69, 1, .aload_n 0, [(0, 0)]),
  (70, 1, .iload_n 1, [(1, 0)]),
  (71, 3, .invokevirtual 452, [(267, 1), (4, 0), (12, 0)]),
  (74, 1, .istore_n 2, [(2, 0)]),
  (75, 3, .goto (-10), [(65, 0)]),
  (78, 3, .iinc 1 1, [(1, 0)]),
  (81, 3, .goto (-28), [(53, 0)]),
  (84, 1, .aload_n 0, [(0, 0)]),
  (85, 1, .dup, []),
  (86, 3, .getfield 245, [(12, 36)]),
  (89, 2, .bipush 8, [(8, 0)]),
  (91, 1, .ior, []),
  (92, 3, .putfield 245, [(12, 36)]),
  (95, 1, .return_, [])]
/-- PackedForestModel.laysAlive ()V -/
def zt268 : zzT := (⟨"PackedForestModel", "laysAlive", "()V"⟩, prog_14_method_98_code, 3, none, 0, zr268)
def zr269 : List zzI := [(0, 1, .aload_n 0, [(0, 0)]),
  (1, 3, .invokevirtual 298, [(175, 0), (4, 0), (12, 0)]),
  (4, 3, .ifCond .eq 23, [(27, 0)]),
  (7, 1, .iload_n 1, [(1, 0)]),
  (8, 1, .i2l, []),
  (9, 1, .lconst 0, [(0, 0)]),
  (10, 1, .aload_n 0, [(0, 0)]),
  (11, 3, .getfield 9, [(12, 1)]),
  (14, 1, .iconst 2, [(2, 0)]),
  (15, 1, .iaload, []),
  (16, 1, .i2l, []),
  (17, 3, .invokestatic 158, [(173, 3), (4, 0)]),
  (20, 3, .ifCond .eq 7, [(27, 0)]),
  (23, 1, .iconst 1, [(1, 0)]),
  (24, 3, .goto 4, [(28, 0)]),
  (27, 1, .iconst 0, [(0, 0)]),
  (28, 1, .ireturn, [])]
/-- PackedForestModel.isLevel (I)Z -/
def zt269 : zzT := (⟨"PackedForestModel", "isLevel", "(I)Z"⟩, prog_14_method_99_code, 2, (some .boolean), 4, zr269)
def zr270 : List zzI := [(0, 1, .aload_n 0, [(0, 0)]),
  (1, 1, .iload_n 1, [(1, 0)]),
  (2, 3, .invokevirtual 455, [(269, 1), (4, 0), (12, 0)]),
  (5, 3, .ifCond .eq 16, [(21, 0)]),
  (8, 1, .iload_n 2, [(2, 0)]),
  (9, 1, .iconst (-1), [(1, 1)]),
  (10, 3, .if_icmp .eq 13, [(23, 0)]),
  (13, 1, .aload_n 0, [(0, 0)]),
  (14, 1, .iload_n 2, [(2, 0)]),
  (15, 3, .invokevirtual 365, [(229, 1), (4, 0), (12, 0)]),
  (18, 3, .ifCond .ne 5, [(23, 0)]),
  (21, 1, .iconst (-1), [(1, 1)]),
  (22, 1, .ireturn, []),
  (23, 1, .aload_n 0, [(0, 0)]),
  (24, 3, .invokevirtual 458, [(268, 0), (0, 0), (12, 0)]),
  (27, 1, .iload_n 2, [(2, 0)]),
  (28, 1, .iconst (-1), [(1, 1)]),
  (29, 3, .if_icmp .eq 23, [(52, 0)]),
  (32, 1, .aload_n 0, [(0, 0)]),
  (33, 3, .getfield 106, [(12, 45)]),
  (36, 2, .bipush 90, [(90, 0)]),
  (38, 1, .iload_n 1, [(1, 0)]),
  (39, 1, .imul, []),
  (40, 1, .iload_n 2, [(2, 0)]),
  (41, 1, .iadd, []),
  (42, 1, .baload, []),
  (43, 3, .ifCond .eq 7, [(50, 0)]),
  (46, 1, .iconst 1, [(1, 0)]),
  (47, 3, .goto 4, [(51, 0)]),
  (50, 1, .iconst 0, [(0, 0)]),
  (51, 1, .ireturn, []),
  (52, 1, .iconst 0, [(0, 0)]),
  (53, 1, .istore_n 3, [(3, 0)]),
  (54, 1, .iconst 0, [(0, 0)]),
  (55, 2, .istore 4, []),
  (57, 0, .nop, [(0, 3), (1, 1), (3, 1), (4, 1)]),
  (57, 2, .iload 4, []),
  (59, 1, .aload_n 0, [(0, 0)]),
  (60, 3, .getfield 351, [(12, 35)]),
  (63, 3, .if_icmp .ge 32, [(95, 0)]),
  (66, 1, .iload_n 3, [(3, 0)]),
  (67, 1, .aload_n 0, [(0, 0)]),
  (68, 3, .getfield 106, [(12, 45)]),
  (71, 2, .bipush 90, [(90, 0)]),
  (73, 1, .iload_n 1, [(1, 0)]),
  (74, 1, .imul, []),
  (75, 2, .iload 4, []),
  (77, 1, .iadd, []),
  (78, 1, .baload, []),
  (79, 3, .ifCond .eq 7, [(86, 0)]),
  (82, 1, .iconst 1, [(1, 0)]),
  (83, 3, .goto 4, [(87, 0)]),
  (86, 1, .iconst 0, [(0, 0)]),
  (87, 1, .iadd, []),
  (88, 1, .istore_n 3, [(3, 0)]),
  (89, 3, .iinc 4 1, [(1, 0)]),
  (92, 3, .goto (-35), [(57, 0)]),
  (95, 1, .iload_n 3, [(3, 0)]),
  (96, 1, .ireturn, [])]
/-- PackedForestModel.alive (II)I -/
def zt270 : zzT := (⟨"PackedForestModel", "alive", "(II)I"⟩, prog_14_method_100_code, 5, (some .int), 1, zr270)
def zr271 : List zzI := [(0, 1, .iconst 0, [(0, 0)]),
  (1, 2, .istore 5, []),
  (3, 1, .iconst 0, [(0, 0)]),
  (4, 2, .istore 6, []),
  (6, 0, .nop, [(0, 3), (1, 1), (2, 1), (3, 1), (4, 1), (5, 1), (6, 1)]),
  (6, 2, .iload 6, []),
  (8, 2, .bipush 52, [(52, 0)]),
  (10, 3, .if_icmp .ge 63, [(73, 0)]),
  (13, 1, .aload_n 0, [(0, 0)]),
  (14, 3, .getfield 87, [(12, 34)]),
  (17, 2, .bipush 52, [(52, 0)]),
  (19, 1, .iload_n 2, [(2, 0)]),
  (20, 1, .imul, []),
  (21, 2, .iload 6, []),
  (23, 1, .iadd, []),
  (24, 1, .iaload, []),
  (25, 2, .istore 7, []),
  (27, 2, .iload 5, []),
  (29, 2, .iload 7, []),
  (31, 1, .iconst (-1), [(1, 1)]),
  (32, 3, .if_icmp .eq 31, [(63, 0)]),
  (35, 2, .iload 4, []),
  (37, 1, .iconst (-1), [(1, 1)]),
  (38, 3, .if_icmp .eq 10, [(48, 0)]),
  (41, 2, .iload 7, []),
  (43, 2, .iload 4, []),
  (45, 3, .if_icmp .ne 18, [(63, 0)]),
  (48, 1, .aload_n 0, [(0, 0)]),
  (49, 2, .iload 6, []),
  (51, 1, .iload_n 1, [(1, 0)]),
  (52, 1, .iload_n 3, [(3, 0)]),
  (53, 3, .invokevirtual 446, [(262, 3), (4, 0), (12, 0)]),
  (56, 3, .ifCond .eq 7, [(63, 0)]),
  (59, 1, .iconst 1, [(1, 0)]),
  (60, 3, .goto 4, [(64, 0)]),
  (63, 1, .iconst 0, [(0, 0)]),
  (64, 1, .iadd, []),
  (65, 2, .istore 5, []),
  (67, 3, .iinc 6 1, [(1, 0)]),
  (70, 3, .goto (-64), [(6, 0)]),
  (73, 2, .iload 5, []),
  (75, 1, .ireturn, [])]
/-- PackedForestModel.linksTo (IIII)I -/
def zt271 : zzT := (⟨"PackedForestModel", "linksTo", "(IIII)I"⟩, prog_14_method_101_code, 8, (some .int), 1, zr271)
def zr272 : List zzI := [(0, 1, .aload_n 0, [(0, 0)]),
  (1, 1, .iload_n 1, [(1, 0)]),
  (2, 3, .invokevirtual 455, [(269, 1), (4, 0), (12, 0)]),
  (5, 3, .ifCond .eq 16, [(21, 0)]),
  (8, 1, .iload_n 2, [(2, 0)]),
  (9, 1, .iconst (-1), [(1, 1)]),
  (10, 3, .if_icmp .eq 13, [(23, 0)]),
  (13, 1, .aload_n 0, [(0, 0)]),
  (14, 1, .iload_n 2, [(2, 0)]),
  (15, 3, .invokevirtual 365, [(229, 1), (4, 0), (12, 0)]),
  (18, 3, .ifCond .ne 5, [(23, 0)]),
  (21, 1, .iconst (-1), [(1, 1)]),
  (22, 1, .ireturn, []),
  (23, 1, .aload_n 0, [(0, 0)]),
  (24, 3, .invokevirtual 458, [(268, 0), (0, 0), (12, 0)]),
  (27, 1, .iconst 0, [(0, 0)]),
  (28, 1, .istore_n 3, [(3, 0)]),
  (29, 1, .iconst 0, [(0, 0)]),
  (30, 2, .istore 4, []),
  (32, 0, .nop, [(0, 3), (1, 1), (2, 1), (3, 1), (4, 1)]),
  (32, 2, .iload 4, []),
  (34, 1, .iload_n 1, [(1, 0)]),
  (35, 3, .if_icmp .gt 60, [(95, 0)]),
  (38, 1, .iconst 0, [(0, 0)]),
  (39, 2, .istore 5, []),
  (41, 0, .nop, [(0, 3), (1, 1), (2, 1), (3, 1), (4, 1), (5, 1)]),
  (41, 2, .iload 5, []),
  (43, 1, .aload_n 0, [(0, 0)]),
  (44, 3, .getfield 351, [(12, 35)]),
  (47, 3, .if_icmp .ge 42, [(89, 0)]),
  (50, 1, .iload_n 3, [(3, 0)]),
  (51, 1, .aload_n 0, [(0, 0)]),
  (52, 3, .getfield 106, [(12, 45)]),
  (55, 2, .bipush 90, [(90, 0)]),
  (57, 2, .iload 4, []),
  (59, 1, .imul, []),
  (60, 2, .iload 5, []),
  (62, 1, .iadd, []),
  (63, 1, .baload, []),
  (64, 3, .ifCond .eq 16, [(80, 0)]),
  (67, 1, .aload_n 0, [(0, 0)]),
  (68, 2, .iload 4, []),
  (70, 2, .iload 5, []),
  (72, 1, .iload_n 1, [(1, 0)]),
  (73, 1, .iload_n 2, [(2, 0)]),
  (74, 3, .invokevirtual 461, [(271, 4), (1, 0), (12, 0)]),
  (77, 3, .goto 4, [(81, 0)]),
  (80, 1, .iconst 0, [(0, 0)]),
  (81, 1, .iadd, []),
  (82, 1, .istore_n 3, [(3, 0)]),
  (83, 3, .iinc 5 1, [(1, 0)]),
  (86, 3, .goto (-45), [(41, 0)]),
  (89, 3, .iinc 4 1, [(1, 0)]),
  (92, 3, .goto (-60), [(32, 0)]),
  (95, 1, .iload_n 3, [(3, 0)]),
  (96, 1, .ireturn, [])]
/-- PackedForestModel.links (II)I -/
def zt272 : zzT := (⟨"PackedForestModel", "links", "(II)I"⟩, prog_14_method_102_code, 6, (some .int), 1, zr272)
def zr273 : List zzI := [(0, 1, .aload_n 0, [(0, 0)]),
  (1, 1, .iload_n 1, [(1, 0)]),
  (2, 3, .invokevirtual 455, [(269, 1), (4, 0), (12, 0)]),
  (5, 3, .ifCond .ne 5, [(10, 0)]),
  (8, 1, .iconst (-1), [(1, 1)]),
  (9, 1, .ireturn, []),
  (10, 1, .aload_n 0, [(0, 0)]),
  (11, 3, .invokevirtual 458, [(268, 0), (0, 0), (12, 0)]),
  (14, 1, .iconst 0, [(0, 0)]),
  (15, 1, .istore_n 2, [(2, 0)]),
  (16, 1, .iconst 0, [(0, 0)]),
  (17, 1, .istore_n 3, [(3, 0)]),
  (18, 0, .nop, [(0, 3), (1, 1), (2, 1), (3, 1)]),
  (18, 1, .iload_n 3, [(3, 0)]),
  (19, 1, .aload_n 0, [(0, 0)]),
  (20, 3, .getfield 351, [(12, 35)]),
  (23, 3, .if_icmp .ge 66, [(89, 0)]),
  (26, 1, .iconst 0, [(0, 0)]),
  (27, 2, .istore 4, []),
  (29, 0, .nop, [(0, 3), (1, 1), (2, 1), (3, 1), (4, 1)]),
  (29, 2, .iload 4, []),
  (31, 2, .bipush 26, [(26, 0)]),
  (33, 3, .if_icmp .ge 50, [(83, 0)]),
  (36, 1, .iload_n 2, [(2, 0)]),
  (37, 1, .aload_n 0, [(0, 0)]),
  (38, 3, .getfield 106, [(12, 45)]),
  (41, 2, .bipush 90, [(90, 0)]),
  (43, 1, .iload_n 1, [(1, 0)]),
  (44, 1, .imul, []),
  (45, 1, .iload_n 3, [(3, 0)]),
  (46, 1, .iadd, []),
  (47, 1, .baload, []),
  (48, 3, .ifCond .eq 26, [(74, 0)]),
  (51, 1, .aload_n 0, [(0, 0)]),
  (52, 3, .getfield 87, [(12, 34)]),
  (55, 2, .bipush 52, [(52, 0)]),
  (57, 1, .iload_n 3, [(3, 0)]),
  (58, 1, .imul, []),
  (59, 2, .iload 4, []),
  (61, 1, .iadd, []),
  (62, 1, .iaload, []),
  (63, 1, .iconst (-1), [(1, 1)]),
  (64, 3, .if_icmp .eq 10, [(74, 0)]),
  (67, 1, .iconst 1, [(1, 0)]),
  (68, 2, .iload 4, []),
  (70, 1, .ishl, []),
  (71, 3, .goto 4, [(75, 0)]),
  (74, 1, .iconst 0, [(0, 0)]),
  (75, 1, .ior, []),
  (76, 1, .istore_n 2, [(2, 0)]),
  (77, 3, .iinc 4 1, [(1, 0)]),
  (80, 3, .goto (-51), [(29, 0)]),
  (83, 3, .iinc 3 1, [(1, 0)]),
  (86, 3, .goto (-68), [(18, 0)]),
  (89, 1, .iload_n 2, [(2, 0)]),
  (90, 1, .ireturn, [])]
/-- PackedForestModel.expects (I)I -/
def zt273 : zzT := (⟨"PackedForestModel", "expects", "(I)I"⟩, prog_14_method_103_code, 5, (some .int), 1, zr273)
def zr274 : List zzI := [(0, 1, .iconst 0, [(0, 0)]),
  (1, 2, .istore 4, []),
  (3, 1, .iconst 0, [(0, 0)]),
  (4, 2, .istore 5, []),
  (6, 0, .nop, [(0, 3), (1, 1), (2, 1), (3, 1), (4, 1), (5, 1)]),
  (6, 2, .iload 5, []),
  (8, 1, .aload_n 0, [(0, 0)]),
  (9, 3, .getfield 16, [(12, 3)]),
  (12, 1, .iload_n 1, [(1, 0)]),
  (13, 1, .iaload, []),
  (14, 3, .if_icmp .ge 156, [(170, 0)]),
  (17, 1, .aload_n 0, [(0, 0)]),
  (18, 1, .iload_n 1, [(1, 0)]),
  (19, 2, .iload 5, []),
  (21, 3, .invokevirtual 413, [(255, 2), (4, 0), (12, 0)]),
  (24, 2, .istore 6, []),
  (26, 1, .iconst 0, [(0, 0)]),
  (27, 2, .istore 7, []),
  (29, 0, .nop, [(0, 3), (1, 1), (2, 1), (3, 1), (4, 1), (5, 1), (6, 1), (7, 1)]),
  (29, 2, .iload 7, []),
  (31, 1, .aload_n 0, [(0, 0)]),
  (32, 3, .getfield 16, [(12, 3)]),
  (35, 1, .iload_n 1, [(1, 0)]),
  (36, 1, .iaload, []),
  (37, 3, .if_icmp .ge 57, [(94, 0)]),
  (40, 2, .iload 6, []),
  (42, 3, .ifCond .eq 52, [(94, 0)]),
  (45, 2, .iload 7, []),
  (47, 2, .iload 5, []),
  (49, 3, .if_icmp .ge 7, [(56, 0)]),
  (52, 1, .iload_n 2, [(2, 0)]),
  (53, 3, .goto 4, [(57, 0)]),
  (56, 1, .iload_n 3, [(3, 0)]),
  (57, 2, .istore 8, []),
  (59, 2, .iload 7, []),
  (61, 2, .iload 5, []),
  (63, 3, .if_icmp .eq 18, [(81, 0)]),
  (66, 1, .aload_n 0, [(0, 0)]),
  (67, 1, .iconst 1, [(1, 0)]),
  (68, 1, .iload_n 1, [(1, 0)]),
  (69, 2, .iload 7, []),
  (71, 2, .iload 8, []),
  (73, 2, .iload 8, []),
  (75, 3, .invokevirtual 427, [(256, 5), (4, 0), (12, 0)]),
  (78, 3, .ifCond .eq 7, [(85, 0)]),
  (81, 1, .iconst 1, [(1, 0)]),
  (82, 3, .goto 4, [(86, 0)]),
  (85, 1, .iconst 0, [(0, 0)]),
  (86, 2, .istore 6, []),
  (88, 3, .iinc 7 1, [(1, 0)]),
  (91, 3, .goto (-62), [(29, 0)]),
  (94, 1, .iconst 0, [(0, 0)]),
  (95, 2, .istore 7, []),
  (97, 0, .nop, [(0, 3), (1, 1), (2, 1), (3, 1), (4, 1), (5, 1), (6, 1), (7, 1)]),
  (97, 2, .iload 7, []),
  (99, 1, .aload_n 0, [(0, 0)]),
  (100, 3, .getfield 9, [(12, 1)]),
  (103, 1, .iconst 0, [(0, 0)]),
  (104, 1, .iaload, []),
  (105, 3, .if_icmp .ge 59, [(164, 0)]),
  (108, 2, .iload 6, []),
  (110, 3, .ifCond .eq 54, [(164, 0)]),
  (113, 2, .iload 4, []),
  (115, 1, .aload_n 0, [(0, 0)]),
  (116, 3, .getfield 96, [(12, 42)]),
  (119, 3, .sipush 2028, [(2028, 0)]),
  (122, 2, .iload 7, []),
  (124, 1, .iload_n 2, [(2, 0)]),
  (125, 1, .iload_n 3, [(3, 0)]),
  (126, 3, .invokestatic 420, [(252, 3), (1, 0)]),
  (129, 1, .iadd, []),
  (130, 1, .baload, []),
  (131, 3, .ifCond .eq 23, [(154, 0)]),
  (134, 1, .aload_n 0, [(0, 0)]),
  (135, 1, .iconst 1, [(1, 0)]),
  (136, 1, .iload_n 1, [(1, 0)]),
  (137, 2, .iload 5, []),
  (139, 2, .iload 7, []),
  (141, 3, .invokevirtual 424, [(253, 4), (4, 0), (12, 0)]),
  (144, 3, .ifCond .eq 10, [(154, 0)]),
  (147, 1, .iconst 1, [(1, 0)]),
  (148, 2, .iload 7, []),
  (150, 1, .ishl, []),
  (151, 3, .goto 4, [(155, 0)]),
  (154, 1, .iconst 0, [(0, 0)]),
  (155, 1, .ior, []),
  (156, 2, .istore 4, []),
  (158, 3, .iinc 7 1, [(1, 0)]),
  (161, 3, .goto (-64), [(97, 0)]),
  (164, 3, .iinc 5 1, [(1, 0)]),
  (167, 3, .goto (-161), [(6, 0)]),
  (170, 2, .iload 4, []),
  (172, 1, .ireturn, [])]
/-- PackedForestModel.sameBelow (III)I -/
def zt274 : zzT := (⟨"PackedForestModel", "sameBelow", "(III)I"⟩, prog_14_method_104_code, 9, (some .int), 1, zr274)
def zr275 : List zzI := [(0, 1, .iconst 0, [(0, 0)]),
  (1, 1, .istore_n 3, [(3, 0)]),
  (2, 0, .nop, [(0, 3), (1, 1), (2, 1), (3, 1)]),
  (2, 1, .iload_n 3, [(3, 0)]),
  (3, 1, .aload_n 0, [(0, 0)]),
  (4, 3, .getfield 9, [(12, 1)]),
  (7, 1, .iconst 0, [(0, 0)]),
  (8, 1, .iaload, []),
  (9, 3, .if_icmp .ge 44, [(53, 0)]),
  (12, 1, .aload_n 0, [(0, 0)]),
  (13, 3, .getfield 121, [(12, 50)]),
  (16, 1, .iload_n 3, [(3, 0)]),
  (17, 1, .aload_n 0, [(0, 0)]),
  (18, 3, .getfield 96, [(12, 42)]),
  (21, 3, .sipush 2028, [(2028, 0)]),
  (24, 1, .iload_n 3, [(3, 0)]),
  (25, 1, .iload_n 1, [(1, 0)]),
  (26, 1, .iload_n 2, [(2, 0)]),
  (27, 3, .invokestatic 420, [(252, 3), (1, 0)]),
  (30, 1, .iadd, []),
  (31, 1, .baload, []),
  (32, 3, .ifCond .eq 13, [(45, 0)]),
  (35, 1, .aload_n 0, [(0, 0)]),
  (36, 1, .iload_n 3, [(3, 0)]),
  (37, 1, .iload_n 1, [(1, 0)]),
  (38, 1, .iload_n 2, [(2, 0)]),
  (39, 3, .invokevirtual 465, [(274, 3), (1, 0), (12, 0)]),
  (42, 3, .goto 4, [(46, 0)]),
  (45, 1, .iconst 0, [(0, 0)]),
  (46, 1, .iastore, []),
  (47, 3, .iinc 3 1, [(1, 0)]),
  (50, 3, .goto (-48), [(2, 0)]),
  (53, 1, .iconst 0, [(0, 0)]),
  (54, 1, .istore_n 3, [(3, 0)]),
  (55, 0, .nop, [(0, 3), (1, 1), (2, 1), (3, 1)]),
  (55, 1, .iload_n 3, [(3, 0)]),
  (56, 1, .aload_n 0, [(0, 0)]),
  (57, 3, .getfield 9, [(12, 1)]),
  (60, 1, .iconst 0, [(0, 0)]),
  (61, 1, .iaload, []),
  (62, 3, .if_icmp .ge 63, [(125, 0)]),
  (65, 1, .iconst 0, [(0, 0)]),
  (66, 2, .istore 4, []),
  (68, 0, .nop, [(0, 3), (1, 1), (2, 1), (3, 1), (4, 1)]),
  (68, 2, .iload 4, []),
  (70, 1, .aload_n 0, [(0, 0)]),
  (71, 3, .getfield 9, [(12, 1)]),
  (74, 1, .iconst 0, [(0, 0)]),
  (75, 1, .iaload, []),
  (76, 3, .if_icmp .ge 43, [(119, 0)]),
  (79, 1, .aload_n 0, [(0, 0)]),
  (80, 3, .getfield 121, [(12, 50)]),
  (83, 2, .iload 4, []),
  (85, 1, .dup2, []),
  (86, 1, .iaload, []),
  (87, 1, .aload_n 0, [(0, 0)]),
  (88, 3, .getfield 121, [(12, 50)]),
  (91, 2, .iload 4, []),
  (93, 1, .iaload, []),
  (94, 1, .iload_n 3, [(3, 0)]),
  (95, 3, .invokestatic 162, [(174, 2), (4, 0)]),
  (98, 3, .ifCond .eq 12, [(110, 0)]),
  (101, 1, .aload_n 0, [(0, 0)]),
  (102, 3, .getfield 121, [(12, 50)]),
  (105, 1, .iload_n 3, [(3, 0)]),
  (106, 1, .iaload, []),
  (107, 3, .goto 4, [(111, 0)]),
  (110, 1, .iconst 0, [(0, 0)]),
  (111, 1, .ior, []),
  (112, 1, .iastore, []),
  (113, 3, .iinc 4 1, [(1, 0)]),
  (116, 3, .goto (-48), [(68, 0)]),
  (119, 3, .iinc 3 1, [(1, 0)]),
  (122, 3, .goto (-67), [(55, 0)]),
  (125, 1, .iconst 0, [(0, 0)]),
  (126, 1, .istore_n 3, [(3, 0)]),
  (127, 0, .nop, [(0, 3), (1, 1), (2, 1), (3, 1)]),
  (127, 1, .iload_n 3, [(3, 0)]),
  (128, 1, .aload_n 0, [(0, 0)]),
  (129, 3, .getfield 9, [(12, 1)]),
  (132, 1, .iconst 0, [(0, 0)]),
  (133, 1, .iaload, []),
  (134, 3, .if_icmp .ge 30, [(164, 0)]),
  (137, 1, .aload_n 0, [(0, 0)]),
  (138, 3, .getfield 109, [(12, 46)]),
  (141, 1, .iload_n 3, [(3, 0)]),
  (142, 1, .iload_n 1, [(1, 0)]),
  (143, 1, .iload_n 2, [(2, 0)]),
  (144, 3, .invokestatic 420, [(252, 3), (1, 0)]),
  (147, 1, .aload_n 0, [(0, 0)]),
  (148, 3, .getfield 121, [(12, 50)]),
  (151, 1, .iload_n 3, [(3, 0)]),
  (152, 1, .iaload, []),
  (153, 1, .iload_n 3, [(3, 0)]),
  (154, 3, .invokestatic 162, [(174, 2), (4, 0)]),
  (157, 1, .bastore, []),
  (158, 3, .iinc 3 1, [(1, 0)]),
  (161, 3, .goto (-34), [(127, 0)]),
  (164, 1, .return_, [])]
/-- PackedForestModel.laysRings (II)V -/
def zt275 : zzT := (⟨"PackedForestModel", "laysRings", "(II)V"⟩, prog_14_method_105_code, 5, none, 0, zr275)
def zr276 : List zzI := [(0, 1, .iconst 0, [(0, 0)]),
  (1, 2, .istore 5, []),
  (3, 0, .nop, [(0, 3), (1, 1), (2, 1), (3, 1), (4, 1), (5, 1)]),
  (3, 2, .iload 5, []),
  (5, 1, .aload_n 0, [(0, 0)]),
  (6, 3, .getfield 9, [(12, 1)]),
  (9, 1, .iconst 0, [(0, 0)]),
  (10, 1, .iaload, []),
  (11, 3, .if_icmp .ge 48, [(59, 0)]),
  (14, 1, .aload_n 0, [(0, 0)]),
  (15, 3, .getfield 109, [(12, 46)]),
  (18, 2, .iload 5, []),
  (20, 1, .iload_n 3, [(3, 0)]),
  (21, 2, .iload 4, []),
  (23, 3, .invokestatic 420, [(252, 3), (1, 0)]),
  (26, 1, .baload, []),
  (27, 3, .ifCond .eq 26, [(53, 0)]),
  (30, 1, .aload_n 0, [(0, 0)]),
  (31, 1, .iload_n 1, [(1, 0)]),
  (32, 1, .iload_n 2, [(2, 0)]),
  (33, 3, .invokevirtual 413, [(255, 2), (4, 0), (12, 0)]),
  (36, 3, .ifCond .eq 17, [(53, 0)]),
  (39, 1, .aload_n 0, [(0, 0)]),
  (40, 1, .iconst 1, [(1, 0)]),
  (41, 1, .iload_n 1, [(1, 0)]),
  (42, 1, .iload_n 2, [(2, 0)]),
  (43, 2, .iload 5, []),
  (45, 3, .invokevirtual 424, [(253, 4), (4, 0), (12, 0)]),
  (48, 3, .ifCond .eq 5, [(53, 0)]),
  (51, 1, .iconst 1, [(1, 0)]),
  (52, 1, .ireturn, []),
  (53, 3, .iinc 5 1, [(1, 0)]),
  (56, 3, .goto (-53), [(3, 0)]),
  (59, 1, .iconst 0, [(0, 0)]),
  (60, 1, .ireturn, [])]
/-- PackedForestModel.isEndlessBelow (IIII)Z -/
def zt276 : zzT := (⟨"PackedForestModel", "isEndlessBelow", "(IIII)Z"⟩, prog_14_method_106_code, 6, (some .boolean), 4, zr276)
def zr277 : List zzI := [(0, 1, .aload_n 0, [(0, 0)]),
  (1, 1, .iconst 1, [(1, 0)]),
  (2, 1, .iload_n 1, [(1, 0)]),
  (3, 1, .iload_n 2, [(2, 0)]),
  (4, 1, .iload_n 3, [(3, 0)]),
  (5, 3, .invokevirtual 430, [(257, 4), (0, 0), (12, 0)]),
  (8, 1, .iload_n 2, [(2, 0)]),
  (9, 2, .istore 4, []),
  (11, 0, .nop, [(0, 3), (1, 1), (2, 1), (3, 1), (4, 1)]),
  (11, 2, .iload 4, []),
  (13, 1, .iload_n 3, [(3, 0)]),
  (14, 3, .if_icmp .gt 17, [(31, 0)]),
  (17, 1, .aload_n 0, [(0, 0)]),
  (18, 3, .getfield 118, [(12, 49)]),
  (21, 2, .iload 4, []),
  (23, 1, .iconst 0, [(0, 0)]),
  (24, 1, .bastore, []),
  (25, 3, .iinc 4 1, [(1, 0)]),
  (28, 3, .goto (-17), [(11, 0)]),
  (31, 1, .iconst 1, [(1, 0)]),
  (32, 2, .istore 4, []),
  (34, 0, .nop, [(0, 3), (1, 1), (2, 1), (3, 1), (4, 1)]),
  (34, 2, .iload 4, []),
  (36, 1, .aload_n 0, [(0, 0)]),
  (37, 3, .getfield 16, [(12, 3)]),
  (40, 1, .iload_n 1, [(1, 0)]),
  (41, 1, .iaload, []),
  (42, 3, .if_icmp .gt 139, [(181, 0)]),
  (45, 1, .iload_n 2, [(2, 0)]),
  (46, 2, .istore 5, []),
  (48, 0, .nop, [(0, 3), (1, 1), (2, 1), (3, 1), (4, 1), (5, 1)]),
  (48, 2, .iload 5, []),
  (50, 1, .iload_n 3, [(3, 0)]),
  (51, 3, .if_icmp .gt 124, [(175, 0)]),
  (54, 1, .iconst 0, [(0, 0)]),
  (55, 2, .istore 6, []),
  (57, 1, .iload_n 2, [(2, 0)]),
  (58, 2, .istore 7, []),
  (60, 0, .nop, [(0, 3), (1, 1), (2, 1), (3, 1), (4, 1), (5, 1), (6, 1), (7, 1)]),
  (60, 2, .iload 7, []),
  (62, 2, .iload 5, []),
  (64, 3, .if_icmp .gt 90, [(154, 0)]),
  (67, 2, .iload 6, []),
  (69, 3, .ifCond .ne 85, [(154, 0)]),
  (72, 1, .aload_n 0, [(0, 0)]),
  (73, 3, .getfield 118, [(12, 49)]),
  (76, 2, .bipush 13, [(13, 0)]),
  (78, 2, .iload 4, []),
  (80, 1, .iconst 1, [(1, 0)]),
  (81, 1, .isub, []),
  (82, 1, .imul, []),
  (83, 2, .iload 7, []),
  (85, 1, .iadd, []),
  (86, 1, .baload, []),
  (87, 3, .ifCond .eq 20, [(107, 0)]),
  (90, 1, .aload_n 0, [(0, 0)]),
  (91, 1, .iconst 1, [(1, 0)]),
  (92, 1, .iload_n 1, [(1, 0)]),
  (93, 2, .iload 4, []),
  (95, 1, .iconst 1, [(1, 0)]),
  (96, 1, .isub, []),
  (97, 2, .iload 7, []),
  (99, 2, .iload 5, []),
  (101, 3, .invokevirtual 427, [(256, 5), (4, 0), (12, 0)]),
  (104, 3, .ifCond .ne 37, [(141, 0)]),
  (107, 1, .aload_n 0, [(0, 0)]),
  (108, 3, .getfield 100, [(12, 43)]),
  (111, 2, .bipush 13, [(13, 0)]),
  (113, 2, .iload 4, []),
  (115, 1, .iconst 1, [(1, 0)]),
  (116, 1, .isub, []),
  (117, 1, .imul, []),
  (118, 2, .iload 7, []),
  (120, 1, .iadd, []),
  (121, 1, .baload, []),
  (122, 3, .ifCond .eq 23, [(145, 0)]),
  (125, 1, .aload_n 0, [(0, 0)]),
  (126, 1, .iload_n 1, [(1, 0)]),
  (127, 2, .iload 4, []),
  (129, 1, .iconst 1, [(1, 0)]),
  (130, 1, .isub, []),
  (131, 2, .iload 7, []),
  (133, 2, .iload 5, []),
  (135, 3, .invokevirtual 468, [(276, 4), (4, 0), (12, 0)]),
  (138, 3, .ifCond .eq 7, [(145, 0)]),
  (141, 1, .iconst 1, [(1, 0)]),
  (142, 3, .goto 4, [(146, 0)]),
  (145, 1, .iconst 0, [(0, 0)]),
  (146, 2, .istore 6, []),
  (148, 3, .iinc 7 1, [(1, 0)]),
  (151, 3, .goto (-91), [(60, 0)]),
  (154, 1, .aload_n 0, [(0, 0)]),
  (155, 3, .getfield 118, [(12, 49)]),
  (158, 2, .bipush 13, [(13, 0)]),
  (160, 2, .iload 4, []),
  (162, 1, .imul, []),
  (163, 2, .iload 5, []),
  (165, 1, .iadd, []),
  (166, 2, .iload 6, []),
  (168, 1, .bastore, []),
  (169, 3, .iinc 5 1, [(1, 0)]),
  (172, 3, .goto (-124), [(48, 0)]),
  (175, 3, .iinc 4 1, [(1, 0)]),
  (178, 3, .goto (-144), [(34, 0)]),
  (181, 1, .aload_n 0, [(0, 0)]),
  (182, 3, .getfield 118, [(12, 49)]),
  (185, 2, .bipush 13, [(13, 0)]),
  (187, 1, .aload_n 0, [(0, 0)]),
  (188, 3, .getfield 16, [(12, 3)]),
  (191, 1, .iload_n 1, [(1, 0)]),
  (192, 1, .iaload, []),
  (193, 1, .imul, []),
  (194, 1, .iload_n 3, [(3, 0)]),
  (195, 1, .iadd, []),
  (196, 1, .baload, []),
  (197, 1, .ireturn, [])]
/-- PackedForestModel.hasEndless (III)Z -/
def zt277 : zzT := (⟨"PackedForestModel", "hasEndless", "(III)Z"⟩, prog_14_method_107_code, 8, (some .boolean), 4, zr277)
def zr278 : List zzI := [(0, 1, .iconst 0, [(0, 0)]),
  (1, 1, .istore_n 3, [(3, 0)]),
  (2, 1, .iconst 0, [(0, 0)]),
  (3, 2, .istore 4, []),
  (5, 0, .nop, [(0, 3), (1, 1), (2, 1), (3, 1), (4, 1)]),
  (5, 2, .iload 4, []),
  (7, 1, .aload_n 0, [(0, 0)]),
  (8, 3, .getfield 9, [(12, 1)]),
  (11, 1, .iconst 0, [(0, 0)]),
  (12, 1, .iaload, []),
  (13, 3, .if_icmp .ge 63, [(76, 0)]),
  (16, 2, .iload 4, []),
  (18, 1, .iload_n 1, [(1, 0)]),
  (19, 1, .iload_n 2, [(2, 0)]),
  (20, 3, .invokestatic 420, [(252, 3), (1, 0)]),
  (23, 2, .istore 5, []),
  (25, 1, .aload_n 0, [(0, 0)]),
  (26, 3, .getfield 96, [(12, 42)]),
  (29, 3, .sipush 2028, [(2028, 0)]),
  (32, 2, .iload 5, []),
  (34, 1, .iadd, []),
  (35, 1, .baload, []),
  (36, 3, .ifCond .eq 34, [(70, 0)]),
  (39, 1, .aload_n 0, [(0, 0)]),
  (40, 3, .getfield 109, [(12, 46)]),
  (43, 2, .iload 5, []),
  (45, 1, .baload, []),
  (46, 3, .ifCond .ne 24, [(70, 0)]),
  (49, 1, .aload_n 0, [(0, 0)]),
  (50, 2, .iload 4, []),
  (52, 1, .iload_n 1, [(1, 0)]),
  (53, 1, .iload_n 2, [(2, 0)]),
  (54, 3, .invokevirtual 471, [(277, 3), (4, 0), (12, 0)]),
  (57, 3, .ifCond .eq 13, [(70, 0)]),
  (60, 1, .aload_n 0, [(0, 0)]),
  (61, 3, .getfield 109, [(12, 46)]),
  (64, 2, .iload 5, []),
  (66, 1, .iconst 1, [(1, 0)]),
  (67, 1, .bastore, []),
  (68, 1, .iconst 1, [(1, 0)]),
  (69, 1, .istore_n 3, [(3, 0)]),
  (70, 3, .iinc 4 1, [(1, 0)]),
  (73, 3, .goto (-68), [(5, 0)]),
  (76, 1, .iload_n 3, [(3, 0)]),
  (77, 1, .ireturn, [])]
/-- PackedForestModel.endsNot (II)Z -/
def zt278 : zzT := (⟨"PackedForestModel", "endsNot", "(II)Z"⟩, prog_14_method_108_code, 6, (some .boolean), 4, zr278)
def zr279 : List zzI := [(0, 1, .aload_n 0, [(0, 0)]),
  (1, 1, .iload_n 1, [(1, 0)]),
  (2, 1, .iload_n 2, [(2, 0)]),
  (3, 3, .invokevirtual 413, [(255, 2), (4, 0), (12, 0)]),
  (6, 3, .ifCond .ne 21, [(27, 0)]),
  (9, 1, .aload_n 0, [(0, 0)]),
  (10, 1, .iload_n 1, [(1, 0)]),
  (11, 1, .iload_n 2, [(2, 0)]),
  (12, 1, .iload_n 3, [(3, 0)]),
  (13, 2, .iload 4, []),
  (15, 3, .invokevirtual 416, [(254, 4), (4, 0), (12, 0)]),
  (18, 3, .ifCond .eq 7, [(25, 0)]),
  (21, 1, .lconst 1, [(1, 0)]),
  (22, 3, .goto 4, [(26, 0)]),
  (25, 1, .lconst 0, [(0, 0)]),
  (26, 1, .lreturn, []),
  (27, 1, .lconst 0, [(0, 0)]),
  (28, 2, .lstore 5, []),
  (30, 1, .iconst 0, [(0, 0)]),
  (31, 2, .istore 7, []),
  (33, 0, .nop, [(0, 3), (1, 1), (2, 1), (3, 1), (4, 1), (5, 2), (7, 1)]),
  (33, 2, .iload 7, []),
  (35, 1, .aload_n 0, [(0, 0)]),
  (36, 3, .getfield 9, [(12, 1)]),
  (39, 1, .iconst 0, [(0, 0)]),
  (40, 1, .iaload, []),
  (41, 3, .if_icmp .ge 43, [(84, 0)]),
  (44, 2, .lload 5, []),
  (46, 1, .aload_n 0, [(0, 0)]),
  (47, 1, .iconst 1, [(1, 0)]),
  (48, 1, .iload_n 1, [(1, 0)]),
  (49, 1, .iload_n 2, [(2, 0)]),
  (50, 2, .iload 7, []),
  (52, 3, .invokevirtual 424, [(253, 4), (4, 0), (12, 0)]),
  (55, 3, .ifCond .eq 19, [(74, 0)]),
  (58, 1, .aload_n 0, [(0, 0)]),
  (59, 3, .getfield 112, [(12, 47)]),
  (62, 2, .iload 7, []),
  (64, 1, .iload_n 3, [(3, 0)]),
  (65, 2, .iload 4, []),
  (67, 3, .invokestatic 420, [(252, 3), (1, 0)]),
  (70, 1, .laload, []),
  (71, 3, .goto 4, [(75, 0)]),
  (74, 1, .lconst 0, [(0, 0)]),
  (75, 1, .ladd, []),
  (76, 2, .lstore 5, []),
  (78, 3, .iinc 7 1, [(1, 0)]),
  (81, 3, .goto (-48), [(33, 0)]),
  (84, 2, .lload 5, []),
  (86, 3, .ldc2_w 474, [(2147483648, 0)]),
  (89, 1, .lcmp, []),
  (90, 3, .ifCond .le 9, [(99, 0)]),
  (93, 3, .ldc2_w 474, [(2147483648, 0)]),
  (96, 3, .goto 5, [(101, 0)]),
  (99, 2, .lload 5, []),
  (101, 1, .lreturn, [])]
/-- PackedForestModel.treesBelow (IIII)J -/
def zt279 : zzT := (⟨"PackedForestModel", "treesBelow", "(IIII)J"⟩, prog_14_method_109_code, 8, (some .long), 2, zr279)
def zr280 : List zzI := [(0, 1, .iload_n 2, [(2, 0)]),
  (1, 2, .istore 4, []),
  (3, 0, .nop, [(0, 3), (1, 1), (2, 1), (3, 1), (4, 1)]),
  (3, 2, .iload 4, []),
  (5, 1, .iload_n 3, [(3, 0)]),
  (6, 3, .if_icmp .gt 27, [(33, 0)]),
  (9, 1, .aload_n 0, [(0, 0)]),
  (10, 3, .getfield 115, [(12, 48)]),
  (13, 2, .iload 4, []),
  (15, 2, .iload 4, []),
  (17, 1, .iload_n 2, [(2, 0)]),
  (18, 3, .if_icmp .ne 7, [(25, 0)]),
  (21, 1, .lconst 1, [(1, 0)]),
  (22, 3, .goto 4, [(26, 0)]),
  (25, 1, .lconst 0, [(0, 0)]),
  (26, 1, .lastore, []),
  (27, 3, .iinc 4 1, [(1, 0)]),
  (30, 3, .goto (-27), [(3, 0)]),
  (33, 1, .iconst 1, [(1, 0)]),
  (34, 2, .istore 4, []),
  (36, 0, .nop, [(0, 3), (1, 1), (2, 1), (3, 1), (4, 1)]),
  (36, 2, .iload 4, []),
  (38, 1, .aload_n 0, [(0, 0)]),
  (39, 3, .getfield 16, [(12, 3)]),
  (42, 1, .iload_n 1, [(1, 0)]),
  (43, 1, .iaload, []),
  (44, 3, .if_icmp .gt 150, [(194, 0)]),
  (47, 1, .iload_n 2, [(2, 0)]),
  (48, 2, .istore 5, []),
  (50, 0, .nop, [(0, 3), (1, 1), (2, 1), (3, 1), (4, 1), (5, 1)]),
  (50, 2, .iload 5, []),
  (52, 1, .iload_n 3, [(3, 0)]),
  (53, 3, .if_icmp .gt 135, [(188, 0)]),
  (56, 1, .lconst 0, [(0, 0)]),
  (57, 2, .lstore 6, []),
  (59, 1, .iload_n 2, [(2, 0)]),
  (60, 2, .istore 8, []),
  (62, 0, .nop, [(0, 3), (1, 1), (2, 1), (3, 1), (4, 1), (5, 1), (6, 2), (8, 1)]),
  (62, 2, .iload 8, []),
  (64, 2, .iload 5, []),
  (66, 3, .if_icmp .gt 86, [(152, 0)]),
  (69, 1, .aload_n 0, [(0, 0)]),
  (70, 3, .getfield 115, [(12, 48)]),
  (73, 2, .bipush 13, [(13, 0)]),
  (75, 2, .iload 4, []),
  (77, 1, .iconst 1, [(1, 0)]),
  (78, 1, .isub, []),
  (79, 1, .imul, []),
  (80, 2, .iload 8, []),
  (82, 1, .iadd, []),
  (83, 1, .laload, []),
  (84, 1, .lconst 0, [(0, 0)]),
  (85, 1, .lcmp, []),
  (86, 3, .ifCond .ne 7, [(93, 0)]),
  (89, 1, .lconst 0, [(0, 0)]),
  (90, 3, .goto 32, [(122, 0)]),
  (93, 1, .aload_n 0, [(0, 0)]),
  (94, 3, .getfield 115, [(12, 48)]),
  (97, 2, .bipush 13, [(13, 0)]),
  (99, 2, .iload 4, []),
  (101, 1, .iconst 1, [(1, 0)]),
  (102, 1, .isub, []),
  (103, 1, .imul, []),
  (104, 2, .iload 8, []),
  (106, 1, .iadd, []),
  (107, 1, .laload, []),
  (108, 1, .aload_n 0, [(0, 0)]),
  (109, 1, .iload_n 1, [(1, 0)]),
  (110, 2, .iload 4, []),
  (112, 1, .iconst 1, [(1, 0)]),
  (113, 1, .isub, []),
  (114, 2, .iload 8, []),
  (116, 2, .iload 5, []),
  (118, 3, .invokevirtual 476, [(279, 4), (2, 0), (12, 0)]),
  (121, 1, .lmul, []),
  (122, 2, .lstore 9, []),
  (124, 2, .lload 6, []),
  (126, 2, .lload 9, []),
  (128, 3, .ldc2_w 474, [(2147483648, 0)]),
  (131, 1, .lcmp, []),
  (132, 3, .ifCond .le 9, [(141, 0)]),
  (135, 3, .ldc2_w 474, [(2147483648, 0)]),
  (138, 3, .goto 5, [(143, 0)]),
  (141, 2, .lload 9, []),
  (143, 1, .ladd, []),
  (144, 2, .lstore 6, []),
  (146, 3, .iinc 8 1, [(1, 0)]),
  (149, 3, .goto (-87), [(62, 0)]),
  (152, 1, .aload_n 0, [(0, 0)]),
  (153, 3, .getfield 115, [(12, 48)]),
  (156, 2, .bipush 13, [(13, 0)]),
  (158, 2, .iload 4, []),
  (160, 1, .imul, []),
  (161, 2, .iload 5, []),
  (163, 1, .iadd, []),
  (164, 2, .lload 6, []),
  (166, 3, .ldc2_w 474, [(2147483648, 0)]),
  (169, 1, .lcmp, []),
  (170, 3, .ifCond .le 9, [(179, 0)]),
  (173, 3, .ldc2_w 474, [(2147483648, 0)]),
  (176, 3, .goto 5, [(181, 0)]),
  (179, 2, .lload 6, []),
  (181, 1, .lastore, []),
  (182, 3, .iinc 5 1, [(1, 0)]),
  (185, 3, .goto (-135), [(50, 0)]),
  (188, 3, .iinc 4 1, [(1, 0)]),
  (191, 3, .goto (-155), [(36, 0)]),
  (194, 1, .aload_n 0, [(0, 0)]),
  (195, 3, .getfield 115, [(12, 48)]),
  (198, 2, .bipush 13, [(13, 0)]),
  (200, 1, .aload_n 0, [(0, 0)]),
  (201, 3, .getfield 16, [(12, 3)]),
  (204, 1, .iload_n 1, [(1, 0)]),
  (205, 1, .iaload, []),
  (206, 1, .imul, []),
  (207, 1, .iload_n 3, [(3, 0)]),
  (208, 1, .iadd, []),
  (209, 1, .laload, []),
  (210, 1, .lreturn, [])]
/-- PackedForestModel.countsOf (III)J -/
def zt280 : zzT := (⟨"PackedForestModel", "countsOf", "(III)J"⟩, prog_14_method_110_code, 11, (some .long), 2, zr280)
def zr281 : List zzI := [(0, 1, .iconst 0, [(0, 0)]),
  (1, 1, .istore_n 3, [(3, 0)]),
  (2, 1, .iconst 0, [(0, 0)]),
  (3, 2, .istore 4, []),
  (5, 0, .nop, [(0, 3), (1, 1), (2, 1), (3, 1), (4, 1)]),
  (5, 2, .iload 4, []),
  (7, 1, .aload_n 0, [(0, 0)]),
  (8, 3, .getfield 9, [(12, 1)]),
  (11, 1, .iconst 0, [(0, 0)]),
  (12, 1, .iaload, []),
  (13, 3, .if_icmp .ge 88, [(101, 0)]),
  (16, 2, .iload 4, []),
  (18, 1, .iload_n 1, [(1, 0)]),
  (19, 1, .iload_n 2, [(2, 0)]),
  (20, 3, .invokestatic 420, [(252, 3), (1, 0)]),
  (23, 2, .istore 5, []),
  (25, 1, .aload_n 0, [(0, 0)]),
  (26, 3, .getfield 96, [(12, 42)]),
  (29, 3, .sipush 2028, [(2028, 0)]),
  (32, 2, .iload 5, []),
  (34, 1, .iadd, []),
  (35, 1, .baload, []),
  (36, 3, .ifCond .eq 24, [(60, 0)]),
  (39, 1, .aload_n 0, [(0, 0)]),
  (40, 3, .getfield 109, [(12, 46)]),
  (43, 2, .iload 5, []),
  (45, 1, .baload, []),
  (46, 3, .ifCond .ne 14, [(60, 0)]),
  (49, 1, .aload_n 0, [(0, 0)]),
  (50, 2, .iload 4, []),
  (52, 1, .iload_n 1, [(1, 0)]),
  (53, 1, .iload_n 2, [(2, 0)]),
  (54, 3, .invokevirtual 480, [(280, 3), (2, 0), (12, 0)]),
  (57, 3, .goto 4, [(61, 0)]),
  (60, 1, .lconst 0, [(0, 0)]),
  (61, 2, .lstore 6, []),
  (63, 1, .iload_n 3, [(3, 0)]),
  (64, 3, .ifCond .ne 16, [(80, 0)]),
  (67, 2, .lload 6, []),
  (69, 1, .aload_n 0, [(0, 0)]),
  (70, 3, .getfield 112, [(12, 47)]),
  (73, 2, .iload 5, []),
  (75, 1, .laload, []),
  (76, 1, .lcmp, []),
  (77, 3, .ifCond .eq 7, [(84, 0)]),
  (80, 1, .iconst 1, [(1, 0)]),
  (81, 3, .goto 4, [(85, 0)]),
  (84, 1, .iconst 0, [(0, 0)]),
  (85, 1, .istore_n 3, [(3, 0)]),
  (86, 1, .aload_n 0, [(0, 0)]),
  (87, 3, .getfield 112, [(12, 47)]),
  (90, 2, .iload 5, []),
  (92, 2, .lload 6, []),
  (94, 1, .lastore, []),
  (95, 3, .iinc 4 1, [(1, 0)]),
  (98, 3, .goto (-93), [(5, 0)]),
  (101, 1, .iload_n 3, [(3, 0)]),
  (102, 1, .ireturn, [])]
/-- PackedForestModel.countsAll (II)Z -/
def zt281 : zzT := (⟨"PackedForestModel", "countsAll", "(II)Z"⟩, prog_14_method_111_code, 8, (some .boolean), 4, zr281)
def zr282 : List zzI := [(0, 1, .aload_n 0, [(0, 0)]),
  (1, 1, .iload_n 1, [(1, 0)]),
  (2, 1, .iload_n 2, [(2, 0)]),
  (3, 3, .invokevirtual 484, [(275, 2), (0, 0), (12, 0)]),
  (6, 1, .iconst 1, [(1, 0)]),
  (7, 1, .istore_n 3, [(3, 0)]),
  (8, 0, .nop, [(0, 3), (1, 1), (2, 1), (3, 1)]),
  (8, 1, .iload_n 3, [(3, 0)]),
  (9, 3, .ifCond .eq 13, [(22, 0)]),
  (12, 1, .aload_n 0, [(0, 0)]),
  (13, 1, .iload_n 1, [(1, 0)]),
  (14, 1, .iload_n 2, [(2, 0)]),
  (15, 3, .invokevirtual 487, [(278, 2), (4, 0), (12, 0)]),
  (18, 1, .istore_n 3, [(3, 0)]),
  (19, 3, .goto (-11), [(8, 0)]),
  (22, 1, .iconst 1, [(1, 0)]),
  (23, 1, .istore_n 3, [(3, 0)]),
  (24, 0, .nop, [(0, 3), (1, 1), (2, 1), (3, 1)]),
  (24, 1, .iload_n 3, [(3, 0)]),
  (25, 3, .ifCond .eq 13, [(38, 0)]),
  (28, 1, .aload_n 0, [(0, 0)]),
  (29, 1, .iload_n 1, [(1, 0)]),
  (30, 1, .iload_n 2, [(2, 0)]),
  (31, 3, .invokevirtual 490, [(281, 2), (4, 0), (12, 0)]),
  (34, 1, .istore_n 3, [(3, 0)]),
  (35, 3, .goto (-11), [(24, 0)]),
  (38, 1, .return_, [])]
/-- PackedForestModel.laysTreesOf (II)V -/
def zt282 : zzT := (⟨"PackedForestModel", "laysTreesOf", "(II)V"⟩, prog_14_method_112_code, 4, none, 0, zr282)
def zr283 : List zzI := [(0, 1, .aload_n 0, [(0, 0)]),
  (1, 3, .getfield 245, [(12, 36)]),
  (4, 2, .bipush 16, [(16, 0)]),
  (6, 1, .iand, []),
  (7, 3, .ifCond .eq 4, [(11, 0)]),
  (10, 1, .return_, []),
  (11, 1, .aload_n 0, [(0, 0)]),
  (12, 1, .iconst 1, [(1, 0)]),
  (13, 3, .invokevirtual 443, [(261, 1), (0, 0), (12, 0)]),
  (16, 1, .iconst 0, [(0, 0)]),
  (17, 1, .istore_n 1, [(1, 0)]),
  (18, 0, .nop, [(0, 3), (1, 1)]),
  (18, 1, .iload_n 1, [(1, 0)]),
  (19, 3, .sipush 2028, [(2028, 0)]),
  (22, 3, .if_icmp .ge 23, [(45, 0)]),
  (25, 1, .aload_n 0, [(0, 0)]),
  (26, 3, .getfield 109, [(12, 46)]),
  (29, 1, .iload_n 1, [(1, 0)]),
  (30, 1, .iconst 0, [(0, 0)]),
  (31, 1, .bastore, []),
  (32, 1, .aload_n 0, [(0, 0)]),
  (33, 3, .getfield 112, [(12, 47)]),
  (36, 1, .iload_n 1, [(1, 0)]),
  (37, 1, .lconst 0, [(0, 0)]),
  (38, 1, .lastore, []),
  (39, 3, .iinc 1 1, [(1, 0)]),
  (42, 3, .goto (-24), [(18, 0)]),
  (45, 1, .iconst 0, [(0, 0)]),
  (46, 1, .istore_n 1, [(1, 0)]),
  (47, 0, .nop, [(0, 3), (1, 1)]),
  (47, 1, .iload_n 1, [(1, 0)]),
  (48, 1, .aload_n 0, [(0, 0)]),
  (49, 3, .getfield 9, [(12, 1)]),
  (52, 1, .iconst 2, [(2, 0)]),
  (53, 1, .iaload, []),
  (54, 3, .if_icmp .gt 37, [(91, 0)]),
  (57, 1, .iconst 0, [(0, 0)]),
  (58, 1, .istore_n 2, [(2, 0)]),
  (59, 0, .nop, [(0, 3), (1, 1), (2, 1)]),
  (59, 1, .iload_n 2, [(2, 0)]),
  (60, 1, .iload_n 1, [(1, 0)]),
  (61, 1, .iadd, []),
  (62, 1, .aload_n 0, [(0, 0)]),
  (63, 3, .getfield 9, [(12, 1)]),
  (66, 1, .iconst 2, [(2, 0)]),
  (67, 1, .iaload, []),
  (68, 3, .if_icmp .gt 17, [(85, 0)]),
  (71, 1, .aload_n 0, [(0, 0)]),
  (72, 1, .iload_n 2, [(2, 0)]),
  (73, 1, .iload_n 2, [(2, 0)]),
  (74, 1, .iload_n 1, [(1, 0)]),
  (75, 1, .iadd, []),
  (76, 3, .invokevirtual 493, [(282, 2), (0, 0), (12, 0)]),
  (79, 3, .iinc 2 1, [(1, 0)]),
  (82, 3, .goto (-23), [(59, 0)]),
  (85, 3, .iinc 1 1, [(1, 0)]),
  (88, 3, .goto (-41), [(47, 0)]),
  (91, 1, .aload_n 0, [(0, 0)]),
  (92, 1, .dup, []),
  (93, 3, .getfield 245, [(12, 36)]),
  (96, 2, .bipush 16, [(16, 0)]),
  (98, 1, .ior, []),
  (99, 3, .putfield 245, [(12, 36)]),
  (102, 1, .return_, [])]
/-- PackedForestModel.laysTrees ()V -/
def zt283 : zzT := (⟨"PackedForestModel", "laysTrees", "()V"⟩, prog_14_method_113_code, 3, none, 0, zr283)
def zr284 : List zzI := [(0, 1, .aload_n 0, [(0, 0)]),
  (1, 1, .iload_n 1, [(1, 0)]),
  (2, 3, .invokevirtual 322, [(179, 1), (4, 0), (12, 0)]),
  (5, 3, .ifCond .eq 12, [(17, 0)]),
  (8, 1, .aload_n 0, [(0, 0)]),
  (9, 1, .iload_n 2, [(2, 0)]),
  (10, 1, .iload_n 3, [(3, 0)]),
  (11, 3, .invokevirtual 440, [(263, 2), (4, 0), (12, 0)]),
  (14, 3, .ifCond .ne 5, [(19, 0)]),
  (17, 1, .iconst (-1), [(1, 1)]),
  (18, 1, .ireturn, []),
  (19, 1, .aload_n 0, [(0, 0)]),
  (20, 3, .invokevirtual 496, [(283, 0), (0, 0), (12, 0)]),
  (23, 1, .lconst 0, [(0, 0)]),
  (24, 2, .lstore 4, []),
  (26, 1, .iconst 0, [(0, 0)]),
  (27, 2, .istore 6, []),
  (29, 0, .nop, [(0, 3), (1, 1), (2, 1), (3, 1), (4, 2), (6, 1)]),
  (29, 2, .iload 6, []),
  (31, 1, .aload_n 0, [(0, 0)]),
  (32, 3, .getfield 9, [(12, 1)]),
  (35, 1, .iconst 0, [(0, 0)]),
  (36, 1, .iaload, []),
  (37, 3, .if_icmp .ge 85, [(122, 0)]),
  (40, 1, .aload_n 0, [(0, 0)]),
  (41, 2, .iload 6, []),
  (43, 3, .invokevirtual 260, [(177, 1), (4, 0), (12, 0)]),
  (46, 3, .ifCond .eq 18, [(64, 0)]),
  (49, 1, .aload_n 0, [(0, 0)]),
  (50, 3, .getfield 13, [(12, 2)]),
  (53, 2, .iload 6, []),
  (55, 1, .iaload, []),
  (56, 1, .iload_n 1, [(1, 0)]),
  (57, 3, .if_icmp .ne 7, [(64, 0)]),
  (60, 1, .iconst 1, [(1, 0)]),
  (61, 3, .goto 4, [(65, 0)]),
  (64, 1, .iconst 0, [(0, 0)]),
  (65, 2, .istore 7, []),
  (67, 2, .iload 7, []),
  (69, 3, .ifCond .eq 21, [(90, 0)]),
  (72, 1, .aload_n 0, [(0, 0)]),
  (73, 3, .getfield 109, [(12, 46)]),
  (76, 2, .iload 6, []),
  (78, 1, .iload_n 2, [(2, 0)]),
  (79, 1, .iload_n 3, [(3, 0)]),
  (80, 3, .invokestatic 420, [(252, 3), (1, 0)]),
  (83, 1, .baload, []),
  (84, 3, .ifCond .eq 6, [(90, 0)]),
  (87, 2, .bipush (-3), [(3, 1)]),
  (89, 1, .ireturn, []),
  (90, 2, .lload 4, []),
  (92, 2, .iload 7, []),
  (94, 3, .ifCond .eq 18, [(112, 0)]),
  (97, 1, .aload_n 0, [(0, 0)]),
  (98, 3, .getfield 112, [(12, 47)]),
  (101, 2, .iload 6, []),
  (103, 1, .iload_n 2, [(2, 0)]),
  (104, 1, .iload_n 3, [(3, 0)]),
  (105, 3, .invokestatic 420, [(252, 3), (1, 0)]),
  (108, 1, .laload, []),
  (109, 3, .goto 4, [(113, 0)]),
  (112, 1, .lconst 0, [(0, 0)]),
  (113, 1, .ladd, []),
  (114, 2, .lstore 4, []),
  (116, 3, .iinc 6 1, [(1, 0)]),
  (119, 3, .goto (-90), [(29, 0)]),
  (122, 2, .lload 4, []),
  (124, 3, .ldc2_w 474, [(2147483648, 0)]),
  (127, 1, .lcmp, []),
  (128, 3, .ifCond .lt 8, [(136, 0)]),
  (131, 2, .bipush (-2), [(2, 1)]),
  (133, 3, .goto 6, [(139, 0)]),
  (136, 2, .lload 4, []),
  (138, 1, .l2i, []),
  (139, 1, .ireturn, [])]
/-- PackedForestModel.trees (III)I -/
def zt284 : zzT := (⟨"PackedForestModel", "trees", "(III)I"⟩, prog_14_method_114_code, 8, (some .int), 1, zr284)
def zr285 : List zzI := [(0, 1, .iconst 0, [(0, 0)]),
  (1, 2, .istore 5, []),
  (3, 1, .iconst 0, [(0, 0)]),
  (4, 2, .istore 6, []),
  (6, 0, .nop, [(0, 3), (1, 1), (2, 1), (3, 1), (4, 1), (5, 1), (6, 1)]),
  (6, 2, .iload 6, []),
  (8, 1, .aload_n 0, [(0, 0)]),
  (9, 3, .getfield 9, [(12, 1)]),
  (12, 1, .iconst 0, [(0, 0)]),
  (13, 1, .iaload, []),
  (14, 3, .if_icmp .ge 66, [(80, 0)]),
  (17, 2, .iload 6, []),
  (19, 1, .iload_n 3, [(3, 0)]),
  (20, 2, .iload 4, []),
  (22, 3, .invokestatic 420, [(252, 3), (1, 0)]),
  (25, 2, .istore 7, []),
  (27, 1, .aload_n 0, [(0, 0)]),
  (28, 3, .getfield 96, [(12, 42)]),
  (31, 3, .sipush 2028, [(2028, 0)]),
  (34, 2, .iload 7, []),
  (36, 1, .iadd, []),
  (37, 1, .baload, []),
  (38, 3, .ifCond .eq 36, [(74, 0)]),
  (41, 1, .aload_n 0, [(0, 0)]),
  (42, 3, .getfield 124, [(12, 51)]),
  (45, 2, .iload 7, []),
  (47, 1, .baload, []),
  (48, 3, .ifCond .ne 26, [(74, 0)]),
  (51, 1, .aload_n 0, [(0, 0)]),
  (52, 1, .iconst 1, [(1, 0)]),
  (53, 1, .iload_n 1, [(1, 0)]),
  (54, 1, .iload_n 2, [(2, 0)]),
  (55, 2, .iload 6, []),
  (57, 3, .invokevirtual 424, [(253, 4), (4, 0), (12, 0)]),
  (60, 3, .ifCond .eq 14, [(74, 0)]),
  (63, 1, .aload_n 0, [(0, 0)]),
  (64, 3, .getfield 124, [(12, 51)]),
  (67, 2, .iload 7, []),
  (69, 1, .iconst 1, [(1, 0)]),
  (70, 1, .bastore, []),
  (71, 1, .iconst 1, [(1, 0)]),
  (72, 2, .istore 5, []),
  (74, 3, .iinc 6 1, [(1, 0)]),
  (77, 3, .goto (-71), [(6, 0)]),
  (80, 2, .iload 5, []),
  (82, 1, .ireturn, [])]
/-- PackedForestModel.marksBelow (IIII)Z -/
def zt285 : zzT := (⟨"PackedForestModel", "marksBelow", "(IIII)Z"⟩, prog_14_method_115_code, 8, (some .boolean), 4, zr285)
def zr286 : List zzI := [(0, 1, .iconst 0, [(0, 0)]),
  (1, 2, .istore 4, []),
  (3, 1, .aload_n 0, [(0, 0)]),
  (4, 1, .iconst 1, [(1, 0)]),
  (5, 1, .iload_n 1, [(1, 0)]),
  (6, 1, .iload_n 2, [(2, 0)]),
  (7, 1, .iload_n 3, [(3, 0)]),
  (8, 3, .invokevirtual 430, [(257, 4), (0, 0), (12, 0)]),
  (11, 1, .aload_n 0, [(0, 0)]),
  (12, 1, .iload_n 1, [(1, 0)]),
  (13, 1, .iload_n 2, [(2, 0)]),
  (14, 1, .iload_n 3, [(3, 0)]),
  (15, 3, .invokevirtual 499, [(258, 3), (0, 0), (12, 0)]),
  (18, 1, .iconst 0, [(0, 0)]),
  (19, 2, .istore 5, []),
  (21, 0, .nop, [(0, 3), (1, 1), (2, 1), (3, 1), (4, 1), (5, 1)]),
  (21, 2, .iload 5, []),
  (23, 1, .aload_n 0, [(0, 0)]),
  (24, 3, .getfield 16, [(12, 3)]),
  (27, 1, .iload_n 1, [(1, 0)]),
  (28, 1, .iaload, []),
  (29, 3, .if_icmp .ge 122, [(151, 0)]),
  (32, 1, .iload_n 2, [(2, 0)]),
  (33, 2, .istore 6, []),
  (35, 0, .nop, [(0, 3), (1, 1), (2, 1), (3, 1), (4, 1), (5, 1), (6, 1)]),
  (35, 2, .iload 6, []),
  (37, 1, .iload_n 3, [(3, 0)]),
  (38, 3, .if_icmp .gt 107, [(145, 0)]),
  (41, 2, .iload 6, []),
  (43, 2, .istore 7, []),
  (45, 0, .nop, [(0, 3), (1, 1), (2, 1), (3, 1), (4, 1), (5, 1), (6, 1), (7, 1)]),
  (45, 2, .iload 7, []),
  (47, 1, .iload_n 3, [(3, 0)]),
  (48, 3, .if_icmp .gt 91, [(139, 0)]),
  (51, 1, .aload_n 0, [(0, 0)]),
  (52, 1, .iload_n 1, [(1, 0)]),
  (53, 2, .iload 5, []),
  (55, 3, .invokevirtual 413, [(255, 2), (4, 0), (12, 0)]),
  (58, 3, .ifCond .eq 41, [(99, 0)]),
  (61, 1, .aload_n 0, [(0, 0)]),
  (62, 3, .getfield 100, [(12, 43)]),
  (65, 2, .bipush 13, [(13, 0)]),
  (67, 2, .iload 5, []),
  (69, 1, .imul, []),
  (70, 2, .iload 6, []),
  (72, 1, .iadd, []),
  (73, 1, .baload, []),
  (74, 3, .ifCond .eq 25, [(99, 0)]),
  (77, 1, .aload_n 0, [(0, 0)]),
  (78, 3, .getfield 103, [(12, 44)]),
  (81, 2, .bipush 13, [(13, 0)]),
  (83, 2, .iload 5, []),
  (85, 1, .iconst 1, [(1, 0)]),
  (86, 1, .iadd, []),
  (87, 1, .imul, []),
  (88, 2, .iload 7, []),
  (90, 1, .iadd, []),
  (91, 1, .baload, []),
  (92, 3, .ifCond .eq 7, [(99, 0)]),
  (95, 1, .iconst 1, [(1, 0)]),
  (96, 3, .goto 4, [(100, 0)]),
  (99, 1, .iconst 0, [(0, 0)]),
  (100, 2, .istore 8, []),
  (102, 2, .iload 8, []),
  (104, 3, .ifCond .eq 17, [(121, 0)]),
  (107, 1, .aload_n 0, [(0, 0)]),
  (108, 1, .iload_n 1, [(1, 0)]),
  (109, 2, .iload 5, []),
  (111, 2, .iload 6, []),
  (113, 2, .iload 7, []),
  (115, 3, .invokevirtual 503, [(285, 4), (4, 0), (12, 0)]),
  (118, 3, .ifCond .ne 8, [(126, 0)]),
  (121, 2, .iload 4, []),
  (123, 3, .ifCond .eq 7, [(130, 0)]),
  (126, 1, .iconst 1, [(1, 0)]),
  (127, 3, .goto 4, [(131, 0)]),
  (130, 1, .iconst 0, [(0, 0)]),
  (131, 2, .istore 4, []),
  (133, 3, .iinc 7 1, [(1, 0)]),
  (136, 3, .goto (-91), [(45, 0)]),
  (139, 3, .iinc 6 1, [(1, 0)]),
  (142, 3, .goto (-107), [(35, 0)]),
  (145, 3, .iinc 5 1, [(1, 0)]),
  (148, 3, .goto (-127), [(21, 0)]),
  (151, 2, .iload 4, []),
  (153, 1, .ireturn, [])]
/-- PackedForestModel.marksFrom (III)Z -/
def zt286 : zzT := (⟨"PackedForestModel", "marksFrom", "(III)Z"⟩, prog_14_method_116_code, 9, (some .boolean), 4, zr286)
def zr287 : List zzI := [(0, 1, .iconst 0, [(0, 0)]),
  (1, 1, .istore_n 1, [(1, 0)]),
  (2, 1, .iconst 0, [(0, 0)]),
  (3, 1, .istore_n 2, [(2, 0)]),
  (4, 0, .nop, [(0, 3), (1, 1), (2, 1)]),
  (4, 1, .iload_n 2, [(2, 0)]),
  (5, 1, .aload_n 0, [(0, 0)]),
  (6, 3, .getfield 9, [(12, 1)]),
  (9, 1, .iconst 0, [(0, 0)]),
  (10, 1, .iaload, []),
  (11, 3, .if_icmp .ge 95, [(106, 0)]),
  (14, 1, .iconst 0, [(0, 0)]),
  (15, 1, .istore_n 3, [(3, 0)]),
  (16, 0, .nop, [(0, 3), (1, 1), (2, 1), (3, 1)]),
  (16, 1, .iload_n 3, [(3, 0)]),
  (17, 1, .aload_n 0, [(0, 0)]),
  (18, 3, .getfield 9, [(12, 1)]),
  (21, 1, .iconst 2, [(2, 0)]),
  (22, 1, .iaload, []),
  (23, 3, .if_icmp .gt 77, [(100, 0)]),
  (26, 1, .iload_n 3, [(3, 0)]),
  (27, 2, .istore 4, []),
  (29, 0, .nop, [(0, 3), (1, 1), (2, 1), (3, 1), (4, 1)]),
  (29, 2, .iload 4, []),
  (31, 1, .aload_n 0, [(0, 0)]),
  (32, 3, .getfield 9, [(12, 1)]),
  (35, 1, .iconst 2, [(2, 0)]),
  (36, 1, .iaload, []),
  (37, 3, .if_icmp .gt 57, [(94, 0)]),
  (40, 1, .iload_n 2, [(2, 0)]),
  (41, 1, .iload_n 3, [(3, 0)]),
  (42, 2, .iload 4, []),
  (44, 3, .invokestatic 420, [(252, 3), (1, 0)]),
  (47, 2, .istore 5, []),
  (49, 1, .aload_n 0, [(0, 0)]),
  (50, 3, .getfield 124, [(12, 51)]),
  (53, 2, .iload 5, []),
  (55, 1, .baload, []),
  (56, 3, .ifCond .eq 32, [(88, 0)]),
  (59, 1, .aload_n 0, [(0, 0)]),
  (60, 3, .getfield 127, [(12, 52)]),
  (63, 2, .iload 5, []),
  (65, 1, .baload, []),
  (66, 3, .ifCond .ne 22, [(88, 0)]),
  (69, 1, .aload_n 0, [(0, 0)]),
  (70, 3, .getfield 127, [(12, 52)]),
  (73, 2, .iload 5, []),
  (75, 1, .iconst 1, [(1, 0)]),
  (76, 1, .bastore, []),
  (77, 1, .aload_n 0, [(0, 0)]),
  (78, 1, .iload_n 2, [(2, 0)]),
  (79, 1, .iload_n 3, [(3, 0)]),
  (80, 2, .iload 4, []),
  (82, 3, .invokevirtual 506, [(286, 3), (4, 0), (12, 0)]),
  (85, 1, .pop, []),
  (86, 1, .iconst 1, [(1, 0)]),
  (87, 1, .istore_n 1, [(1, 0)]),
  (88, 3, .iinc 4 1, [(1, 0)]),
  (91, 3, .goto (-62), [(29, 0)]),
  (94, 3, .iinc 3 1, [(1, 0)]),
  (97, 3, .goto (-81), [(16, 0)]),
  (100, 3, .iinc 2 1, [(1, 0)]),
  (103, 3, .goto (-99), [(4, 0)]),
  (106, 1, .iload_n 1, [(1, 0)]),
  (107, 1, .ireturn, [])]
/-- PackedForestModel.goesThrough ()Z -/
def zt287 : zzT := (⟨"PackedForestModel", "goesThrough", "()Z"⟩, prog_14_method_117_code, 6, (some .boolean), 4, zr287)
def zr288 : List zzI := [(0, 1, .aload_n 0, [(0, 0)]),
  (1, 3, .getfield 245, [(12, 36)]),
  (4, 2, .bipush 32, [(32, 0)]),
  (6, 1, .iand, []),
  (7, 3, .ifCond .eq 4, [(11, 0)]),
  (10, 1, .return_, []),
  (11, 1, .aload_n 0, [(0, 0)]),
  (12, 1, .iconst 1, [(1, 0)]),
  (13, 3, .invokevirtual 443, [(261, 1), (0, 0), (12, 0)]),
  (16, 1, .iconst 0, [(0, 0)]),
  (17, 1, .istore_n 1, [(1, 0)]),
  (18, 0, .nop, [(0, 3), (1, 1)]),
  (18, 1, .iload_n 1, [(1, 0)]),
  (19, 3, .sipush 2028, [(2028, 0)]),
  (22, 3, .if_icmp .ge 23, [(45, 0)]),
  (25, 1, .aload_n 0, [(0, 0)]),
  (26, 3, .getfield 124, [(12, 51)]),
  (29, 1, .iload_n 1, [(1, 0)]),
  (30, 1, .iconst 0, [(0, 0)]),
  (31, 1, .bastore, []),
  (32, 1, .aload_n 0, [(0, 0)]),
  (33, 3, .getfield 127, [(12, 52)]),
  (36, 1, .iload_n 1, [(1, 0)]),
  (37, 1, .iconst 0, [(0, 0)]),
  (38, 1, .bastore, []),
  (39, 3, .iinc 1 1, [(1, 0)]),
  (42, 3, .goto (-24), [(18, 0)]),
  (45, 1, .iconst 0, [(0, 0)]),
  (46, 1, .istore_n 1, [(1, 0)]),
  (47, 0, .nop, [(0, 3), (1, 1)]),
  (47, 1, .iload_n 1, [(1, 0)]),
  (48, 1, .aload_n 0, [(0, 0)]),
  (49, 3, .getfield 9, [(12, 1)]),
  (52, 1, .iconst 0, [(0, 0)]),
  (53, 1, .iaload, []),
  (54, 3, .if_icmp .ge 60, [(114, 0)]),
  (57, 1, .iload_n 1, [(1, 0)]),
  (58, 1, .iconst 0, [(0, 0)]),
  (59, 1, .aload_n 0, [(0, 0)]),
  (60, 3, .getfield 9, [(12, 1)]),
  (63, 1, .iconst 2, [(2, 0)]),
  (64, 1, .iaload, []),
  (65, 3, .invokestatic 420, [(252, 3), (1, 0)]),
  (68, 1, .istore_n 2, [(2, 0)]),
  (69, 1, .aload_n 0, [(0, 0)]),
  (70, 3, .getfield 124, [(12, 51)]),
  (73, 1, .iload_n 2, [(2, 0)]),
  (74, 1, .aload_n 0, [(0, 0)]),
  (75, 3, .getfield 13, [(12, 2)]),
  (78, 1, .iload_n 1, [(1, 0)]),
  (79, 1, .iaload, []),
  (80, 1, .aload_n 0, [(0, 0)]),
  (81, 3, .getfield 9, [(12, 1)]),
  (84, 1, .iconst 1, [(1, 0)]),
  (85, 1, .iaload, []),
  (86, 3, .if_icmp .ne 20, [(106, 0)]),
  (89, 1, .aload_n 0, [(0, 0)]),
  (90, 3, .getfield 96, [(12, 42)]),
  (93, 3, .sipush 2028, [(2028, 0)]),
  (96, 1, .iload_n 2, [(2, 0)]),
  (97, 1, .iadd, []),
  (98, 1, .baload, []),
  (99, 3, .ifCond .eq 7, [(106, 0)]),
  (102, 1, .iconst 1, [(1, 0)]),
  (103, 3, .goto 4, [(107, 0)]),
  (106, 1, .iconst 0, [(0, 0)]),
  (107, 1, .bastore, []),
  (108, 3, .iinc 1 1, [(1, 0)]),
  (111, 3, .goto (-64), [(47, 0)]),
  (114, 1, .iconst 1, [(1, 0)]),
  (115, 1, .istore_n 1, [(1, 0)]),
  (116, 0, .nop, [(0, 3), (1, 1)]),
  (116, 1, .iload_n 1, [(1, 0)]),
  (117, 3, .ifCond .eq 11, [(128, 0)]),
  (120, 1, .aload_n 0, [(0, 0)]),
  (121, 3, .invokevirtual 509, [(287, 0), (4, 0), (12, 0)]),
  (124, 1, .istore_n 1, [(1, 0)]),
  (125, 3, .goto (-9), [(116, 0)]),
  (128, 1, .aload_n 0, [(0, 0)]),
  (129, 1, .dup, []),
  (130, 3, .getfield 245, [(12, 36)]),
  (133, 2, .bipush 32, [(32, 0)]),
  (135, 1, .ior, []),
  (136, 3, .putfield 245, [(12, 36)]),
  (139, 1, .return_, [])]
/-- PackedForestModel.laysForest ()V -/
def zt288 : zzT := (⟨"PackedForestModel", "laysForest", "()V"⟩, prog_14_method_118_code, 3, none, 0, zr288)
def zr289 : List zzI := [(0, 1, .aload_n 0, [(0, 0)]),
  (1, 1, .iload_n 1, [(1, 0)]),
  (2, 3, .invokevirtual 257, [(176, 1), (4, 0), (12, 0)]),
  (5, 3, .ifCond .eq 12, [(17, 0)]),
  (8, 1, .aload_n 0, [(0, 0)]),
  (9, 1, .iload_n 2, [(2, 0)]),
  (10, 1, .iload_n 3, [(3, 0)]),
  (11, 3, .invokevirtual 440, [(263, 2), (4, 0), (12, 0)]),
  (14, 3, .ifCond .ne 5, [(19, 0)]),
  (17, 1, .iconst (-1), [(1, 1)]),
  (18, 1, .ireturn, []),
  (19, 1, .aload_n 0, [(0, 0)]),
  (20, 3, .invokevirtual 512, [(288, 0), (0, 0), (12, 0)]),
  (23, 1, .aload_n 0, [(0, 0)]),
  (24, 3, .getfield 124, [(12, 51)]),
  (27, 1, .iload_n 1, [(1, 0)]),
  (28, 1, .iload_n 2, [(2, 0)]),
  (29, 1, .iload_n 3, [(3, 0)]),
  (30, 3, .invokestatic 420, [(252, 3), (1, 0)]),
  (33, 1, .baload, []),
  (34, 3, .ifCond .eq 7, [(41, 0)]),
  (37, 1, .iconst 1, [(1, 0)]),
  (38, 3, .goto 4, [(42, 0)]),
  (41, 1, .iconst 0, [(0, 0)]),
  (42, 1, .ireturn, [])]
/-- PackedForestModel.piece (III)I -/
def zt289 : zzT := (⟨"PackedForestModel", "piece", "(III)I"⟩, prog_14_method_119_code, 4, (some .int), 1, zr289)
def zr290 : List zzI := [(0, 1, .aload_n 0, [(0, 0)]),
  (1, 1, .iload_n 1, [(1, 0)]),
  (2, 3, .invokevirtual 260, [(177, 1), (4, 0), (12, 0)]),
  (5, 3, .ifCond .ne 5, [(10, 0)]),
  (8, 1, .iconst 0, [(0, 0)]),
  (9, 1, .ireturn, []),
  (10, 1, .iconst 0, [(0, 0)]),
  (11, 2, .istore 4, []),
  (13, 0, .nop, [(0, 3), (1, 1), (2, 1), (3, 1), (4, 1)]),
  (13, 2, .iload 4, []),
  (15, 1, .aload_n 0, [(0, 0)]),
  (16, 3, .getfield 16, [(12, 3)]),
  (19, 1, .iload_n 1, [(1, 0)]),
  (20, 1, .iaload, []),
  (21, 3, .if_icmp .gt 137, [(158, 0)]),
  (24, 1, .iload_n 2, [(2, 0)]),
  (25, 2, .istore 5, []),
  (27, 0, .nop, [(0, 3), (1, 1), (2, 1), (3, 1), (4, 1), (5, 1)]),
  (27, 2, .iload 5, []),
  (29, 1, .iload_n 3, [(3, 0)]),
  (30, 3, .if_icmp .gt 122, [(152, 0)]),
  (33, 2, .iload 4, []),
  (35, 3, .ifCond .ne 13, [(48, 0)]),
  (38, 2, .iload 5, []),
  (40, 1, .iload_n 2, [(2, 0)]),
  (41, 3, .if_icmp .ne 7, [(48, 0)]),
  (44, 1, .iconst 1, [(1, 0)]),
  (45, 3, .goto 4, [(49, 0)]),
  (48, 1, .iconst 0, [(0, 0)]),
  (49, 2, .istore 6, []),
  (51, 1, .iload_n 2, [(2, 0)]),
  (52, 2, .istore 7, []),
  (54, 0, .nop, [(0, 3), (1, 1), (2, 1), (3, 1), (4, 1), (5, 1), (6, 1), (7, 1)]),
  (54, 2, .iload 7, []),
  (56, 2, .iload 5, []),
  (58, 3, .if_icmp .gt 73, [(131, 0)]),
  (61, 2, .iload 4, []),
  (63, 3, .ifCond .le 68, [(131, 0)]),
  (66, 2, .iload 6, []),
  (68, 1, .aload_n 0, [(0, 0)]),
  (69, 3, .getfield 130, [(12, 53)]),
  (72, 2, .bipush 13, [(13, 0)]),
  (74, 2, .iload 4, []),
  (76, 1, .iconst 1, [(1, 0)]),
  (77, 1, .isub, []),
  (78, 1, .imul, []),
  (79, 2, .iload 7, []),
  (81, 1, .iadd, []),
  (82, 1, .iaload, []),
  (83, 3, .ifCond .le 38, [(121, 0)]),
  (86, 1, .aload_n 0, [(0, 0)]),
  (87, 1, .iconst 1, [(1, 0)]),
  (88, 1, .iload_n 1, [(1, 0)]),
  (89, 2, .iload 4, []),
  (91, 1, .iconst 1, [(1, 0)]),
  (92, 1, .isub, []),
  (93, 2, .iload 7, []),
  (95, 2, .iload 5, []),
  (97, 3, .invokevirtual 427, [(256, 5), (4, 0), (12, 0)]),
  (100, 3, .ifCond .eq 21, [(121, 0)]),
  (103, 1, .aload_n 0, [(0, 0)]),
  (104, 3, .getfield 130, [(12, 53)]),
  (107, 2, .bipush 13, [(13, 0)]),
  (109, 2, .iload 4, []),
  (111, 1, .iconst 1, [(1, 0)]),
  (112, 1, .isub, []),
  (113, 1, .imul, []),
  (114, 2, .iload 7, []),
  (116, 1, .iadd, []),
  (117, 1, .iaload, []),
  (118, 3, .goto 4, [(122, 0)]),
  (121, 1, .iconst 0, [(0, 0)]),
  (122, 1, .iadd, []),
  (123, 2, .istore 6, []),
  (125, 3, .iinc 7 1, [(1, 0)]),
  (128, 3, .goto (-74), [(54, 0)]),
  (131, 1, .aload_n 0, [(0, 0)]),
  (132, 3, .getfield 130, [(12, 53)]),
  (135, 2, .bipush 13, [(13, 0)]),
  (137, 2, .iload 4, []),
  (139, 1, .imul, []),
  (140, 2, .iload 5, []),
  (142, 1, .iadd, []),
  (143, 2, .iload 6, []),
  (145, 1, .iastore, []),
  (146, 3, .iinc 5 1, [(1, 0)]),
  (149, 3, .goto (-122), [(27, 0)]),
  (152, 3, .iinc 4 1, [(1, 0)]),
  (155, 3, .goto (-142), [(13, 0)]),
  (158, 1, .aload_n 0, [(0, 0)]),
  (159, 3, .getfield 130, [(12, 53)]),
  (162, 2, .bipush 13, [(13, 0)]),
  (164, 1, .aload_n 0, [(0, 0)]),
  (165, 3, .getfield 16, [(12, 3)]),
  (168, 1, .iload_n 1, [(1, 0)]),
  (169, 1, .iaload, []),
  (170, 1, .imul, []),
  (171, 1, .iload_n 3, [(3, 0)]),
  (172, 1, .iadd, []),
  (173, 1, .iaload, []),
  (174, 1, .ireturn, [])]
/-- PackedForestModel.waysOf (III)I -/
def zt290 : zzT := (⟨"PackedForestModel", "waysOf", "(III)I"⟩, prog_14_method_120_code, 8, (some .int), 1, zr290)
def zr291 : List zzI := [(0, 1, .aload_n 0, [(0, 0)]),
  (1, 1, .iload_n 1, [(1, 0)]),
  (2, 3, .invokevirtual 257, [(176, 1), (4, 0), (12, 0)]),
  (5, 3, .ifCond .eq 12, [(17, 0)]),
  (8, 1, .aload_n 0, [(0, 0)]),
  (9, 1, .iload_n 2, [(2, 0)]),
  (10, 1, .iload_n 3, [(3, 0)]),
  (11, 3, .invokevirtual 440, [(263, 2), (4, 0), (12, 0)]),
  (14, 3, .ifCond .ne 5, [(19, 0)]),
  (17, 1, .iconst (-1), [(1, 1)]),
  (18, 1, .ireturn, []),
  (19, 1, .aload_n 0, [(0, 0)]),
  (20, 1, .iconst 1, [(1, 0)]),
  (21, 3, .invokevirtual 443, [(261, 1), (0, 0), (12, 0)]),
  (24, 1, .aload_n 0, [(0, 0)]),
  (25, 1, .iload_n 1, [(1, 0)]),
  (26, 1, .iload_n 2, [(2, 0)]),
  (27, 1, .iload_n 3, [(3, 0)]),
  (28, 3, .invokevirtual 515, [(290, 3), (1, 0), (12, 0)]),
  (31, 1, .ireturn, [])]
/-- PackedForestModel.ways (III)I -/
def zt291 : zzT := (⟨"PackedForestModel", "ways", "(III)I"⟩, prog_14_method_121_code, 4, (some .int), 1, zr291)
def zr292 : List zzI := [(0, 1, .iconst (-1), [(1, 1)]),
  (1, 2, .istore 4, []),
  (3, 1, .iconst 0, [(0, 0)]),
  (4, 2, .istore 5, []),
  (6, 0, .nop, [(0, 3), (1, 1), (2, 1), (3, 1), (4, 1), (5, 1)]),
  (6, 2, .iload 5, []),
  (8, 1, .aload_n 0, [(0, 0)]),
  (9, 3, .getfield 9, [(12, 1)]),
  (12, 1, .iconst 0, [(0, 0)]),
  (13, 1, .iaload, []),
  (14, 3, .if_icmp .ge 58, [(72, 0)]),
  (17, 1, .aload_n 0, [(0, 0)]),
  (18, 3, .getfield 13, [(12, 2)]),
  (21, 2, .iload 5, []),
  (23, 1, .iaload, []),
  (24, 1, .iload_n 1, [(1, 0)]),
  (25, 3, .if_icmp .ne 41, [(66, 0)]),
  (28, 1, .aload_n 0, [(0, 0)]),
  (29, 3, .getfield 124, [(12, 51)]),
  (32, 2, .iload 5, []),
  (34, 1, .iload_n 2, [(2, 0)]),
  (35, 1, .iload_n 3, [(3, 0)]),
  (36, 3, .invokestatic 420, [(252, 3), (1, 0)]),
  (39, 1, .baload, []),
  (40, 3, .ifCond .eq 26, [(66, 0)]),
  (43, 2, .iload 4, []),
  (45, 1, .iconst (-1), [(1, 1)]),
  (46, 3, .if_icmp .ne 7, [(53, 0)]),
  (49, 1, .iconst 0, [(0, 0)]),
  (50, 3, .goto 5, [(55, 0)]),
  (53, 2, .iload 4, []),
  (55, 1, .aload_n 0, [(0, 0)]),
  (56, 2, .iload 5, []),
  (58, 1, .iload_n 2, [(2, 0)]),
  (59, 1, .iload_n 3, [(3, 0)]),
  (60, 3, .invokevirtual 515, [(290, 3), (1, 0), (12, 0)]),
  (63, 1, .iadd, []),
  (64, 2, .istore 4, []),
  (66, 3, .iinc 5 1, [(1, 0)]),
  (69, 3, .goto (-63), [(6, 0)]),
  (72, 2, .iload 4, []),
  (74, 1, .ireturn, [])]
/-- PackedForestModel.waysOfNode (III)I -/
def zt292 : zzT := (⟨"PackedForestModel", "waysOfNode", "(III)I"⟩, prog_14_method_122_code, 6, (some .int), 1, zr292)
def zr293 : List zzI := [(0, 1, .aload_n 0, [(0, 0)]),
  (1, 1, .iload_n 1, [(1, 0)]),
  (2, 1, .iload_n 2, [(2, 0)]),
  (3, 1, .iload_n 3, [(3, 0)]),
  (4, 3, .invokevirtual 518, [(292, 3), (1, 0), (12, 0)]),
  (7, 2, .istore 4, []),
  (9, 1, .aload_n 0, [(0, 0)]),
  (10, 1, .dup, []),
  (11, 3, .getfield 521, [(12, 55)]),
  (14, 2, .iload 4, []),
  (16, 1, .iconst (-1), [(1, 1)]),
  (17, 3, .if_icmp .ne 7, [(24, 0)]),
  (20, 1, .iconst 0, [(0, 0)]),
  (21, 3, .goto 4, [(25, 0)]),
  (24, 1, .iconst 1, [(1, 0)]),
  (25, 1, .iadd, []),
  (26, 3, .putfield 521, [(12, 55)]),
  (29, 2, .iload 4, []),
  (31, 1, .iconst 1, [(1, 0)]),
  (32, 3, .if_icmp .le 46, [(78, 0)]),
  (35, 1, .aload_n 0, [(0, 0)]),
  (36, 1, .dup, []),
  (37, 3, .getfield 524, [(12, 56)]),
  (40, 1, .iconst 1, [(1, 0)]),
  (41, 1, .iadd, []),
  (42, 3, .putfield 524, [(12, 56)]),
  (45, 1, .aload_n 0, [(0, 0)]),
  (46, 1, .aload_n 0, [(0, 0)]),
  (47, 3, .getfield 527, [(12, 57)]),
  (50, 2, .bipush (-2), [(2, 1)]),
  (52, 3, .if_icmp .eq 13, [(65, 0)]),
  (55, 1, .iload_n 3, [(3, 0)]),
  (56, 1, .iload_n 2, [(2, 0)]),
  (57, 1, .isub, []),
  (58, 1, .aload_n 0, [(0, 0)]),
  (59, 3, .getfield 527, [(12, 57)]),
  (62, 3, .if_icmp .ge 9, [(71, 0)]),
  (65, 1, .iload_n 3, [(3, 0)]),
  (66, 1, .iload_n 2, [(2, 0)]),
  (67, 1, .isub, []),
  (68, 3, .goto 7, [(75, 0)]),
  (71, 1, .aload_n 0, [(0, 0)]),
  (72, 3, .getfield 527, [(12, 57)]),
  (75, 3, .putfield 527, [(12, 57)]),
  (78, 1, .return_, [])]
/-- PackedForestModel.countsNode (III)V -/
def zt293 : zzT := (⟨"PackedForestModel", "countsNode", "(III)V"⟩, prog_14_method_123_code, 5, none, 0, zr293)
def zr294 : List zzI := [(0, 1, .aload_n 0, [(0, 0)]),
  (1, 3, .invokevirtual 512, [(288, 0), (0, 0), (12, 0)]),
  (4, 1, .aload_n 0, [(0, 0)]),
  (5, 1, .iconst 0, [(0, 0)]),
  (6, 3, .putfield 530, [(12, 54)]),
  (9, 1, .aload_n 0, [(0, 0)]),
  (10, 1, .iconst 0, [(0, 0)]),
  (11, 3, .putfield 521, [(12, 55)]),
  (14, 1, .aload_n 0, [(0, 0)]),
  (15, 1, .iconst 0, [(0, 0)]),
  (16, 3, .putfield 524, [(12, 56)]),
  (19, 1, .aload_n 0, [(0, 0)]),
  (20, 2, .bipush (-2), [(2, 1)]),
  (22, 3, .putfield 527, [(12, 57)]),
  (25, 1, .iconst 0, [(0, 0)]),
  (26, 1, .istore_n 1, [(1, 0)]),
  (27, 0, .nop, [(0, 3), (1, 1)]),
  (27, 1, .iload_n 1, [(1, 0)]),
  (28, 3, .sipush 2028, [(2028, 0)]),
  (31, 3, .if_icmp .ge 32, [(63, 0)]),
  (34, 1, .aload_n 0, [(0, 0)]),
  (35, 1, .dup, []),
  (36, 3, .getfield 530, [(12, 54)]),
  (39, 1, .aload_n 0, [(0, 0)]),
  (40, 3, .getfield 124, [(12, 51)]),
  (43, 1, .iload_n 1, [(1, 0)]),
  (44, 1, .baload, []),
  (45, 3, .ifCond .eq 7, [(52, 0)]),
  (48, 1, .iconst 1, [(1, 0)]),
  (49, 3, .goto 4, [(53, 0)]),
  (52, 1, .iconst 0, [(0, 0)]),
  (53, 1, .iadd, []),
  (54, 3, .putfield 530, [(12, 54)]),
  (57, 3, .iinc 1 1, [(1, 0)]),
  (60, 3, .goto (-33), [(27, 0)]),
  (63, 2, .bipush 26, [(26, 0)]),
  (65, 1, .istore_n 1, [(1, 0)]),
  (66, 0, .nop, [(0, 3), (1, 1)]),
  (66, 1, .iload_n 1, [(1, 0)]),
  (67, 2, .bipush 52, [(52, 0)]),
  (69, 3, .if_icmp .ge 60, [(129, 0)]),
  (72, 1, .iconst 0, [(0, 0)]),
  (73, 1, .istore_n 2, [(2, 0)]),
  (74, 0, .nop, [(0, 3), (1, 1), (2, 1)]),
  (74, 1, .iload_n 2, [(2, 0)]),
  (75, 1, .aload_n 0, [(0, 0)]),
  (76, 3, .getfield 9, [(12, 1)]),
  (79, 1, .iconst 2, [(2, 0)]),
  (80, 1, .iaload, []),
  (81, 3, .if_icmp .gt 42, [(123, 0)]),
  (84, 1, .aload_n 0, [(0, 0)]),
  (85, 1, .iload_n 1, [(1, 0)]),
  (86, 3, .invokevirtual 322, [(179, 1), (4, 0), (12, 0)]),
  (89, 3, .ifCond .eq 34, [(123, 0)]),
  (92, 1, .iload_n 2, [(2, 0)]),
  (93, 1, .istore_n 3, [(3, 0)]),
  (94, 0, .nop, [(0, 3), (1, 1), (2, 1), (3, 1)]),
  (94, 1, .iload_n 3, [(3, 0)]),
  (95, 1, .aload_n 0, [(0, 0)]),
  (96, 3, .getfield 9, [(12, 1)]),
  (99, 1, .iconst 2, [(2, 0)]),
  (100, 1, .iaload, []),
  (101, 3, .if_icmp .gt 16, [(117, 0)]),
  (104, 1, .aload_n 0, [(0, 0)]),
  (105, 1, .iload_n 1, [(1, 0)]),
  (106, 1, .iload_n 2, [(2, 0)]),
  (107, 1, .iload_n 3, [(3, 0)]),
  (108, 3, .invokevirtual 533, [(293, 3), (0, 0), (12, 0)]),
  (111, 3, .iinc 3 1, [(1, 0)]),
  (114, 3, .goto (-20), [(94, 0)]),
  (117, 3, .iinc 2 1, [(1, 0)]),
  (120, 3, .goto (-46), [(74, 0)]),
  (123, 3, .iinc 1 1, [(1, 0)]),
  (126, 3, .goto (-60), [(66, 0)]),
  (129, 1, .return_, [])]
/-- PackedForestModel.countsForest ()V -/
def zt294 : zzT := (⟨"PackedForestModel", "countsForest", "()V"⟩, prog_14_method_124_code, 4, none, 0, zr294)
def zr295 : List zzI := [(0, 1, .aload_n 0, [(0, 0)]),
  (1, 3, .invokevirtual 298, [(175, 0), (4, 0), (12, 0)]),
  (4, 3, .ifCond .eq 15, [(19, 0)]),
  (7, 1, .iload_n 1, [(1, 0)]),
  (8, 1, .i2l, []),
  (9, 1, .lconst 0, [(0, 0)]),
  (10, 3, .ldc2_w 536, [(3, 0)]),
  (13, 3, .invokestatic 158, [(173, 3), (4, 0)]),
  (16, 3, .ifCond .ne 5, [(21, 0)]),
  (19, 1, .iconst (-1), [(1, 1)]),
  (20, 1, .ireturn, []),
  (21, 1, .aload_n 0, [(0, 0)]),
  (22, 3, .invokevirtual 538, [(294, 0), (0, 0), (12, 0)]),
  (25, 1, .iload_n 1, [(1, 0)]),
  (26, 3, .ifCond .ne 10, [(36, 0)]),
  (29, 1, .aload_n 0, [(0, 0)]),
  (30, 3, .getfield 530, [(12, 54)]),
  (33, 3, .goto 31, [(64, 0)]),
  (36, 1, .iload_n 1, [(1, 0)]),
  (37, 1, .iconst 1, [(1, 0)]),
  (38, 3, .if_icmp .ne 10, [(48, 0)]),
  (41, 1, .aload_n 0, [(0, 0)]),
  (42, 3, .getfield 521, [(12, 55)]),
  (45, 3, .goto 19, [(64, 0)]),
  (48, 1, .iload_n 1, [(1, 0)]),
  (49, 1, .iconst 2, [(2, 0)]),
  (50, 3, .if_icmp .ne 10, [(60, 0)]),
  (53, 1, .aload_n 0, [(0, 0)]),
  (54, 3, .getfield 524, [(12, 56)]),
  (57, 3, .goto 7, [(64, 0)]),
  (60, 1, .aload_n 0, [(0, 0)]),
  (61, 3, .getfield 527, [(12, 57)]),
  (64, 1, .ireturn, [])]
/-- PackedForestModel.forest (I)I -/
def zt295 : zzT := (⟨"PackedForestModel", "forest", "(I)I"⟩, prog_14_method_125_code, 2, (some .int), 1, zr295)
def zr296 : List zzI := [(0, 1, .iconst (-1), [(1, 1)]),
  (1, 2, .istore 5, []),
  (3, 1, .iconst 0, [(0, 0)]),
  (4, 2, .istore 6, []),
  (6, 0, .nop, [(0, 3), (1, 1), (2, 1), (3, 1), (4, 1), (5, 1), (6, 1)]),
  (6, 2, .iload 6, []),
  (8, 1, .aload_n 0, [(0, 0)]),
  (9, 3, .getfield 9, [(12, 1)]),
  (12, 1, .iconst 0, [(0, 0)]),
  (13, 1, .iaload, []),
  (14, 3, .if_icmp .ge 84, [(98, 0)]),
  (17, 1, .aload_n 0, [(0, 0)]),
  (18, 3, .getfield 133, [(12, 58)]),
  (21, 2, .iload 6, []),
  (23, 1, .iload_n 3, [(3, 0)]),
  (24, 2, .iload 4, []),
  (26, 3, .invokestatic 420, [(252, 3), (1, 0)]),
  (29, 1, .iaload, []),
  (30, 3, .ldc_w 331, [(2000000000, 0)]),
  (33, 3, .if_icmp .ge 59, [(92, 0)]),
  (36, 1, .aload_n 0, [(0, 0)]),
  (37, 1, .iconst 1, [(1, 0)]),
  (38, 1, .iload_n 1, [(1, 0)]),
  (39, 1, .iload_n 2, [(2, 0)]),
  (40, 2, .iload 6, []),
  (42, 3, .invokevirtual 424, [(253, 4), (4, 0), (12, 0)]),
  (45, 3, .ifCond .eq 47, [(92, 0)]),
  (48, 2, .iload 5, []),
  (50, 1, .iconst (-1), [(1, 1)]),
  (51, 3, .if_icmp .eq 32, [(83, 0)]),
  (54, 1, .aload_n 0, [(0, 0)]),
  (55, 3, .getfield 133, [(12, 58)]),
  (58, 2, .iload 6, []),
  (60, 1, .iload_n 3, [(3, 0)]),
  (61, 2, .iload 4, []),
  (63, 3, .invokestatic 420, [(252, 3), (1, 0)]),
  (66, 1, .iaload, []),
  (67, 1, .aload_n 0, [(0, 0)]),
  (68, 3, .getfield 133, [(12, 58)]),
  (71, 2, .iload 5, []),
  (73, 1, .iload_n 3, [(3, 0)]),
  (74, 2, .iload 4, []),
  (76, 3, .invokestatic 420, [(252, 3), (1, 0)]),
  (79, 1, .iaload, []),
  (80, 3, .if_icmp .ge 8, [(88, 0)]),
  (83, 2, .iload 6, []),
  (85, 3, .goto 5, [(90, 0)]),
  (88, 2, .iload 5, []),
  (90, 2, .istore 5, []),
  (92, 3, .iinc 6 1, [(1, 0)]),
  (95, 3, .goto (-89), [(6, 0)]),
  (98, 2, .iload 5, []),
  (100, 1, .ireturn, [])]
/-- PackedForestModel.leastBelow (IIII)I -/
def zt296 : zzT := (⟨"PackedForestModel", "leastBelow", "(IIII)I"⟩, prog_14_method_126_code, 7, (some .int), 1, zr296)
def zr297 : List zzI := [(0, 1, .aload_n 0, [(0, 0)]),
  (1, 1, .iload_n 1, [(1, 0)]),
  (2, 1, .iload_n 2, [(2, 0)]),
  (3, 3, .invokevirtual 413, [(255, 2), (4, 0), (12, 0)]),
  (6, 3, .ifCond .ne 23, [(29, 0)]),
  (9, 1, .aload_n 0, [(0, 0)]),
  (10, 1, .iload_n 1, [(1, 0)]),
  (11, 1, .iload_n 2, [(2, 0)]),
  (12, 1, .iload_n 3, [(3, 0)]),
  (13, 2, .iload 4, []),
  (15, 3, .invokevirtual 416, [(254, 4), (4, 0), (12, 0)]),
  (18, 3, .ifCond .eq 7, [(25, 0)]),
  (21, 1, .iconst 0, [(0, 0)]),
  (22, 3, .goto 6, [(28, 0)]),
  (25, 3, .ldc_w 331, [(2000000000, 0)]),
  (28, 1, .ireturn, []),
  (29, 1, .aload_n 0, [(0, 0)]),
  (30, 1, .iload_n 1, [(1, 0)]),
  (31, 1, .iload_n 2, [(2, 0)]),
  (32, 1, .iload_n 3, [(3, 0)]),
  (33, 2, .iload 4, []),
  (35, 3, .invokevirtual 541, [(296, 4), (1, 0), (12, 0)]),
  (38, 2, .istore 5, []),
  (40, 2, .iload 5, []),
  (42, 1, .iconst (-1), [(1, 1)]),
  (43, 3, .if_icmp .ne 9, [(52, 0)]),
  (46, 3, .ldc_w 331, [(2000000000, 0)]),
  (49, 3, .goto 16, [(65, 0)]),
  (52, 1, .aload_n 0, [(0, 0)]),
  (53, 3, .getfield 133, [(12, 58)]),
  (56, 2, .iload 5, []),
  (58, 1, .iload_n 3, [(3, 0)]),
  (59, 2, .iload 4, []),
  (61, 3, .invokestatic 420, [(252, 3), (1, 0)]),
  (64, 1, .iaload, []),
  (65, 1, .ireturn, [])]
/-- PackedForestModel.sizeBelow (IIII)I -/
def zt297 : zzT := (⟨"PackedForestModel", "sizeBelow", "(IIII)I"⟩, prog_14_method_127_code, 6, (some .int), 1, zr297)
def zr298 : List zzI := [(0, 1, .aload_n 0, [(0, 0)]),
  (1, 3, .getfield 16, [(12, 3)]),
  (4, 1, .iload_n 1, [(1, 0)]),
  (5, 1, .iaload, []),
  (6, 2, .istore 4, []),
  (8, 0, .nop, [(0, 3), (1, 1), (2, 1), (3, 1), (4, 1)]),
  (8, 2, .iload 4, []),
  (10, 3, .ifCond .lt 157, [(167, 0)]),
  (13, 1, .iload_n 2, [(2, 0)]),
  (14, 2, .istore 5, []),
  (16, 0, .nop, [(0, 3), (1, 1), (2, 1), (3, 1), (4, 1), (5, 1)]),
  (16, 2, .iload 5, []),
  (18, 1, .iload_n 3, [(3, 0)]),
  (19, 3, .if_icmp .gt 142, [(161, 0)]),
  (22, 2, .iload 4, []),
  (24, 1, .aload_n 0, [(0, 0)]),
  (25, 3, .getfield 16, [(12, 3)]),
  (28, 1, .iload_n 1, [(1, 0)]),
  (29, 1, .iaload, []),
  (30, 3, .if_icmp .ne 13, [(43, 0)]),
  (33, 2, .iload 5, []),
  (35, 1, .iload_n 3, [(3, 0)]),
  (36, 3, .if_icmp .ne 7, [(43, 0)]),
  (39, 1, .iconst 0, [(0, 0)]),
  (40, 3, .goto 6, [(46, 0)]),
  (43, 3, .ldc_w 331, [(2000000000, 0)]),
  (46, 2, .istore 6, []),
  (48, 2, .iload 5, []),
  (50, 2, .istore 7, []),
  (52, 0, .nop, [(0, 3), (1, 1), (2, 1), (3, 1), (4, 1), (5, 1), (6, 1), (7, 1)]),
  (52, 2, .iload 7, []),
  (54, 1, .iload_n 3, [(3, 0)]),
  (55, 3, .if_icmp .gt 85, [(140, 0)]),
  (58, 2, .iload 4, []),
  (60, 1, .aload_n 0, [(0, 0)]),
  (61, 3, .getfield 16, [(12, 3)]),
  (64, 1, .iload_n 1, [(1, 0)]),
  (65, 1, .iaload, []),
  (66, 3, .if_icmp .ge 74, [(140, 0)]),
  (69, 1, .aload_n 0, [(0, 0)]),
  (70, 3, .getfield 136, [(12, 59)]),
  (73, 2, .bipush 13, [(13, 0)]),
  (75, 2, .iload 4, []),
  (77, 1, .iconst 1, [(1, 0)]),
  (78, 1, .iadd, []),
  (79, 1, .imul, []),
  (80, 2, .iload 7, []),
  (82, 1, .iadd, []),
  (83, 1, .iaload, []),
  (84, 2, .istore 8, []),
  (86, 2, .iload 8, []),
  (88, 3, .ldc_w 331, [(2000000000, 0)]),
  (91, 3, .if_icmp .ge 22, [(113, 0)]),
  (94, 1, .aload_n 0, [(0, 0)]),
  (95, 1, .iload_n 1, [(1, 0)]),
  (96, 2, .iload 4, []),
  (98, 2, .iload 5, []),
  (100, 2, .iload 7, []),
  (102, 3, .invokevirtual 544, [(297, 4), (1, 0), (12, 0)]),
  (105, 2, .iload 8, []),
  (107, 3, .invokestatic 328, [(219, 2), (1, 0)]),
  (110, 3, .goto 6, [(116, 0)]),
  (113, 3, .ldc_w 331, [(2000000000, 0)]),
  (116, 2, .istore 9, []),
  (118, 2, .iload 9, []),
  (120, 2, .iload 6, []),
  (122, 3, .if_icmp .ge 8, [(130, 0)]),
  (125, 2, .iload 9, []),
  (127, 3, .goto 5, [(132, 0)]),
  (130, 2, .iload 6, []),
  (132, 2, .istore 6, []),
  (134, 3, .iinc 7 1, [(1, 0)]),
  (137, 3, .goto (-85), [(52, 0)]),
  (140, 1, .aload_n 0, [(0, 0)]),
  (141, 3, .getfield 136, [(12, 59)]),
  (144, 2, .bipush 13, [(13, 0)]),
  (146, 2, .iload 4, []),
  (148, 1, .imul, []),
  (149, 2, .iload 5, []),
  (151, 1, .iadd, []),
  (152, 2, .iload 6, []),
  (154, 1, .iastore, []),
  (155, 3, .iinc 5 1, [(1, 0)]),
  (158, 3, .goto (-142), [(16, 0)]),
  (161, 3, .iinc 4 (-1), [(1, 1)]),
  (164, 3, .goto (-156), [(8, 0)]),
  (167, 1, .return_, [])]
/-- PackedForestModel.laysSizes (III)V -/
def zt298 : zzT := (⟨"PackedForestModel", "laysSizes", "(III)V"⟩, prog_14_method_128_code, 10, none, 0, zr298)
def zr299 : List zzI := [(0, 1, .iconst 0, [(0, 0)]),
  (1, 1, .istore_n 2, [(2, 0)]),
  (2, 1, .iconst 0, [(0, 0)]),
  (3, 1, .istore_n 3, [(3, 0)]),
  (4, 0, .nop, [(0, 3), (1, 1), (2, 1), (3, 1)]),
  (4, 1, .iload_n 3, [(3, 0)]),
  (5, 1, .iload_n 1, [(1, 0)]),
  (6, 1, .iadd, []),
  (7, 1, .aload_n 0, [(0, 0)]),
  (8, 3, .getfield 9, [(12, 1)]),
  (11, 1, .iconst 2, [(2, 0)]),
  (12, 1, .iaload, []),
  (13, 3, .if_icmp .gt 129, [(142, 0)]),
  (16, 1, .iconst 0, [(0, 0)]),
  (17, 2, .istore 4, []),
  (19, 0, .nop, [(0, 3), (1, 1), (2, 1), (3, 1), (4, 1)]),
  (19, 2, .iload 4, []),
  (21, 1, .aload_n 0, [(0, 0)]),
  (22, 3, .getfield 9, [(12, 1)]),
  (25, 1, .iconst 0, [(0, 0)]),
  (26, 1, .iaload, []),
  (27, 3, .if_icmp .ge 109, [(136, 0)]),
  (30, 2, .iload 4, []),
  (32, 1, .iload_n 3, [(3, 0)]),
  (33, 1, .iload_n 3, [(3, 0)]),
  (34, 1, .iload_n 1, [(1, 0)]),
  (35, 1, .iadd, []),
  (36, 3, .invokestatic 420, [(252, 3), (1, 0)]),
  (39, 2, .istore 5, []),
  (41, 1, .aload_n 0, [(0, 0)]),
  (42, 3, .getfield 96, [(12, 42)]),
  (45, 3, .sipush 2028, [(2028, 0)]),
  (48, 2, .iload 5, []),
  (50, 1, .iadd, []),
  (51, 1, .baload, []),
  (52, 3, .ifCond .eq 78, [(130, 0)]),
  (55, 1, .aload_n 0, [(0, 0)]),
  (56, 2, .iload 4, []),
  (58, 1, .iload_n 3, [(3, 0)]),
  (59, 1, .iload_n 3, [(3, 0)]),
  (60, 1, .iload_n 1, [(1, 0)]),
  (61, 1, .iadd, []),
  (62, 3, .invokevirtual 547, [(298, 3), (0, 0), (12, 0)]),
  (65, 1, .iconst 1, [(1, 0)]),
  (66, 1, .aload_n 0, [(0, 0)]),
  (67, 3, .getfield 136, [(12, 59)]),
  (70, 1, .iload_n 3, [(3, 0)]),
  (71, 1, .iaload, []),
  (72, 3, .invokestatic 328, [(219, 2), (1, 0)]),
  (75, 2, .istore 6, []),
  (77, 1, .iload_n 2, [(2, 0)]),
  (78, 3, .ifCond .ne 15, [(93, 0)]),
  (81, 2, .iload 6, []),
  (83, 1, .aload_n 0, [(0, 0)]),
  (84, 3, .getfield 133, [(12, 58)]),
  (87, 2, .iload 5, []),
  (89, 1, .iaload, []),
  (90, 3, .if_icmp .ge 7, [(97, 0)]),
  (93, 1, .iconst 1, [(1, 0)]),
  (94, 3, .goto 4, [(98, 0)]),
  (97, 1, .iconst 0, [(0, 0)]),
  (98, 1, .istore_n 2, [(2, 0)]),
  (99, 1, .aload_n 0, [(0, 0)]),
  (100, 3, .getfield 133, [(12, 58)]),
  (103, 2, .iload 5, []),
  (105, 2, .iload 6, []),
  (107, 1, .aload_n 0, [(0, 0)]),
  (108, 3, .getfield 133, [(12, 58)]),
  (111, 2, .iload 5, []),
  (113, 1, .iaload, []),
  (114, 3, .if_icmp .ge 8, [(122, 0)]),
  (117, 2, .iload 6, []),
  (119, 3, .goto 10, [(129, 0)]),
  (122, 1, .aload_n 0, [(0, 0)]),
  (123, 3, .getfield 133, [(12, 58)]),
  (126, 2, .iload 5, []),
  (128, 1, .iaload, []),
  (129, 1, .iastore, []),
  (130, 3, .iinc 4 1, [(1, 0)]),
  (133, 3, .goto (-114), [(19, 0)]),
  (136, 3, .iinc 3 1, [(1, 0)]),
  (139, 3, .goto (-135), [(4, 0)]),
  (142, 1, .iload_n 2, [(2, 0)]),
  (143, 1, .ireturn, [])]
/-- PackedForestModel.shrinks (I)Z -/
def zt299 : zzT := (⟨"PackedForestModel", "shrinks", "(I)Z"⟩, prog_14_method_129_code, 7, (some .boolean), 4, zr299)
def zr300 : List zzI := [(0, 1, .aload_n 0, [(0, 0)]),
  (1, 3, .getfield 245, [(12, 36)]),
  (4, 2, .bipush 64, [(64, 0)]),
  (6, 1, .iand, []),
  (7, 3, .ifCond .eq 4, [(11, 0)]),
  (10, 1, .return_, []),
  (11, 1, .aload_n 0, [(0, 0)]),
  (12, 1, .iconst 1, [(1, 0)]),
  (13, 3, .invokevirtual 443, [(261, 1), (0, 0), (12, 0)]),
  (16, 1, .iconst 0, [(0, 0)]),
  (17, 1, .istore_n 1, [(1, 0)]),
  (18, 0, .nop, [(0, 3), (1, 1)]),
  (18, 1, .iload_n 1, [(1, 0)]),
  (19, 3, .sipush 2028, [(2028, 0)]),
  (22, 3, .if_icmp .ge 18, [(40, 0)]),
  (25, 1, .aload_n 0, [(0, 0)]),
  (26, 3, .getfield 133, [(12, 58)]),
  (29, 1, .iload_n 1, [(1, 0)]),
  (30, 3, .ldc_w 331, [(2000000000, 0)]),
  (33, 1, .iastore, []),
  (34, 3, .iinc 1 1, [(1, 0)]),
  (37, 3, .goto (-19), [(18, 0)]),
  (40, 1, .iconst 0, [(0, 0)]),
  (41, 1, .istore_n 1, [(1, 0)]),
  (42, 0, .nop, [(0, 3), (1, 1)]),
  (42, 1, .iload_n 1, [(1, 0)]),
  (43, 1, .aload_n 0, [(0, 0)]),
  (44, 3, .getfield 9, [(12, 1)]),
  (47, 1, .iconst 2, [(2, 0)]),
  (48, 1, .iaload, []),
  (49, 3, .if_icmp .gt 24, [(73, 0)]),
  (52, 1, .iconst 1, [(1, 0)]),
  (53, 1, .istore_n 2, [(2, 0)]),
  (54, 0, .nop, [(0, 3), (1, 1), (2, 1)]),
  (54, 1, .iload_n 2, [(2, 0)]),
  (55, 3, .ifCond .eq 12, [(67, 0)]),
  (58, 1, .aload_n 0, [(0, 0)]),
  (59, 1, .iload_n 1, [(1, 0)]),
  (60, 3, .invokevirtual 550, [(299, 1), (4, 0), (12, 0)]),
  (63, 1, .istore_n 2, [(2, 0)]),
  (64, 3, .goto (-10), [(54, 0)]),
  (67, 3, .iinc 1 1, [(1, 0)]),
  (70, 3, .goto (-28), [(42, 0)]),
  (73, 1, .aload_n 0, [(0, 0)]),
  (74, 1, .dup, []),
  (75, 3, .getfield 245, [(12, 36)]),
  (78, 2, .bipush 64, [(64, 0)]),
  (80, 1, .ior, []),
  (81, 3, .putfield 245, [(12, 36)]),
  (84, 1, .return_, [])]
/-- PackedForestModel.laysSmallest ()V -/
def zt300 : zzT := (⟨"PackedForestModel", "laysSmallest", "()V"⟩, prog_14_method_130_code, 3, none, 0, zr300)
def zr301 : List zzI := [(0, 1, .iconst (-1), [(1, 1)]),
  (1, 1, .istore_n 1, [(1, 0)]),
  (2, 1, .iconst 0, [(0, 0)]),
  (3, 1, .istore_n 2, [(2, 0)]),
  (4, 0, .nop, [(0, 3), (1, 1), (2, 1)]),
  (4, 1, .iload_n 2, [(2, 0)]),
  (5, 1, .aload_n 0, [(0, 0)]),
  (6, 3, .getfield 9, [(12, 1)]),
  (9, 1, .iconst 0, [(0, 0)]),
  (10, 1, .iaload, []),
  (11, 3, .if_icmp .ge 84, [(95, 0)]),
  (14, 1, .iload_n 2, [(2, 0)]),
  (15, 1, .iconst 0, [(0, 0)]),
  (16, 1, .aload_n 0, [(0, 0)]),
  (17, 3, .getfield 9, [(12, 1)]),
  (20, 1, .iconst 2, [(2, 0)]),
  (21, 1, .iaload, []),
  (22, 3, .invokestatic 420, [(252, 3), (1, 0)]),
  (25, 1, .istore_n 3, [(3, 0)]),
  (26, 1, .aload_n 0, [(0, 0)]),
  (27, 3, .getfield 13, [(12, 2)]),
  (30, 1, .iload_n 2, [(2, 0)]),
  (31, 1, .iaload, []),
  (32, 1, .aload_n 0, [(0, 0)]),
  (33, 3, .getfield 9, [(12, 1)]),
  (36, 1, .iconst 1, [(1, 0)]),
  (37, 1, .iaload, []),
  (38, 3, .if_icmp .ne 51, [(89, 0)]),
  (41, 1, .aload_n 0, [(0, 0)]),
  (42, 3, .getfield 133, [(12, 58)]),
  (45, 1, .iload_n 3, [(3, 0)]),
  (46, 1, .iaload, []),
  (47, 3, .ldc_w 331, [(2000000000, 0)]),
  (50, 3, .if_icmp .ge 39, [(89, 0)]),
  (53, 1, .iload_n 1, [(1, 0)]),
  (54, 1, .iconst (-1), [(1, 1)]),
  (55, 3, .if_icmp .eq 28, [(83, 0)]),
  (58, 1, .aload_n 0, [(0, 0)]),
  (59, 3, .getfield 133, [(12, 58)]),
  (62, 1, .iload_n 3, [(3, 0)]),
  (63, 1, .iaload, []),
  (64, 1, .aload_n 0, [(0, 0)]),
  (65, 3, .getfield 133, [(12, 58)]),
  (68, 1, .iload_n 1, [(1, 0)]),
  (69, 1, .iconst 0, [(0, 0)]),
  (70, 1, .aload_n 0, [(0, 0)]),
  (71, 3, .getfield 9, [(12, 1)]),
  (74, 1, .iconst 2, [(2, 0)]),
  (75, 1, .iaload, []),
  (76, 3, .invokestatic 420, [(252, 3), (1, 0)]),
  (79, 1, .iaload, []),
  (80, 3, .if_icmp .ge 7, [(87, 0)]),
  (83, 1, .iload_n 2, [(2, 0)]),
  (84, 3, .goto 4, [(88, 0)]),
  (87, 1, .iload_n 1, [(1, 0)]),
  (88, 1, .istore_n 1, [(1, 0)]),
  (89, 3, .iinc 2 1, [(1, 0)]),
  (92, 3, .goto (-88), [(4, 0)]),
  (95, 1, .iload_n 1, [(1, 0)]),
  (96, 1, .ireturn, [])]
/-- PackedForestModel.leastRule ()I -/
def zt301 : zzT := (⟨"PackedForestModel", "leastRule", "()I"⟩, prog_14_method_131_code, 4, (some .int), 1, zr301)
def zr302 : List zzI := [(0, 1, .aload_n 0, [(0, 0)]),
  (1, 3, .invokevirtual 298, [(175, 0), (4, 0), (12, 0)]),
  (4, 3, .ifCond .ne 5, [(9, 0)]),
  (7, 1, .iconst (-1), [(1, 1)]),
  (8, 1, .ireturn, []),
  (9, 1, .aload_n 0, [(0, 0)]),
  (10, 3, .invokevirtual 553, [(300, 0), (0, 0), (12, 0)]),
  (13, 1, .aload_n 0, [(0, 0)]),
  (14, 3, .invokevirtual 556, [(301, 0), (1, 0), (12, 0)]),
  (17, 1, .istore_n 1, [(1, 0)]),
  (18, 1, .iload_n 1, [(1, 0)]),
  (19, 1, .iconst (-1), [(1, 1)]),
  (20, 3, .if_icmp .ne 8, [(28, 0)]),
  (23, 2, .bipush (-2), [(2, 1)]),
  (25, 3, .goto 19, [(44, 0)]),
  (28, 1, .aload_n 0, [(0, 0)]),
  (29, 3, .getfield 133, [(12, 58)]),
  (32, 1, .iload_n 1, [(1, 0)]),
  (33, 1, .iconst 0, [(0, 0)]),
  (34, 1, .aload_n 0, [(0, 0)]),
  (35, 3, .getfield 9, [(12, 1)]),
  (38, 1, .iconst 2, [(2, 0)]),
  (39, 1, .iaload, []),
  (40, 3, .invokestatic 420, [(252, 3), (1, 0)]),
  (43, 1, .iaload, []),
  (44, 1, .ireturn, [])]
/-- PackedForestModel.smallest ()I -/
def zt302 : zzT := (⟨"PackedForestModel", "smallest", "()I"⟩, prog_14_method_132_code, 2, (some .int), 1, zr302)
def zr303 : List zzI := [(0, 1, .aload_n 0, [(0, 0)]),
  (1, 3, .getfield 559, [(12, 60)]),
  (4, 1, .istore_n 1, [(1, 0)]),
  (5, 1, .aload_n 0, [(0, 0)]),
  (6, 3, .getfield 562, [(12, 62)]),
  (9, 1, .istore_n 2, [(2, 0)]),
  (10, 1, .aload_n 0, [(0, 0)]),
  (11, 3, .getfield 565, [(12, 61)]),
  (14, 1, .istore_n 3, [(3, 0)]),
  (15, 1, .aload_n 0, [(0, 0)]),
  (16, 1, .iload_n 1, [(1, 0)]),
  (17, 1, .iload_n 3, [(3, 0)]),
  (18, 1, .iload_n 2, [(2, 0)]),
  (19, 3, .invokevirtual 547, [(298, 3), (0, 0), (12, 0)]),
  (22, 1, .aload_n 0, [(0, 0)]),
  (23, 1, .dup, []),
  (24, 3, .getfield 568, [(12, 63)]),
  (27, 1, .iconst 1, [(1, 0)]),
  (28, 1, .isub, []),
  (29, 3, .putfield 568, [(12, 63)]),
  (32, 1, .iconst 0, [(0, 0)]),
  (33, 2, .istore 4, []),
  (35, 1, .iconst 0, [(0, 0)]),
  (36, 2, .istore 5, []),
  (38, 0, .nop, [(0, 3), (1, 1), (2, 1), (3, 1), (4, 1), (5, 1)]),
  (38, 2, .iload 5, []),
  (40, 1, .aload_n 0, [(0, 0)]),
  (41, 3, .getfield 16, [(12, 3)]),
  (44, 1, .iload_n 1, [(1, 0)]),
  (45, 1, .iaload, []),
  (46, 3, .if_icmp .ge 137, [(183, 0)]),
  (49, 2, .iload 4, []),
  (51, 3, .ifCond .ne 132, [(183, 0)]),
  (54, 1, .aload_n 0, [(0, 0)]),
  (55, 1, .iload_n 1, [(1, 0)]),
  (56, 2, .iload 5, []),
  (58, 1, .iload_n 3, [(3, 0)]),
  (59, 1, .iload_n 2, [(2, 0)]),
  (60, 3, .invokevirtual 571, [(304, 4), (1, 0), (12, 0)]),
  (63, 2, .istore 6, []),
  (65, 1, .aload_n 0, [(0, 0)]),
  (66, 1, .iload_n 1, [(1, 0)]),
  (67, 2, .iload 5, []),
  (69, 3, .invokevirtual 413, [(255, 2), (4, 0), (12, 0)]),
  (72, 3, .ifCond .eq 16, [(88, 0)]),
  (75, 1, .aload_n 0, [(0, 0)]),
  (76, 1, .iload_n 1, [(1, 0)]),
  (77, 2, .iload 5, []),
  (79, 1, .iload_n 3, [(3, 0)]),
  (80, 2, .iload 6, []),
  (82, 3, .invokevirtual 541, [(296, 4), (1, 0), (12, 0)]),
  (85, 3, .goto 4, [(89, 0)]),
  (88, 1, .iconst (-1), [(1, 1)]),
  (89, 2, .istore 7, []),
  (91, 2, .iload 7, []),
  (93, 1, .iconst (-1), [(1, 1)]),
  (94, 3, .if_icmp .ne 7, [(101, 0)]),
  (97, 1, .iconst 0, [(0, 0)]),
  (98, 3, .goto 16, [(114, 0)]),
  (101, 1, .aload_n 0, [(0, 0)]),
  (102, 3, .getfield 133, [(12, 58)]),
  (105, 2, .iload 7, []),
  (107, 1, .iload_n 3, [(3, 0)]),
  (108, 2, .iload 6, []),
  (110, 3, .invokestatic 420, [(252, 3), (1, 0)]),
  (113, 1, .iaload, []),
  (114, 2, .istore 8, []),
  (116, 1, .aload_n 0, [(0, 0)]),
  (117, 3, .getfield 568, [(12, 63)]),
  (120, 2, .iload 8, []),
  (122, 3, .if_icmp .ge 7, [(129, 0)]),
  (125, 1, .iconst 1, [(1, 0)]),
  (126, 3, .goto 4, [(130, 0)]),
  (129, 1, .iconst 0, [(0, 0)]),
  (130, 2, .istore 4, []),
  (132, 1, .aload_n 0, [(0, 0)]),
  (133, 1, .dup, []),
  (134, 3, .getfield 568, [(12, 63)]),
  (137, 2, .iload 4, []),
  (139, 3, .ifCond .eq 7, [(146, 0)]),
  (142, 1, .iconst 0, [(0, 0)]),
  (143, 3, .goto 5, [(148, 0)]),
  (146, 2, .iload 8, []),
  (148, 1, .isub, []),
  (149, 3, .putfield 568, [(12, 63)]),
  (152, 2, .iload 4, []),
  (154, 3, .ifCond .eq 20, [(174, 0)]),
  (157, 1, .aload_n 0, [(0, 0)]),
  (158, 2, .iload 7, []),
  (160, 3, .putfield 559, [(12, 60)]),
  (163, 1, .aload_n 0, [(0, 0)]),
  (164, 1, .iload_n 3, [(3, 0)]),
  (165, 3, .putfield 565, [(12, 61)]),
  (168, 1, .aload_n 0, [(0, 0)]),
  (169, 2, .iload 6, []),
  (171, 3, .putfield 562, [(12, 62)]),
  (174, 2, .iload 6, []),
  (176, 1, .istore_n 3, [(3, 0)]),
  (177, 3, .iinc 5 1, [(1, 0)]),
  (180, 3, .goto (-142), [(38, 0)]),
  (183, 1, .return_, [])]
/-- PackedForestModel.goesBelow ()V -/
def zt303 : zzT := (⟨"PackedForestModel", "goesBelow", "()V"⟩, prog_14_method_133_code, 9, none, 0, zr303)
def zr304 : List zzI := [(0, 1, .iload_n 3, [(3, 0)]),
  (1, 2, .istore 5, []),
  (3, 0, .nop, [(0, 3), (1, 1), (2, 1), (3, 1), (5, 1)]),
  (3, 1, .aload_n 0, [(0, 0)]),
  (4, 1, .iload_n 1, [(1, 0)]),
  (5, 1, .iload_n 2, [(2, 0)]),
  (6, 1, .iload_n 3, [(3, 0)]),
  (7, 2, .iload 5, []),
  (9, 3, .invokevirtual 544, [(297, 4), (1, 0), (12, 0)]),
  (12, 1, .aload_n 0, [(0, 0)]),
  (13, 3, .getfield 136, [(12, 59)]),
  (16, 2, .bipush 13, [(13, 0)]),
  (18, 1, .iload_n 2, [(2, 0)]),
  (19, 1, .iconst 1, [(1, 0)]),
  (20, 1, .iadd, []),
  (21, 1, .imul, []),
  (22, 2, .iload 5, []),
  (24, 1, .iadd, []),
  (25, 1, .iaload, []),
  (26, 3, .invokestatic 328, [(219, 2), (1, 0)]),
  (29, 1, .aload_n 0, [(0, 0)]),
  (30, 3, .getfield 136, [(12, 59)]),
  (33, 2, .bipush 13, [(13, 0)]),
  (35, 1, .iload_n 2, [(2, 0)]),
  (36, 1, .imul, []),
  (37, 1, .iload_n 3, [(3, 0)]),
  (38, 1, .iadd, []),
  (39, 1, .iaload, []),
  (40, 3, .if_icmp .eq 9, [(49, 0)]),
  (43, 3, .iinc 5 1, [(1, 0)]),
  (46, 3, .goto (-43), [(3, 0)]),
  (49, 2, .iload 5, []),
  (51, 1, .ireturn, [])]
/-- PackedForestModel.endOf (IIII)I -/
def zt304 : zzT := (⟨"PackedForestModel", "endOf", "(IIII)I"⟩, prog_14_method_134_code, 6, (some .int), 1, zr304)
def zr305 : List zzI := [(0, 1, .aload_n 0, [(0, 0)]),
  (1, 3, .invokevirtual 574, [(302, 0), (1, 0), (12, 0)]),
  (4, 1, .istore_n 3, [(3, 0)]),
  (5, 1, .iload_n 1, [(1, 0)]),
  (6, 1, .i2l, []),
  (7, 1, .lconst 0, [(0, 0)]),
  (8, 1, .iload_n 3, [(3, 0)]),
  (9, 1, .iconst 1, [(1, 0)]),
  (10, 1, .isub, []),
  (11, 1, .i2l, []),
  (12, 3, .invokestatic 158, [(173, 3), (4, 0)]),
  (15, 3, .ifCond .eq 15, [(30, 0)]),
  (18, 1, .iload_n 2, [(2, 0)]),
  (19, 1, .i2l, []),
  (20, 1, .lconst 0, [(0, 0)]),
  (21, 3, .ldc2_w 404, [(2, 0)]),
  (24, 3, .invokestatic 158, [(173, 3), (4, 0)]),
  (27, 3, .ifCond .ne 5, [(32, 0)]),
  (30, 1, .iconst (-1), [(1, 1)]),
  (31, 1, .ireturn, []),
  (32, 1, .aload_n 0, [(0, 0)]),
  (33, 1, .aload_n 0, [(0, 0)]),
  (34, 3, .invokevirtual 556, [(301, 0), (1, 0), (12, 0)]),
  (37, 3, .putfield 559, [(12, 60)]),
  (40, 1, .aload_n 0, [(0, 0)]),
  (41, 1, .iconst 0, [(0, 0)]),
  (42, 3, .putfield 565, [(12, 61)]),
  (45, 1, .aload_n 0, [(0, 0)]),
  (46, 1, .aload_n 0, [(0, 0)]),
  (47, 3, .getfield 9, [(12, 1)]),
  (50, 1, .iconst 2, [(2, 0)]),
  (51, 1, .iaload, []),
  (52, 3, .putfield 562, [(12, 62)]),
  (55, 1, .aload_n 0, [(0, 0)]),
  (56, 1, .iload_n 1, [(1, 0)]),
  (57, 3, .putfield 568, [(12, 63)]),
  (60, 0, .nop, [(0, 3), (2, 1)]),
  (60, 1, .aload_n 0, [(0, 0)]),
  (61, 3, .getfield 568, [(12, 63)]),
  (64, 3, .ifCond .le 10, [(74, 0)]),
  (67, 1, .aload_n 0, [(0, 0)]),
  (68, 3, .invokevirtual 577, [(303, 0), (0, 0), (12, 0)]),
  (71, 3, .goto (-11), [(60, 0)]),
  (74, 1, .iload_n 2, [(2, 0)]),
  (75, 3, .ifCond .ne 10, [(85, 0)]),
  (78, 1, .aload_n 0, [(0, 0)]),
  (79, 3, .getfield 559, [(12, 60)]),
  (82, 3, .goto 19, [(101, 0)]),
  (85, 1, .iload_n 2, [(2, 0)]),
  (86, 1, .iconst 1, [(1, 0)]),
  (87, 3, .if_icmp .ne 10, [(97, 0)]),
  (90, 1, .aload_n 0, [(0, 0)]),
  (91, 3, .getfield 565, [(12, 61)]),
  (94, 3, .goto 7, [(101, 0)]),
  (97, 1, .aload_n 0, [(0, 0)]),
  (98, 3, .getfield 562, [(12, 62)]),
  (101, 1, .ireturn, [])]
/-- PackedForestModel.tree (II)I -/
def zt305 : zzT := (⟨"PackedForestModel", "tree", "(II)I"⟩, prog_14_method_135_code, 4, (some .int), 1, zr305)
def zr306 : List zzI := [(0, 1, .aload_n 0, [(0, 0)]),
  (1, 3, .getfield 19, [(12, 4)]),
  (4, 1, .iconst 4, [(4, 0)]),
  (5, 1, .iload_n 1, [(1, 0)]),
  (6, 1, .imul, []),
  (7, 1, .iload_n 2, [(2, 0)]),
  (8, 1, .iadd, []),
  (9, 1, .iaload, []),
  (10, 2, .istore 5, []),
  (12, 3, .ldc_w 331, [(2000000000, 0)]),
  (15, 2, .istore 6, []),
  (17, 2, .iload 5, []),
  (19, 3, .invokestatic 201, [(178, 1), (4, 0)]),
  (22, 3, .ifCond .ne 75, [(97, 0)]),
  (25, 1, .iconst 0, [(0, 0)]),
  (26, 2, .istore 7, []),
  (28, 1, .iload_n 3, [(3, 0)]),
  (29, 2, .istore 8, []),
  (31, 0, .nop, [(0, 3), (3, 1), (4, 1), (5, 1), (7, 1), (8, 1)]),
  (31, 2, .iload 8, []),
  (33, 2, .iload 4, []),
  (35, 3, .if_icmp .ge 33, [(68, 0)]),
  (38, 2, .iload 7, []),
  (40, 3, .ifCond .ne 15, [(55, 0)]),
  (43, 1, .aload_n 0, [(0, 0)]),
  (44, 3, .getfield 28, [(12, 7)]),
  (47, 2, .iload 8, []),
  (49, 1, .iaload, []),
  (50, 2, .iload 5, []),
  (52, 3, .if_icmp .ne 7, [(59, 0)]),
  (55, 1, .iconst 1, [(1, 0)]),
  (56, 3, .goto 4, [(60, 0)]),
  (59, 1, .iconst 0, [(0, 0)]),
  (60, 2, .istore 7, []),
  (62, 3, .iinc 8 1, [(1, 0)]),
  (65, 3, .goto (-34), [(31, 0)]),
  (68, 2, .iload 4, []),
  (70, 1, .iload_n 3, [(3, 0)]),
  (71, 3, .if_icmp .ne 7, [(78, 0)]),
  (74, 1, .iconst 1, [(1, 0)]),
  (75, 3, .goto 21, [(96, 0)]),
  (78, 2, .iload 7, []),
  (80, 3, .ifCond .eq 12, [(92, 0)]),
  (83, 2, .iload 4, []),
  (85, 1, .iload_n 3, [(3, 0)]),
  (86, 1, .isub, []),
  (87, 1, .iconst 1, [(1, 0)]),
  (88, 1, .isub, []),
  (89, 3, .goto 7, [(96, 0)]),
  (92, 2, .iload 4, []),
  (94, 1, .iload_n 3, [(3, 0)]),
  (95, 1, .isub, []),
  (96, 1, .ireturn, []),
  (97, 1, .iconst 0, [(0, 0)]),
  (98, 2, .istore 7, []),
  (100, 0, .nop, [(0, 3), (3, 1), (4, 1), (5, 1), (6, 1), (7, 1)]),
  (100, 2, .iload 7, []),
  (102, 1, .aload_n 0, [(0, 0)]),
  (103, 3, .getfield 9, [(12, 1)]),
  (106, 1, .iconst 0, [(0, 0)]),
  (107, 1, .iaload, []),
  (108, 3, .if_icmp .ge 67, [(175, 0)]),
  (111, 1, .aload_n 0, [(0, 0)]),
  (112, 2, .iload 7, []),
  (114, 3, .invokevirtual 260, [(177, 1), (4, 0), (12, 0)]),
  (117, 3, .ifCond .eq 31, [(148, 0)]),
  (120, 1, .aload_n 0, [(0, 0)]),
  (121, 3, .getfield 13, [(12, 2)]),
  (124, 2, .iload 7, []),
  (126, 1, .iaload, []),
  (127, 2, .iload 5, []),
  (129, 3, .if_icmp .ne 19, [(148, 0)]),
  (132, 1, .aload_n 0, [(0, 0)]),
  (133, 3, .getfield 139, [(12, 64)]),
  (136, 2, .iload 7, []),
  (138, 1, .iload_n 3, [(3, 0)]),
  (139, 2, .iload 4, []),
  (141, 3, .invokestatic 420, [(252, 3), (1, 0)]),
  (144, 1, .iaload, []),
  (145, 3, .goto 6, [(151, 0)]),
  (148, 3, .ldc_w 331, [(2000000000, 0)]),
  (151, 2, .istore 8, []),
  (153, 2, .iload 8, []),
  (155, 2, .iload 6, []),
  (157, 3, .if_icmp .ge 8, [(165, 0)]),
  (160, 2, .iload 8, []),
  (162, 3, .goto 5, [(167, 0)]),
  (165, 2, .iload 6, []),
  (167, 2, .istore 6, []),
  (169, 3, .iinc 7 1, [(1, 0)]),
  (172, 3, .goto (-72), [(100, 0)]),
  (175, 2, .iload 6, []),
  (177, 1, .ireturn, [])]
/-- PackedForestModel.mendsTo (IIII)I -/
def zt306 : zzT := (⟨"PackedForestModel", "mendsTo", "(IIII)I"⟩, prog_14_method_136_code, 9, (some .int), 1, zr306)
def zr307 : List zzI := [(0, 1, .aload_n 0, [(0, 0)]),
  (1, 3, .getfield 16, [(12, 3)]),
  (4, 1, .iload_n 1, [(1, 0)]),
  (5, 1, .iaload, []),
  (6, 3, .ifCond .ne 7, [(13, 0)]),
  (9, 1, .iload_n 3, [(3, 0)]),
  (10, 1, .iload_n 2, [(2, 0)]),
  (11, 1, .isub, []),
  (12, 1, .ireturn, []),
  (13, 1, .iconst 0, [(0, 0)]),
  (14, 2, .istore 4, []),
  (16, 0, .nop, [(0, 3), (1, 1), (2, 1), (3, 1), (4, 1)]),
  (16, 2, .iload 4, []),
  (18, 1, .aload_n 0, [(0, 0)]),
  (19, 3, .getfield 16, [(12, 3)]),
  (22, 1, .iload_n 1, [(1, 0)]),
  (23, 1, .iaload, []),
  (24, 3, .if_icmp .gt 147, [(171, 0)]),
  (27, 1, .iload_n 2, [(2, 0)]),
  (28, 2, .istore 5, []),
  (30, 0, .nop, [(0, 3), (1, 1), (2, 1), (3, 1), (4, 1), (5, 1)]),
  (30, 2, .iload 5, []),
  (32, 1, .iload_n 3, [(3, 0)]),
  (33, 3, .if_icmp .gt 132, [(165, 0)]),
  (36, 2, .iload 4, []),
  (38, 3, .ifCond .ne 13, [(51, 0)]),
  (41, 2, .iload 5, []),
  (43, 1, .iload_n 2, [(2, 0)]),
  (44, 3, .if_icmp .ne 7, [(51, 0)]),
  (47, 1, .iconst 0, [(0, 0)]),
  (48, 3, .goto 6, [(54, 0)]),
  (51, 3, .ldc_w 331, [(2000000000, 0)]),
  (54, 2, .istore 6, []),
  (56, 1, .iload_n 2, [(2, 0)]),
  (57, 2, .istore 7, []),
  (59, 0, .nop, [(0, 3), (1, 1), (2, 1), (3, 1), (4, 1), (5, 1), (6, 1), (7, 1)]),
  (59, 2, .iload 7, []),
  (61, 2, .iload 5, []),
  (63, 3, .if_icmp .gt 81, [(144, 0)]),
  (66, 2, .iload 4, []),
  (68, 3, .ifCond .le 76, [(144, 0)]),
  (71, 1, .aload_n 0, [(0, 0)]),
  (72, 3, .getfield 142, [(12, 65)]),
  (75, 2, .bipush 13, [(13, 0)]),
  (77, 2, .iload 4, []),
  (79, 1, .iconst 1, [(1, 0)]),
  (80, 1, .isub, []),
  (81, 1, .imul, []),
  (82, 2, .iload 7, []),
  (84, 1, .iadd, []),
  (85, 1, .iaload, []),
  (86, 2, .istore 8, []),
  (88, 2, .iload 8, []),
  (90, 3, .ldc_w 331, [(2000000000, 0)]),
  (93, 3, .if_icmp .ge 24, [(117, 0)]),
  (96, 2, .iload 8, []),
  (98, 1, .aload_n 0, [(0, 0)]),
  (99, 1, .iload_n 1, [(1, 0)]),
  (100, 2, .iload 4, []),
  (102, 1, .iconst 1, [(1, 0)]),
  (103, 1, .isub, []),
  (104, 2, .iload 7, []),
  (106, 2, .iload 5, []),
  (108, 3, .invokevirtual 580, [(306, 4), (1, 0), (12, 0)]),
  (111, 3, .invokestatic 328, [(219, 2), (1, 0)]),
  (114, 3, .goto 6, [(120, 0)]),
  (117, 3, .ldc_w 331, [(2000000000, 0)]),
  (120, 2, .istore 9, []),
  (122, 2, .iload 9, []),
  (124, 2, .iload 6, []),
  (126, 3, .if_icmp .ge 8, [(134, 0)]),
  (129, 2, .iload 9, []),
  (131, 3, .goto 5, [(136, 0)]),
  (134, 2, .iload 6, []),
  (136, 2, .istore 6, []),
  (138, 3, .iinc 7 1, [(1, 0)]),
  (141, 3, .goto (-82), [(59, 0)]),
  (144, 1, .aload_n 0, [(0, 0)]),
  (145, 3, .getfield 142, [(12, 65)]),
  (148, 2, .bipush 13, [(13, 0)]),
  (150, 2, .iload 4, []),
  (152, 1, .imul, []),
  (153, 2, .iload 5, []),
  (155, 1, .iadd, []),
  (156, 2, .iload 6, []),
  (158, 1, .iastore, []),
  (159, 3, .iinc 5 1, [(1, 0)]),
  (162, 3, .goto (-132), [(30, 0)]),
  (165, 3, .iinc 4 1, [(1, 0)]),
  (168, 3, .goto (-152), [(16, 0)]),
  (171, 1, .aload_n 0, [(0, 0)]),
  (172, 3, .getfield 142, [(12, 65)]),
  (175, 2, .bipush 13, [(13, 0)]),
  (177, 1, .aload_n 0, [(0, 0)]),
  (178, 3, .getfield 16, [(12, 3)]),
  (181, 1, .iload_n 1, [(1, 0)]),
  (182, 1, .iaload, []),
  (183, 1, .imul, []),
  (184, 1, .iload_n 3, [(3, 0)]),
  (185, 1, .iadd, []),
  (186, 1, .iaload, []),
  (187, 1, .ireturn, [])]
/-- PackedForestModel.mendsBy (III)I -/
def zt307 : zzT := (⟨"PackedForestModel", "mendsBy", "(III)I"⟩, prog_14_method_137_code, 10, (some .int), 1, zr307)
def zr308 : List zzI := [(0, 1, .iconst 0, [(0, 0)]),
  (1, 1, .istore_n 2, [(2, 0)]),
  (2, 1, .iconst 0, [(0, 0)]),
  (3, 1, .istore_n 3, [(3, 0)]),
  (4, 0, .nop, [(0, 3), (1, 1), (2, 1), (3, 1)]),
  (4, 1, .iload_n 3, [(3, 0)]),
  (5, 1, .iload_n 1, [(1, 0)]),
  (6, 1, .iadd, []),
  (7, 1, .aload_n 0, [(0, 0)]),
  (8, 3, .getfield 9, [(12, 1)]),
  (11, 1, .iconst 2, [(2, 0)]),
  (12, 1, .iaload, []),
  (13, 3, .if_icmp .gt 120, [(133, 0)]),
  (16, 1, .iconst 0, [(0, 0)]),
  (17, 2, .istore 4, []),
  (19, 0, .nop, [(0, 3), (1, 1), (2, 1), (3, 1), (4, 1)]),
  (19, 2, .iload 4, []),
  (21, 1, .aload_n 0, [(0, 0)]),
  (22, 3, .getfield 9, [(12, 1)]),
  (25, 1, .iconst 0, [(0, 0)]),
  (26, 1, .iaload, []),
  (27, 3, .if_icmp .ge 100, [(127, 0)]),
  (30, 2, .iload 4, []),
  (32, 1, .iload_n 3, [(3, 0)]),
  (33, 1, .iload_n 3, [(3, 0)]),
  (34, 1, .iload_n 1, [(1, 0)]),
  (35, 1, .iadd, []),
  (36, 3, .invokestatic 420, [(252, 3), (1, 0)]),
  (39, 2, .istore 5, []),
  (41, 1, .aload_n 0, [(0, 0)]),
  (42, 2, .iload 4, []),
  (44, 3, .invokevirtual 260, [(177, 1), (4, 0), (12, 0)]),
  (47, 3, .ifCond .eq 16, [(63, 0)]),
  (50, 1, .aload_n 0, [(0, 0)]),
  (51, 2, .iload 4, []),
  (53, 1, .iload_n 3, [(3, 0)]),
  (54, 1, .iload_n 3, [(3, 0)]),
  (55, 1, .iload_n 1, [(1, 0)]),
  (56, 1, .iadd, []),
  (57, 3, .invokevirtual 583, [(307, 3), (1, 0), (12, 0)]),
  (60, 3, .goto 6, [(66, 0)]),
  (63, 3, .ldc_w 331, [(2000000000, 0)]),
  (66, 2, .istore 6, []),
  (68, 1, .iload_n 2, [(2, 0)]),
  (69, 3, .ifCond .ne 15, [(84, 0)]),
  (72, 2, .iload 6, []),
  (74, 1, .aload_n 0, [(0, 0)]),
  (75, 3, .getfield 139, [(12, 64)]),
  (78, 2, .iload 5, []),
  (80, 1, .iaload, []),
  (81, 3, .if_icmp .ge 7, [(88, 0)]),
  (84, 1, .iconst 1, [(1, 0)]),
  (85, 3, .goto 4, [(89, 0)]),
  (88, 1, .iconst 0, [(0, 0)]),
  (89, 1, .istore_n 2, [(2, 0)]),
  (90, 1, .aload_n 0, [(0, 0)]),
  (91, 3, .getfield 139, [(12, 64)]),
  (94, 2, .iload 5, []),
  (96, 2, .iload 6, []),
  (98, 1, .aload_n 0, [(0, 0)]),
  (99, 3, .getfield 139, [(12, 64)]),
  (102, 2, .iload 5, []),
  (104, 1, .iaload, []),
  (105, 3, .if_icmp .ge 8, [(113, 0)]),
  (108, 2, .iload 6, []),
  (110, 3, .goto 10, [(120, 0)]),
  (113, 1, .aload_n 0, [(0, 0)]),
  (114, 3, .getfield 139, [(12, 64)]),
  (117, 2, .iload 5, []),
  (119, 1, .iaload, []),
  (120, 1, .iastore, []),
  (121, 3, .iinc 4 1, [(1, 0)]),
  (124, 3, .goto (-105), [(19, 0)]),
  (127, 3, .iinc 3 1, [(1, 0)]),
  (130, 3, .goto (-126), [(4, 0)]),
  (133, 1, .iload_n 2, [(2, 0)]),
  (134, 1, .ireturn, [])]
/-- PackedForestModel.mendsMore (I)Z -/
def zt308 : zzT := (⟨"PackedForestModel", "mendsMore", "(I)Z"⟩, prog_14_method_138_code, 7, (some .boolean), 4, zr308)
def zr309 : List zzI := [(0, 1, .aload_n 0, [(0, 0)]),
  (1, 3, .invokevirtual 298, [(175, 0), (4, 0), (12, 0)]),
  (4, 3, .ifCond .ne 5, [(9, 0)]),
  (7, 1, .iconst (-1), [(1, 1)]),
  (8, 1, .ireturn, []),
  (9, 1, .iconst 0, [(0, 0)]),
  (10, 1, .istore_n 1, [(1, 0)]),
  (11, 0, .nop, [(0, 3), (1, 1)]),
  (11, 1, .iload_n 1, [(1, 0)]),
  (12, 3, .sipush 2028, [(2028, 0)]),
  (15, 3, .if_icmp .ge 18, [(33, 0)]),
  (18, 1, .aload_n 0, [(0, 0)]),
  (19, 3, .getfield 139, [(12, 64)]),
  (22, 1, .iload_n 1, [(1, 0)]),
  (23, 3, .ldc_w 331, [(2000000000, 0)]),
  (26, 1, .iastore, []),
  (27, 3, .iinc 1 1, [(1, 0)]),
  (30, 3, .goto (-19), [(11, 0)]),
  (33, 1, .iconst 0, [(0, 0)]),
  (34, 1, .istore_n 1, [(1, 0)]),
  (35, 0, .nop, [(0, 3), (1, 1)]),
  (35, 1, .iload_n 1, [(1, 0)]),
  (36, 1, .aload_n 0, [(0, 0)]),
  (37, 3, .getfield 9, [(12, 1)]),
  (40, 1, .iconst 2, [(2, 0)]),
  (41, 1, .iaload, []),
  (42, 3, .if_icmp .gt 24, [(66, 0)]),
  (45, 1, .iconst 1, [(1, 0)]),
  (46, 1, .istore_n 2, [(2, 0)]),
  (47, 0, .nop, [(0, 3), (1, 1), (2, 1)]),
  (47, 1, .iload_n 2, [(2, 0)]),
  (48, 3, .ifCond .eq 12, [(60, 0)]),
  (51, 1, .aload_n 0, [(0, 0)]),
  (52, 1, .iload_n 1, [(1, 0)]),
  (53, 3, .invokevirtual 586, [(308, 1), (4, 0), (12, 0)]),
  (56, 1, .istore_n 2, [(2, 0)]),
  (57, 3, .goto (-10), [(47, 0)]),
  (60, 3, .iinc 1 1, [(1, 0)]),
  (63, 3, .goto (-28), [(35, 0)]),
  (66, 3, .ldc_w 331, [(2000000000, 0)]),
  (69, 1, .istore_n 1, [(1, 0)]),
  (70, 1, .iconst 0, [(0, 0)]),
  (71, 1, .istore_n 2, [(2, 0)]),
  (72, 0, .nop, [(0, 3), (1, 1), (2, 1)]),
  (72, 1, .iload_n 2, [(2, 0)]),
  (73, 1, .aload_n 0, [(0, 0)]),
  (74, 3, .getfield 9, [(12, 1)]),
  (77, 1, .iconst 0, [(0, 0)]),
  (78, 1, .iaload, []),
  (79, 3, .if_icmp .ge 66, [(145, 0)]),
  (82, 1, .aload_n 0, [(0, 0)]),
  (83, 1, .iload_n 2, [(2, 0)]),
  (84, 3, .invokevirtual 260, [(177, 1), (4, 0), (12, 0)]),
  (87, 3, .ifCond .eq 37, [(124, 0)]),
  (90, 1, .aload_n 0, [(0, 0)]),
  (91, 3, .getfield 13, [(12, 2)]),
  (94, 1, .iload_n 2, [(2, 0)]),
  (95, 1, .iaload, []),
  (96, 1, .aload_n 0, [(0, 0)]),
  (97, 3, .getfield 9, [(12, 1)]),
  (100, 1, .iconst 1, [(1, 0)]),
  (101, 1, .iaload, []),
  (102, 3, .if_icmp .ne 22, [(124, 0)]),
  (105, 1, .aload_n 0, [(0, 0)]),
  (106, 3, .getfield 139, [(12, 64)]),
  (109, 1, .iload_n 2, [(2, 0)]),
  (110, 1, .iconst 0, [(0, 0)]),
  (111, 1, .aload_n 0, [(0, 0)]),
  (112, 3, .getfield 9, [(12, 1)]),
  (115, 1, .iconst 2, [(2, 0)]),
  (116, 1, .iaload, []),
  (117, 3, .invokestatic 420, [(252, 3), (1, 0)]),
  (120, 1, .iaload, []),
  (121, 3, .goto 6, [(127, 0)]),
  (124, 3, .ldc_w 331, [(2000000000, 0)]),
  (127, 1, .istore_n 3, [(3, 0)]),
  (128, 1, .iload_n 3, [(3, 0)]),
  (129, 1, .iload_n 1, [(1, 0)]),
  (130, 3, .if_icmp .ge 7, [(137, 0)]),
  (133, 1, .iload_n 3, [(3, 0)]),
  (134, 3, .goto 4, [(138, 0)]),
  (137, 1, .iload_n 1, [(1, 0)]),
  (138, 1, .istore_n 1, [(1, 0)]),
  (139, 3, .iinc 2 1, [(1, 0)]),
  (142, 3, .goto (-70), [(72, 0)]),
  (145, 1, .iload_n 1, [(1, 0)]),
  (146, 3, .ldc_w 331, [(2000000000, 0)]),
  (149, 3, .if_icmp .lt 8, [(157, 0)]),
  (152, 2, .bipush (-2), [(2, 1)]),
  (154, 3, .goto 4, [(158, 0)]),
  (157, 1, .iload_n 1, [(1, 0)]),
  (158, 1, .ireturn, [])]
/-- PackedForestModel.mend ()I -/
def zt309 : zzT := (⟨"PackedForestModel", "mend", "()I"⟩, prog_14_method_139_code, 4, (some .int), 1, zr309)
def zr310 : List zzI := [(0, 1, .iload_n 1, [(1, 0)]),
  (1, 3, .ifCond .ge 5, [(6, 0)]),
  (4, 1, .iconst (-1), [(1, 1)]),
  (5, 1, .ireturn, []),
  (6, 1, .aload_n 0, [(0, 0)]),
  (7, 3, .getfield 9, [(12, 1)]),
  (10, 2, .bipush 6, [(6, 0)]),
  (12, 1, .iaload, []),
  (13, 1, .istore_n 2, [(2, 0)]),
  (14, 1, .aload_n 0, [(0, 0)]),
  (15, 3, .getfield 9, [(12, 1)]),
  (18, 2, .bipush 6, [(6, 0)]),
  (20, 1, .iload_n 1, [(1, 0)]),
  (21, 1, .iastore, []),
  (22, 1, .iload_n 2, [(2, 0)]),
  (23, 1, .ireturn, [])]
/-- PackedForestModel.seed (I)I -/
def zt310 : zzT := (⟨"PackedForestModel", "seed", "(I)I"⟩, prog_14_method_140_code, 3, (some .int), 1, zr310)
def zr311 : List zzI := [(0, 1, .aload_n 0, [(0, 0)]),
  (1, 3, .getfield 9, [(12, 1)]),
  (4, 2, .bipush 6, [(6, 0)]),
  (6, 1, .aload_n 0, [(0, 0)]),
  (7, 3, .getfield 9, [(12, 1)]),
  (10, 2, .bipush 6, [(6, 0)]),
  (12, 1, .iaload, []),
  (13, 1, .i2l, []),
  (14, 3, .ldc2_w 589, [(1103515245, 0)]),
  (17, 1, .lmul, []),
  (18, 3, .ldc2_w 591, [(12345, 0)]),
  (21, 1, .ladd, []),
  (22, 3, .ldc2_w 474, [(2147483648, 0)]),
  (25, 1, .lrem, []),
  (26, 1, .l2i, []),
  (27, 1, .iastore, []),
  (28, 1, .aload_n 0, [(0, 0)]),
  (29, 3, .getfield 9, [(12, 1)]),
  (32, 2, .bipush 6, [(6, 0)]),
  (34, 1, .iaload, []),
  (35, 3, .ldc_w 593, [(65536, 0)]),
  (38, 1, .idiv, []),
  (39, 1, .iload_n 1, [(1, 0)]),
  (40, 1, .irem, []),
  (41, 1, .ireturn, [])]
/-- PackedForestModel.draws (I)I -/
def zt311 : zzT := (⟨"PackedForestModel", "draws", "(I)I"⟩, prog_14_method_141_code, 2, (some .int), 1, zr311)
def zr312 : List zzI := [(0, 1, .iconst 0, [(0, 0)]),
  (1, 1, .istore_n 2, [(2, 0)]),
  (2, 1, .iconst 0, [(0, 0)]),
  (3, 1, .istore_n 3, [(3, 0)]),
  (4, 0, .nop, [(0, 3), (1, 1), (2, 1), (3, 1)]),
  (4, 1, .iload_n 3, [(3, 0)]),
  (5, 1, .aload_n 0, [(0, 0)]),
  (6, 3, .getfield 9, [(12, 1)]),
  (9, 1, .iconst 0, [(0, 0)]),
  (10, 1, .iaload, []),
  (11, 3, .if_icmp .ge 35, [(46, 0)]),
  (14, 1, .iload_n 2, [(2, 0)]),
  (15, 1, .aload_n 0, [(0, 0)]),
  (16, 1, .iload_n 3, [(3, 0)]),
  (17, 3, .invokevirtual 260, [(177, 1), (4, 0), (12, 0)]),
  (20, 3, .ifCond .eq 17, [(37, 0)]),
  (23, 1, .aload_n 0, [(0, 0)]),
  (24, 3, .getfield 13, [(12, 2)]),
  (27, 1, .iload_n 3, [(3, 0)]),
  (28, 1, .iaload, []),
  (29, 1, .iload_n 1, [(1, 0)]),
  (30, 3, .if_icmp .ne 7, [(37, 0)]),
  (33, 1, .iconst 1, [(1, 0)]),
  (34, 3, .goto 4, [(38, 0)]),
  (37, 1, .iconst 0, [(0, 0)]),
  (38, 1, .iadd, []),
  (39, 1, .istore_n 2, [(2, 0)]),
  (40, 3, .iinc 3 1, [(1, 0)]),
  (43, 3, .goto (-39), [(4, 0)]),
  (46, 1, .iload_n 2, [(2, 0)]),
  (47, 1, .ireturn, [])]
/-- PackedForestModel.rulesOf (I)I -/
def zt312 : zzT := (⟨"PackedForestModel", "rulesOf", "(I)I"⟩, prog_14_method_142_code, 4, (some .int), 1, zr312)
def zr313 : List zzI := [(0, 1, .iload_n 2, [(2, 0)]),
  (1, 1, .istore_n 3, [(3, 0)]),
  (2, 1, .iconst 0, [(0, 0)]),
  (3, 2, .istore 4, []),
  (5, 0, .nop, [(0, 3), (1, 1), (3, 1), (4, 1)]),
  (5, 2, .iload 4, []),
  (7, 1, .aload_n 0, [(0, 0)]),
  (8, 3, .getfield 9, [(12, 1)]),
  (11, 1, .iconst 0, [(0, 0)]),
  (12, 1, .iaload, []),
  (13, 3, .if_icmp .ge 39, [(52, 0)]),
  (16, 1, .aload_n 0, [(0, 0)]),
  (17, 2, .iload 4, []),
  (19, 3, .invokevirtual 260, [(177, 1), (4, 0), (12, 0)]),
  (22, 3, .ifCond .eq 24, [(46, 0)]),
  (25, 1, .aload_n 0, [(0, 0)]),
  (26, 3, .getfield 13, [(12, 2)]),
  (29, 2, .iload 4, []),
  (31, 1, .iaload, []),
  (32, 1, .iload_n 1, [(1, 0)]),
  (33, 3, .if_icmp .ne 13, [(46, 0)]),
  (36, 1, .iload_n 3, [(3, 0)]),
  (37, 3, .ifCond .ne 6, [(43, 0)]),
  (40, 2, .iload 4, []),
  (42, 1, .ireturn, []),
  (43, 3, .iinc 3 (-1), [(1, 1)]),
  (46, 3, .iinc 4 1, [(1, 0)]),
  (49, 3, .goto (-44), [(5, 0)]),
  (52, 1, .iconst (-1), [(1, 1)]),
  (53, 1, .ireturn, [])]
/-- PackedForestModel.ruleOf (II)I -/
def zt313 : zzT := (⟨"PackedForestModel", "ruleOf", "(II)I"⟩, prog_14_method_143_code, 5, (some .int), 1, zr313)
def zr314 : List zzI := [(0, 1, .iconst 0, [(0, 0)]),
  (1, 1, .istore_n 1, [(1, 0)]),
  (2, 0, .nop, [(0, 3), (1, 1)]),
  (2, 1, .iload_n 1, [(1, 0)]),
  (3, 1, .aload_n 0, [(0, 0)]),
  (4, 3, .getfield 594, [(12, 67)]),
  (7, 3, .if_icmp .ge 23, [(30, 0)]),
  (10, 1, .aload_n 0, [(0, 0)]),
  (11, 3, .getfield 145, [(12, 66)]),
  (14, 1, .iload_n 1, [(1, 0)]),
  (15, 1, .iaload, []),
  (16, 3, .invokestatic 201, [(178, 1), (4, 0)]),
  (19, 3, .ifCond .eq 5, [(24, 0)]),
  (22, 1, .iload_n 1, [(1, 0)]),
  (23, 1, .ireturn, []),
  (24, 3, .iinc 1 1, [(1, 0)]),
  (27, 3, .goto (-25), [(2, 0)]),
  (30, 1, .iconst (-1), [(1, 1)]),
  (31, 1, .ireturn, [])]
/-- PackedForestModel.capitalAt ()I -/
def zt314 : zzT := (⟨"PackedForestModel", "capitalAt", "()I"⟩, prog_14_method_144_code, 2, (some .int), 1, zr314)
def zr315 : List zzI := [(0, 1, .aload_n 0, [(0, 0)]),
  (1, 3, .getfield 16, [(12, 3)]),
  (4, 1, .iload_n 2, [(2, 0)]),
  (5, 1, .iaload, []),
  (6, 1, .iconst 1, [(1, 0)]),
  (7, 1, .isub, []),
  (8, 1, .istore_n 3, [(3, 0)]),
  (9, 1, .iload_n 3, [(3, 0)]),
  (10, 3, .ifCond .ge 42, [(52, 0)]),
  (13, 1, .iload_n 1, [(1, 0)]),
  (14, 2, .istore 4, []),
  (16, 0, .nop, [(0, 3), (1, 1), (2, 1), (3, 1), (4, 1)]),
  (16, 2, .iload 4, []),
  (18, 1, .iconst 1, [(1, 0)]),
  (19, 1, .iadd, []),
  (20, 1, .aload_n 0, [(0, 0)]),
  (21, 3, .getfield 594, [(12, 67)]),
  (24, 3, .if_icmp .ge 25, [(49, 0)]),
  (27, 1, .aload_n 0, [(0, 0)]),
  (28, 3, .getfield 145, [(12, 66)]),
  (31, 2, .iload 4, []),
  (33, 1, .aload_n 0, [(0, 0)]),
  (34, 3, .getfield 145, [(12, 66)]),
  (37, 2, .iload 4, []),
  (39, 1, .iconst 1, [(1, 0)]),
  (40, 1, .iadd, []),
  (41, 1, .iaload, []),
  (42, 1, .iastore, []),
  (43, 3, .iinc 4 1, [(1, 0)]),
  (46, 3, .goto (-30), [(16, 0)]),
  (49, 3, .goto 39, [(88, 0)]),
  (52, 1, .aload_n 0, [(0, 0)]),
  (53, 3, .getfield 594, [(12, 67)]),
  (56, 1, .iconst 1, [(1, 0)]),
  (57, 1, .isub, []),
  (58, 2, .istore 4, []),
  (60, 0, .nop, [(0, 3), (1, 1), (2, 1), (3, 1), (4, 1)]),
  (60, 2, .iload 4, []),
  (62, 1, .iload_n 1, [(1, 0)]),
  (63, 3, .if_icmp .le 25, [(88, 0)]),
  (66, 1, .aload_n 0, [(0, 0)]),
  (67, 3, .getfield 145, [(12, 66)]),
  (70, 2, .iload 4, []),
  (72, 1, .iload_n 3, [(3, 0)]),
  (73, 1, .iadd, []),
  (74, 1, .aload_n 0, [(0, 0)]),
  (75, 3, .getfield 145, [(12, 66)]),
  (78, 2, .iload 4, []),
  (80, 1, .iaload, []),
  (81, 1, .iastore, []),
  (82, 3, .iinc 4 (-1), [(1, 1)]),
  (85, 3, .goto (-25), [(60, 0)]),
  (88, 1, .iconst 0, [(0, 0)]),
  (89, 2, .istore 4, []),
  (91, 0, .nop, [(0, 3), (1, 1), (2, 1), (3, 1), (4, 1)]),
  (91, 2, .iload 4, []),
  (93, 1, .aload_n 0, [(0, 0)]),
  (94, 3, .getfield 16, [(12, 3)]),
  (97, 1, .iload_n 2, [(2, 0)]),
  (98, 1, .iaload, []),
  (99, 3, .if_icmp .ge 29, [(128, 0)]),
  (102, 1, .aload_n 0, [(0, 0)]),
  (103, 3, .getfield 145, [(12, 66)]),
  (106, 1, .iload_n 1, [(1, 0)]),
  (107, 2, .iload 4, []),
  (109, 1, .iadd, []),
  (110, 1, .aload_n 0, [(0, 0)]),
  (111, 3, .getfield 19, [(12, 4)]),
  (114, 1, .iconst 4, [(4, 0)]),
  (115, 1, .iload_n 2, [(2, 0)]),
  (116, 1, .imul, []),
  (117, 2, .iload 4, []),
  (119, 1, .iadd, []),
  (120, 1, .iaload, []),
  (121, 1, .iastore, []),
  (122, 3, .iinc 4 1, [(1, 0)]),
  (125, 3, .goto (-34), [(91, 0)]),
  (128, 1, .aload_n 0, [(0, 0)]),
  (129, 1, .dup, []),
  (130, 3, .getfield 594, [(12, 67)]),
  (133, 1, .iload_n 3, [(3, 0)]),
  (134, 1, .iadd, []),
  (135, 3, .putfield 594, [(12, 67)]),
  (138, 1, .return_, [])]
/-- PackedForestModel.replaces (II)V -/
def zt315 : zzT := (⟨"PackedForestModel", "replaces", "(II)V"⟩, prog_14_method_145_code, 5, none, 0, zr315)
def zr316 : List zzI := [(0, 1, .aload_n 0, [(0, 0)]),
  (1, 3, .getfield 145, [(12, 66)]),
  (4, 1, .iconst 0, [(0, 0)]),
  (5, 1, .aload_n 0, [(0, 0)]),
  (6, 3, .getfield 9, [(12, 1)]),
  (9, 1, .iconst 1, [(1, 0)]),
  (10, 1, .iaload, []),
  (11, 1, .iastore, []),
  (12, 1, .aload_n 0, [(0, 0)]),
  (13, 1, .iconst 1, [(1, 0)]),
  (14, 3, .putfield 594, [(12, 67)]),
  (17, 1, .iconst 0, [(0, 0)]),
  (18, 1, .istore_n 1, [(1, 0)]),
  (19, 1, .aload_n 0, [(0, 0)]),
  (20, 3, .invokevirtual 597, [(314, 0), (1, 0), (12, 0)]),
  (23, 1, .istore_n 2, [(2, 0)]),
  (24, 0, .nop, [(0, 3), (1, 1), (2, 1)]),
  (24, 1, .iload_n 2, [(2, 0)]),
  (25, 1, .iconst (-1), [(1, 1)]),
  (26, 3, .if_icmp .eq 68, [(94, 0)]),
  (29, 1, .aload_n 0, [(0, 0)]),
  (30, 1, .aload_n 0, [(0, 0)]),
  (31, 3, .getfield 145, [(12, 66)]),
  (34, 1, .iload_n 2, [(2, 0)]),
  (35, 1, .iaload, []),
  (36, 3, .invokevirtual 600, [(312, 1), (1, 0), (12, 0)]),
  (39, 1, .istore_n 3, [(3, 0)]),
  (40, 1, .iload_n 3, [(3, 0)]),
  (41, 3, .ifCond .eq 9, [(50, 0)]),
  (44, 1, .iload_n 1, [(1, 0)]),
  (45, 2, .bipush 30, [(30, 0)]),
  (47, 3, .if_icmp .ne 5, [(52, 0)]),
  (50, 1, .iconst 0, [(0, 0)]),
  (51, 1, .ireturn, []),
  (52, 1, .aload_n 0, [(0, 0)]),
  (53, 1, .iload_n 2, [(2, 0)]),
  (54, 1, .aload_n 0, [(0, 0)]),
  (55, 1, .aload_n 0, [(0, 0)]),
  (56, 3, .getfield 145, [(12, 66)]),
  (59, 1, .iload_n 2, [(2, 0)]),
  (60, 1, .iaload, []),
  (61, 1, .aload_n 0, [(0, 0)]),
  (62, 1, .iload_n 3, [(3, 0)]),
  (63, 3, .invokevirtual 603, [(311, 1), (1, 0), (12, 0)]),
  (66, 3, .invokevirtual 606, [(313, 2), (1, 0), (12, 0)]),
  (69, 3, .invokevirtual 609, [(315, 2), (0, 0), (12, 0)]),
  (72, 3, .iinc 1 1, [(1, 0)]),
  (75, 1, .aload_n 0, [(0, 0)]),
  (76, 3, .getfield 594, [(12, 67)]),
  (79, 2, .bipush 24, [(24, 0)]),
  (81, 3, .if_icmp .le 5, [(86, 0)]),
  (84, 1, .iconst 0, [(0, 0)]),
  (85, 1, .ireturn, []),
  (86, 1, .aload_n 0, [(0, 0)]),
  (87, 3, .invokevirtual 597, [(314, 0), (1, 0), (12, 0)]),
  (90, 1, .istore_n 2, [(2, 0)]),
  (91, 3, .goto (-67), [(24, 0)]),
  (94, 1, .iconst 1, [(1, 0)]),
  (95, 1, .ireturn, [])]
/-- PackedForestModel.speaks ()Z -/
def zt316 : zzT := (⟨"PackedForestModel", "speaks", "()Z"⟩, prog_14_method_146_code, 4, (some .boolean), 4, zr316)
def zr317 : List zzI := [(0, 1, .aload_n 0, [(0, 0)]),
  (1, 3, .invokevirtual 298, [(175, 0), (4, 0), (12, 0)]),
  (4, 3, .ifCond .eq 29, [(33, 0)]),
  (7, 1, .iload_n 1, [(1, 0)]),
  (8, 1, .i2l, []),
  (9, 1, .lconst 1, [(1, 0)]),
  (10, 3, .ldc2_w 612, [(10, 0)]),
  (13, 3, .invokestatic 158, [(173, 3), (4, 0)]),
  (16, 3, .ifCond .eq 17, [(33, 0)]),
  (19, 1, .iload_n 2, [(2, 0)]),
  (20, 1, .i2l, []),
  (21, 3, .ldc2_w 614, [(1, 1)]),
  (24, 3, .ldc2_w 616, [(23, 0)]),
  (27, 3, .invokestatic 158, [(173, 3), (4, 0)]),
  (30, 3, .ifCond .ne 6, [(36, 0)]),
  (33, 2, .bipush (-3), [(3, 1)]),
  (35, 1, .ireturn, []),
  (36, 1, .aload_n 0, [(0, 0)]),
  (37, 3, .getfield 9, [(12, 1)]),
  (40, 2, .bipush 6, [(6, 0)]),
  (42, 1, .iaload, []),
  (43, 1, .istore_n 3, [(3, 0)]),
  (44, 1, .iconst 0, [(0, 0)]),
  (45, 2, .istore 4, []),
  (47, 1, .iconst 0, [(0, 0)]),
  (48, 2, .istore 5, []),
  (50, 0, .nop, [(0, 3), (1, 1), (2, 1), (3, 1), (4, 1), (5, 1)]),
  (50, 2, .iload 5, []),
  (52, 1, .iload_n 1, [(1, 0)]),
  (53, 3, .if_icmp .ge 15, [(68, 0)]),
  (56, 1, .aload_n 0, [(0, 0)]),
  (57, 3, .invokevirtual 618, [(316, 0), (4, 0), (12, 0)]),
  (60, 2, .istore 4, []),
  (62, 3, .iinc 5 1, [(1, 0)]),
  (65, 3, .goto (-15), [(50, 0)]),
  (68, 1, .aload_n 0, [(0, 0)]),
  (69, 3, .getfield 9, [(12, 1)]),
  (72, 2, .bipush 6, [(6, 0)]),
  (74, 1, .iload_n 3, [(3, 0)]),
  (75, 1, .iastore, []),
  (76, 2, .iload 4, []),
  (78, 3, .ifCond .ne 6, [(84, 0)]),
  (81, 2, .bipush (-2), [(2, 1)]),
  (83, 1, .ireturn, []),
  (84, 1, .iload_n 2, [(2, 0)]),
  (85, 1, .iconst (-1), [(1, 1)]),
  (86, 3, .if_icmp .ne 10, [(96, 0)]),
  (89, 1, .aload_n 0, [(0, 0)]),
  (90, 3, .getfield 594, [(12, 67)]),
  (93, 3, .goto 21, [(114, 0)]),
  (96, 1, .iload_n 2, [(2, 0)]),
  (97, 1, .aload_n 0, [(0, 0)]),
  (98, 3, .getfield 594, [(12, 67)]),
  (101, 3, .if_icmp .ge 12, [(113, 0)]),
  (104, 1, .aload_n 0, [(0, 0)]),
  (105, 3, .getfield 145, [(12, 66)]),
  (108, 1, .iload_n 2, [(2, 0)]),
  (109, 1, .iaload, []),
  (110, 3, .goto 4, [(114, 0)]),
  (113, 1, .iconst (-1), [(1, 1)]),
  (114, 1, .ireturn, [])]
/-- PackedForestModel.spoken (II)I -/
def zt317 : zzT := (⟨"PackedForestModel", "spoken", "(II)I"⟩, prog_14_method_147_code, 6, (some .int), 1, zr317)
def zr318 : List zzI := [(0, 1, .iload_n 1, [(1, 0)]),
  (1, 51, .tableswitch 111 0 8 #[51, 58, 65, 72, 79, 86, 93, 98, 106], [(112, 0), (0, 52), (1, 59), (2, 66), (3, 73), (4, 80), (5, 87), (6, 94), (7, 99), (8, 107)]),
  (52, 1, .aload_n 0, [(0, 0)]),
  (53, 3, .getfield 9, [(12, 1)]),
  (56, 1, .iconst 0, [(0, 0)]),
  (57, 1, .iaload, []),
  (58, 1, .ireturn, []),
  (59, 1, .aload_n 0, [(0, 0)]),
  (60, 3, .getfield 9, [(12, 1)]),
  (63, 1, .iconst 1, [(1, 0)]),
  (64, 1, .iaload, []),
  (65, 1, .ireturn, []),
  (66, 1, .aload_n 0, [(0, 0)]),
  (67, 3, .getfield 9, [(12, 1)]),
  (70, 1, .iconst 2, [(2, 0)]),
  (71, 1, .iaload, []),
  (72, 1, .ireturn, []),
  (73, 1, .aload_n 0, [(0, 0)]),
  (74, 3, .getfield 9, [(12, 1)]),
  (77, 1, .iconst 3, [(3, 0)]),
  (78, 1, .iaload, []),
  (79, 1, .ireturn, []),
  (80, 1, .aload_n 0, [(0, 0)]),
  (81, 3, .getfield 9, [(12, 1)]),
  (84, 1, .iconst 4, [(4, 0)]),
  (85, 1, .iaload, []),
  (86, 1, .ireturn, []),
  (87, 1, .aload_n 0, [(0, 0)]),
  (88, 3, .getfield 9, [(12, 1)]),
  (91, 1, .iconst 5, [(5, 0)]),
  (92, 1, .iaload, []),
  (93, 1, .ireturn, []),
  (94, 1, .aload_n 0, [(0, 0)]),
  (95, 3, .getfield 254, [(12, 39)]),
  (98, 1, .ireturn, []),
  (99, 1, .aload_n 0, [(0, 0)]),
  (100, 3, .getfield 9, [(12, 1)]),
  (103, 2, .bipush 6, [(6, 0)]),
  (105, 1, .iaload, []),
  (106, 1, .ireturn, []),
  (107, 1, .aload_n 0, [(0, 0)]),
  (108, 3, .getfield 166, [(12, 16)]),
  (111, 1, .ireturn, []),
  (112, 1, .iconst (-1), [(1, 1)]),
  (113, 1, .ireturn, [])]
/-- PackedForestModel.count (I)I -/
def zt318 : zzT := (⟨"PackedForestModel", "count", "(I)I"⟩, prog_14_method_148_code, 2, (some .int), 1, zr318)
def zr319 : List zzI := [(0, 1, .iconst 0, [(0, 0)]),
  (1, 1, .istore_n 2, [(2, 0)]),
  (2, 0, .nop, [(0, 3), (1, 3), (2, 1)]),
  (2, 1, .iload_n 2, [(2, 0)]),
  (3, 1, .aload_n 1, [(1, 0)]),
  (4, 1, .arraylength, []),
  (5, 3, .if_icmp .ge 53, [(58, 0)]),
  (8, 1, .aload_n 0, [(0, 0)]),
  (9, 3, .getfield 621, [(12, 71)]),
  (12, 3, .ifCond .eq 18, [(30, 0)]),
  (15, 1, .aload_n 1, [(1, 0)]),
  (16, 1, .iload_n 2, [(2, 0)]),
  (17, 1, .aload_n 0, [(0, 0)]),
  (18, 3, .getfield 148, [(12, 68)]),
  (21, 1, .aload_n 0, [(0, 0)]),
  (22, 3, .getfield 624, [(12, 70)]),
  (25, 1, .iaload, []),
  (26, 1, .iastore, []),
  (27, 3, .goto 15, [(42, 0)]),
  (30, 1, .aload_n 0, [(0, 0)]),
  (31, 3, .getfield 148, [(12, 68)]),
  (34, 1, .aload_n 0, [(0, 0)]),
  (35, 3, .getfield 624, [(12, 70)]),
  (38, 1, .aload_n 1, [(1, 0)]),
  (39, 1, .iload_n 2, [(2, 0)]),
  (40, 1, .iaload, []),
  (41, 1, .iastore, []),
  (42, 1, .aload_n 0, [(0, 0)]),
  (43, 1, .dup, []),
  (44, 3, .getfield 624, [(12, 70)]),
  (47, 1, .iconst 1, [(1, 0)]),
  (48, 1, .iadd, []),
  (49, 3, .putfield 624, [(12, 70)]),
  (52, 3, .iinc 2 1, [(1, 0)]),
  (55, 3, .goto (-53), [(2, 0)]),
  (58, 1, .return_, [])]
/-- PackedForestModel.carryRow ([I)V -/
def zt319 : zzT := (⟨"PackedForestModel", "carryRow", "([I)V"⟩, prog_14_method_149_code, 3, none, 0, zr319)
def zr320 : List zzI := [(0, 1, .aload_n 0, [(0, 0)]),
  (1, 3, .sipush 640, [(640, 0)]),
  (4, 1, .iload_n 1, [(1, 0)]),
  (5, 1, .imul, []),
  (6, 3, .putfield 624, [(12, 70)]),
  (9, 1, .aload_n 0, [(0, 0)]),
  (10, 1, .iload_n 2, [(2, 0)]),
  (11, 3, .putfield 621, [(12, 71)]),
  (14, 1, .aload_n 0, [(0, 0)]),
  (15, 1, .aload_n 0, [(0, 0)]),
  (16, 3, .getfield 9, [(12, 1)]),
  (19, 3, .invokevirtual 627, [(319, 1), (0, 0), (12, 0)]),
  (22, 1, .aload_n 0, [(0, 0)]),
  (23, 1, .aload_n 0, [(0, 0)]),
  (24, 3, .getfield 13, [(12, 2)]),
  (27, 3, .invokevirtual 627, [(319, 1), (0, 0), (12, 0)]),
  (30, 1, .aload_n 0, [(0, 0)]),
  (31, 1, .aload_n 0, [(0, 0)]),
  (32, 3, .getfield 16, [(12, 3)]),
  (35, 3, .invokevirtual 627, [(319, 1), (0, 0), (12, 0)]),
  (38, 1, .aload_n 0, [(0, 0)]),
  (39, 1, .aload_n 0, [(0, 0)]),
  (40, 3, .getfield 19, [(12, 4)]),
  (43, 3, .invokevirtual 627, [(319, 1), (0, 0), (12, 0)]),
  (46, 1, .aload_n 0, [(0, 0)]),
  (47, 1, .aload_n 0, [(0, 0)]),
  (48, 3, .getfield 22, [(12, 5)]),
  (51, 3, .invokevirtual 627, [(319, 1), (0, 0), (12, 0)]),
  (54, 1, .aload_n 0, [(0, 0)]),
  (55, 1, .aload_n 0, [(0, 0)]),
  (56, 3, .getfield 25, [(12, 6)]),
  (59, 3, .invokevirtual 627, [(319, 1), (0, 0), (12, 0)]),
  (62, 1, .aload_n 0, [(0, 0)]),
  (63, 1, .aload_n 0, [(0, 0)]),
  (64, 3, .getfield 28, [(12, 7)]),
  (67, 3, .invokevirtual 627, [(319, 1), (0, 0), (12, 0)]),
  (70, 1, .aload_n 0, [(0, 0)]),
  (71, 1, .aload_n 0, [(0, 0)]),
  (72, 3, .getfield 31, [(12, 8)]),
  (75, 3, .invokevirtual 627, [(319, 1), (0, 0), (12, 0)]),
  (78, 1, .aload_n 0, [(0, 0)]),
  (79, 3, .getfield 93, [(12, 38)]),
  (82, 1, .iconst 0, [(0, 0)]),
  (83, 1, .aload_n 0, [(0, 0)]),
  (84, 3, .getfield 254, [(12, 39)]),
  (87, 1, .iastore, []),
  (88, 1, .aload_n 0, [(0, 0)]),
  (89, 1, .aload_n 0, [(0, 0)]),
  (90, 3, .getfield 93, [(12, 38)]),
  (93, 3, .invokevirtual 627, [(319, 1), (0, 0), (12, 0)]),
  (96, 1, .aload_n 0, [(0, 0)]),
  (97, 1, .aload_n 0, [(0, 0)]),
  (98, 3, .getfield 93, [(12, 38)]),
  (101, 1, .iconst 0, [(0, 0)]),
  (102, 1, .iaload, []),
  (103, 3, .putfield 254, [(12, 39)]),
  (106, 1, .aload_n 0, [(0, 0)]),
  (107, 1, .aload_n 0, [(0, 0)]),
  (108, 3, .getfield 90, [(12, 37)]),
  (111, 3, .invokevirtual 627, [(319, 1), (0, 0), (12, 0)]),
  (114, 1, .return_, [])]
/-- PackedForestModel.carriesAll (IZ)V -/
def zt320 : zzT := (⟨"PackedForestModel", "carriesAll", "(IZ)V"⟩, prog_14_method_150_code, 3, none, 0, zr320)
def zr321 : List zzI := [(0, 1, .iload_n 1, [(1, 0)]),
  (1, 1, .i2l, []),
  (2, 1, .lconst 0, [(0, 0)]),
  (3, 3, .ldc2_w 536, [(3, 0)]),
  (6, 3, .invokestatic 158, [(173, 3), (4, 0)]),
  (9, 3, .ifCond .ne 5, [(14, 0)]),
  (12, 1, .iconst (-1), [(1, 1)]),
  (13, 1, .ireturn, []),
  (14, 1, .aload_n 0, [(0, 0)]),
  (15, 3, .getfield 151, [(12, 69)]),
  (18, 1, .iload_n 1, [(1, 0)]),
  (19, 1, .iconst 1, [(1, 0)]),
  (20, 1, .bastore, []),
  (21, 1, .aload_n 0, [(0, 0)]),
  (22, 1, .iload_n 1, [(1, 0)]),
  (23, 1, .iconst 0, [(0, 0)]),
  (24, 3, .invokevirtual 630, [(320, 2), (0, 0), (12, 0)]),
  (27, 1, .aload_n 0, [(0, 0)]),
  (28, 3, .getfield 9, [(12, 1)]),
  (31, 1, .iconst 2, [(2, 0)]),
  (32, 1, .iaload, []),
  (33, 1, .ireturn, [])]
/-- PackedForestModel.image (I)I -/
def zt321 : zzT := (⟨"PackedForestModel", "image", "(I)I"⟩, prog_14_method_151_code, 2, (some .int), 1, zr321)
def zr322 : List zzI := [(0, 1, .iload_n 1, [(1, 0)]),
  (1, 1, .i2l, []),
  (2, 1, .lconst 0, [(0, 0)]),
  (3, 3, .ldc2_w 536, [(3, 0)]),
  (6, 3, .invokestatic 158, [(173, 3), (4, 0)]),
  (9, 3, .ifCond .eq 12, [(21, 0)]),
  (12, 1, .aload_n 0, [(0, 0)]),
  (13, 3, .getfield 151, [(12, 69)]),
  (16, 1, .iload_n 1, [(1, 0)]),
  (17, 1, .baload, []),
  (18, 3, .ifCond .ne 5, [(23, 0)]),
  (21, 1, .iconst (-1), [(1, 1)]),
  (22, 1, .ireturn, []),
  (23, 1, .aload_n 0, [(0, 0)]),
  (24, 1, .iload_n 1, [(1, 0)]),
  (25, 1, .iconst 1, [(1, 0)]),
  (26, 3, .invokevirtual 630, [(320, 2), (0, 0), (12, 0)]),
  (29, 1, .aload_n 0, [(0, 0)]),
  (30, 1, .iconst 0, [(0, 0)]),
  (31, 3, .putfield 245, [(12, 36)]),
  (34, 1, .aload_n 0, [(0, 0)]),
  (35, 3, .getfield 9, [(12, 1)]),
  (38, 1, .iconst 2, [(2, 0)]),
  (39, 1, .iaload, []),
  (40, 1, .ireturn, [])]
/-- PackedForestModel.back (I)I -/
def zt322 : zzT := (⟨"PackedForestModel", "back", "(I)I"⟩, prog_14_method_152_code, 2, (some .int), 1, zr322)
def zzP : List zzT := [zt3, zt4, zt5, zt6, zt7, zt8, zt9, zt10, zt11, zt12, zt13, zt14, zt15, zt16, zt17, zt18, zt19, zt20, zt21, zt22, zt23, zt24, zt25, zt26, zt27, zt28, zt29, zt30, zt31, zt32, zt33, zt34, zt35, zt36, zt37, zt38, zt39, zt40, zt41, zt42, zt43, zt44, zt45, zt46, zt47, zt48, zt49, zt50, zt51, zt52, zt53, zt54, zt55, zt56, zt57, zt58, zt59, zt60, zt61, zt62, zt63, zt64, zt65, zt66, zt67, zt68, zt69, zt70, zt71, zt72, zt73, zt74, zt75, zt76, zt77, zt78, zt79, zt80, zt81, zt82, zt83, zt84, zt85, zt86, zt87, zt88, zt89, zt90, zt91, zt92, zt93, zt94, zt95, zt96, zt97, zt98, zt99, zt100, zt101, zt102, zt103, zt104, zt105, zt106, zt107, zt108, zt109, zt110, zt111, zt112, zt113, zt114, zt115, zt116, zt117, zt118, zt119, zt120, zt121, zt122, zt123, zt124, zt125, zt126, zt127, zt128, zt129, zt130, zt131, zt132, zt133, zt134, zt135, zt136, zt137, zt138, zt139, zt140, zt141, zt142, zt143, zt144, zt145, zt146, zt147, zt148, zt149, zt150, zt151, zt152, zt153, zt154, zt155, zt156, zt157, zt158, zt159, zt160, zt161, zt162, zt163, zt164, zt165, zt166, zt167, zt168, zt169, zt170, zt171, zt172, zt173, zt174, zt175, zt176, zt177, zt178, zt179, zt180, zt181, zt182, zt183, zt184, zt185, zt186, zt187, zt188, zt189, zt190, zt191, zt192, zt193, zt194, zt195, zt196, zt197, zt198, zt199, zt200, zt201, zt202, zt203, zt204, zt205, zt206, zt207, zt208, zt209, zt210, zt211, zt212, zt213, zt214, zt215, zt216, zt217, zt218, zt219, zt220, zt221, zt222, zt223, zt224, zt225, zt226, zt227, zt228, zt229, zt230, zt231, zt232, zt233, zt234, zt235, zt236, zt237, zt238, zt239, zt240, zt241, zt242, zt243, zt244, zt245, zt246, zt247, zt248, zt249, zt250, zt251, zt252, zt253, zt254, zt255, zt256, zt257, zt258, zt259, zt260, zt261, zt262, zt263, zt264, zt265, zt266, zt267, zt268, zt269, zt270, zt271, zt272, zt273, zt274, zt275, zt276, zt277, zt278, zt279, zt280, zt281, zt282, zt283, zt284, zt285, zt286, zt287, zt288, zt289, zt290, zt291, zt292, zt293, zt294, zt295, zt296, zt297, zt298, zt299, zt300, zt301, zt302, zt303, zt304, zt305, zt306, zt307, zt308, zt309, zt310, zt311, zt312, zt313, zt314, zt315, zt316, zt317, zt318, zt319, zt320, zt321, zt322]
end
section
/-! A ROW's CHECK, by places of the tables' words -/
def zzw (k : Nat) : List Cond := match k with
  | 0 => k2_sels lw_privs
  | 1 => tables_1_1
  | 2 => tables_1_2
  | 3 => tables_1_3
  | 4 => tables_1_4
  | 5 => tables_1_5
  | 6 => tables_1_6
  | 7 => tables_1_7
  | 8 => tables_1_8
  | 9 => tables_1_9
  | _ => []
theorem zzw_in {k : Nat} {w : Cond} (h : w ∈ zzw k) : w ∈ lw_tbl := by
  unfold lw_tbl tables_1
  match k, h with
  | 0, h => exact List.mem_append_left _ h
  | 1, h => exact List.mem_append_right _ (List.mem_append_left _ h)
  | 2, h => exact List.mem_append_right _ (List.mem_append_right _ (List.mem_append_left _ h))
  | 3, h => exact List.mem_append_right _ (List.mem_append_right _ (List.mem_append_right _ (List.mem_append_left _ h)))
  | 4, h => exact List.mem_append_right _ (List.mem_append_right _ (List.mem_append_right _ (List.mem_append_right _ (List.mem_append_left _ h))))
  | 5, h => exact List.mem_append_right _ (List.mem_append_right _ (List.mem_append_right _ (List.mem_append_right _ (List.mem_append_right _ (List.mem_append_left _ h)))))
  | 6, h => exact List.mem_append_right _ (List.mem_append_right _ (List.mem_append_right _ (List.mem_append_right _ (List.mem_append_right _ (List.mem_append_right _ (List.mem_append_left _ h))))))
  | 7, h => exact List.mem_append_right _ (List.mem_append_right _ (List.mem_append_right _ (List.mem_append_right _ (List.mem_append_right _ (List.mem_append_right _ (List.mem_append_right _ (List.mem_append_left _ h)))))))
  | 8, h => exact List.mem_append_right _ (List.mem_append_right _ (List.mem_append_right _ (List.mem_append_right _ (List.mem_append_right _ (List.mem_append_right _ (List.mem_append_right _ (List.mem_append_right _ (List.mem_append_left _ h))))))))
  | 9, h => exact List.mem_append_right _ (List.mem_append_right _ (List.mem_append_right _ (List.mem_append_right _ (List.mem_append_right _ (List.mem_append_right _ (List.mem_append_right _ (List.mem_append_right _ (List.mem_append_right _ h))))))))
  | n + 10, h => cases h
def zzh (q : Nat × Nat) (w : Cond) : Bool := decide ((zzw q.1)[q.2]? = some w) && goodWord w
theorem zzh_in {q : Nat × Nat} {w : Cond} (h : zzh q w = true) : w ∈ zzTb := by
  unfold zzh at h
  simp only [Bool.and_eq_true, decide_eq_true_eq] at h
  exact zzTb_of (zzw_in (List.mem_of_getElem? h.1)) h.2
def zzg (ps : List (Nat × Nat)) (k : Nat) : Nat × Nat := ps.getD k (99, 0)
/-- a field's link -/
def zzckf (own : String) (j : Nat) (a : Nat × Nat) (q : Nat × Nat) (w : Bool) : Bool := match zzcl[a.1]? with
  | some r => decide (a.2 < r.2.2) && zzh q (Cond.fieldLink own j (r.2.1 a.2).1 (r.2.1 a.2).2.1 (r.2.1 a.2).2.2.1) && (!w || !(r.2.1 a.2).2.2.2)
  | none => false
theorem zzckf_s {own : String} {j : Nat} {a q : Nat × Nat} {w : Bool} (h : zzckf own j a q w = true) : ∃ r, zzcl[a.1]? = some r ∧ a.2 < r.2.2 ∧ Cond.fieldLink own j (r.2.1 a.2).1 (r.2.1 a.2).2.1 (r.2.1 a.2).2.2.1 ∈ zzTb ∧ (w = true → (r.2.1 a.2).2.2.2 = false) := by
  unfold zzckf at h
  split at h
  · rename_i r hr
    simp only [Bool.and_eq_true, decide_eq_true_eq] at h
    refine ⟨r, hr, h.1.1, zzh_in h.1.2, fun hw => ?_⟩
    have h2 := h.2
    rw [hw] at h2
    simpa using h2
  · cases h
/-- a method's words -/
def zzckm (q : zzT) (a b : Nat × Nat) : Bool := zzh a (Cond.code q.1 q.2.1 q.2.2.1 q.2.2.2.1) && zzh b (Cond.initialized q.1.cls) && decide (q.1.cls ≠ "java/lang/invoke/MethodHandle" ∧ q.1.cls ≠ "java/lang/invoke/VarHandle" ∧ q.2.2.1 ≤ 21)
theorem zzckm_s {q : zzT} {a b : Nat × Nat} (h : zzckm q a b = true) : zzmw q := by
  unfold zzckm at h
  simp only [Bool.and_eq_true, decide_eq_true_eq] at h
  exact ⟨zzh_in h.1.1, zzh_in h.1.2, h.2⟩
def zzcks (P : List zzT) (own : String) (j : Nat) (aux ps : List (Nat × Nat)) : Bool := match (zzfst aux).1 with
  | 0 => zzh (zzg ps 0) (Cond.methodLink own j arraycopyName) && decide ((zzfst aux).2 = 5 ∧ (zzsnd aux).1 = 0)
  | 1 => zzh (zzg ps 0) (Cond.methodLink own j Lib.Math.min.name) && decide ((zzfst aux).2 = 2 ∧ (zzsnd aux).1 = 1)
  | 2 => zzh (zzg ps 0) (Cond.methodLink own j Lib.MathLoose.min_long.x) && decide ((zzfst aux).2 = 2 ∧ (zzsnd aux).1 = 2)
  | y + 3 => (match P[y]? with
    | some q => zzckm q (zzg ps 1) (zzg ps 2) && zzh (zzg ps 3) (Cond.static q.1) && decide ((zzsnd aux).1 = q.2.2.2.2.1 ∧ (parseMethodDescriptor q.1.desc).map (fun d => d.parameters.length) = some (zzfst aux).2) && (match (zzg ps 4).1 with
      | 0 => zzh (zzg ps 0) (Cond.methodLink own j q.1)
      | _ => decide ((own, j, q.1) ∈ zznest))
    | none => false)
theorem zzcks_s {P : List zzT} {own : String} {j : Nat} {aux ps : List (Nat × Nat)} (h : zzcks P own j aux ps = true) : (match (zzfst aux).1 with
    | 0 => Cond.methodLink own j arraycopyName ∈ zzTb ∧ (zzfst aux).2 = 5 ∧ (zzsnd aux).1 = 0
    | 1 => Cond.methodLink own j Lib.Math.min.name ∈ zzTb ∧ (zzfst aux).2 = 2 ∧ (zzsnd aux).1 = 1
    | 2 => Cond.methodLink own j Lib.MathLoose.min_long.x ∈ zzTb ∧ (zzfst aux).2 = 2 ∧ (zzsnd aux).1 = 2
    | y + 3 => ∃ q, P[y]? = some q ∧ zzmw q ∧ Cond.static q.1 ∈ zzTb ∧ (zzsnd aux).1 = q.2.2.2.2.1 ∧ (parseMethodDescriptor q.1.desc).map (fun d => d.parameters.length) = some (zzfst aux).2 ∧ (Cond.methodLink own j q.1 ∈ zzTb ∨ (own, j, q.1) ∈ zznest)) := by
  unfold zzcks at h
  rcases zz4 (zzfst aux).1 with hy | hy | hy | ⟨y, hy⟩
  · simp only [hy, Bool.and_eq_true, decide_eq_true_eq] at h
    rw [hy]
    exact ⟨zzh_in h.1, h.2⟩
  · simp only [hy, Bool.and_eq_true, decide_eq_true_eq] at h
    rw [hy]
    exact ⟨zzh_in h.1, h.2⟩
  · simp only [hy, Bool.and_eq_true, decide_eq_true_eq] at h
    rw [hy]
    exact ⟨zzh_in h.1, h.2⟩
  · simp only [hy] at h
    rw [hy]
    cases hq : P[y]? with
    | none => simp only [hq] at h; cases h
    | some q =>
      simp only [hq, Bool.and_eq_true, decide_eq_true_eq] at h
      refine ⟨q, hq, zzckm_s h.1.1.1, zzh_in h.1.1.2, h.1.2.1, h.1.2.2, ?_⟩
      have h2 := h.2
      split at h2
      · exact Or.inl (zzh_in h2)
      · exact Or.inr (of_decide_eq_true h2)
def zzckv (P : List zzT) (own : String) (j : Nat) (aux ps : List (Nat × Nat)) : Bool := match (zzfst aux).1 with
  | 0 => false
  | 1 => false
  | 2 => false
  | y + 3 => (match P[y]?, zzcl[(zzthd aux).1]? with
    | some q, some r => zzckm q (zzg ps 1) (zzg ps 2) && decide (r.1 = q.1.cls) && zzh (zzg ps 3) (Cond.instanceMethod q.1) && zzh (zzg ps 4) (Cond.selects q.1.cls q.1 q.1) && decide ((zzsnd aux).1 = q.2.2.2.2.1 ∧ (parseMethodDescriptor q.1.desc).map (fun d => d.parameters.length) = some (zzfst aux).2) && zzh (zzg ps 0) (Cond.methodLink own j q.1)
    | _, _ => false)
theorem zzckv_s {P : List zzT} {own : String} {j : Nat} {aux ps : List (Nat × Nat)} (h : zzckv P own j aux ps = true) : (match (zzfst aux).1 with
    | 0 => False
    | 1 => False
    | 2 => False
    | y + 3 => ∃ q r, P[y]? = some q ∧ zzmw q ∧ zzcl[(zzthd aux).1]? = some r ∧ r.1 = q.1.cls ∧ Cond.instanceMethod q.1 ∈ zzTb ∧ Cond.selects q.1.cls q.1 q.1 ∈ zzTb ∧ (zzsnd aux).1 = q.2.2.2.2.1 ∧ (parseMethodDescriptor q.1.desc).map (fun d => d.parameters.length) = some (zzfst aux).2 ∧ Cond.methodLink own j q.1 ∈ zzTb) := by
  unfold zzckv at h
  rcases zz4 (zzfst aux).1 with hy | hy | hy | ⟨y, hy⟩
  · simp only [hy] at h; cases h
  · simp only [hy] at h; cases h
  · simp only [hy] at h; cases h
  · simp only [hy] at h
    rw [hy]
    cases hq : P[y]? with
    | none => simp only [hq] at h; cases h
    | some q =>
      cases hr : zzcl[(zzthd aux).1]? with
      | none => simp only [hq, hr] at h; cases h
      | some r =>
        simp only [hq, hr, Bool.and_eq_true, decide_eq_true_eq] at h
        exact ⟨q, r, hq, zzckm_s h.1.1.1.1.1, rfl, h.1.1.1.1.2, zzh_in h.1.1.1.2, zzh_in h.1.1.2, h.1.2.1, h.1.2.2, zzh_in h.2⟩
def zzckw (P : List zzT) (own : String) (nL len pc : Nat) (i : Instr) (aux ps : List (Nat × Nat)) : Bool := match i with
  | .iconst n => len.beq 1 && decide (Int32.ofInt n = zzkon (zzfst aux))
  | .bipush n => len.beq 2 && decide ((Int8.ofInt n).toInt32 = zzkon (zzfst aux))
  | .sipush n => len.beq 3 && decide ((Int16.ofInt n).toInt32 = zzkon (zzfst aux))
  | .lconst n => len.beq 1 && decide (Int64.ofNat (n : Nat) = zzkol (zzfst aux))
  | .ldc j => len.beq 2 && zzh (zzg ps 0) (Cond.constant own j (zzkon (zzfst aux)))
  | .ldc_w j => len.beq 3 && zzh (zzg ps 0) (Cond.constant own j (zzkon (zzfst aux)))
  | .ldc2_w j => len.beq 3 && zzh (zzg ps 0) (Cond.constantLong own j (zzkol (zzfst aux)))
  | .iload k => len.beq 2
  | .lload k => len.beq 2
  | .aload k => len.beq 2
  | .iload_n k => len.beq 1 && decide ((k : Nat) = (zzfst aux).1)
  | .lload_n k => len.beq 1 && decide ((k : Nat) = (zzfst aux).1)
  | .aload_n k => len.beq 1 && decide ((k : Nat) = (zzfst aux).1)
  | .istore k => len.beq 2 && decide (k < nL)
  | .lstore k => len.beq 2 && decide (k + 1 < nL)
  | .istore_n k => len.beq 1 && decide ((k : Nat) = (zzfst aux).1 ∧ (zzfst aux).1 < nL)
  | .lstore_n k => len.beq 1 && decide ((k : Nat) = (zzfst aux).1 ∧ (zzfst aux).1 + 1 < nL)
  | .iinc k n => len.beq 3 && decide (k < nL ∧ Int32.ofInt n = zzkon (zzfst aux))
  | .goto o => len.beq 3 && decide ((pc : Int) + o = ((zzfst aux).1 : Int))
  | .ifCond cd o => len.beq 3 && decide ((pc : Int) + o = ((zzfst aux).1 : Int))
  | .if_icmp cd o => len.beq 3 && decide ((pc : Int) + o = ((zzfst aux).1 : Int))
  | .tableswitch d lo hi os => decide ((pc : Int) + d = ((zzfst aux).1 : Int) ∧ zztab pc lo.toNat os.toList (aux.drop 1) = true ∧ lo = (lo.toNat : Int) ∧ hi + 1 = lo + (os.size : Int) ∧ lo.toNat + os.size < 2147483648)
  | .lookupswitch d ps0 => decide ((pc : Int) + d = ((zzfst aux).1 : Int) ∧ zzlkp pc ps0.toList (aux.drop 1) = true ∧ (ps0.toList.zip (ps0.toList.drop 1)).all (fun (a, next) => a.1 < next.1) = true)
  | .getfield j => len.beq 3 && zzckf own j (zzfst aux) (zzg ps 0) false
  | .putfield j => len.beq 3 && zzckf own j (zzfst aux) (zzg ps 0) true
  | .invokestatic j => len.beq 3 && zzcks P own j aux ps
  | .invokevirtual j => len.beq 3 && zzckv P own j aux ps
  | _ => len.beq 1
theorem zzckw_s {P : List zzT} {own : String} {nL len pc : Nat} {aux ps : List (Nat × Nat)} : ∀ i : Instr, zzckw P own nL len pc i aux ps = true → zzwd P own nL len pc i aux := by
  intro i
  cases i with
  | iconst n => exact fun h => ⟨Nat.eq_of_beq_eq_true (Bool.and_eq_true_iff.mp h).1, of_decide_eq_true (Bool.and_eq_true_iff.mp h).2⟩
  | bipush n => exact fun h => ⟨Nat.eq_of_beq_eq_true (Bool.and_eq_true_iff.mp h).1, of_decide_eq_true (Bool.and_eq_true_iff.mp h).2⟩
  | sipush n => exact fun h => ⟨Nat.eq_of_beq_eq_true (Bool.and_eq_true_iff.mp h).1, of_decide_eq_true (Bool.and_eq_true_iff.mp h).2⟩
  | lconst n => exact fun h => ⟨Nat.eq_of_beq_eq_true (Bool.and_eq_true_iff.mp h).1, of_decide_eq_true (Bool.and_eq_true_iff.mp h).2⟩
  | ldc j => exact fun h => ⟨Nat.eq_of_beq_eq_true (Bool.and_eq_true_iff.mp h).1, zzh_in (Bool.and_eq_true_iff.mp h).2⟩
  | ldc_w j => exact fun h => ⟨Nat.eq_of_beq_eq_true (Bool.and_eq_true_iff.mp h).1, zzh_in (Bool.and_eq_true_iff.mp h).2⟩
  | ldc2_w j => exact fun h => ⟨Nat.eq_of_beq_eq_true (Bool.and_eq_true_iff.mp h).1, zzh_in (Bool.and_eq_true_iff.mp h).2⟩
  | iload k => exact fun h => Nat.eq_of_beq_eq_true h
  | lload k => exact fun h => Nat.eq_of_beq_eq_true h
  | aload k => exact fun h => Nat.eq_of_beq_eq_true h
  | iload_n k => exact fun h => ⟨Nat.eq_of_beq_eq_true (Bool.and_eq_true_iff.mp h).1, of_decide_eq_true (Bool.and_eq_true_iff.mp h).2⟩
  | lload_n k => exact fun h => ⟨Nat.eq_of_beq_eq_true (Bool.and_eq_true_iff.mp h).1, of_decide_eq_true (Bool.and_eq_true_iff.mp h).2⟩
  | aload_n k => exact fun h => ⟨Nat.eq_of_beq_eq_true (Bool.and_eq_true_iff.mp h).1, of_decide_eq_true (Bool.and_eq_true_iff.mp h).2⟩
  | istore k => exact fun h => ⟨Nat.eq_of_beq_eq_true (Bool.and_eq_true_iff.mp h).1, of_decide_eq_true (Bool.and_eq_true_iff.mp h).2⟩
  | lstore k => exact fun h => ⟨Nat.eq_of_beq_eq_true (Bool.and_eq_true_iff.mp h).1, of_decide_eq_true (Bool.and_eq_true_iff.mp h).2⟩
  | istore_n k => exact fun h => ⟨Nat.eq_of_beq_eq_true (Bool.and_eq_true_iff.mp h).1, of_decide_eq_true (Bool.and_eq_true_iff.mp h).2⟩
  | lstore_n k => exact fun h => ⟨Nat.eq_of_beq_eq_true (Bool.and_eq_true_iff.mp h).1, of_decide_eq_true (Bool.and_eq_true_iff.mp h).2⟩
  | iinc k n => exact fun h => ⟨Nat.eq_of_beq_eq_true (Bool.and_eq_true_iff.mp h).1, of_decide_eq_true (Bool.and_eq_true_iff.mp h).2⟩
  | goto o => exact fun h => ⟨Nat.eq_of_beq_eq_true (Bool.and_eq_true_iff.mp h).1, of_decide_eq_true (Bool.and_eq_true_iff.mp h).2⟩
  | ifCond cd o => exact fun h => ⟨Nat.eq_of_beq_eq_true (Bool.and_eq_true_iff.mp h).1, of_decide_eq_true (Bool.and_eq_true_iff.mp h).2⟩
  | if_icmp cd o => exact fun h => ⟨Nat.eq_of_beq_eq_true (Bool.and_eq_true_iff.mp h).1, of_decide_eq_true (Bool.and_eq_true_iff.mp h).2⟩
  | tableswitch d lo hi os => exact fun h => of_decide_eq_true (p := ((pc : Int) + d = ((zzfst aux).1 : Int) ∧ zztab pc lo.toNat os.toList (aux.drop 1) = true ∧ lo = (lo.toNat : Int) ∧ hi + 1 = lo + (os.size : Int) ∧ lo.toNat + os.size < 2147483648)) h
  | lookupswitch d ps0 => exact fun h => of_decide_eq_true (p := ((pc : Int) + d = ((zzfst aux).1 : Int) ∧ zzlkp pc ps0.toList (aux.drop 1) = true ∧ (ps0.toList.zip (ps0.toList.drop 1)).all (fun (a, next) => a.1 < next.1) = true)) h
  | getfield j => exact fun h => ⟨Nat.eq_of_beq_eq_true (Bool.and_eq_true_iff.mp h).1, (zzckf_s (Bool.and_eq_true_iff.mp h).2).imp fun r q => ⟨q.1, q.2.1, q.2.2.1⟩⟩
  | putfield j => exact fun h => ⟨Nat.eq_of_beq_eq_true (Bool.and_eq_true_iff.mp h).1, (zzckf_s (Bool.and_eq_true_iff.mp h).2).imp fun r q => ⟨q.1, q.2.1, q.2.2.1, q.2.2.2 rfl⟩⟩
  | invokestatic j => exact fun h => ⟨Nat.eq_of_beq_eq_true (Bool.and_eq_true_iff.mp h).1, zzcks_s (Bool.and_eq_true_iff.mp h).2⟩
  | invokevirtual j => exact fun h => ⟨Nat.eq_of_beq_eq_true (Bool.and_eq_true_iff.mp h).1, zzckv_s (Bool.and_eq_true_iff.mp h).2⟩
  | _ => exact fun h => Nat.eq_of_beq_eq_true h
def zzall (P : List zzT) (own : String) (nL : Nat) (cc : ByteArray) : List zzI → List (List (Nat × Nat)) → Bool
  | [], [] => true
  | q :: r, a :: ps => (q.2.1.beq 0 || (decide (decode cc q.1 = .ok (q.2.2.1, q.2.1)) && zzckw P own nL q.2.1 q.1 q.2.2.1 q.2.2.2 a)) && zzall P own nL cc r ps
  | _, _ => false
theorem zzall_s {P : List zzT} {own : String} {nL : Nat} {cc : ByteArray} : ∀ (rows : List zzI) (ps : List (List (Nat × Nat))), zzall P own nL cc rows ps = true → ∀ r ∈ rows, zzrow P own nL cc r
  | [], _, _, r, hr => by cases hr
  | q :: r, [], h, _, _ => by cases h
  | q :: r, a :: ps, h, x, hx => by
    unfold zzall at h
    simp only [Bool.and_eq_true, Bool.or_eq_true, decide_eq_true_eq] at h
    rcases List.mem_cons.mp hx with rfl | hx
    · rcases h.1 with h1 | h1
      · exact Or.inl (Nat.eq_of_beq_eq_true h1)
      · exact Or.inr ⟨h1.1, zzckw_s _ h1.2⟩
    · exact zzall_s r ps h.2 x hx
def zzrtB (rk : Nat) (ret : Option FieldType) : Bool := match rk with
  | 0 => decide (ret = none)
  | 1 => decide (ret = some .int)
  | 2 => decide (ret = some .long)
  | 3 => (match ret with
    | some (.object _) => true
    | _ => false)
  | _ => decide (ret = some .boolean)
theorem zzrtB_s {rk : Nat} {ret : Option FieldType} (h : zzrtB rk ret = true) : zzrt rk ret := by
  unfold zzrtB at h
  unfold zzrt
  split at h
  · exact of_decide_eq_true (p := ret = none) h
  · exact of_decide_eq_true (p := ret = some .int) h
  · exact of_decide_eq_true (p := ret = some .long) h
  · split at h
    · exact ⟨_, rfl⟩
    · cases h
  · rename_i h0 h1 h2 h3
    split
    · exact (h0 rfl).elim
    · exact (h1 rfl).elim
    · exact (h2 rfl).elim
    · exact (h3 rfl).elim
    · exact of_decide_eq_true h
def zzmB (P : List zzT) (q : zzT) (ps : List (List (Nat × Nat))) : Bool := plainName q.1.cls && zzrtB q.2.2.2.2.1 q.2.2.2.1 && zzall P q.1.cls q.2.2.1 q.2.1 q.2.2.2.2.2 ps && zzseq q.2.2.2.2.2 && zzhd q.2.2.2.2.2
theorem zzmB_s {P : List zzT} {q : zzT} {ps : List (List (Nat × Nat))} (h : zzmB P q ps = true) : zzmg P q := by
  unfold zzmB at h
  simp only [Bool.and_eq_true] at h
  exact ⟨h.1.1.1.1, zzrtB_s h.1.1.1.2, zzall_s _ _ h.1.1.2, h.1.2, h.2⟩
end
section
theorem zg3 : zzmg zzP zt3 := zzmB_s (ps := [[], [], [], [], [(3, 51)], [], [], [], [], [(3, 52)], [], [], [], [], [(3, 52)], [], [], [], [], [], [], [], [], [(3, 53)], [], [], [], [], [], [], [], [], [], [], [], [], [], [], [], [], [], []]) (by decide +kernel)
theorem zg4 : zzmg zzP zt4 := zzmB_s (ps := [[], [], [], [], [], [], [], [], [], [], [], [], [], [], [], []]) (by decide +kernel)
theorem zg5 : zzmg zzP zt5 := zzmB_s (ps := [[], [], [], [], [], [], [], [], [], [], [], [], [], [], [], []]) (by decide +kernel)
theorem zg6 : zzmg zzP zt6 := zzmB_s (ps := [[], [(1, 76)], [], [], [], [], [], [], []]) (by decide +kernel)
theorem zg7 : zzmg zzP zt7 := zzmB_s (ps := [[], [], [(1, 38)], [(1, 38)], [], [], [(1, 49)], [(1, 49)], [], [(1, 51)], [], [], [(1, 51)], [], [], [(3, 115)], [], [(1, 59)], [], [], [(1, 59)], [], [], [(3, 115)], [], [(1, 70)], [], [], [(1, 70)], [], [], [(3, 115)], [], [(1, 73)], [], [], [(1, 73)], [], [], [(3, 115)], [], [(1, 76)], [], [], [(1, 76)], [], [], [(3, 115)], [], [(1, 77)], [], [], [(1, 77)], [], [], [(3, 115)], []]) (by decide +kernel)
theorem zg8 : zzmg zzP zt8 := zzmB_s (ps := [[], [], [(1, 59)], [], [], [], [], [], [(1, 59)], [], [], [], [], [], [], [], [], [], [], [], [(3, 219), (3, 93), (1, 3), (3, 91), (3, 92)], [], [(3, 220), (3, 180), (1, 3), (3, 179), (0, 0)], [], [], [], [], [], [], [], [], [], [], [], []]) (by decide +kernel)
theorem zg9 : zzmg zzP zt9 := zzmB_s (ps := [[], [], [], [], [], [], [], [], [], [], [], [], [], [], []]) (by decide +kernel)
theorem zg10 : zzmg zzP zt10 := zzmB_s (ps := [[], [], [(1, 38)], [], [], [(1, 49)], [], [(1, 77)], [], [(3, 34), (3, 36), (1, 14), (3, 35), (0, 0)], [], [], [], [], [], [], [], [], [], [], [], [], [], [], [], [], [], [], [(3, 37), (3, 40), (1, 3), (3, 39), (0, 1)], [], [], [], [], [], [(3, 60), (3, 62), (1, 1), (3, 61), (1, 0)], [], [], [], [], [(3, 63), (3, 66), (1, 3), (3, 65), (0, 3)], [], [], [], [], [], [], [], [], [], [], [], [], [], [(3, 60), (3, 62), (1, 1), (3, 61), (1, 0)], [], [], [], [], [(3, 75), (3, 78), (1, 3), (3, 77), (0, 6)], []]) (by decide +kernel)
theorem zg11 : zzmg zzP zt11 := zzmB_s (ps := [[], [], [], [], [(3, 41), (3, 44), (1, 3), (3, 43), (0, 2)], [], [], [], [], [], [], [], [], [], [(3, 54), (3, 56), (1, 3), (3, 55), (0, 0)], [], [], [(1, 59)], [], [(1, 38)], [], [], [], [], [], [], [], [], [], [], [], [], [], [], [], [], [], [], [], [], [], [], [], [], [], [], [], [], [], [], [], [], [], [(3, 57), (3, 59), (1, 3), (3, 58), (0, 0)], [], [], [], [], [], [], [], [], [], [], [], []]) (by decide +kernel)
theorem zg12 : zzmg zzP zt12 := zzmB_s (ps := [[], [(3, 45), (3, 47), (1, 3), (3, 46), (0, 0)], [], [], [], [], [(1, 49)], [], [], [], [], [], [], [], [], [], [], [], [], [(1, 38)], [], [], [], [], [], [(1, 49)], [(3, 48), (3, 50), (1, 15), (3, 49), (0, 0)], [], [], [], [], [], []]) (by decide +kernel)
theorem zg13 : zzmg zzP zt13 := zzmB_s (ps := [[], [], [], [], [], [], [(3, 67), (3, 70), (1, 3), (3, 69), (0, 4)], [], [], [], [], [], [(3, 54), (3, 56), (1, 3), (3, 55), (0, 0)], [], [], [], [(3, 45), (3, 47), (1, 3), (3, 46), (0, 0)], [], [], [], [], [], [], [], [], [], [], [(3, 71), (3, 74), (1, 3), (3, 73), (0, 5)], [], [], [], [], [], [], [], [], [], [], [(1, 70)], [], [(1, 38)], [], [], [], [], [], [], [], [], [], [(1, 73)], [], [(1, 38)], [], [], [], [(3, 57), (3, 59), (1, 3), (3, 58), (0, 0)], [], [], [], [], [], [], [], [], [], []]) (by decide +kernel)
theorem zg14 : zzmg zzP zt14 := zzmB_s (ps := [[], [(1, 51)], [], [(1, 38)], [], [], [], [], [], [(1, 59)], [], [(1, 38)], [], [], [], [(1, 70)], [], [(1, 38)], [], [], [], [(1, 73)], [], [(1, 38)], [], [], [], [(1, 77)], [], [], [], [], [], [(1, 38)], [], [], [], [], [], [(1, 49)], [], [], [], [], [(1, 49)], [], [], [(1, 38)], [], [], [(1, 38)], []]) (by decide +kernel)
theorem zg15 : zzmg zzP zt15 := zzmB_s (ps := [[], [(1, 38)], [], [], [], [], [(1, 76)], [], [], [], [], [(1, 59)], [], [], [], [], [], [], [(1, 59)], [], [], [], [], [], [], []]) (by decide +kernel)
theorem zg16 : zzmg zzP zt16 := zzmB_s (ps := [[], [], [], [], [], [], [], [], [], [], [], [(3, 45), (3, 47), (1, 3), (3, 46), (0, 0)], [], [], [(1, 49)], [], [], [], [], [], [], [], [], [], [(3, 60), (3, 62), (1, 1), (3, 61), (1, 0)], [], [], [], [], []]) (by decide +kernel)
theorem zg17 : zzmg zzP zt17 := zzmB_s (ps := [[], [], [], [], [], [], [], [], [], []]) (by decide +kernel)
theorem zg18 : zzmg zzP zt18 := zzmB_s (ps := [[], [(3, 45), (3, 47), (1, 3), (3, 46), (0, 0)], [], [], [], [], [], [], [], [], [], [], []]) (by decide +kernel)
theorem zg19 : zzmg zzP zt19 := zzmB_s (ps := [[], [], [], [], [], [], [], [], [], []]) (by decide +kernel)
theorem zg20 : zzmg zzP zt20 := zzmB_s (ps := [[], [(1, 101)], [], [(1, 101)], [(3, 111), (3, 114), (1, 3), (3, 112), (3, 113)], [], [(1, 110)], [], [], [(1, 110)], [], [], [(4, 58)], [], [], [(1, 117)], [(1, 117)], [], [], [(1, 123)], [(1, 123)], [], [(1, 125)], [], [], [(1, 125)], [], [], [(4, 58)], [], [], [(1, 126)], [(1, 126)], [], [], [(1, 128)], [(1, 128)], [], [(1, 130)], [], [], [(1, 130)], [], [], [(4, 58)], [], [], [(1, 132)], [(1, 132)], [], [], [(1, 135)], [(1, 135)], []]) (by decide +kernel)
theorem zg21 : zzmg zzP zt21 := zzmB_s (ps := [[], [(1, 101)], [], [(3, 111), (3, 114), (1, 3), (3, 112), (3, 113)], [], [], [(1, 117)], [], [], [(1, 123)], [], [(1, 125)], [], [(3, 118), (3, 36), (1, 14), (3, 35), (0, 0)], [], [], [(1, 126)], [], [], [(1, 128)], [], [], [(1, 132)], []]) (by decide +kernel)
theorem zg22 : zzmg zzP zt22 := zzmB_s (ps := [[], [], [(1, 101)], [(1, 40)], [], [], [], [], [(1, 123)], [], [], [], []]) (by decide +kernel)
theorem zg23 : zzmg zzP zt23 := zzmB_s (ps := [[], [(3, 165), (3, 168), (1, 2), (3, 166), (3, 167)], [], [], [], [], [], [], [], [], []]) (by decide +kernel)
theorem zg24 : zzmg zzP zt24 := zzmB_s (ps := [[], [(1, 132)], [], [], [], [(1, 130)], [], [], [(1, 130)], [], [], [(4, 58)], [], [], [(1, 132)], [], [], [(1, 132)], [], [(1, 130)], [], [(1, 132)], [], [], [], [], [], [], [], [], [(1, 132)], [], [], [(1, 132)], []]) (by decide +kernel)
theorem zg25 : zzmg zzP zt25 := zzmB_s (ps := [[], [(1, 117)], [], [], [], [(1, 110)], [], [(1, 117)], [], [], [], [], [(1, 117)], [], [], [(1, 117)], []]) (by decide +kernel)
theorem zg26 : zzmg zzP zt26 := zzmB_s (ps := [[], [(1, 117)], [], [], [], [], [], [(1, 117)], [], [], [(1, 117)], [], [(1, 110)], [], [(1, 117)], [], []]) (by decide +kernel)
theorem zg27 : zzmg zzP zt27 := zzmB_s (ps := [[], [(1, 125)], [], [], [], [], [], [], [], [], [], [], []]) (by decide +kernel)
theorem zg28 : zzmg zzP zt28 := zzmB_s (ps := [[], [], [(1, 126)], [], [], [], [(4, 98), (4, 93), (1, 2), (4, 91), (4, 92)], [], [], [], [], [], [(1, 126)], [], [(1, 125)], [], [], [], [], [], [], [], [], []]) (by decide +kernel)
theorem zg29 : zzmg zzP zt29 := zzmB_s (ps := [[], [(1, 101)], [(1, 71)], [], [], [], [], [(1, 101)], [(1, 71)], [], [], [], [], [(1, 128)], [], [], [], [], [], [], [], [], [], [], [], [(1, 128)], [], [], [], [], [], [], [], [], [], [], [], [(4, 141), (4, 144), (1, 2), (4, 143), (0, 35)], [], [], [], [], [(1, 128)], [], [], [], [], [], [], [], [], [], [], [(4, 98), (4, 93), (1, 2), (4, 91), (4, 92)], [], [], [], [], []]) (by decide +kernel)
theorem zg30 : zzmg zzP zt30 := zzmB_s (ps := [[], [(1, 101)], [(1, 74)], [], [], [], [], [], [], [], [], [], [], [], [(1, 101)], [(1, 68)], [], [], [], [], [], [], [], [], [], [], [], [], []]) (by decide +kernel)
theorem zg31 : zzmg zzP zt31 := zzmB_s (ps := [[], [(1, 171)], [], [], [], [(3, 156), (3, 159), (1, 4), (3, 158), (0, 16)], [], [(3, 174), (3, 177), (1, 4), (3, 176), (0, 18)], [], [(3, 185), (3, 188), (1, 4), (3, 187), (0, 20)], [], [(3, 198), (3, 201), (1, 4), (3, 200), (0, 22)], [], [], [(3, 207), (3, 210), (1, 4), (3, 209), (0, 24)], [], [], [(3, 221), (3, 224), (1, 4), (3, 223), (0, 26)], [(1, 179)], [], [], [(3, 207), (3, 210), (1, 4), (3, 209), (0, 24)], [], [], [(3, 221), (3, 224), (1, 4), (3, 223), (0, 26)], [(1, 181)], [], [], [(1, 171)], []]) (by decide +kernel)
theorem zg32 : zzmg zzP zt32 := zzmB_s (ps := [[], [(1, 187)], [], [(3, 160), (3, 36), (1, 14), (3, 35), (0, 0)], [], [], [], [], [], [], [], [], [], [], [], [], [], [], [], [], [], [(1, 170)], [(1, 106)], [(1, 39)], [], [], [], [(1, 170)], [], [(3, 161), (3, 164), (1, 2), (3, 162), (3, 163)], [], [], [], [(3, 169), (3, 172), (1, 4), (3, 171), (0, 17)], [], [], [], [], [], [], [], [], [], [], [], [], [(1, 175)], [], [], [(1, 173)], [], [], [], [], [], [], [], [(1, 187)], [], [], [], [], [], [(1, 175)], [], [], [], [], [(1, 175)], [], [(1, 187)], [], [], [], [], [], [(1, 173)], [], [], [], [], [(1, 173)], [], [], []]) (by decide +kernel)
theorem zg33 : zzmg zzP zt33 := zzmB_s (ps := [[], [], [], [], [], [], [], [(1, 170)], [(1, 106)], [(1, 60)], [], [], [], [], [(1, 170)], [(1, 106)], [], [], [(3, 173), (3, 93), (1, 3), (3, 91), (3, 92)], [], [], [], [], [], [], [], [(1, 187)], [], [], [], [], [], [], [], [], [], [], [], [], [], [], [], [], [(1, 170)], [(1, 106)], [(1, 56)], [], [], [], [], [], [], [(1, 187)], [], [], [], [], [(1, 187)], [], [], [], [], [], [], [], [(1, 187)], [], [], [], [], []]) (by decide +kernel)
theorem zg34 : zzmg zzP zt34 := zzmB_s (ps := [[], [], [], [(1, 170)], [(1, 106)], [(1, 56)], [], [], [], [], [], [(1, 177)], [], [], [], [], [], [], [], [], [], [], [(1, 177)], [], [], [(1, 177)], [], [], [], [], [], [], [(1, 170)], [(1, 106)], [(1, 39)], [], [], [(1, 170)], [], [(3, 161), (3, 164), (1, 2), (3, 162), (3, 163)], [], [], [(1, 170)], [(1, 106)], [(1, 56)], [], [], [], [(1, 177)], [(3, 178), (3, 180), (1, 3), (3, 179), (0, 0)], [], [], [], [(1, 177)], [], [], [(3, 181), (3, 184), (1, 4), (3, 183), (0, 19)], [], [(1, 177)], [], [], [], [], []]) (by decide +kernel)
theorem zg35 : zzmg zzP zt35 := zzmB_s (ps := [[], [], [], [], [], [], [], [(1, 170)], [(1, 106)], [(1, 60)], [], [], [], [], [(1, 170)], [(1, 106)], [], [], [(3, 173), (3, 93), (1, 3), (3, 91), (3, 92)], [], [], [], [], [], [], [], [], [], [], [], [], [], [], [], []]) (by decide +kernel)
theorem zg36 : zzmg zzP zt36 := zzmB_s (ps := [[], [(1, 183)], [], [(3, 160), (3, 36), (1, 14), (3, 35), (0, 0)], [], [], [], [], [], [], [], [], [], [], [], [], [], [], [], [], [], [(1, 170)], [(1, 106)], [(1, 39)], [], [], [(1, 170)], [], [(3, 161), (3, 164), (1, 2), (3, 162), (3, 163)], [], [], [], [(1, 183)], [], [(1, 170)], [(1, 106)], [(1, 56)], [], [], [], [], [], [(3, 189), (3, 192), (1, 4), (3, 191), (0, 21)], [(3, 194)], [], [(3, 195), (3, 197), (1, 4), (3, 196), (0, 0)], [], [], [], [], [], [], []]) (by decide +kernel)
theorem zg37 : zzmg zzP zt37 := zzmB_s (ps := [[], [(1, 185)], [], [(3, 160), (3, 36), (1, 14), (3, 35), (0, 0)], [], [(1, 185)], [], [(1, 170)], [(1, 106)], [(1, 56)], [], [], [(3, 202)], [(3, 195), (3, 197), (1, 4), (3, 196), (0, 0)], [], [], [], [], [], [], [], [], [], [], [], [], [], [], [], [], [], [], [(1, 170)], [(1, 106)], [(1, 39)], [], [], [(1, 170)], [], [(3, 161), (3, 164), (1, 2), (3, 162), (3, 163)], [], [], [(1, 170)], [(1, 106)], [(1, 56)], [], [], [], [(1, 177)], [(3, 178), (3, 180), (1, 3), (3, 179), (0, 0)], [], [], [], [], [(3, 203), (3, 206), (1, 4), (3, 205), (0, 23)], [], [], [], [], [], [], []]) (by decide +kernel)
theorem zg38 : zzmg zzP zt38 := zzmB_s (ps := [[], [], [], [], [], [], [], [(1, 170)], [(1, 106)], [(1, 60)], [], [], [], [], [(1, 170)], [(1, 106)], [], [], [(3, 173), (3, 93), (1, 3), (3, 91), (3, 92)], [], [], [], [], [], [], [], [], [], [(3, 189), (3, 192), (1, 4), (3, 191), (0, 21)], [], [], [(3, 193)], [], [], [], [(3, 194)], [], [], [(1, 185)], [], [(1, 170)], [(1, 106)], [(1, 56)], [], [], [], [], [], [], [], [], [], [(1, 185)], [], [], [(3, 195), (3, 197), (1, 4), (3, 196), (0, 0)], [], [], [], [], [], []]) (by decide +kernel)
theorem zg39 : zzmg zzP zt39 := zzmB_s (ps := [[], [], [], [], [], [], [], [], [], [], [], [], [], [], [], [], [], [], [], [], [], [], []]) (by decide +kernel)
theorem zg40 : zzmg zzP zt40 := zzmB_s (ps := [[], [], [], [], [], [], [], [(1, 170)], [(1, 106)], [(1, 60)], [], [], [], [], [(1, 170)], [(1, 106)], [], [], [(3, 173), (3, 93), (1, 3), (3, 91), (3, 92)], [], [], [], [], [], [], [], [], [], [], [], [], [(1, 183)], [], [], [], [], [], [], [], [], [(1, 173)], [(3, 178), (3, 180), (1, 3), (3, 179), (0, 0)], [], [], [], [], [], [], [(3, 193)], [], []]) (by decide +kernel)
theorem zg41 : zzmg zzP zt41 := zzmB_s (ps := [[], [(1, 189)], [], [(3, 160), (3, 36), (1, 14), (3, 35), (0, 0)], [], [], [], [], [], [(1, 170)], [(1, 106)], [(1, 39)], [], [], [(1, 170)], [], [(3, 161), (3, 164), (1, 2), (3, 162), (3, 163)], [], [], [], [], [(3, 211), (3, 214), (1, 4), (3, 213), (0, 25)], [], [], []]) (by decide +kernel)
theorem zg42 : zzmg zzP zt42 := zzmB_s (ps := [[], [(1, 170)], [(1, 106)], [], [], [(1, 173)], [(3, 215), (3, 218), (1, 3), (3, 216), (3, 217)], [], [], [], [], [], [], [(1, 170)], [(1, 106)], [(1, 60)], [], [], [], [], [(1, 170)], [(1, 106)], [], [], [(3, 173), (3, 93), (1, 3), (3, 91), (3, 92)], [], [], [], [], [], [], [], [], [], [], [], [], [], [], [], [], [(1, 189)], [], [(1, 170)], [(1, 106)], [(1, 56)], [], [], [], [], [], [], [], [(3, 195), (3, 197), (1, 4), (3, 196), (0, 0)], [], [], [], [(1, 173)], [(3, 178), (3, 180), (1, 3), (3, 179), (0, 0)], [], [], [], [], []]) (by decide +kernel)
theorem zg43 : zzmg zzP zt43 := zzmB_s (ps := [[], [], [], [], [], [], [], [], [], [], [], [], [], [(1, 189)], [], [], [], [], [], [], [], [], [(1, 189)], [], [], [], [], [(1, 189)], [], [], [], [], [], [], [], [], [], [], [], [], [], [], [], [], [], [], [(1, 189)], [], [], [], [], [], [], [], [], [], [], [], []]) (by decide +kernel)
theorem zg44 : zzmg zzP zt44 := zzmB_s (ps := [[], [(1, 225)], [], [], [], [], [], [], []]) (by decide +kernel)
theorem zg45 : zzmg zzP zt45 := zzmB_s (ps := [[], [(1, 224)], [], [], [], [], [], [], [], [], [], []]) (by decide +kernel)
theorem zg46 : zzmg zzP zt46 := zzmB_s (ps := [[], [], [], [], [], [], [], [], [], [], [], [(4, 46), (4, 20), (1, 5), (4, 18), (4, 19)], [], [], [], [], [], [], [], [], [], [], []]) (by decide +kernel)
theorem zg47 : zzmg zzP zt47 := zzmB_s (ps := [[], [], [(1, 219)], [], [], [], [(3, 83), (3, 86), (1, 5), (3, 85), (0, 7)], [], [(1, 224)], [], [], [(1, 227)], [], [(1, 57)], [], [], [], [], [], [], [], [], [(1, 222)], [], [], [], [], [], [(1, 222)], [], [], [], [], [], [], [], [], [(3, 98), (3, 101), (1, 5), (3, 100), (0, 9)], [], [], [], [], [], [(3, 98), (3, 101), (1, 5), (3, 100), (0, 9)], [], [], [], [], [], [], [], [(1, 219)], [], []]) (by decide +kernel)
theorem zg48 : zzmg zzP zt48 := zzmB_s (ps := [[], [(1, 226)], [], [(3, 87), (3, 89), (1, 14), (3, 88), (0, 0)], [], [(1, 227)], [], [(3, 87), (3, 89), (1, 14), (3, 88), (0, 0)], [], [], [], [], [], [(1, 46)], [], [], [], [], [], [], [], [], [(1, 227)], [], [(1, 57)], [], [], [], [], [], [], [], [], [], [], [], [], [], [], [], [], [], [], [(1, 64)], [], [], [], [], [(1, 226)], [], [], [], [(3, 90), (3, 93), (1, 3), (3, 91), (3, 92)], [], [], [], [], [], [], [], [], [], [], [], [], [], [], [], [], [], [], [], [], [], [], [], [], [], [], [], [], [], [], [], [], [], [], [(1, 227)], [], [], [], [], [(1, 227)], [], [], [], [(3, 94), (3, 97), (1, 5), (3, 96), (0, 8)], [], [], [], [(1, 227)], [], [], [], [], [], [], [], [], [], [], [], [], [], [], []]) (by decide +kernel)
theorem zg49 : zzmg zzP zt49 := zzmB_s (ps := [[], [], [], [], [], [], [], [], [], [], [(1, 226)], [], [], [], [], [], [], [], [], [], [], [(1, 227)], [], [], [], [], [], [], [], []]) (by decide +kernel)
theorem zg50 : zzmg zzP zt50 := zzmB_s (ps := [[], [], [], [], [], [], [], [(1, 224)], [], [], [], [(1, 226)], [], [], [], [], [], [], [], [], [], [], [], [], [], [], [], [(3, 94), (3, 97), (1, 5), (3, 96), (0, 8)], [(3, 102), (3, 105), (1, 5), (3, 104), (0, 10)], [], [], [], [], [], [], [], [(1, 225)], [], [], [], [], [], [], [], [], [], [], []]) (by decide +kernel)
theorem zg51 : zzmg zzP zt51 := zzmB_s (ps := [[], [], [], [], [], [(1, 222)], [], [], [(1, 224)], [], [], [], [], [], [], [], [], [], [], [(1, 222)], [], [], [], [], [], [(1, 224)], [], [(1, 222)], [], [], [], [], [(1, 222)], [], [], [(1, 222)], [], [(1, 222)], [], [], []]) (by decide +kernel)
theorem zg52 : zzmg zzP zt52 := zzmB_s (ps := [[], [(2, 13)], [], [], [(4, 153), (4, 155), (1, 1), (4, 154), (1, 0)], [], []]) (by decide +kernel)
theorem zg53 : zzmg zzP zt53 := zzmB_s (ps := [[], [], [], [(4, 190), (4, 193), (1, 6), (4, 191), (4, 192)], [], [(2, 8)], [(1, 104)], [(1, 79)], [], [], [], [], [], [], [], [], [], []]) (by decide +kernel)
theorem zg54 : zzmg zzP zt54 := zzmB_s (ps := [[], [(2, 12)], [], [], [], [], [], [], [], [], [], [], [], [], [], [], []]) (by decide +kernel)
theorem zg55 : zzmg zzP zt55 := zzmB_s (ps := [[], [(2, 13)], [], [], [(4, 153), (4, 155), (1, 1), (4, 154), (1, 0)], [], [], [(2, 12)], [], [], [], [], [], [], [], []]) (by decide +kernel)
theorem zg56 : zzmg zzP zt56 := zzmB_s (ps := [[], [(2, 14)], [], [], [], [], [], [], [], [], [], [], [], [], [], [], [], [], []]) (by decide +kernel)
theorem zg57 : zzmg zzP zt57 := zzmB_s (ps := [[], [(2, 14)], [], [], [], [], [], [], [], [], [], [], [], [], [], [], [], [], [], [], []]) (by decide +kernel)
theorem zg58 : zzmg zzP zt58 := zzmB_s (ps := [[], [(2, 11)], [], [], [(4, 127), (4, 130), (1, 6), (4, 129), (0, 33)], [], [(2, 11)], [], [], [], [], [(2, 8)], [(1, 121)], [], [], [], [], [], [], [], [], [], [(4, 145), (4, 148), (1, 6), (4, 147), (0, 36)], [], [], [], [(4, 149), (4, 152), (1, 6), (4, 151), (0, 37)], [], [], [], [], [], [], [(2, 8)], [(1, 121)], [], [], [(2, 11)], []]) (by decide +kernel)
theorem zg59 : zzmg zzP zt59 := zzmB_s (ps := [[], [], [], [], [], [(2, 8)], [(1, 104)], [(1, 48)], [], [], [], [], [], [], [(2, 8)], [(1, 104)], [(1, 67)], [], [], [], [], [(2, 12)], [], [], [], [], [], [], [], [], [(4, 131), (4, 134), (1, 6), (4, 133), (0, 34)], [], [], [], [], [], []]) (by decide +kernel)
theorem zg60 : zzmg zzP zt60 := zzmB_s (ps := [[], [(2, 8)], [(1, 104)], [], [], [(4, 135), (3, 93), (1, 3), (3, 91), (3, 92)], [], [], [], [], [], [], [], [(2, 8)], [(1, 104)], [(1, 79)], [], [], [], [], [], [(2, 8)], [(4, 136), (3, 168), (1, 2), (3, 166), (3, 167)], [], [], [], [], [], [], [], [(2, 8)], [(1, 104)], [(1, 48)], [], [], [(2, 9)], [], [], [(2, 8)], [], [], [], [(4, 137), (4, 140), (1, 2), (4, 138), (4, 139)], [], [], [], [], [], [], [], [], [], [], [], [], []]) (by decide +kernel)
theorem zg61 : zzmg zzP zt61 := zzmB_s (ps := [[], [], [], [], [], [(2, 8)], [(1, 104)], [(1, 48)], [], [], [], [], [], [], [(2, 8)], [(1, 104)], [(1, 67)], [], [], [], [], [], [], [], [], [], [], [], [], [], [], [(2, 14)], [], [], [], [], [], [], [], [], [], [], [], [], [], [], [], [], [(2, 8)], [(1, 113)], [], [], [], [(2, 8)], [(1, 104)], [], [], [(4, 135), (3, 93), (1, 3), (3, 91), (3, 92)], [], [], [(2, 14)], [], [], [], [], [], [], [], [], [], [], [], [], []]) (by decide +kernel)
theorem zg62 : zzmg zzP zt62 := zzmB_s (ps := [[], [], [(4, 153), (4, 155), (1, 1), (4, 154), (1, 0)], [], [], [(2, 13)], [], [], [], [], [(2, 8)], [(4, 136), (3, 168), (1, 2), (3, 166), (3, 167)], [], [], [], [], [], [], [], [], [], [], [], [(2, 13)], [], [], [], [], [(2, 13)], [], [], [], [], [], [], [], [], [(2, 8)], [(1, 104)], [(1, 48)], [], [], [], [(2, 13)], [], [], [], [], [], [], [], [], [], [], [], [], [], [], [(4, 156), (4, 159), (1, 6), (4, 158), (0, 38)], [], [], [(2, 13)], [], [], [], [], [], [], [], [], [], [], [], [], [(4, 164), (4, 167), (1, 6), (4, 166), (0, 39)], [], [], [], [], []]) (by decide +kernel)
theorem zg63 : zzmg zzP zt63 := zzmB_s (ps := [[], [], [], [], [], [(2, 8)], [(1, 104)], [(1, 48)], [], [], [], [], [], [], [(2, 8)], [(1, 104)], [(1, 67)], [], [], [], [], [], [], [], [(4, 168), (4, 171), (1, 6), (4, 169), (4, 170)], [], [], [(2, 14)], [], [], [], [], [], [], [], [], [], [], [], [], [], [], [], [], [], [], [], [], []]) (by decide +kernel)
theorem zg64 : zzmg zzP zt64 := zzmB_s (ps := [[], [], [], [], [], [], [], [], [], [(2, 8)], [(1, 104)], [(1, 67)], [], [], [], [], [], [], [], [], [], [], [(4, 160), (4, 163), (1, 6), (4, 161), (4, 162)], [], [], [], [], [], [], [], [], [], [], [], [], []]) (by decide +kernel)
theorem zg65 : zzmg zzP zt65 := zzmB_s (ps := [[], [], [], [], [], [], [], [], [], [], [], [], [], [], [], [], [], [], [], [], [], [], [], [], [(2, 14)], [], [], [], [], [], [], [], [], [], [], [], [], [], [], [], []]) (by decide +kernel)
theorem zg66 : zzmg zzP zt66 := zzmB_s (ps := [[], [(2, 8)], [], [(5, 92), (3, 164), (1, 2), (3, 162), (3, 163)], [], [], [], [], [(2, 15)], [], [(5, 93), (3, 36), (1, 14), (3, 35), (0, 0)], [], [(2, 15)], [], [], [], [], [], [], [], [], [(2, 8)], [(1, 104)], [(1, 67)], [], [], [], [], [], [], [], [], [], [], [], [], [], [], [(5, 94), (5, 97), (1, 6), (5, 96), (0, 52)], [], [], [], [], [], [(2, 15)], [], [], []]) (by decide +kernel)
theorem zg67 : zzmg zzP zt67 := zzmB_s (ps := [[], [(2, 15)], [], [], [], [], [(2, 15)], [], [], [], [], [], [], [], [], [], [], [], [], [(5, 98), (5, 36), (1, 6), (5, 34), (5, 35)], [], [], [], [], [], [], [], [], [], [], [], [], [], [], [], [], [], [], [(2, 15)], [], [], [], [], [], [], [], [], []]) (by decide +kernel)
theorem zg68 : zzmg zzP zt68 := zzmB_s (ps := [[], [(2, 42)], [], [], [], [], [], [], []]) (by decide +kernel)
theorem zg69 : zzmg zzP zt69 := zzmB_s (ps := [[], [(2, 43)], [], [], [], [], [], [], []]) (by decide +kernel)
theorem zg70 : zzmg zzP zt70 := zzmB_s (ps := [[], [], [], [], [], [], [], [(2, 38)], [(1, 221)], [], [], [], [], [], [(4, 177), (4, 180), (1, 7), (4, 178), (4, 179)], [], [], [], [], [], [], [], [], [], []]) (by decide +kernel)
theorem zg71 : zzmg zzP zt71 := zzmB_s (ps := [[], [], [], [], [], [], [], [(2, 38)], [(1, 221)], [], [], [], [], [], [(4, 211), (4, 214), (1, 7), (4, 212), (4, 213)], [], [], [], [], [], []]) (by decide +kernel)
theorem zg72 : zzmg zzP zt72 := zzmB_s (ps := [[], [], [], [], [], [], [], [(2, 38)], [(1, 221)], [], [], [], [], [(4, 177), (4, 180), (1, 7), (4, 178), (4, 179)], [], [], [], [(2, 38)], [], [(4, 224), (4, 45), (1, 5), (4, 43), (4, 44)], [], [], [], [], [], []]) (by decide +kernel)
theorem zg73 : zzmg zzP zt73 := zzmB_s (ps := [[], [(2, 40)], [], [], [], [(2, 39)], [(4, 123), (4, 126), (1, 6), (4, 124), (4, 125)], [], [(2, 43)], [], [(4, 172), (3, 36), (1, 14), (3, 35), (0, 0)], [], [], [], [], [], [], [], [(2, 42)], [], [], [], [], [], [], [(2, 42)], [], [], [], [], [], [], [], [], [(2, 37)], [(1, 120)], [], [], [], [(4, 173), (4, 176), (1, 7), (4, 175), (0, 40)], [], [], [], [], [], [(2, 45)], [], [], [], [], [], [], [], [(2, 44)], [], [], [(4, 181), (4, 184), (1, 7), (4, 183), (0, 41)], [], [], [], [], [], [], [(2, 40)], []]) (by decide +kernel)
theorem zg74 : zzmg zzP zt74 := zzmB_s (ps := [[], [], [(2, 45)], [], [], [], [], [], [(2, 38)], [(1, 221)], [], [], [], [], [(4, 177), (4, 180), (1, 7), (4, 178), (4, 179)], [], [], [(2, 44)], [], [(2, 45)], [], [], [], [], [(2, 45)], [], [], [(2, 45)], [], [], []]) (by decide +kernel)
theorem zg75 : zzmg zzP zt75 := zzmB_s (ps := [[], [], [], [], [], [], [], [(2, 38)], [], [], [(4, 185), (4, 20), (1, 5), (4, 18), (4, 19)], [], [], [], [], [], [], [(2, 37)], [(1, 120)], [], [], [], [], [(2, 39)], [], [], [], [(4, 186), (4, 189), (1, 6), (4, 187), (4, 188)], [], [], [], [], [], [(4, 194), (4, 197), (1, 7), (4, 196), (0, 42)], [], [], [], [], [], [], [(2, 37)], [(1, 120)], [], [], [(2, 38)], [], [], [(2, 37)], [(1, 112)], [], [], [(4, 185), (4, 20), (1, 5), (4, 18), (4, 19)], [], [], [], [], [], [], [], [], [], [(4, 194), (4, 197), (1, 7), (4, 196), (0, 42)], []]) (by decide +kernel)
theorem zg76 : zzmg zzP zt76 := zzmB_s (ps := [[], [], [], [], [], [], [], [(2, 43)], [], [], [], [], [], [], [], [(2, 42)], [], [], [], [], [(2, 42)], [], [], [], [], [], [], [], [(2, 45)], [], [], [], [(2, 44)], [], [(2, 45)], [], [], [], [], [(2, 45)], [], [], [(2, 45)], []]) (by decide +kernel)
theorem zg77 : zzmg zzP zt77 := zzmB_s (ps := [[], [(5, 10)], [], [], [], [(5, 10)], [], [], [(5, 10)], [], [], [], [], [(5, 44)], [], [], [], [], [], [], [(5, 44)], []]) (by decide +kernel)
theorem zg78 : zzmg zzP zt78 := zzmB_s (ps := [[], [], [], [], [], [], [], [], [], [], [], [(5, 10)], [], [], [], [(5, 10)], [], [], [(5, 10)], [], [], [], [], [(5, 44)], [], [], [], [], [], [], [(5, 44)], []]) (by decide +kernel)
theorem zg79 : zzmg zzP zt79 := zzmB_s (ps := [[], [], [], [], [], [], [], [(2, 70)], [(1, 108)], [(1, 41)], [], [], [], [], [], [], [], [], [], [(2, 74)], [], [], [], [], [], [], [(5, 41), (5, 43), (1, 8), (5, 42), (0, 0)], [], [], [], [], []]) (by decide +kernel)
theorem zg80 : zzmg zzP zt80 := zzmB_s (ps := [[], [(2, 71)], [(5, 3), (4, 126), (1, 6), (4, 124), (4, 125)], [], [(2, 72)], [], [], [], [], [(2, 70)], [(1, 119)], [], [], [], [], [], [], [], [], [], [(5, 4), (5, 7), (1, 8), (5, 6), (0, 44)], [], [], [], [], [], [], [(2, 70)], [(1, 119)], [], [], [(2, 72)], []]) (by decide +kernel)
theorem zg81 : zzmg zzP zt81 := zzmB_s (ps := [[], [], [(5, 8), (4, 155), (1, 1), (4, 154), (1, 0)], [], [], [(2, 71)], [], [], [(5, 9), (4, 193), (1, 6), (4, 191), (4, 192)], [], [], [], [], [], [], [(2, 70)], [(1, 108)], [(1, 41)], [], [], [(2, 74)], [], [], [], [], [], [], [], [], [], [], [], [(5, 10)], [], [], [], [], [], [], [], [], [], [], [], [], [], [], [], [], [], [], [], [], [], [], [], [(2, 70)], [(1, 108)], [(1, 41)], [], [], [], [], [], [], [], [], [], [], [], [(5, 11), (5, 14), (1, 8), (5, 13), (0, 45)], [], [], [], [], [(2, 74)], [], [], [], [], [], [], [], [], [], [(5, 24), (5, 27), (1, 8), (5, 26), (0, 46)], [], [], [], [], [], [], [], [], [], [], [], [], [], []]) (by decide +kernel)
theorem zg82 : zzmg zzP zt82 := zzmB_s (ps := [[], [], [], [(2, 70)], [(1, 108)], [(1, 66)], [], [], [], [], [], [], [], [], [], [], [], [], [], [], [], [], [], [], [], [], [], [], [], [], [], [], [], [], [], [], [(2, 71)], [], [], [], [], [(5, 15), (5, 18), (1, 6), (5, 16), (5, 17)], [], [], [], [], [], [], [], [], [], [], [(2, 70)], [(1, 108)], [], [], [(5, 19), (3, 93), (1, 3), (3, 91), (3, 92)], [], [], [], [], [(2, 71)], [], [], [], [], [(5, 20), (5, 23), (1, 6), (5, 21), (5, 22)], [], [], [], [], [], []]) (by decide +kernel)
end
section
theorem zg83 : zzmg zzP zt83 := zzmB_s (ps := [[], [(2, 75)], [], [(5, 28), (3, 89), (1, 14), (3, 88), (0, 0)], [], [(2, 75)], [], [], [], [], [], [], [], [], [(2, 70)], [(1, 108)], [(1, 66)], [], [], [], [], [], [], [], [], [], [], [], [], [], [], [(5, 29), (5, 32), (1, 8), (5, 31), (0, 47)], [], [], [], [], [], [(2, 75)], [], [], []]) (by decide +kernel)
theorem zg84 : zzmg zzP zt84 := zzmB_s (ps := [[], [(2, 70)], [(1, 108)], [], [], [(5, 19), (3, 93), (1, 3), (3, 91), (3, 92)], [], [], [], [], [], [], [], [(2, 75)], [], [], [], [], [(2, 75)], [], [], [], [], [], [], [], [], [], [], [(2, 71)], [], [], [], [], [(5, 33), (5, 36), (1, 6), (5, 34), (5, 35)], [], [], [], [], [], [], [], [], [], [], [], [], [], [], [], [], [], [], [], [], [], [], [], [(2, 71)], [], [], [], [], [(5, 20), (5, 23), (1, 6), (5, 21), (5, 22)], [], [], [(5, 8), (4, 155), (1, 1), (4, 154), (1, 0)], [(5, 37), (5, 40), (1, 8), (5, 38), (5, 39)], [], [], [(2, 75)], [], [], [(2, 75)], [], [], [], [], [(5, 45), (5, 47), (1, 8), (5, 46), (0, 0)], [(5, 41), (5, 43), (1, 8), (5, 42), (0, 0)], [], [], [], []]) (by decide +kernel)
theorem zg85 : zzmg zzP zt85 := zzmB_s (ps := [[], [], [(2, 93)], [(1, 102)], [(1, 78)], [], [(2, 93)], [(1, 102)], [(1, 52)], [], [], [], [], [], [], [], [(2, 93)], [(1, 118)], [(5, 165), (5, 168), (1, 9), (5, 167), (0, 60)], [], [], [], [], [(5, 136)], [], [], [(2, 103)], [], [], [], [], [], [(2, 93)], [(1, 118)], [(5, 135), (4, 155), (1, 1), (4, 154), (1, 0)], [], [], []]) (by decide +kernel)
theorem zg86 : zzmg zzP zt86 := zzmB_s (ps := [[], [(2, 94)], [(5, 130), (4, 126), (1, 6), (4, 124), (4, 125)], [], [(2, 95)], [], [], [], [], [(2, 93)], [(1, 118)], [], [], [], [], [], [], [], [], [], [(5, 131), (5, 134), (1, 9), (5, 133), (0, 55)], [], [], [], [(5, 139), (5, 142), (1, 9), (5, 141), (0, 56)], [], [], [], [], [], [], [(2, 93)], [(1, 118)], [], [], [(2, 95)], []]) (by decide +kernel)
theorem zg87 : zzmg zzP zt87 := zzmB_s (ps := [[], [], [(5, 135), (4, 155), (1, 1), (4, 154), (1, 0)], [], [], [], [], [], [], [(2, 93)], [(1, 102)], [(1, 42)], [], [], [(2, 103)], [], [], [], [], [], [(5, 136)], [], [], [], [], [], [], [(2, 93)], [(1, 102)], [(1, 61)], [], [], [], [], [(2, 93)], [(1, 102)], [], [], [(5, 137), (3, 93), (1, 3), (3, 91), (3, 92)], [], [], [], [], [], [], [], [(2, 104)], [], [], [], [], [], [], [], [], [], [], [], [], [(2, 94)], [], [], [], [], [(5, 138), (5, 18), (1, 6), (5, 16), (5, 17)], [], [], [], [(5, 136)], [], [], [], [], [], []]) (by decide +kernel)
theorem zg88 : zzmg zzP zt88 := zzmB_s (ps := [[], [(2, 94)], [], [], [(5, 143), (4, 193), (1, 6), (4, 191), (4, 192)], [], [], [], [], [], [], [], [], [], [], [], [], [], [], [], [], [], [], [(2, 93)], [(1, 102)], [(1, 42)], [], [], [], [], [], [], [], [], [], [], [], [], [(5, 144), (5, 147), (1, 9), (5, 146), (0, 57)], [], [], [], [], [], [], [], [], [], [], []]) (by decide +kernel)
theorem zg89 : zzmg zzP zt89 := zzmB_s (ps := [[], [], [], [], [(5, 148), (5, 151), (1, 9), (5, 150), (0, 58)], [], [(2, 105)], [], [], [], [], [], [], [], [(5, 135), (4, 155), (1, 1), (4, 154), (1, 0)], [], [], [], [(2, 103)], [], [], [], [], [], [], [], [], [], [], [], [(2, 103)], [], [], [], [], [], [], [], [], [], [], [], [], [(2, 93)], [(1, 102)], [(1, 42)], [], [], [], [], [], [], [(2, 93)], [(1, 102)], [(1, 61)], [], [], [], [], [], [], [], [], [], [], [], [], [], [], [], [(2, 104)], [], [], [], [], [], [(2, 94)], [], [], [], [(5, 160), (4, 171), (1, 6), (4, 169), (4, 170)], [], [], [(2, 104)], [], [], [], [], [], [], [], [], []]) (by decide +kernel)
theorem zg90 : zzmg zzP zt90 := zzmB_s (ps := [[], [], [(5, 136)], [], [], [], [], [], [], [(2, 93)], [(1, 102)], [(1, 42)], [], [], [], [], [], [], [], [], [(2, 103)], [], [], [], [], [], [(5, 135), (4, 155), (1, 1), (4, 154), (1, 0)], [], [], [], [], [], [], [], [], [(2, 103)], [], [], [], [], [], [(5, 135), (4, 155), (1, 1), (4, 154), (1, 0)], [], [], [], [], [], [], []]) (by decide +kernel)
theorem zg91 : zzmg zzP zt91 := zzmB_s (ps := [[], [(2, 93)], [(1, 102)], [(1, 61)], [], [], [], [], [], [], [], [], [], [], [(2, 105)], [], [], [], [], [], [], [], [], [], [], [(5, 136)], [], [], [], [], [], [], [], [], [], [], [], [], [], [], [], [], [], [], [], [], [], [], [], [(2, 105)], [], [], [], [], [], [], [], [], [], [], [(5, 152), (5, 155), (1, 9), (5, 154), (0, 59)], [], [], [], [], [], []]) (by decide +kernel)
theorem zg92 : zzmg zzP zt92 := zzmB_s (ps := [[(5, 136)], [], [], [], [], [], [], [], [], [], [], [(2, 94)], [], [], [], [], [(5, 156), (5, 36), (1, 6), (5, 34), (5, 35)], [], [], [], [], [], [], [], [], [], [], [], [], [], [], [], [], [], [], [], [(2, 105)], [], [], [], [], [], [], [], [], [], [(2, 104)], [], [], [], [(5, 135), (4, 155), (1, 1), (4, 154), (1, 0)], [], [], [], [(5, 157)], [], [], [], [], []]) (by decide +kernel)
theorem zg93 : zzmg zzP zt93 := zzmB_s (ps := [[], [], [(2, 99)], [], [], [(2, 93)], [(1, 118)], [(2, 101)], [], [], [], [(2, 93)], [(1, 102)], [(1, 78)], [], [(2, 93)], [(1, 102)], [(1, 52)], [], [], [], [], [], [], [(2, 99)], [], [(2, 101)], [(5, 165), (5, 168), (1, 9), (5, 167), (0, 60)], [(2, 97)], [], [], [], [], [], [], [], [], [], [], [], [], [], [(2, 97)], [], [], [], [], [], [], [(5, 178), (5, 181), (1, 9), (5, 180), (0, 61)], [], [], [], []]) (by decide +kernel)
theorem zg94 : zzmg zzP zt94 := zzmB_s (ps := [[], [], [(2, 97)], [], [(2, 99)], [], [(2, 101)], [(5, 148), (5, 151), (1, 9), (5, 150), (0, 58)], [], [], [], [(2, 99)], [], [], [], [], [], [], [(2, 93)], [(1, 102)], [(1, 61)], [], [(2, 97)], [], [], [], [], [], [(5, 182), (5, 185), (1, 9), (5, 184), (0, 62)], [], [], [(2, 104)], [], [(2, 97)], [], [], [], [], [], [], [], [], [(5, 135), (4, 155), (1, 1), (4, 154), (1, 0)], [], [], [], [], [], [], [], [], [], [], [(2, 94)], [], [(2, 97)], [], [], [], [(5, 186), (5, 23), (1, 6), (5, 21), (5, 22)], [], [], [(5, 165), (5, 168), (1, 9), (5, 167), (0, 60)], [(2, 97)], [], [], [(2, 99)], [], [], [(2, 101)], [], [], [], [], [], [], [], [], [], [], [], []]) (by decide +kernel)
theorem zg95 : zzmg zzP zt95 := zzmB_s (ps := [[], [(2, 105)], [], [], [], [], [], [], [], [], [(2, 97)], [], [], [], [], [], [], [], [], [], [], [], [], [(2, 101)], [], [], [(2, 105)], [], [], [], [], [], [], [], [], [], [(2, 104)], [], [], [], [(5, 135), (4, 155), (1, 1), (4, 154), (1, 0)], [], [], [], [], [], [], [], [], [], [], [], [(2, 101)], []]) (by decide +kernel)
theorem zg96 : zzmg zzP zt96 := zzmB_s (ps := [[], [], [], [], [], [], [], [], [(2, 131)], [(1, 115)], [], [], [(5, 62), (4, 155), (1, 1), (4, 154), (1, 0)], [], [], [], [(2, 136)], [], [], [(5, 107), (3, 50), (1, 15), (3, 49), (0, 0)], [], [], [], [], [], []]) (by decide +kernel)
theorem zg97 : zzmg zzP zt97 := zzmB_s (ps := [[], [(2, 133)], [], [], [], [(2, 132)], [(5, 60), (4, 126), (1, 6), (4, 124), (4, 125)], [], [(2, 136)], [], [(5, 61), (3, 36), (1, 14), (3, 35), (0, 0)], [], [(2, 131)], [(1, 105)], [(1, 54)], [], [], [], [], [], [], [(2, 136)], [], [], [(2, 131)], [(1, 115)], [(5, 62), (4, 155), (1, 1), (4, 154), (1, 0)], [], [(2, 132)], [], [], [(2, 131)], [(1, 115)], [(5, 63), (4, 193), (1, 6), (4, 191), (4, 192)], [], [(2, 131)], [(1, 105)], [(1, 80)], [], [], [], [], [], [(2, 131)], [(1, 115)], [], [], [], [], [], [], [], [], [], [], [], [(2, 131)], [(1, 115)], [], [], [], [], [], [], [(5, 64), (5, 67), (1, 10), (5, 66), (0, 48)], [], [], [], [], [], [], [(2, 133)], [], [], [(2, 135)], []]) (by decide +kernel)
theorem zg98 : zzmg zzP zt98 := zzmB_s (ps := [[], [], [], [], [], [], [], [], [], [], [], [], [], [], [], [], [], [], [], [], [(2, 131)], [(1, 105)], [(1, 43)], [], [], [(2, 136)], [], [], [(5, 62), (4, 155), (1, 1), (4, 154), (1, 0)], [], [], [], [], [], [], [], [], [], [], [], [], [], [], [], [], [], [], [], [], [(5, 68), (5, 71), (1, 10), (5, 70), (0, 49)], [], [], [], [], []]) (by decide +kernel)
theorem zg99 : zzmg zzP zt99 := zzmB_s (ps := [[], [(2, 131)], [(1, 105)], [(1, 62)], [], [], [], [], [], [], [], [(5, 72), (5, 75), (1, 10), (5, 74), (0, 50)], [], [(2, 144)], [], [], [], [], [], [], [], [], [], [], [], [], [(2, 144)], [], [], [], [], [(2, 132)], [], [], [], [(2, 144)], [], [], [], [(5, 77), (4, 163), (1, 6), (4, 161), (4, 162)], [], [], [(2, 131)], [(1, 105)], [], [], [(5, 78), (3, 93), (1, 3), (3, 91), (3, 92)], [], [], [], [], [], [], [], [(5, 79), (5, 82), (1, 10), (5, 81), (0, 51)], [], [], []]) (by decide +kernel)
theorem zg100 : zzmg zzP zt100 := zzmB_s (ps := [[], [(2, 131)], [(1, 105)], [(1, 62)], [], [], [], [], [(2, 145)], [], [], [], [], [], [], [], [], [], [], [], [], [], [(2, 145)], [], [], [], [], [], [], [], [], [], [], [(2, 132)], [], [], [], [], [(5, 76), (5, 36), (1, 6), (5, 34), (5, 35)], [], [(2, 145)], [], [], [], [], [], [], [], [(2, 145)], [], [], [], [], [], [], [], [], [], [], [], [], []]) (by decide +kernel)
theorem zg101 : zzmg zzP zt101 := zzmB_s (ps := [[], [], [], [], [], [], [], [(2, 144)], [], [], [], [], [], [], [], [], [], [], [(2, 132)], [], [], [], [], [(5, 76), (5, 36), (1, 6), (5, 34), (5, 35)], [], [(2, 145)], [], [], [], [], [], [], [], [], [], [], [], [], [], [], [], [], [], [], [], [], [], [], [], [(2, 136)], [], [], [(5, 62), (4, 155), (1, 1), (4, 154), (1, 0)], [], [], [], [(2, 132)], [], [], [], [], [(5, 83), (5, 23), (1, 6), (5, 21), (5, 22)], [], [], [], [], [], [], []]) (by decide +kernel)
theorem zg102 : zzmg zzP zt102 := zzmB_s (ps := [[], [(2, 135)], [], [], [], [], [(2, 138)], [], [], [(2, 140)], [], [], [(2, 142)], [], [], [], [], [], [(2, 131)], [(1, 115)], [], [], [], [], [], [], [], [], [(2, 131)], [(1, 115)], [], [], [], [], [], [], [(5, 112), (5, 115), (1, 10), (5, 114), (0, 53)], [], [], [], [], [], [], [(2, 135)], []]) (by decide +kernel)
theorem zg103 : zzmg zzP zt103 := zzmB_s (ps := [[], [(2, 136)], [], [], [(5, 62), (4, 155), (1, 1), (4, 154), (1, 0)], [], [], [], [], [], [], [], [], [], [], [], [], [(2, 131)], [(1, 105)], [(1, 80)], [], [], [], [], [], [], [], [], [(2, 138)], [], [], [(2, 138)], [], [], [], [], [(5, 116), (5, 119), (1, 10), (5, 118), (0, 54)], [], [], [], [(2, 140)], [], [], [(2, 140)], [], [], [(2, 142)], [], [], [], [], [], [], [], [(2, 142)], [], [], [], [(5, 121)], [(2, 142)], [], [], []]) (by decide +kernel)
theorem zg104 : zzmg zzP zt104 := zzmB_s (ps := [[], [], [], [], [], [], [], [(2, 131)], [(1, 105)], [(1, 43)], [], [], [], [], [], [], [], [], [], [(2, 132)], [], [], [], [(5, 120), (5, 91), (1, 6), (5, 89), (5, 90)], [], [], [], [], [], [], [], [], [], [], []]) (by decide +kernel)
theorem zg105 : zzmg zzP zt105 := zzmB_s (ps := [[], [(2, 174)], [], [], [], [], [(2, 173)], [(1, 116)], [], [], [], [], [], [], [], [], [], [(5, 199), (5, 202), (1, 11), (5, 201), (0, 63)], [], [], [], [], [], [], [(2, 173)], [(1, 116)], [], [], [(2, 174)], []]) (by decide +kernel)
theorem zg106 : zzmg zzP zt106 := zzmB_s (ps := [[], [(2, 176)], [], [(2, 173)], [(1, 103)], [(1, 53)], [], [], [], [], [], [], [], [], [(2, 173)], [(1, 116)], [(5, 203), (4, 155), (1, 1), (4, 154), (1, 0)], [], [], []]) (by decide +kernel)
theorem zg107 : zzmg zzP zt107 := zzmB_s (ps := [[], [], [(5, 203), (4, 155), (1, 1), (4, 154), (1, 0)], [], [], [], [], [], [], [], [], [(2, 176)], [], [], [], [], [], [(5, 204)], [], [], [], [], [], [], [], [], [], [], [], [], [], [], [], [], [], [], [], [], [(2, 173)], [(1, 103)], [(1, 44)], [], [], [(2, 173)], [], [(5, 205), (3, 164), (1, 2), (3, 162), (3, 163)], [], [], [(2, 173)], [(1, 103)], [(1, 53)], [], [], [], [], [], [], [], [], [], [], [], [], [], [(5, 206), (5, 209), (1, 11), (5, 208), (0, 64)], [], [], [], [], [(2, 176)], [], [], [], [], [], [], [], [], [], [(2, 176)], [], [], [], [(2, 176)], [], [], [(5, 224)], [], [], [], [], [], []]) (by decide +kernel)
theorem zg108 : zzmg zzP zt108 := zzmB_s (ps := [[], [(2, 173)], [(1, 103)], [(1, 63)], [], [], [], [], [], [], [], [], [], [], [(2, 177)], [(5, 204)], [(5, 210), (3, 36), (1, 14), (3, 35), (0, 0)], [], [(2, 177)], [], [], [], [], [], [], [], [], [], [], [(2, 173)], [(1, 103)], [], [], [(5, 211), (3, 93), (1, 3), (3, 91), (3, 92)], [], [], [], [], [], [], [], [], [(2, 177)], [], [], [], [], [], [(5, 212), (5, 215), (1, 11), (5, 214), (0, 65)], [], [], [], [], [], [], [(2, 177)], [], [], []]) (by decide +kernel)
theorem zg109 : zzmg zzP zt109 := zzmB_s (ps := [[(5, 204)], [], [], [], [], [], [], [], [], [(2, 177)], [], [], [], [], [], [], [(2, 177)], [], [], [], [], [], [], [(5, 216), (5, 219), (1, 11), (5, 218), (0, 66)], [], [(5, 224)], [], [], [], [], []]) (by decide +kernel)
theorem zg110 : zzmg zzP zt110 := zzmB_s (ps := [[], [], [], [], [], [], [], [(5, 220), (5, 223), (1, 11), (5, 222), (0, 67)], [], [], [(2, 176)], [], [], [], [], [], [], [], [(5, 203), (4, 155), (1, 1), (4, 154), (1, 0)], [], [], []]) (by decide +kernel)
theorem zg111 : zzmg zzP zt111 := zzmB_s (ps := [[], [], [], [], [], [], [], [(2, 173)], [(1, 111)], [], [], [], [], [], [], [], [], [], [], [], [], [], [], [], [], [], [], [], [], []]) (by decide +kernel)
theorem zg112 : zzmg zzP zt112 := zzmB_s (ps := [[], [], [(2, 193)], [(1, 134)], [], [(2, 198)], [], [], [], [], [], [], [], [], [], [(6, 2), (6, 5), (1, 12), (6, 4), (0, 68)], [], [], [], [], []]) (by decide +kernel)
theorem zg113 : zzmg zzP zt113 := zzmB_s (ps := [[], [], [(2, 198)], [(6, 20)], [], [(6, 21)], [], [(6, 22)], [], [(2, 198)], [], [(2, 198)], [], [], [], []]) (by decide +kernel)
theorem zg114 : zzmg zzP zt114 := zzmB_s (ps := [[], [(2, 194)], [], [], [(2, 193)], [(1, 107)], [(1, 55)], [], [], [], [], [], [(2, 196)], [], [], [], [], [], [], [], [(6, 6), (6, 9), (1, 12), (6, 8), (0, 69)], [], [], [], [], [], [], [], [], [(2, 194)], [], [], [(6, 10), (6, 13), (1, 12), (6, 12), (0, 70)], [], [], [], [], [], [], [], [(6, 23), (6, 26), (1, 12), (6, 25), (0, 72)], [], [], [], [], [], [], [(6, 6), (6, 9), (1, 12), (6, 8), (0, 69)], [], [], [], [], [], []]) (by decide +kernel)
theorem zg115 : zzmg zzP zt115 := zzmB_s (ps := [[], [], [], [], [], [(2, 196)], [], [], [(2, 194)], [], [], [], [], [], [], [], [], [], []]) (by decide +kernel)
theorem zg116 : zzmg zzP zt116 := zzmB_s (ps := [[], [(2, 193)], [(1, 107)], [(1, 81)], [], [], [], [], [], [(2, 193)], [(6, 14), (3, 168), (1, 2), (3, 166), (3, 167)], [], [], [], [(6, 15), (3, 50), (1, 15), (3, 49), (0, 0)], [], [], [], [], [], [], [(6, 16), (6, 19), (1, 12), (6, 18), (0, 71)], [], [], [], [], [], [], [], [], [(2, 193)], [(1, 107)], [(1, 47)], [], [], [], [], [], [], [], [], [], [], [], [], [], [], [], []]) (by decide +kernel)
theorem zg117 : zzmg zzP zt117 := zzmB_s (ps := [[], [(2, 193)], [(1, 107)], [(1, 65)], [], [], [], [], [(2, 196)], [], [], [], [], [], [], [], [], [], [], [], [(2, 194)], [], [], [], [], [(2, 194)], [], [], [], [], [(2, 196)], [], [], [], [], [(6, 27)], [], [], [], [], [], [], [], [(2, 194)], [], [], [], [], [(2, 193)], [(1, 107)], [], [], [(6, 28), (3, 93), (1, 3), (3, 91), (3, 92)], [], [], [], [], [], [(2, 196)], [], []]) (by decide +kernel)
theorem zg118 : zzmg zzP zt118 := zzmB_s (ps := [[], [(2, 209)], [], [], [], [], [], [], [], [], [(3, 18), (3, 21), (1, 1), (3, 20), (0, 0)], [], [], [(3, 18), (3, 21), (1, 1), (3, 20), (0, 0)], [], [], [(3, 18), (3, 21), (1, 1), (3, 20), (0, 0)], [], [], [(3, 18), (3, 21), (1, 1), (3, 20), (0, 0)], [], [], [(3, 18), (3, 21), (1, 1), (3, 20), (0, 0)], [], [(2, 209)], []]) (by decide +kernel)
theorem zg119 : zzmg zzP zt119 := zzmB_s (ps := [[], [], [], [], [], [], [(2, 209)], [], [], [], [(2, 208)], [], [(2, 209)], [], [], [], [], [], [], [], [], [(2, 209)], [], [], [(2, 209)], [], [], []]) (by decide +kernel)
theorem zg120 : zzmg zzP zt120 := zzmB_s (ps := [[], [], [], [], [(2, 209)], [], [], [], [], [], [(2, 209)], [], []]) (by decide +kernel)
theorem zg121 : zzmg zzP zt121 := zzmB_s (ps := [[], [(2, 209)], [], [], [], [(2, 209)], [], [(2, 212)], [], [(2, 208)], [], [(3, 30), (3, 33), (1, 3), (3, 31), (3, 32)], [], [], [], [], [(2, 214)], [], [(2, 212)], [], [(3, 79), (3, 82), (1, 5), (3, 80), (3, 81)], [], [], [], [(3, 106), (3, 62), (1, 1), (3, 61), (0, 0)], [], [], [], [], [], [], [], [], [(2, 210)], [], [(2, 212)], [(3, 107), (3, 110), (1, 2), (3, 108), (3, 109)], [], [(3, 119), (3, 122), (1, 1), (3, 121), (0, 11)], [], [(2, 210)], [(1, 109)], [(1, 45)], []]) (by decide +kernel)
theorem zg122 : zzmg zzP zt122 := zzmB_s (ps := [[], [], [], [], [], [], [], []]) (by decide +kernel)
theorem zg123 : zzmg zzP zt123 := zzmB_s (ps := [[], [(2, 213)], [], [(1, 172)], [], [(2, 215)], [], [(2, 10)], [], [(2, 221)], [], [(2, 175)], [], [(2, 217)], [], [(2, 41)], [], [(3, 123), (3, 126), (1, 1), (3, 125), (0, 12)], []]) (by decide +kernel)
theorem zg124 : zzmg zzP zt124 := zzmB_s (ps := [[], [(2, 216)], [], [(2, 10)], [], [(2, 218)], [], [(2, 73)], [], [(2, 219)], [], [(2, 96)], [], [(2, 220)], [], [(2, 134)], []]) (by decide +kernel)
theorem zg125 : zzmg zzP zt125 := zzmB_s (ps := [[], [], [], [], [], [(2, 215)], [], [(2, 215)], [(2, 10)], [], [(4, 67)], [(2, 10)], [], [(2, 221)], [], [(2, 221)], [(2, 175)], [], [(4, 67)], [(2, 175)], [], [(2, 216)], [], [(2, 216)], [(2, 10)], [], [(4, 67)], [(2, 10)], [], [(2, 218)], [], [(2, 218)], [(2, 73)], [], [(4, 67)], [(2, 73)], [], [(2, 219)], [], [(2, 219)], [(2, 96)], [], [(4, 67)], [(2, 96)], [], [(2, 217)], [], [(2, 41)], [], [(2, 220)], [], [(2, 134)], []]) (by decide +kernel)
theorem zg126 : zzmg zzP zt126 := zzmB_s (ps := [[], [(2, 213)], [(3, 152), (3, 155), (1, 4), (3, 153), (3, 154)], [], [(2, 213)], []]) (by decide +kernel)
theorem zg127 : zzmg zzP zt127 := zzmB_s (ps := [[], [(2, 214)], [(1, 220)], [], [], [(2, 214)], [], [(2, 210)], [(1, 109)], [], [(2, 210)], [(1, 124)], [(3, 79), (3, 82), (1, 5), (3, 80), (3, 81)], [], [], [(2, 214)], []]) (by decide +kernel)
theorem zg128 : zzmg zzP zt128 := zzmB_s (ps := [[], [(2, 210)], [(1, 109)], [(1, 45)], [], [], [], [], []]) (by decide +kernel)
theorem zg129 : zzmg zzP zt129 := zzmB_s (ps := [[], [], [], [], [(2, 210)], [(1, 109)], [(1, 45)], [], [], [], [], []]) (by decide +kernel)
theorem zg130 : zzmg zzP zt130 := zzmB_s (ps := [[], [(3, 144), (3, 147), (1, 1), (3, 146), (0, 14)], [], [], [], [], [], [(4, 5), (4, 8), (1, 1), (4, 7), (0, 28)], [(1, 223)], [], [], [], [], []]) (by decide +kernel)
theorem zg131 : zzmg zzP zt131 := zzmB_s (ps := [[], [], [], [], [], [], [], [(2, 210)], [(1, 109)], [(1, 50)], [], [], [], [], [], [], [], [], [], [], []]) (by decide +kernel)
theorem zg132 : zzmg zzP zt132 := zzmB_s (ps := [[], [], [], [], [], [], [], [(2, 210)], [(1, 122)], [], [], [], [], []]) (by decide +kernel)
theorem zg133 : zzmg zzP zt133 := zzmB_s (ps := [[], [(3, 144), (3, 147), (1, 1), (3, 146), (0, 14)], [], [], [], [], [], [(2, 210)], [(1, 122)], [], [], [], [], []]) (by decide +kernel)
theorem zg134 : zzmg zzP zt134 := zzmB_s (ps := [[], [], [], [], [], [], [], [], []]) (by decide +kernel)
theorem zg135 : zzmg zzP zt135 := zzmB_s (ps := [[], [], [], [], [], [], [], [], [], []]) (by decide +kernel)
theorem zg136 : zzmg zzP zt136 := zzmB_s (ps := [[], [], [(3, 131), (3, 134), (1, 1), (3, 133), (0, 13)], [], [], [], [], [], [], [(2, 210)], [(1, 109)], [(1, 58)], [], [], [], [], [(2, 210)], [(1, 109)], [(1, 69)], [], [], [], [], [(2, 210)], [(1, 109)], [(1, 72)], [], [], [], [], [(2, 210)], [(1, 109)], [(1, 75)], [], [], [], [], [(2, 210)], [(1, 124)], [], [], [], [], [], [], []]) (by decide +kernel)
theorem zg137 : zzmg zzP zt137 := zzmB_s (ps := [[], [], [(3, 131), (3, 134), (1, 1), (3, 133), (0, 13)], [], [], [], [], [], [(2, 210)], [(1, 109)], [(1, 69)], [], [], [], [], [], [], [(2, 210)], [(1, 109)], [], [], [(3, 139), (3, 93), (1, 3), (3, 91), (3, 92)], []]) (by decide +kernel)
theorem zg138 : zzmg zzP zt138 := zzmB_s (ps := [[], [(3, 144), (3, 147), (1, 1), (3, 146), (0, 14)], [], [], [], [], [], [], [(3, 148), (3, 151), (1, 1), (3, 150), (0, 15)], [(1, 174)], [], [], [(3, 148), (3, 151), (1, 1), (3, 150), (0, 15)], [(1, 176)], [], [], [(3, 148), (3, 151), (1, 1), (3, 150), (0, 15)], [(1, 178)], [], [], [(3, 148), (3, 151), (1, 1), (3, 150), (0, 15)], [(1, 180)], [], [], [(3, 148), (3, 151), (1, 1), (3, 150), (0, 15)], [(1, 182)], [], [], [(2, 210)], [(1, 109)], [(1, 50)], [], [], []]) (by decide +kernel)
theorem zg139 : zzmg zzP zt139 := zzmB_s (ps := [[], [], [(3, 229), (3, 232), (1, 1), (3, 231), (0, 27)], [], [], [(3, 148), (3, 151), (1, 1), (3, 150), (0, 15)], [(1, 184)], [], [], [], [], [], [], []]) (by decide +kernel)
theorem zg140 : zzmg zzP zt140 := zzmB_s (ps := [[], [], [(3, 229), (3, 232), (1, 1), (3, 231), (0, 27)], [], [], [(3, 148), (3, 151), (1, 1), (3, 150), (0, 15)], [(1, 186)], [], [], [], [], [], [], []]) (by decide +kernel)
theorem zg141 : zzmg zzP zt141 := zzmB_s (ps := [[], [], [(3, 229), (3, 232), (1, 1), (3, 231), (0, 27)], [], [], [(3, 148), (3, 151), (1, 1), (3, 150), (0, 15)], [(1, 188)], [], [], [], [], [], [], []]) (by decide +kernel)
theorem zg142 : zzmg zzP zt142 := zzmB_s (ps := [[], [(3, 144), (3, 147), (1, 1), (3, 146), (0, 14)], [], [], [], [], [(4, 5), (4, 8), (1, 1), (4, 7), (0, 28)], [(1, 223)], []]) (by decide +kernel)
theorem zg143 : zzmg zzP zt143 := zzmB_s (ps := [[], [], [(4, 13), (4, 16), (1, 1), (4, 15), (0, 29)], [], [], [], [], [], [], [], [], [], [(4, 5), (4, 8), (1, 1), (4, 7), (0, 28)], [], [], [(4, 17), (4, 20), (1, 5), (4, 18), (4, 19)], []]) (by decide +kernel)
theorem zg144 : zzmg zzP zt144 := zzmB_s (ps := [[], [], [(4, 13), (4, 16), (1, 1), (4, 15), (0, 29)], [], [], [], [(3, 131), (3, 134), (1, 1), (3, 133), (0, 13)], [], [], [], [], [(4, 5), (4, 8), (1, 1), (4, 7), (0, 28)], [], [], [(4, 25), (4, 28), (1, 5), (4, 26), (4, 27)], []]) (by decide +kernel)
theorem zg145 : zzmg zzP zt145 := zzmB_s (ps := [[], [], [(4, 13), (4, 16), (1, 1), (4, 15), (0, 29)], [], [], [], [], [(3, 148), (3, 151), (1, 1), (3, 150), (0, 15)], [(1, 174)], [], [], [], [], [], [], [], [], [(2, 210)], [(1, 109)], [(1, 45)], [], [], [(2, 214)], [], [], [(4, 25), (4, 28), (1, 5), (4, 26), (4, 27)], [], [(2, 210)], [(1, 109)], [], [], [(4, 33), (3, 218), (1, 3), (3, 216), (3, 217)], [], [], [], [], [], [], [], [], [], [], [], []]) (by decide +kernel)
theorem zg146 : zzmg zzP zt146 := zzmB_s (ps := [[], [(3, 144), (3, 147), (1, 1), (3, 146), (0, 14)], [], [], [], [], [(4, 5), (4, 8), (1, 1), (4, 7), (0, 28)], [], [], [(3, 148), (3, 151), (1, 1), (3, 150), (0, 15)], [], [], [], [], [], [], [], [], [(2, 214)], [(1, 223)], [], [], [], [(4, 38), (4, 41), (1, 1), (4, 40), (0, 30)], [], [], [], [], [], []]) (by decide +kernel)
theorem zg147 : zzmg zzP zt147 := zzmB_s (ps := [[], [(2, 214)], [], [(4, 42), (4, 45), (1, 5), (4, 43), (4, 44)], [], [], [], [], [], [], [(2, 210)], [(1, 109)], [(1, 45)], [], [], [], [(2, 210)], [(1, 109)], [(1, 69)], [], [], [], [], [], [(2, 214)], [], [], [(4, 25), (4, 28), (1, 5), (4, 26), (4, 27)], [], [], [], [], [(2, 213)], [(1, 186)], [], [(2, 210)], [(1, 109)], [(1, 58)], [], [], [], [], [], [], [], [], [], [], [], [], [], [], [], [], [], [], [], []]) (by decide +kernel)
theorem zg148 : zzmg zzP zt148 := zzmB_s (ps := [[], [(3, 144), (3, 147), (1, 1), (3, 146), (0, 14)], [], [], [(4, 51), (4, 53), (1, 1), (4, 52), (0, 0)], [], [], [(2, 210)], [(1, 122)], [], [], [], [], [], [(2, 210)], [], [], [(4, 54), (4, 57), (1, 2), (4, 55), (4, 56)], [], [(2, 210)], [], [(4, 59), (4, 62), (1, 2), (4, 60), (4, 61)], [], [], [(2, 210)], [(1, 122)], [], [], [(4, 63), (4, 66), (1, 1), (4, 65), (0, 31)], [], [(2, 210)], [(1, 122)], []]) (by decide +kernel)
theorem zg149 : zzmg zzP zt149 := zzmB_s (ps := [[], [(2, 210)], [(1, 122)], [], [], [], [], [(2, 210)], [(4, 74), (4, 77), (1, 2), (4, 75), (4, 76)], [], [], [(2, 210)], [], [], [(4, 54), (4, 57), (1, 2), (4, 55), (4, 56)], [], [], [(2, 210)], [(1, 122)], [(4, 63), (4, 66), (1, 1), (4, 65), (0, 31)], [], []]) (by decide +kernel)
theorem zg150 : zzmg zzP zt150 := zzmB_s (ps := [[], [], [], [], [(2, 210)], [(1, 122)], [], [], [(4, 51), (4, 53), (1, 1), (4, 52), (0, 0)], [], [], [(2, 210)], [(1, 114)], [], [], [], [], [], [], [], [(2, 210)], [(1, 114)], [], [], [], [], [(2, 210)], [], [], [], [], [], [], [(4, 54), (4, 57), (1, 2), (4, 55), (4, 56)], [], [(2, 210)], [(1, 114)], [], [], [], [], [], [(4, 63), (4, 66), (1, 1), (4, 65), (0, 31)], [], []]) (by decide +kernel)
theorem zg151 : zzmg zzP zt151 := zzmB_s (ps := [[], [], [(3, 131), (3, 134), (1, 1), (3, 133), (0, 13)], [], [], [], [], [(2, 210)], [(1, 124)], [], [], [], [], [], [], [(2, 214)], [], [(2, 210)], [(1, 109)], [], [(3, 79), (3, 82), (1, 5), (3, 80), (3, 81)], [], [], [], [], [(2, 210)], [], [], [(4, 54), (4, 57), (1, 2), (4, 55), (4, 56)], [], [(2, 210)], [], [(1, 124)], [], [(3, 119), (3, 122), (1, 1), (3, 121), (0, 11)], [], [(2, 214)], [(1, 223)], []]) (by decide +kernel)
theorem zg152 : zzmg zzP zt152 := zzmB_s (ps := [[], [], [(3, 131), (3, 134), (1, 1), (3, 133), (0, 13)], [], [], [], [(3, 131), (3, 134), (1, 1), (3, 133), (0, 13)], [], [], [], [], [], [(2, 210)], [(1, 109)], [(1, 69)], [], [], [], [], [], [], [(2, 210)], [(1, 109)], [], [], [(3, 139), (3, 93), (1, 3), (3, 91), (3, 92)], [], [(2, 210)], [(1, 109)], [(1, 58)], [], [], [], [], [], [], [], [], [], [], [], [], [(2, 210)], [], [], [(4, 90), (4, 93), (1, 2), (4, 91), (4, 92)], [], [], [(2, 210)], [(1, 127)], [], [], [], [], [], [(2, 210)], [], [], [], [], [], [], [(4, 54), (4, 57), (1, 2), (4, 55), (4, 56)], [], [(2, 210)], [], [], [(4, 94), (4, 97), (1, 2), (4, 95), (4, 96)], [], [(3, 123), (3, 126), (1, 1), (3, 125), (0, 12)], [], [(2, 210)], [(1, 127)], []]) (by decide +kernel)
theorem zg153 : zzmg zzP zt153 := zzmB_s (ps := [[], [(3, 144), (3, 147), (1, 1), (3, 146), (0, 14)], [], [], [], [], [], [], [], [], [], [(2, 210)], [], [], [(4, 54), (4, 57), (1, 2), (4, 55), (4, 56)], [], [(2, 210)], [], [(1, 129)], [], [], [], [], [(1, 129)], [], [(3, 123), (3, 126), (1, 1), (3, 125), (0, 12)], [], [(2, 210)], [(1, 129)], []]) (by decide +kernel)
theorem zg154 : zzmg zzP zt154 := zzmB_s (ps := [[], [(2, 210)], [(1, 133)], [], [], [], [], [(2, 210)], [], [(1, 133)], [], [], [(1, 133)], [], [(2, 210)], [(1, 131)], [], [(2, 210)], [(1, 133)], [], [], [], [], [], [], [], [], [], [], [], [(2, 210)], [(4, 74), (4, 77), (1, 2), (4, 75), (4, 76)], [], [], [], [(2, 210)], [(1, 122)], [(4, 63), (4, 66), (1, 1), (4, 65), (0, 31)], [], [], [(2, 210)], [], [(4, 59), (4, 62), (1, 2), (4, 60), (4, 61)], [], [], [(2, 210)], [(1, 122)], [], [], [(4, 63), (4, 66), (1, 1), (4, 65), (0, 31)], [], [], [(2, 210)], [(1, 114)], [], [], [], [], [], [], [], [], [], [], [], [(4, 63), (4, 66), (1, 1), (4, 65), (0, 31)], [], [], [(2, 210)], [], [(1, 124)], [], [], [], [], [(1, 124)], [], [(2, 214)], [], [(1, 220)], [], [(3, 119), (3, 122), (1, 1), (3, 121), (0, 11)], [], [], [(2, 210)], [], [], [], [], [], [], [(4, 94), (4, 97), (1, 2), (4, 95), (4, 96)], [], [(3, 123), (3, 126), (1, 1), (3, 125), (0, 12)], [], [], [(2, 210)], [], [(1, 129)], [], [], [], [], [(1, 129)], [], [(3, 123), (3, 126), (1, 1), (3, 125), (0, 12)], [], [(2, 210)], [(1, 133)], []]) (by decide +kernel)
theorem zg155 : zzmg zzP zt155 := zzmB_s (ps := [[], [], [], [], [(2, 210)], [(1, 122)], [], [], [(2, 210)], [(1, 114)], [], [], [], [], []]) (by decide +kernel)
theorem zg156 : zzmg zzP zt156 := zzmB_s (ps := [[], [], [(4, 115), (4, 118), (1, 1), (4, 117), (0, 32)], [], [], [], [], [], [], [], [], [(4, 13), (4, 16), (1, 1), (4, 15), (0, 29)], [], [], [], [], [(4, 5), (4, 8), (1, 1), (4, 7), (0, 28)], [], [], [(2, 217)], [(4, 119), (4, 122), (1, 7), (4, 120), (4, 121)], [], [], [], [], [(2, 217)], [], [(4, 198), (4, 201), (1, 7), (4, 199), (4, 200)], [], [], [(2, 217)], [], [], [(4, 202), (4, 180), (1, 7), (4, 178), (4, 179)], [], [], [], [], []]) (by decide +kernel)
theorem zg157 : zzmg zzP zt157 := zzmB_s (ps := [[], [], [(4, 115), (4, 118), (1, 1), (4, 117), (0, 32)], [], [], [], [], [], [], [], [], [(4, 13), (4, 16), (1, 1), (4, 15), (0, 29)], [], [], [], [], [(4, 5), (4, 8), (1, 1), (4, 7), (0, 28)], [], [], [(2, 217)], [(4, 119), (4, 122), (1, 7), (4, 120), (4, 121)], [], [], [], [], [(2, 217)], [], [(4, 207), (4, 210), (1, 7), (4, 208), (4, 209)], [], [], [(2, 217)], [], [], [(4, 215), (4, 214), (1, 7), (4, 212), (4, 213)], []]) (by decide +kernel)
theorem zg158 : zzmg zzP zt158 := zzmB_s (ps := [[], [], [(4, 115), (4, 118), (1, 1), (4, 117), (0, 32)], [], [], [], [], [(4, 5), (4, 8), (1, 1), (4, 7), (0, 28)], [], [], [(2, 217)], [(4, 119), (4, 122), (1, 7), (4, 120), (4, 121)], [], [(2, 217)], [], [(4, 220), (4, 223), (1, 7), (4, 221), (4, 222)], []]) (by decide +kernel)
theorem zg159 : zzmg zzP zt159 := zzmB_s (ps := [[], [], [(3, 229), (3, 232), (1, 1), (3, 231), (0, 27)], [], [], [], [], [(4, 229), (4, 232), (1, 1), (4, 231), (0, 43)], [], [], [], [], [(2, 215)], [(4, 233), (4, 126), (1, 6), (4, 124), (4, 125)], [], [(2, 215)], [], [], [], [(4, 234), (4, 189), (1, 6), (4, 187), (4, 188)], [], [], [], [], []]) (by decide +kernel)
theorem zg160 : zzmg zzP zt160 := zzmB_s (ps := [[], [], [(3, 229), (3, 232), (1, 1), (3, 231), (0, 27)], [], [], [], [], [(4, 229), (4, 232), (1, 1), (4, 231), (0, 43)], [], [], [], [], [(2, 218)], [(4, 239), (5, 2), (1, 8), (5, 0), (5, 1)], [], [(2, 218)], [], [(2, 210)], [(1, 109)], [(1, 82)], [], [], [], [], [], [], [(5, 48), (4, 155), (1, 1), (4, 154), (0, 0)], [(5, 49), (5, 40), (1, 8), (5, 38), (5, 39)], [], [], [(5, 50)], [], [], [], [], [], [(5, 51)], [], [], [], [], [], [], []]) (by decide +kernel)
theorem zg161 : zzmg zzP zt161 := zzmB_s (ps := [[], [], [(3, 131), (3, 134), (1, 1), (3, 133), (0, 13)], [], [], [], [], [(4, 229), (4, 232), (1, 1), (4, 231), (0, 43)], [], [], [], [], [(2, 220)], [(5, 56), (5, 59), (1, 10), (5, 57), (5, 58)], [], [(2, 220)], [(2, 137)], [], [], [(5, 48), (4, 155), (1, 1), (4, 154), (0, 0)], [], [], [], [], [], []]) (by decide +kernel)
theorem zg162 : zzmg zzP zt162 := zzmB_s (ps := [[], [], [(3, 131), (3, 134), (1, 1), (3, 133), (0, 13)], [], [], [], [], [(4, 229), (4, 232), (1, 1), (4, 231), (0, 43)], [], [], [], [], [(2, 216)], [(4, 233), (4, 126), (1, 6), (4, 124), (4, 125)], [], [(2, 216)], [], [], [], [(5, 88), (5, 91), (1, 6), (5, 89), (5, 90)], []]) (by decide +kernel)
end
section
theorem zg163 : zzmg zzP zt163 := zzmB_s (ps := [[], [(3, 144), (3, 147), (1, 1), (3, 146), (0, 14)], [], [], [], [], [], [], [], [], [], [(2, 220)], [(5, 56), (5, 59), (1, 10), (5, 57), (5, 58)], [], [], [], [(2, 220)], [(5, 103), (5, 106), (1, 10), (5, 104), (5, 105)], [], [], [(2, 220)], [(5, 108), (5, 111), (1, 10), (5, 109), (5, 110)], [], [], [], [], [(2, 220)], [(2, 139)], [], [], [], [], [], [(2, 220)], [(2, 141)], [], [], [(2, 220)], [(2, 143)], []]) (by decide +kernel)
theorem zg164 : zzmg zzP zt164 := zzmB_s (ps := [[], [(3, 144), (3, 147), (1, 1), (3, 146), (0, 14)], [], [], [], [], [(2, 219)], [(5, 126), (5, 129), (1, 9), (5, 127), (5, 128)], [], [(2, 219)], [(5, 161), (5, 164), (1, 9), (5, 162), (5, 163)], [], [], [(5, 169)], [], [], [], [], [], [], []]) (by decide +kernel)
theorem zg165 : zzmg zzP zt165 := zzmB_s (ps := [[], [(3, 144), (3, 147), (1, 1), (3, 146), (0, 14)], [], [], [], [], [], [], [], [], [], [], [], [(2, 219)], [(5, 126), (5, 129), (1, 9), (5, 127), (5, 128)], [], [(2, 219)], [(5, 161), (5, 164), (1, 9), (5, 162), (5, 163)], [], [], [(5, 169)], [], [], [], [], [], [], [], [], [], [], [(2, 219)], [], [], [(5, 174), (5, 177), (1, 9), (5, 175), (5, 176)], [], [], [], [(2, 219)], [(2, 98)], [], [], [], [], [], [(2, 219)], [(2, 100)], [], [], [(2, 219)], [(2, 102)], []]) (by decide +kernel)
theorem zg166 : zzmg zzP zt166 := zzmB_s (ps := [[], [(3, 144), (3, 147), (1, 1), (3, 146), (0, 14)], [], [], [], [], [(2, 215)], [(4, 233), (4, 126), (1, 6), (4, 124), (4, 125)], [], [(2, 210)], [(1, 122)], [], [], [], [], [], [(2, 215)], [], [(2, 210)], [(1, 109)], [(1, 58)], [], [], [], [], [(4, 234), (4, 189), (1, 6), (4, 187), (4, 188)], [], [], [], [], [], [], []]) (by decide +kernel)
theorem zg167 : zzmg zzP zt167 := zzmB_s (ps := [[], [(3, 144), (3, 147), (1, 1), (3, 146), (0, 14)], [], [], [], [], [(2, 221)], [(5, 195), (5, 198), (1, 11), (5, 196), (5, 197)], [], [(2, 221)], [(5, 225), (5, 228), (1, 11), (5, 226), (5, 227)], [], [], [(5, 229)], [], [], [], [], []]) (by decide +kernel)
theorem zg168 : zzmg zzP zt168 := zzmB_s (ps := [[], [], [], [], [], [(2, 210)], [(1, 136)], [], [], [(2, 210)], [], [(1, 136)], [], []]) (by decide +kernel)
theorem zg169 : zzmg zzP zt169 := zzmB_s (ps := [[], [(3, 144), (3, 147), (1, 1), (3, 146), (0, 14)], [], [], [], [], [], [], [], [], [], [], [], [], [], [], [], [], [(2, 222)], [], [(5, 238), (6, 1), (1, 12), (5, 239), (6, 0)], [], [], [], [], [], [], [], [(2, 222)], [(2, 197)], [], [], [], [(2, 222)], [(2, 197)], [], [], [(2, 222)], [(2, 195)], [], [], [], [], []]) (by decide +kernel)
theorem zg170 : zzmg zzP zt170 := zzmB_s (ps := [[], [], [], [(2, 210)], [(1, 109)], [(1, 45)], [], [], [(3, 144), (3, 147), (1, 1), (3, 146), (0, 14)], [], [], [], [], [(2, 210)], [(1, 109)], [(1, 58)], [], [], [], [], [(2, 210)], [(1, 122)], [], [], [(2, 210)], [(1, 124)], [], [], [(2, 210)], [(1, 127)], [], [], [(2, 210)], [(1, 129)], [], [], [(2, 210)], [(1, 133)], [], [], [(2, 210)], [(1, 136)], [], [], [(2, 209)], [], [], []]) (by decide +kernel)
theorem zg171 : zzmg zzP zt171 := zzmB_s (ps := [[], [], [], [], [], [], [], [], [(2, 211)], [], [], [], [(2, 210)], [(6, 37), (6, 40), (1, 2), (6, 38), (6, 39)], [], [(2, 211)], [], [], [], [(1, 137)], [], [(2, 210)], [(1, 122)], []]) (by decide +kernel)
theorem zg172 : zzmg zzP zt172 := zzmB_s (ps := [[], [], [], [], [], [], [(2, 211)], [], [], [(1, 137)], [], [], [], [], [(2, 210)], [], [(2, 211)], [], [], [(6, 37), (6, 40), (1, 2), (6, 38), (6, 39)], [], [(2, 214)], [], [(1, 220)], [], [(3, 119), (3, 122), (1, 1), (3, 121), (0, 11)], [], [(2, 210)], [(1, 122)], []]) (by decide +kernel)
theorem zg173 : zzmg zzP zt173 := zzmB_s (ps := [[], [], [], [], [], [], [], [], [], [], [], []]) (by decide +kernel)
theorem zg174 : zzmg zzP zt174 := zzmB_s (ps := [[], [], [], [], [], [], [], [], [], [], []]) (by decide +kernel)
theorem zg175 : zzmg zzP zt175 := zzmB_s (ps := [[], [(6, 51)], [], [], [], [], [], [], []]) (by decide +kernel)
theorem zg176 : zzmg zzP zt176 := zzmB_s (ps := [[], [], [], [], [(6, 51)], [], [], [], [], [], [(7, 61), (7, 63), (1, 13), (7, 62), (0, 0)], []]) (by decide +kernel)
theorem zg177 : zzmg zzP zt177 := zzmB_s (ps := [[], [(6, 51)], [], [], [], [(7, 121), (7, 123), (1, 13), (7, 122), (0, 0)], [], [], [], [], []]) (by decide +kernel)
theorem zg178 : zzmg zzP zt178 := zzmB_s (ps := [[], [], [], [], [], [], []]) (by decide +kernel)
theorem zg179 : zzmg zzP zt179 := zzmB_s (ps := [[], [], [], [], [], [(6, 51)], [], [], [], [], [(6, 52)], [], [], [], [], [], [], [], [], [], []]) (by decide +kernel)
theorem zg180 : zzmg zzP zt180 := zzmB_s (ps := [[], [], [], [], [], [], [], [], [], [], [], [], [], [], [], []]) (by decide +kernel)
theorem zg181 : zzmg zzP zt181 := zzmB_s (ps := [[], [(6, 66)], [], [], [], [], [], [], [], [], [(7, 32), (7, 35), (1, 13), (7, 34), (0, 73)], [], [], [(7, 32), (7, 35), (1, 13), (7, 34), (0, 73)], [], [], [(7, 32), (7, 35), (1, 13), (7, 34), (0, 73)], [], [], [(7, 32), (7, 35), (1, 13), (7, 34), (0, 73)], [], [], [(7, 32), (7, 35), (1, 13), (7, 34), (0, 73)], [], [(6, 66)], []]) (by decide +kernel)
theorem zg182 : zzmg zzP zt182 := zzmB_s (ps := [[], [], [], [], [], [], [(6, 69)], [], [(6, 66)], [], [], [], [], [], [], [], [(6, 66)], [], [], [(6, 66)], [], [], []]) (by decide +kernel)
theorem zg183 : zzmg zzP zt183 := zzmB_s (ps := [[], [], [], [], [(6, 66)], [], [], [], [], [], [(6, 66)], [], []]) (by decide +kernel)
theorem zg184 : zzmg zzP zt184 := zzmB_s (ps := [[], [(6, 68)], [], [], [], [], [], [], [], [], [], [(6, 68)], []]) (by decide +kernel)
theorem zg185 : zzmg zzP zt185 := zzmB_s (ps := [[], [], [(6, 67)], [], [(6, 66)], [], [], [(6, 69)], [], [(6, 67)], [], [], [], [], [], [(6, 67)], [], [], [(6, 67)], [], [], [(6, 67)], [], [(6, 66)], [], [], [(6, 69)], [], [(6, 67)], [], [], [], [], [], []]) (by decide +kernel)
theorem zg186 : zzmg zzP zt186 := zzmB_s (ps := [[], [], [(7, 59)], [(7, 60)], [(7, 61), (7, 63), (1, 13), (7, 62), (0, 0)], [], [], [], [], [], [], [], [(7, 64)], [(7, 65)], [(7, 61), (7, 63), (1, 13), (7, 62), (0, 0)], [], [], [], [], [], [], [], [], []]) (by decide +kernel)
theorem zg187 : zzmg zzP zt187 := zzmB_s (ps := [[], [], [], [], [], [], [], [(6, 59)], [], [], [], [], [], [], [], [], [], []]) (by decide +kernel)
theorem zg188 : zzmg zzP zt188 := zzmB_s (ps := [[], [], [], [], [], [], [], [(6, 65)], [], [], [], [], [(6, 59)], [], [], [], [(7, 73), (7, 76), (1, 13), (7, 75), (0, 78)], [], [], [], [], [], [], [], [], [], []]) (by decide +kernel)
theorem zg189 : zzmg zzP zt189 := zzmB_s (ps := [[], [(7, 52), (7, 55), (1, 13), (7, 54), (0, 76)], [(7, 56), (7, 58), (1, 13), (7, 57), (0, 0)], [], [], [(7, 66), (7, 68), (1, 13), (7, 67), (0, 0)], [], [], [], [], [(6, 67)], [(7, 69), (7, 72), (1, 13), (7, 71), (0, 77)], [], [], [(6, 65)], [], [], [], [], [], [(6, 65)], [(7, 73), (7, 76), (1, 13), (7, 75), (0, 78)], [], [], [(7, 77), (7, 80), (1, 13), (7, 79), (0, 79)], [], [], [], [], [], [(6, 67)], [(7, 69), (7, 72), (1, 13), (7, 71), (0, 77)], [], [], [(6, 59)], [], [(6, 65)], [], [], [], [(6, 60)], [], [(6, 65)], [], [], [], [(6, 62)], [], [(6, 65)], [], [], [], [(6, 63)], [], [(6, 65)], [], [], [], [], [(6, 65)], [], [], [(6, 65)], [], [], [(6, 67)], [], [], [(6, 67)], []]) (by decide +kernel)
theorem zg190 : zzmg zzP zt190 := zzmB_s (ps := [[], [(6, 65)], [], [], [], [], [(7, 52), (7, 55), (1, 13), (7, 54), (0, 76)], [], [], [], [], [], [(6, 67)], [(7, 69), (7, 72), (1, 13), (7, 71), (0, 77)], [], [], [], [(6, 67)], [], [], [(6, 67)], [], [(7, 52), (7, 55), (1, 13), (7, 54), (0, 76)], [(7, 56), (7, 58), (1, 13), (7, 57), (0, 0)], [], [], [], [], [], [], [(6, 60)], [], [], [], [], [], [], [], [(6, 67)], [(7, 69), (7, 72), (1, 13), (7, 71), (0, 77)], [], [], [(6, 61)], [], [], [], [], [(6, 60)], [], [], [], [], [], [], [(6, 64)], [], [], [], [], [(6, 60)], [], [], [], [], [(6, 67)], [], [], [(6, 60)], [], [], [], [], [], [], [], [], [(6, 67)], [], [], [(6, 67)], [], [(7, 52), (7, 55), (1, 13), (7, 54), (0, 76)], [(7, 56), (7, 58), (1, 13), (7, 57), (0, 0)], [], [], []]) (by decide +kernel)
theorem zg191 : zzmg zzP zt191 := zzmB_s (ps := [[], [], [], [], [], [], [], [], [], []]) (by decide +kernel)
theorem zg192 : zzmg zzP zt192 := zzmB_s (ps := [[], [(6, 65)], [], [], [], [], [(6, 68)], [], [], [(7, 52), (7, 55), (1, 13), (7, 54), (0, 76)], [], [], [], [], [], [(6, 67)], [], [], [(6, 67)], [], [(7, 52), (7, 55), (1, 13), (7, 54), (0, 76)], [], [], [], [(7, 89)], [(7, 90)], [(7, 61), (7, 63), (1, 13), (7, 62), (0, 0)], [], [], [], [], [], [], [], [], [], [(6, 67)], [(7, 69), (7, 72), (1, 13), (7, 71), (0, 77)], [], [], [(6, 62)], [], [], [], [], [], [], [], [(6, 67)], [], [], [(6, 67)], [], [(6, 63)], [], [], [(7, 52), (7, 55), (1, 13), (7, 54), (0, 76)], [(7, 91), (7, 93), (1, 13), (7, 92), (0, 0)], [], [], [], [(6, 67)], [], [(6, 63)], [], [], [], [], [], [], [], [(6, 67)], []]) (by decide +kernel)
theorem zg193 : zzmg zzP zt193 := zzmB_s (ps := [[], [(6, 68)], [], [], [], [], [(7, 52), (7, 55), (1, 13), (7, 54), (0, 76)], [], [], [], [], [], [], [], [], [], [], [(6, 67)], [(7, 69), (7, 72), (1, 13), (7, 71), (0, 77)], [], [], [(6, 67)], [], [], [(6, 67)], [], [], [], [], [], [], []]) (by decide +kernel)
theorem zg194 : zzmg zzP zt194 := zzmB_s (ps := [[], [], [(6, 67)], [], [], [(6, 68)], [], [], [(6, 65)], [], [], [], [], [], [], [(7, 48), (7, 51), (1, 13), (7, 50), (0, 75)], [], [(6, 68)], [], [], [(7, 81), (7, 84), (1, 13), (7, 83), (0, 80)], [], [(7, 85), (7, 88), (1, 13), (7, 87), (0, 81)], [], [(7, 94), (7, 97), (1, 13), (7, 96), (0, 82)], [], [], [], [], [], [], [], [(6, 65)], [], [], [(6, 68)], [], [], [], [], [], [], [(6, 60)], [], [], [], [], [(6, 68)], [], [], [(6, 61)], [], [], [], [], [], [], [], [], [(7, 66), (7, 68), (1, 13), (7, 67), (0, 0)], [], [], [], [], [(6, 65)], [(7, 73), (7, 76), (1, 13), (7, 75), (0, 78)], [], [], [], [], [(6, 64)], [], [], [], [], [], [], [(7, 69), (7, 72), (1, 13), (7, 71), (0, 77)], [], [], [], [], []]) (by decide +kernel)
theorem zg195 : zzmg zzP zt195 := zzmB_s (ps := [[], [(6, 51)], [], [(6, 70)], [(7, 102), (7, 104), (1, 13), (7, 103), (0, 0)], [], [(6, 52)], [], [(6, 71)], [(7, 102), (7, 104), (1, 13), (7, 103), (0, 0)], [], [(6, 53)], [], [(6, 72)], [(7, 102), (7, 104), (1, 13), (7, 103), (0, 0)], [], [(6, 54)], [], [(6, 73)], [(7, 102), (7, 104), (1, 13), (7, 103), (0, 0)], [], [(6, 55)], [], [(6, 74)], [(7, 102), (7, 104), (1, 13), (7, 103), (0, 0)], [], [(6, 56)], [], [(6, 75)], [(7, 102), (7, 104), (1, 13), (7, 103), (0, 0)], []]) (by decide +kernel)
theorem zg196 : zzmg zzP zt196 := zzmB_s (ps := [[], [(6, 70)], [], [(6, 51)], [(7, 102), (7, 104), (1, 13), (7, 103), (0, 0)], [], [(6, 71)], [], [(6, 52)], [(7, 102), (7, 104), (1, 13), (7, 103), (0, 0)], [], [(6, 72)], [], [(6, 53)], [(7, 102), (7, 104), (1, 13), (7, 103), (0, 0)], [], [(6, 73)], [], [(6, 54)], [(7, 102), (7, 104), (1, 13), (7, 103), (0, 0)], [], [(6, 74)], [], [(6, 55)], [(7, 102), (7, 104), (1, 13), (7, 103), (0, 0)], [], [(6, 75)], [], [(6, 56)], [(7, 102), (7, 104), (1, 13), (7, 103), (0, 0)], []]) (by decide +kernel)
theorem zg197 : zzmg zzP zt197 := zzmB_s (ps := [[], [(6, 59)], [], [(6, 52)], [(7, 102), (7, 104), (1, 13), (7, 103), (0, 0)], [], [(6, 60)], [], [(6, 53)], [(7, 102), (7, 104), (1, 13), (7, 103), (0, 0)], [], [(6, 61)], [], [(6, 54)], [(7, 102), (7, 104), (1, 13), (7, 103), (0, 0)], [], [(6, 62)], [], [(6, 55)], [(7, 102), (7, 104), (1, 13), (7, 103), (0, 0)], [], [(6, 63)], [], [(6, 56)], [(7, 102), (7, 104), (1, 13), (7, 103), (0, 0)], [], [(6, 51)], [], [], [(6, 65)], [], [], [(6, 51)], [], [], [(6, 59)], [], [], [], [], [(6, 51)], [], [], [], []]) (by decide +kernel)
theorem zg198 : zzmg zzP zt198 := zzmB_s (ps := [[], [(7, 44), (7, 47), (1, 13), (7, 46), (0, 74)], [], [(6, 66)], [], [], [], [(6, 66)], [], [(6, 68)], [], [], [], [(6, 68)], [], [], [], [(7, 98), (7, 101), (1, 13), (7, 100), (0, 83)], [], [(7, 105), (7, 108), (1, 13), (7, 107), (0, 84)], [], [], [(6, 86)], [], [(7, 109), (7, 112), (1, 13), (7, 111), (0, 85)], [], [], [(7, 146), (7, 149), (1, 13), (7, 148), (0, 92)], [], [], [(6, 86)], [], [], [], [], [], [], [], [], [], [], [], [(6, 51)], [], [], [], [], [(6, 51)], [], [], [], [], [(6, 51)], [], [], [], [], [], [(6, 89)], [], [(6, 51)], [], [], []]) (by decide +kernel)
theorem zg199 : zzmg zzP zt199 := zzmB_s (ps := [[], [], [(7, 154), (7, 157), (1, 13), (7, 156), (0, 93)], [], [], [], [], [], [], [(6, 52)], [], [], [], [], [(6, 53)], [], [], [], [], [(6, 55)], [], [], [], [], [(6, 56)], [], [], [], [], [], [(7, 117), (7, 120), (1, 13), (7, 119), (0, 87)], [], [], [], [], [], [], []]) (by decide +kernel)
theorem zg200 : zzmg zzP zt200 := zzmB_s (ps := [[], [], [(7, 154), (7, 157), (1, 13), (7, 156), (0, 93)], [], [], [], [], [], [(6, 53)], [], [], [], [], [], [(7, 61), (7, 63), (1, 13), (7, 62), (0, 0)], [], [], [(6, 54)], [], [], [], [], [], [], [], [], []]) (by decide +kernel)
theorem zg201 : zzmg zzP zt201 := zzmB_s (ps := [[], [(7, 66), (7, 68), (1, 13), (7, 67), (0, 0)], [], [], [], [], [], [], [], [], []]) (by decide +kernel)
theorem zg202 : zzmg zzP zt202 := zzmB_s (ps := [[], [], [], [], [], [], [], [(6, 54)], [], [], [], [], [], [], [], [], [], [], [], [(7, 174), (7, 176), (1, 13), (7, 175), (0, 0)], [], [], [], [], [], [], [], [], []]) (by decide +kernel)
theorem zg203 : zzmg zzP zt203 := zzmB_s (ps := [[], [], [], [], [], [(6, 53)], [], [], [], [], [(6, 54)], [], [], [], [], [], [], [], [], [(7, 66), (7, 68), (1, 13), (7, 67), (0, 0)], [], [], [(7, 174), (7, 176), (1, 13), (7, 175), (0, 0)], [], [], [], [], [], [], [], [], []]) (by decide +kernel)
theorem zg204 : zzmg zzP zt204 := zzmB_s (ps := [[], [], [], [], [], [], [], [(6, 51)], [], [], [], [], [], [], [(7, 117), (7, 120), (1, 13), (7, 119), (0, 87)], [], [], [], [], [], [], [(6, 53)], [], [], [], [(7, 181), (7, 184), (1, 13), (7, 183), (0, 97)], [], [], [(6, 52)], [], [], [(7, 174), (7, 176), (1, 13), (7, 175), (0, 0)], [], [], [], [], [], [], [], []]) (by decide +kernel)
theorem zg205 : zzmg zzP zt205 := zzmB_s (ps := [[], [], [], [], [], [], [], [(6, 51)], [], [], [], [], [], [], [(7, 117), (7, 120), (1, 13), (7, 119), (0, 87)], [], [], [], [], [(7, 189), (7, 192), (1, 13), (7, 191), (0, 99)], [], [], [(6, 52)], [], [], [(7, 174), (7, 176), (1, 13), (7, 175), (0, 0)], [], [], [], [], [], [], [], []]) (by decide +kernel)
theorem zg206 : zzmg zzP zt206 := zzmB_s (ps := [[], [], [], [], [], [], [], [(6, 51)], [], [], [], [], [], [], [], [], [(6, 53)], [], [], [], [], [], [(7, 117), (7, 120), (1, 13), (7, 119), (0, 87)], [], [], [(6, 52)], [], [], [(7, 174), (7, 176), (1, 13), (7, 175), (0, 0)], [], [], [], [], [], [(6, 54)], [], [], [], [], [], [], [(7, 174), (7, 176), (1, 13), (7, 175), (0, 0)], [], [], [], [], [], [], [], []]) (by decide +kernel)
theorem zg207 : zzmg zzP zt207 := zzmB_s (ps := [[], [], [(6, 76)], [], [], [(6, 77)], [], [], [(6, 51)], [], [], [(7, 174), (7, 176), (1, 13), (7, 175), (0, 0)], [(6, 78)], [], [], [(6, 79)], [], [], [], [], [], [], [], [], [], [(6, 76)], [(7, 177), (7, 180), (1, 13), (7, 179), (0, 96)], [(6, 76)], [], [], [], [(6, 77)], [(7, 185), (7, 188), (1, 13), (7, 187), (0, 98)], [(6, 77)], [], [], [], [(6, 78)], [(7, 193), (7, 196), (1, 13), (7, 195), (0, 100)], [(6, 78)], [], [], [], [], [], [], [], [(6, 51)], [], [], [], [], [], [(6, 79)], [], [(6, 52)], [], [], [(7, 174), (7, 176), (1, 13), (7, 175), (0, 0)], [], [(6, 79)], [], [], []]) (by decide +kernel)
theorem zg208 : zzmg zzP zt208 := zzmB_s (ps := [[], [], [], [], [], [], [], [], [], [], [], [], [], [(7, 201), (7, 204), (1, 13), (7, 203), (0, 102)], [], [], [], [], [], [], [], [], [], [], [], [(7, 201), (7, 204), (1, 13), (7, 203), (0, 102)], [], [], [], [], [], [], [], [(7, 121), (7, 123), (1, 13), (7, 122), (0, 0)], [], [], [], [], [], [], [], [], [], [], [], []]) (by decide +kernel)
theorem zg209 : zzmg zzP zt209 := zzmB_s (ps := [[], [], [], [], [], [], [], [(6, 51)], [], [], [], [], [], [], [], [], [(6, 53)], [], [], [], [], [], [(7, 117), (7, 120), (1, 13), (7, 119), (0, 87)], [], [], [(6, 52)], [], [], [(7, 174), (7, 176), (1, 13), (7, 175), (0, 0)], [], [], [], [], [], [(6, 76)], [], [], [], [], [], [(6, 53)], [], [], [], [], [], [(7, 181), (7, 184), (1, 13), (7, 183), (0, 97)], [], [], [], [], [], [(6, 54)], [], [], [], [], [], [], [(7, 174), (7, 176), (1, 13), (7, 175), (0, 0)], [], [], [], [], [], [], [], [], [], []]) (by decide +kernel)
theorem zg210 : zzmg zzP zt210 := zzmB_s (ps := [[], [(7, 166), (7, 169), (1, 13), (7, 168), (0, 94)], [], [], [], [], [(7, 170), (7, 173), (1, 13), (7, 172), (0, 95)], [], [], [], [(6, 76)], [], [], [(6, 77)], [], [], [(6, 78)], [], [], [], [(7, 197), (7, 200), (1, 13), (7, 199), (0, 101)], [], [], [], [(7, 197), (7, 200), (1, 13), (7, 199), (0, 101)], [], [], [(6, 79)], [], [], []]) (by decide +kernel)
theorem zg211 : zzmg zzP zt211 := zzmB_s (ps := [[], [(7, 66), (7, 68), (1, 13), (7, 67), (0, 0)], [], [], [(6, 80)], [], [], [], [], [], [], [], [], []]) (by decide +kernel)
theorem zg212 : zzmg zzP zt212 := zzmB_s (ps := [[], [], [], [], [], [], [], [(6, 53)], [], [], [], [], [(6, 54)], [], [], [], [], [], [], [], [], [], [], [(7, 221), (7, 224), (1, 13), (7, 223), (0, 106)], [], [], [], [(7, 174), (7, 176), (1, 13), (7, 175), (0, 0)], [], [(6, 76)], [], [], [], [], [], [], [], []]) (by decide +kernel)
theorem zg213 : zzmg zzP zt213 := zzmB_s (ps := [[], [(7, 170), (7, 173), (1, 13), (7, 172), (0, 95)], [], [], [], [], [], [], [], [(6, 80)], [], [], [], [], [], [], [], [], [], [], [], [], [], [], [], [], [(6, 51)], [], [], [], [], [(6, 80)], [], [(6, 52)], [], [], [], [], [], [], [], [], [(7, 117), (7, 120), (1, 13), (7, 119), (0, 87)], [], [], [], [], [(7, 217), (7, 220), (1, 13), (7, 219), (0, 105)], [], [], [], [], [], [], [], [], []]) (by decide +kernel)
theorem zg214 : zzmg zzP zt214 := zzmB_s (ps := [[], [], [], [], [], [(6, 53)], [], [], [], [], [(6, 54)], [], [], [], [], [], [], [], [], [(7, 66), (7, 68), (1, 13), (7, 67), (0, 0)], [], [], [(6, 81)], [], [], [], [], [], [], [], [], [], [], [(7, 217), (7, 220), (1, 13), (7, 219), (0, 105)], [], [], [], [(6, 81)], [], [], [], [], [], [], [], [(6, 76)], [], [], [], [], [], [(6, 53)], [], [], [], [(7, 181), (7, 184), (1, 13), (7, 183), (0, 97)], [], [], [(6, 81)], [], [(6, 52)], [], [], [], [], [], [], [], [], [], [], [], []]) (by decide +kernel)
theorem zg215 : zzmg zzP zt215 := zzmB_s (ps := [[], [(7, 213), (7, 216), (1, 13), (7, 215), (0, 104)], [], [], [], [], [], [], [], [(6, 81)], [], [], [(6, 51)], [], [], [], [], [], [], [(7, 233)], [], [], [], [], [], [], [], [], [], [], [], [], [], [], [], [], [(6, 51)], [], [], [], [], [], [(7, 117), (7, 120), (1, 13), (7, 119), (0, 87)], [], [], [(6, 52)], [], [], [(7, 174), (7, 176), (1, 13), (7, 175), (0, 0)], [], [(6, 78)], [], [], [], [], [(7, 234), (7, 237), (1, 13), (7, 236), (0, 108)], [], [], [], [], []]) (by decide +kernel)
theorem zg216 : zzmg zzP zt216 := zzmB_s (ps := [[], [], [(7, 209), (7, 212), (1, 13), (7, 211), (0, 103)], [], [], [], [], [(7, 213), (7, 216), (1, 13), (7, 215), (0, 104)], [], [(6, 80)], [], [], [], [], []]) (by decide +kernel)
theorem zg217 : zzmg zzP zt217 := zzmB_s (ps := [[], [], [(7, 209), (7, 212), (1, 13), (7, 211), (0, 103)], [], [], [], [], [(7, 229), (7, 232), (1, 13), (7, 231), (0, 107)], [], [(6, 81)], [], [], [], [], []]) (by decide +kernel)
theorem zg218 : zzmg zzP zt218 := zzmB_s (ps := [[], [], [], [], [], [], [], [(6, 53)], [], [], [], [], [(6, 54)], [], [], [], [], [], [], [], [], [], [(7, 66), (7, 68), (1, 13), (7, 67), (0, 0)], [], [], [(6, 82)], [], [], [], [], [], [], [(8, 7), (8, 9), (1, 13), (8, 8), (0, 0)], [], [], [], [], []]) (by decide +kernel)
theorem zg219 : zzmg zzP zt219 := zzmB_s (ps := [[], [(8, 2)], [], [], [], [(8, 2)], [], [], [], [], []]) (by decide +kernel)
theorem zg220 : zzmg zzP zt220 := zzmB_s (ps := [[], [], [(7, 209), (7, 212), (1, 13), (7, 211), (0, 103)], [], [], [], [], [], [], [], [], [], [], [(6, 82)], [], [(8, 2)], [], [], [], [], [], [], [], [], [], [], [], [], [], [], [(6, 51)], [], [], [], [], [(6, 52)], [], [], [], [], [], [], [], [(7, 117), (7, 120), (1, 13), (7, 119), (0, 87)], [], [], [], [(8, 3), (8, 6), (1, 13), (8, 5), (0, 109)], [], [(8, 2)], [], [], [(6, 82)], [], [], [], [(6, 82)], [], [], [], [], [], [], [(6, 82)], [], [], [], [], [], [], [], [], [(6, 82)], [], [], [], [], [], [], [(8, 2)], [], [], [], [], []]) (by decide +kernel)
theorem zg221 : zzmg zzP zt221 := zzmB_s (ps := [[], [], [], [], [], [], [], []]) (by decide +kernel)
theorem zg222 : zzmg zzP zt222 := zzmB_s (ps := [[], [], [], [], [], [], [], [], [], [], [], [], [], [], [], []]) (by decide +kernel)
theorem zg223 : zzmg zzP zt223 := zzmB_s (ps := [[], [], [], [], [], [], [], [(6, 51)], [], [], [], [], [], [], [(7, 117), (7, 120), (1, 13), (7, 119), (0, 87)], [], [], [(6, 52)], [], [], [], [], [], [], [(7, 124), (7, 126), (1, 13), (7, 125), (0, 0)], [], [], [], [], [], [], [], []]) (by decide +kernel)
theorem zg224 : zzmg zzP zt224 := zzmB_s (ps := [[], [], [], [], [], [], [], [], [], [], [], [], [], [], [], [], [(6, 51)], [], [], [], [], [], [], [], [], [(6, 53)], [], [], [], [], [(6, 54)], [], [], [], [], [], [], [], [], [], [], [], [(7, 131), (7, 133), (1, 13), (7, 132), (0, 0)], [], [], [(7, 66), (7, 68), (1, 13), (7, 67), (0, 0)], [], [], [], [(7, 113), (7, 116), (1, 13), (7, 115), (0, 86)], [], [], [], [], [], [], [], [], [], [], []]) (by decide +kernel)
theorem zg225 : zzmg zzP zt225 := zzmB_s (ps := [[], [], [], [], [], [], [], [(6, 51)], [], [], [], [], [], [], [], [], [(6, 53)], [], [], [], [], [], [], [], [(7, 131), (7, 133), (1, 13), (7, 132), (0, 0)], [], [], [(6, 54)], [], [], [], [], [], [], [], [], [], [], [], [], [(7, 124), (7, 126), (1, 13), (7, 125), (0, 0)], [], [], [], [], [], [], [], [], [], [], [(7, 127), (7, 130), (1, 13), (7, 129), (0, 88)], []]) (by decide +kernel)
theorem zg226 : zzmg zzP zt226 := zzmB_s (ps := [[], [], [], [], [], [(6, 85)], [], [], [(6, 83)], [], [], [], [], [], [], [], [], [], [], []]) (by decide +kernel)
theorem zg227 : zzmg zzP zt227 := zzmB_s (ps := [[], [], [(6, 83)], [], [], [], [(7, 138), (7, 141), (1, 13), (7, 140), (0, 90)], [], [], [(6, 84)], [], [], [], [], [], [], [], [], [], [], [], [], [], [], [], [(7, 142), (7, 145), (1, 13), (7, 144), (0, 91)], [], [], [], [], [], [(6, 85)], [], [], [], [], [], [(6, 85)], [], [], [(6, 83)], [], [], [], [], [], [(6, 85)], [], [], [(6, 85)], [], [(6, 84)], [], [], [], [], [], [], [], [], []]) (by decide +kernel)
theorem zg228 : zzmg zzP zt228 := zzmB_s (ps := [[], [(6, 86)], [], [], [], [], [], [], [(6, 83)], [], [], [], [], [(6, 51)], [], [], [(7, 113), (7, 116), (1, 13), (7, 115), (0, 86)], [(7, 127), (7, 130), (1, 13), (7, 129), (0, 88)], [], [], [], [(6, 85)], [], [], [], [], [], [(6, 85)], [], [], [], [], [], [], [], [], [], [], [], [], [], [], [(7, 134), (7, 137), (1, 13), (7, 136), (0, 89)], [], [], [], [], [], [], [], [], [], [(6, 86)], [], [], [(6, 86)], [], []]) (by decide +kernel)
theorem zg229 : zzmg zzP zt229 := zzmB_s (ps := [[], [(7, 166), (7, 169), (1, 13), (7, 168), (0, 94)], [], [], [(7, 109), (7, 112), (1, 13), (7, 111), (0, 85)], [], [], [], [], [], [(6, 85)], [], [], [], [(7, 61), (7, 63), (1, 13), (7, 62), (0, 0)], [], [], [], [], []]) (by decide +kernel)
theorem zg230 : zzmg zzP zt230 := zzmB_s (ps := [[], [(7, 166), (7, 169), (1, 13), (7, 168), (0, 94)], [], [], [(7, 109), (7, 112), (1, 13), (7, 111), (0, 85)], [], [], [(6, 85)], [], [], []]) (by decide +kernel)
theorem zg231 : zzmg zzP zt231 := zzmB_s (ps := [[], [], [(8, 18), (8, 21), (1, 13), (8, 20), (0, 110)], [], [], [], [], [(8, 22)], [(7, 61), (7, 63), (1, 13), (7, 62), (0, 0)], [], [], [], [], [(6, 84)], [], [], [], [], [], [], [], [], [], [], [], [], [], []]) (by decide +kernel)
theorem zg232 : zzmg zzP zt232 := zzmB_s (ps := [[], [], [(8, 18), (8, 21), (1, 13), (8, 20), (0, 110)], [], [], [], [(7, 154), (7, 157), (1, 13), (7, 156), (0, 93)], [], [], [], [], [(6, 83)], [], [], [], [], [], [], [(8, 27)], [], [], []]) (by decide +kernel)
theorem zg233 : zzmg zzP zt233 := zzmB_s (ps := [[], [], [(8, 18), (8, 21), (1, 13), (8, 20), (0, 110)], [], [], [], [], [(7, 170), (7, 173), (1, 13), (7, 172), (0, 95)], [], [], [], [], [], [], [], [(6, 51)], [], [], [], [], [], [], [], [], [(6, 53)], [], [], [], [], [(6, 83)], [], [], [], [], [(7, 131), (7, 133), (1, 13), (7, 132), (0, 0)], [], [], [], [(6, 76)], [], [], [], [(6, 53)], [], [], [], [(7, 181), (7, 184), (1, 13), (7, 183), (0, 97)], [], [], [], [], [], [], [], [], [], [], [], [], [], [], [], [], [], [], [], [], []]) (by decide +kernel)
theorem zg234 : zzmg zzP zt234 := zzmB_s (ps := [[], [], [], [], [], [], [], [], [], [], [(6, 84)], [], [], [], [], [], [], [], [], [], [], [], [], [], [], [], [], [], [(6, 51)], [], [], [], [], [], [(6, 83)], [], [], [], [], [(6, 53)], [], [], [(7, 131), (7, 133), (1, 13), (7, 132), (0, 0)], [], [], [(6, 81)], [], [(6, 52)], [], [], [], [], [], [], [(7, 121), (7, 123), (1, 13), (7, 122), (0, 0)], [], [], [], [], [], [], [], [], [], [], [], [], [], [], [], [], []]) (by decide +kernel)
theorem zg235 : zzmg zzP zt235 := zzmB_s (ps := [[], [(7, 166), (7, 169), (1, 13), (7, 168), (0, 94)], [], [], [], [], [(7, 109), (7, 112), (1, 13), (7, 111), (0, 85)], [], [], [(7, 229), (7, 232), (1, 13), (7, 231), (0, 107)], [], [], [], [], [], [], [], [(6, 85)], [], [], [], [], [(8, 36), (8, 39), (1, 13), (8, 38), (0, 111)], [], [], [], [], [], [], [], [], [], []]) (by decide +kernel)
theorem zg236 : zzmg zzP zt236 := zzmB_s (ps := [[], [], [(6, 86)], [], [], [(6, 86)], []]) (by decide +kernel)
theorem zg237 : zzmg zzP zt237 := zzmB_s (ps := [[], [(6, 91)], [], [], [(6, 87)], [], [(6, 90)], [], [], [], [], [], [(6, 87)], [], [(6, 90)], [], [], [], [], [(6, 90)], [], [], [(6, 90)], [], []]) (by decide +kernel)
theorem zg238 : zzmg zzP zt238 := zzmB_s (ps := [[], [], [], [], [], [], [], [], [], [], [], [], [], [(8, 48), (8, 51), (1, 13), (8, 50), (0, 113)], [], [], [], []]) (by decide +kernel)
theorem zg239 : zzmg zzP zt239 := zzmB_s (ps := [[], [], [], [], [(6, 90)], [], [], [(6, 91)], [], [], [], [], [], [], [], [(6, 51)], [], [], [], [(6, 51)], [], [], [(8, 48), (8, 51), (1, 13), (8, 50), (0, 113)], [], [], [], [], [], [(6, 57)], [(8, 52), (8, 55), (1, 13), (8, 54), (0, 114)], [], [], [(6, 58)], [(8, 52), (8, 55), (1, 13), (8, 54), (0, 114)], []]) (by decide +kernel)
theorem zg240 : zzmg zzP zt240 := zzmB_s (ps := [[], [(6, 89)], [], [], [], [], [], [], [], [], [], [(6, 87)], [], [], [], [], [(6, 87)], [], [], [], [], [], [], [], [(6, 89)], [], [], [(6, 89)], [], [], [(6, 89)], [], [(8, 44), (8, 47), (1, 13), (8, 46), (0, 112)], [], [], [(6, 89)], [], [], [(6, 89)], [], [(8, 65), (8, 68), (1, 13), (8, 67), (0, 116)], []]) (by decide +kernel)
theorem zg241 : zzmg zzP zt241 := zzmB_s (ps := [[], [(6, 89)], [], [], [], [], [], [(6, 89)], [], [], [(6, 89)], [], [], [(6, 89)], [], [(8, 44), (8, 47), (1, 13), (8, 46), (0, 112)], [], [], [(6, 86)], [], [(6, 89)], []]) (by decide +kernel)
theorem zg242 : zzmg zzP zt242 := zzmB_s (ps := [[], [(7, 166), (7, 169), (1, 13), (7, 168), (0, 94)], [], [], [], [], [(8, 60)], [(7, 61), (7, 63), (1, 13), (7, 62), (0, 0)], [], [], [(6, 51)], [], [], [], [], [], [], [], [(8, 61), (8, 64), (1, 13), (8, 63), (0, 115)], [], [(6, 57)], [], [(6, 51)], [], [], [], [], [], [(6, 51)], [], [], [], [], [], [], [], [(6, 51)], [], [], []]) (by decide +kernel)
end
section
theorem zg243 : zzmg zzP zt243 := zzmB_s (ps := [[], [(6, 51)], [], [], [], [], [], [], [(8, 61), (8, 64), (1, 13), (8, 63), (0, 115)], [], [(6, 51)], [], [], [], [], [], [], [], [(6, 57)], [], [(6, 51)], [], [], [], []]) (by decide +kernel)
theorem zg244 : zzmg zzP zt244 := zzmB_s (ps := [[], [], [], [], [(6, 51)], [], [], [], [], [], [(7, 61), (7, 63), (1, 13), (7, 62), (0, 0)], [], [], [], [], [(8, 60)], [(7, 61), (7, 63), (1, 13), (7, 62), (0, 0)], [], [], [(6, 57)], [], [], [], [], [], [], [], [(8, 61), (8, 64), (1, 13), (8, 63), (0, 115)], [], [(6, 57)], [], [], [], [], [(6, 57)], [], [], [], [], []]) (by decide +kernel)
theorem zg245 : zzmg zzP zt245 := zzmB_s (ps := [[], [], [(7, 154), (7, 157), (1, 13), (7, 156), (0, 93)], [], [], [], [], [(6, 51)], [], [], [], [], [], [], [], [], [], [], [(6, 86)], [], [(7, 109), (7, 112), (1, 13), (7, 111), (0, 85)], [], [], [(6, 51)], [], [], [], [], [], [], [], [], [], [], [(6, 86)], [], [], [], [], [], [(8, 61), (8, 64), (1, 13), (8, 63), (0, 115)], [], [(6, 51)], [], [], [], [], [], [], [], [], [], [(7, 109), (7, 112), (1, 13), (7, 111), (0, 85)], [], [], [(6, 85)], []]) (by decide +kernel)
theorem zg246 : zzmg zzP zt246 := zzmB_s (ps := [[], [], [], [], [], [(6, 51)], [], [], [], [], [(6, 58)], [], [], [], [], [], [], [], [], [], []]) (by decide +kernel)
theorem zg247 : zzmg zzP zt247 := zzmB_s (ps := [[], [], [(7, 154), (7, 157), (1, 13), (7, 156), (0, 93)], [], [], [], [], [], [(6, 53)], [], [], [], [], [], [(7, 61), (7, 63), (1, 13), (7, 62), (0, 0)], [], [], [], [(7, 154), (7, 157), (1, 13), (7, 156), (0, 93)], [], [], [(6, 54)], [], [], [], [], [], [], [], [(6, 52)], [], [], [], [], [], [], [], [], [], [], [], [], [], [], [], [], [], [(8, 85), (8, 88), (1, 13), (8, 87), (0, 117)], [], [], [], [], [], [(6, 51)], [], [], [], [], [], [], [], [(8, 61), (8, 64), (1, 13), (8, 63), (0, 115)], [], [], [], [], [(6, 58)], [], [(6, 51)], [], [], [], [], [], [(6, 51)], [], [], [], [], [], [], [], [], [(6, 51)], [], [], [], [], [], [], [], [], [], [], [], [(6, 51)], [], [], [], [], [(6, 58)], [], [], [(6, 58)], [], [], [], [], [], [], [], [], [(6, 51)], [], [], []]) (by decide +kernel)
theorem zg248 : zzmg zzP zt248 := zzmB_s (ps := [[], [(7, 166), (7, 169), (1, 13), (7, 168), (0, 94)], [], [], [], [], [(8, 93)], [(7, 61), (7, 63), (1, 13), (7, 62), (0, 0)], [], [], [], [], [(8, 61), (8, 64), (1, 13), (8, 63), (0, 115)], [], [(6, 51)], [], [], [], [], [], [], [], [], [], [(6, 51)], [], [], []]) (by decide +kernel)
theorem zg249 : zzmg zzP zt249 := zzmB_s (ps := [[], [], [], [], [(6, 51)], [], [], [], [], [], [(7, 61), (7, 63), (1, 13), (7, 62), (0, 0)], [], [], [(6, 57)], [], [], [], [], []]) (by decide +kernel)
theorem zg250 : zzmg zzP zt250 := zzmB_s (ps := [[], [(6, 56)], [], [], [], [], [], [], [], [], [], [], [], [(6, 53)], [], [], [], [], [], [], [], [], [], [], [], [], []]) (by decide +kernel)
theorem zg251 : zzmg zzP zt251 := zzmB_s (ps := [[], [(6, 55)], [], [], [], [], [(6, 55)], [], [], [], [], [], [], [], [], [(6, 51)], [], [], [], [(7, 121), (7, 123), (1, 13), (7, 122), (0, 0)], [], [], [], [], [(6, 55)], [], [], [], [(6, 55)], [], [], [], [], [], [], [(6, 51)], [], [], [], [(7, 121), (7, 123), (1, 13), (7, 122), (0, 0)], [], [], [], [], [(6, 55)], [], [], [], [(6, 55)], [], [], [], [], [], [], [(8, 145), (8, 148), (1, 13), (8, 147), (0, 128)], [], [], [], [], [(6, 51)], [], [], [], [(7, 121), (7, 123), (1, 13), (7, 122), (0, 0)], [], [], [], [], [], [], [], [], [], [], [], [(8, 85), (8, 88), (1, 13), (8, 87), (0, 117)], [], [], [], [], [], []]) (by decide +kernel)
theorem zg252 : zzmg zzP zt252 := zzmB_s (ps := [[], [], [], [], [], [], [], [], [], []]) (by decide +kernel)
theorem zg253 : zzmg zzP zt253 := zzmB_s (ps := [[], [], [(7, 117), (7, 120), (1, 13), (7, 119), (0, 87)], [], [], [(6, 52)], [], [], [], [(6, 54)], [], [], [], [], [], [], [], [], [], [], [], [], [], [(8, 141), (8, 144), (1, 13), (8, 143), (0, 127)], [], [], [], [], []]) (by decide +kernel)
theorem zg254 : zzmg zzP zt254 := zzmB_s (ps := [[], [], [], [], [], [], [(6, 57)], [], [], [], [(6, 54)], [], [], [], [], [], [], [], [], [], [], []]) (by decide +kernel)
theorem zg255 : zzmg zzP zt255 := zzmB_s (ps := [[], [(6, 54)], [], [], [], [], [], [], [(7, 66), (7, 68), (1, 13), (7, 67), (0, 0)], []]) (by decide +kernel)
theorem zg256 : zzmg zzP zt256 := zzmB_s (ps := [[], [], [], [(8, 129), (8, 132), (1, 13), (8, 131), (0, 124)], [], [], [], [], [], [], [(8, 133), (8, 136), (1, 13), (8, 135), (0, 125)], [], [], [], [], [], [], [(6, 51)], [], [], [], [], [(6, 92)], [], [], [], [], [], [], [(8, 118), (8, 120), (1, 13), (8, 119), (0, 0)], [], [], [], [], [], [], [], [], [(8, 137), (8, 140), (1, 13), (8, 139), (0, 126)], [], [], [], [], [], [], []]) (by decide +kernel)
theorem zg257 : zzmg zzP zt257 := zzmB_s (ps := [[], [], [], [], [], [(6, 53)], [], [], [], [], [], [], [], [], [], [], [], [], [], [], [], [], [], [], [], [], [], [], [], [], [], [], [], [], [], [(6, 93)], [], [], [], [], [], [], [], [], [], [], [], [], [], [], [], [], [], [(8, 125), (8, 128), (1, 13), (8, 127), (0, 123)], [], [], [], [], [], [], [], [], [(6, 93)], [], [], [], [], [], [], [], [], [], [], [], []]) (by decide +kernel)
theorem zg258 : zzmg zzP zt258 := zzmB_s (ps := [[], [(6, 53)], [], [], [], [], [], [], [], [], [], [], [], [], [], [], [(6, 53)], [], [], [], [], [], [], [], [], [], [], [], [], [], [], [], [], [], [], [(6, 53)], [], [], [], [], [], [], [], [], [], [], [], [(8, 125), (8, 128), (1, 13), (8, 127), (0, 123)], [], [], [(6, 94)], [], [], [], [], [], [], [], [], [], [], [], [], [], [], [], [], [(6, 94)], [], [], [], [], [], [], [], [], [], [], [], []]) (by decide +kernel)
theorem zg259 : zzmg zzP zt259 := zzmB_s (ps := [[], [], [], [], [], [], [(8, 118), (8, 120), (1, 13), (8, 119), (0, 0)], [], [], [], [(6, 92)], [], [], [], [], [], [(7, 117), (7, 120), (1, 13), (7, 119), (0, 87)], [], [], [], [], [], [], [], [], [(8, 121), (8, 124), (1, 13), (8, 123), (0, 122)], [], [(6, 92)], [], [], [(6, 93)], [], [], [(6, 53)], [], [], [], [], [], [], [], [], [(6, 92)], [], [], []]) (by decide +kernel)
theorem zg260 : zzmg zzP zt260 := zzmB_s (ps := [[], [], [], [], [], [], [], [], [], [(6, 51)], [], [], [], [], [], [], [], [], [(6, 51)], [], [], [], [], [], [], [], [], [], [], [(8, 114), (8, 117), (1, 13), (8, 116), (0, 121)], [], [], [], [], [], [], [], [], [], [], [], [], []]) (by decide +kernel)
theorem zg261 : zzmg zzP zt261 := zzmB_s (ps := [[], [], [], [], [], [], [], [(6, 86)], [], [], [], [], [], [], [], [], [], [], [], [(6, 92)], [], [], [], [], [], [], [], [], [], [], [], [], [], [], [(6, 51)], [], [], [], [], [], [], [], [], [], [], [], [(8, 110), (8, 113), (1, 13), (8, 112), (0, 120)], [], [], [], [], [], [], [(6, 86)], [], [], [(6, 86)], []]) (by decide +kernel)
theorem zg262 : zzmg zzP zt262 := zzmB_s (ps := [[], [(7, 66), (7, 68), (1, 13), (7, 67), (0, 0)], [], [], [], [], [], [], [], [(6, 57)], [], [], [], [], [], [], [], [], [], [], [], [], [], [(6, 51)], [], [], [], [], [(6, 52)], [], [], [], [], [], [(6, 92)], [], [], [], [(8, 118), (8, 120), (1, 13), (8, 119), (0, 0)], [], [], [], [], [], [], [], []]) (by decide +kernel)
theorem zg263 : zzmg zzP zt263 := zzmB_s (ps := [[], [], [], [], [], [], [], [(6, 51)], [], [], [], [], [], [], []]) (by decide +kernel)
theorem zg264 : zzmg zzP zt264 := zzmB_s (ps := [[], [], [(7, 209), (7, 212), (1, 13), (7, 211), (0, 103)], [], [], [], [], [(8, 102), (8, 105), (1, 13), (8, 104), (0, 118)], [], [], [], [], [], [(8, 106), (8, 109), (1, 13), (8, 108), (0, 119)], [], [], [], [], [(8, 149), (8, 152), (1, 13), (8, 151), (0, 129)], [], [], [], [], []]) (by decide +kernel)
theorem zg265 : zzmg zzP zt265 := zzmB_s (ps := [[], [(7, 166), (7, 169), (1, 13), (7, 168), (0, 94)], [], [], [], [], [], [(8, 106), (8, 109), (1, 13), (8, 108), (0, 119)], [], [(6, 51)], [], [], [], [], [], [], [], [], [(6, 51)], [], [], [], [], [(8, 149), (8, 152), (1, 13), (8, 151), (0, 129)], [], [], [], [], [], [], []]) (by decide +kernel)
theorem zg266 : zzmg zzP zt266 := zzmB_s (ps := [[], [], [], [], [], [], [], [], [], [(6, 84)], [], [], [], [], [], [], [], [], [], [], [], [(6, 95)], [], [], [], [], [], [], [], [], [], [], [], [(8, 149), (8, 152), (1, 13), (8, 151), (0, 129)], [], [], [(6, 95)], [], [], [], [], [], [], [], [], [], [], [], [], []]) (by decide +kernel)
theorem zg267 : zzmg zzP zt267 := zzmB_s (ps := [[], [], [], [], [], [], [], [], [], [], [], [], [], [(6, 85)], [], [], [(6, 95)], [], [], [], [], [], [], [], [], [], [], [], [(8, 173), (8, 176), (1, 13), (8, 175), (0, 133)], [], [], [], [], [], [], [], [], [], [], [], [], []]) (by decide +kernel)
theorem zg268 : zzmg zzP zt268 := zzmB_s (ps := [[], [(6, 86)], [], [], [], [], [], [(7, 109), (7, 112), (1, 13), (7, 111), (0, 85)], [], [], [], [(8, 106), (8, 109), (1, 13), (8, 108), (0, 119)], [], [], [], [], [], [], [], [(6, 95)], [], [], [], [], [], [], [], [], [], [], [], [], [], [], [(6, 51)], [], [], [], [], [], [], [], [], [], [], [(8, 169), (8, 172), (1, 13), (8, 171), (0, 132)], [], [], [], [], [], [], [(6, 86)], [], [], [(6, 86)], []]) (by decide +kernel)
theorem zg269 : zzmg zzP zt269 := zzmB_s (ps := [[], [(7, 166), (7, 169), (1, 13), (7, 168), (0, 94)], [], [], [], [], [], [(6, 51)], [], [], [], [(7, 61), (7, 63), (1, 13), (7, 62), (0, 0)], [], [], [], [], []]) (by decide +kernel)
theorem zg270 : zzmg zzP zt270 := zzmB_s (ps := [[], [], [(8, 161), (8, 164), (1, 13), (8, 163), (0, 130)], [], [], [], [], [], [], [(8, 18), (8, 21), (1, 13), (8, 20), (0, 110)], [], [], [], [], [(8, 165), (8, 168), (1, 13), (8, 167), (0, 131)], [], [], [], [], [(6, 95)], [], [], [], [], [], [], [], [], [], [], [], [], [], [], [], [], [], [], [(6, 85)], [], [], [], [(6, 95)], [], [], [], [], [], [], [], [], [], [], [], [], [], [], [], []]) (by decide +kernel)
theorem zg271 : zzmg zzP zt271 := zzmB_s (ps := [[], [], [], [], [], [], [], [], [], [(6, 84)], [], [], [], [], [], [], [], [], [], [], [], [], [], [], [], [], [], [], [], [], [], [(8, 149), (8, 152), (1, 13), (8, 151), (0, 129)], [], [], [], [], [], [], [], [], [], []]) (by decide +kernel)
theorem zg272 : zzmg zzP zt272 := zzmB_s (ps := [[], [], [(8, 161), (8, 164), (1, 13), (8, 163), (0, 130)], [], [], [], [], [], [], [(8, 18), (8, 21), (1, 13), (8, 20), (0, 110)], [], [], [], [], [(8, 165), (8, 168), (1, 13), (8, 167), (0, 131)], [], [], [], [], [], [], [], [], [], [], [], [], [], [(6, 85)], [], [], [], [(6, 95)], [], [], [], [], [], [], [], [], [], [], [], [], [(8, 181), (8, 184), (1, 13), (8, 183), (0, 134)], [], [], [], [], [], [], [], [], [], []]) (by decide +kernel)
theorem zg273 : zzmg zzP zt273 := zzmB_s (ps := [[], [], [(8, 161), (8, 164), (1, 13), (8, 163), (0, 130)], [], [], [], [], [(8, 165), (8, 168), (1, 13), (8, 167), (0, 131)], [], [], [], [], [], [], [], [(6, 85)], [], [], [], [], [], [], [], [], [], [(6, 95)], [], [], [], [], [], [], [], [], [(6, 84)], [], [], [], [], [], [], [], [], [], [], [], [], [], [], [], [], [], [], [], [], []]) (by decide +kernel)
theorem zg274 : zzmg zzP zt274 := zzmB_s (ps := [[], [], [], [], [], [], [], [(6, 53)], [], [], [], [], [], [], [(8, 129), (8, 132), (1, 13), (8, 131), (0, 124)], [], [], [], [], [], [], [(6, 53)], [], [], [], [], [], [], [], [], [], [], [], [], [], [], [], [], [], [], [], [], [], [(8, 125), (8, 128), (1, 13), (8, 127), (0, 123)], [], [], [], [], [], [], [], [], [], [], [], [], [(6, 51)], [], [], [], [], [], [], [], [(6, 92)], [], [], [], [], [(8, 118), (8, 120), (1, 13), (8, 119), (0, 0)], [], [], [], [], [], [], [], [], [(8, 137), (8, 140), (1, 13), (8, 139), (0, 126)], [], [], [], [], [], [], [], [], [], [], [], [], [], []]) (by decide +kernel)
theorem zg275 : zzmg zzP zt275 := zzmB_s (ps := [[], [], [], [], [], [(6, 51)], [], [], [], [], [(6, 100)], [], [], [(6, 92)], [], [], [], [], [(8, 118), (8, 120), (1, 13), (8, 119), (0, 0)], [], [], [], [], [], [], [], [(8, 205), (8, 208), (1, 13), (8, 207), (0, 138)], [], [], [], [], [], [], [], [], [], [], [(6, 51)], [], [], [], [], [], [], [], [], [(6, 51)], [], [], [], [], [(6, 100)], [], [], [], [], [(6, 100)], [], [], [], [(7, 121), (7, 123), (1, 13), (7, 122), (0, 0)], [], [], [(6, 100)], [], [], [], [], [], [], [], [], [], [], [], [], [], [], [], [(6, 51)], [], [], [], [], [(6, 96)], [], [], [], [(8, 118), (8, 120), (1, 13), (8, 119), (0, 0)], [], [(6, 100)], [], [], [], [(7, 121), (7, 123), (1, 13), (7, 122), (0, 0)], [], [], [], []]) (by decide +kernel)
theorem zg276 : zzmg zzP zt276 := zzmB_s (ps := [[], [], [], [], [], [(6, 51)], [], [], [], [], [(6, 96)], [], [], [], [(8, 118), (8, 120), (1, 13), (8, 119), (0, 0)], [], [], [], [], [], [(8, 129), (8, 132), (1, 13), (8, 131), (0, 124)], [], [], [], [], [], [], [(8, 137), (8, 140), (1, 13), (8, 139), (0, 126)], [], [], [], [], [], [], []]) (by decide +kernel)
theorem zg277 : zzmg zzP zt277 := zzmB_s (ps := [[], [], [], [], [], [(8, 121), (8, 124), (1, 13), (8, 123), (0, 122)], [], [], [], [], [], [], [], [(6, 99)], [], [], [], [], [], [], [], [], [], [], [(6, 53)], [], [], [], [], [], [], [], [], [], [], [], [], [], [], [], [], [], [], [], [], [(6, 99)], [], [], [], [], [], [], [], [], [], [], [], [], [], [], [], [], [], [(8, 125), (8, 128), (1, 13), (8, 127), (0, 123)], [], [], [(6, 93)], [], [], [], [], [], [], [], [], [], [], [], [], [], [], [], [], [(8, 217), (8, 220), (1, 13), (8, 219), (0, 141)], [], [], [], [], [], [], [], [], [(6, 99)], [], [], [], [], [], [], [], [], [], [], [], [], [(6, 99)], [], [], [(6, 53)], [], [], [], [], [], [], []]) (by decide +kernel)
theorem zg278 : zzmg zzP zt278 := zzmB_s (ps := [[], [], [], [], [], [], [], [(6, 51)], [], [], [], [], [], [], [(8, 118), (8, 120), (1, 13), (8, 119), (0, 0)], [], [], [(6, 92)], [], [], [], [], [], [], [(6, 96)], [], [], [], [], [], [], [], [(8, 213), (8, 216), (1, 13), (8, 215), (0, 140)], [], [], [(6, 96)], [], [], [], [], [], [], [], [], []]) (by decide +kernel)
theorem zg279 : zzmg zzP zt279 := zzmB_s (ps := [[], [], [], [(8, 129), (8, 132), (1, 13), (8, 131), (0, 124)], [], [], [], [], [], [], [(8, 133), (8, 136), (1, 13), (8, 135), (0, 125)], [], [], [], [], [], [], [], [], [], [], [], [], [(6, 51)], [], [], [], [], [], [], [], [], [], [(8, 137), (8, 140), (1, 13), (8, 139), (0, 126)], [], [], [(6, 97)], [], [], [], [(8, 118), (8, 120), (1, 13), (8, 119), (0, 0)], [], [], [], [], [], [], [], [], [(8, 233)], [], [], [(8, 233)], [], [], []]) (by decide +kernel)
theorem zg280 : zzmg zzP zt280 := zzmB_s (ps := [[], [], [], [], [], [], [], [(6, 98)], [], [], [], [], [], [], [], [], [], [], [], [], [], [], [], [(6, 53)], [], [], [], [], [], [], [], [], [], [], [], [], [], [], [], [], [], [], [(6, 98)], [], [], [], [], [], [], [], [], [], [], [], [], [], [], [(6, 98)], [], [], [], [], [], [], [], [], [], [], [], [], [], [], [], [(8, 229), (8, 232), (1, 13), (8, 231), (0, 144)], [], [], [], [], [(8, 233)], [], [], [(8, 233)], [], [], [], [], [], [], [], [(6, 98)], [], [], [], [], [], [], [(8, 233)], [], [], [(8, 233)], [], [], [], [], [], [], [], [], [(6, 98)], [], [], [(6, 53)], [], [], [], [], [], [], []]) (by decide +kernel)
theorem zg281 : zzmg zzP zt281 := zzmB_s (ps := [[], [], [], [], [], [], [], [(6, 51)], [], [], [], [], [], [], [(8, 118), (8, 120), (1, 13), (8, 119), (0, 0)], [], [], [(6, 92)], [], [], [], [], [], [], [(6, 96)], [], [], [], [], [], [], [], [(8, 225), (8, 228), (1, 13), (8, 227), (0, 143)], [], [], [], [], [], [], [], [(6, 97)], [], [], [], [], [], [], [], [], [], [(6, 97)], [], [], [], [], [], [], []]) (by decide +kernel)
theorem zg282 : zzmg zzP zt282 := zzmB_s (ps := [[], [], [], [(8, 201), (8, 204), (1, 13), (8, 203), (0, 137)], [], [], [], [], [], [], [], [], [(8, 209), (8, 212), (1, 13), (8, 211), (0, 139)], [], [], [], [], [], [], [], [], [], [], [(8, 221), (8, 224), (1, 13), (8, 223), (0, 142)], [], [], []]) (by decide +kernel)
theorem zg283 : zzmg zzP zt283 := zzmB_s (ps := [[], [(6, 86)], [], [], [], [], [], [], [(8, 106), (8, 109), (1, 13), (8, 108), (0, 119)], [], [], [], [], [], [], [], [(6, 96)], [], [], [], [], [(6, 97)], [], [], [], [], [], [], [], [], [], [], [(6, 51)], [], [], [], [], [], [], [], [], [], [], [(6, 51)], [], [], [], [], [], [], [], [], [(8, 197), (8, 200), (1, 13), (8, 199), (0, 136)], [], [], [], [], [], [], [(6, 86)], [], [], [(6, 86)], []]) (by decide +kernel)
theorem zg284 : zzmg zzP zt284 := zzmB_s (ps := [[], [], [(7, 209), (7, 212), (1, 13), (7, 211), (0, 103)], [], [], [], [], [(8, 102), (8, 105), (1, 13), (8, 104), (0, 118)], [], [], [], [], [(8, 193), (8, 196), (1, 13), (8, 195), (0, 135)], [], [], [], [], [], [], [], [(6, 51)], [], [], [], [], [], [(7, 117), (7, 120), (1, 13), (7, 119), (0, 87)], [], [], [(6, 52)], [], [], [], [], [], [], [], [], [], [], [], [(6, 96)], [], [], [], [(8, 118), (8, 120), (1, 13), (8, 119), (0, 0)], [], [], [], [], [], [], [], [], [(6, 97)], [], [], [], [(8, 118), (8, 120), (1, 13), (8, 119), (0, 0)], [], [], [], [], [], [], [], [], [(8, 233)], [], [], [], [], [], [], []]) (by decide +kernel)
theorem zg285 : zzmg zzP zt285 := zzmB_s (ps := [[], [], [], [], [], [], [], [(6, 51)], [], [], [], [], [], [], [(8, 118), (8, 120), (1, 13), (8, 119), (0, 0)], [], [], [(6, 92)], [], [], [], [], [], [], [(6, 101)], [], [], [], [], [], [], [], [], [(8, 137), (8, 140), (1, 13), (8, 139), (0, 126)], [], [], [(6, 101)], [], [], [], [], [], [], [], [], []]) (by decide +kernel)
theorem zg286 : zzmg zzP zt286 := zzmB_s (ps := [[], [], [], [], [], [], [], [(8, 121), (8, 124), (1, 13), (8, 123), (0, 122)], [], [], [], [], [(9, 10), (9, 13), (1, 13), (9, 12), (0, 148)], [], [], [], [], [], [(6, 53)], [], [], [], [], [], [], [], [], [], [], [], [], [], [], [], [], [], [], [(8, 129), (8, 132), (1, 13), (8, 131), (0, 124)], [], [], [(6, 93)], [], [], [], [], [], [], [], [], [(6, 94)], [], [], [], [], [], [], [], [], [], [], [], [], [], [], [], [], [], [], [], [], [(9, 14), (9, 17), (1, 13), (9, 16), (0, 149)], [], [], [], [], [], [], [], [], [], [], [], [], [], [], []]) (by decide +kernel)
theorem zg287 : zzmg zzP zt287 := zzmB_s (ps := [[], [], [], [], [], [], [], [(6, 51)], [], [], [], [], [], [], [], [], [(6, 51)], [], [], [], [], [], [], [], [], [(6, 51)], [], [], [], [], [], [], [(8, 118), (8, 120), (1, 13), (8, 119), (0, 0)], [], [], [(6, 101)], [], [], [], [], [(6, 102)], [], [], [], [], [(6, 102)], [], [], [], [], [], [], [], [(9, 6), (9, 9), (1, 13), (9, 8), (0, 147)], [], [], [], [], [], [], [], [], [], [], []]) (by decide +kernel)
theorem zg288 : zzmg zzP zt288 := zzmB_s (ps := [[], [(6, 86)], [], [], [], [], [], [], [(8, 106), (8, 109), (1, 13), (8, 108), (0, 119)], [], [], [], [], [], [], [], [(6, 101)], [], [], [], [], [(6, 102)], [], [], [], [], [], [], [], [], [], [], [(6, 51)], [], [], [], [], [], [], [(6, 51)], [], [], [(8, 118), (8, 120), (1, 13), (8, 119), (0, 0)], [], [], [(6, 101)], [], [], [(6, 52)], [], [], [], [(6, 51)], [], [], [], [], [(6, 92)], [], [], [], [], [], [], [], [], [], [], [], [], [], [], [], [], [], [(9, 2), (9, 5), (1, 13), (9, 4), (0, 146)], [], [], [], [], [(6, 86)], [], [], [(6, 86)], []]) (by decide +kernel)
theorem zg289 : zzmg zzP zt289 := zzmB_s (ps := [[], [], [(7, 154), (7, 157), (1, 13), (7, 156), (0, 93)], [], [], [], [], [(8, 102), (8, 105), (1, 13), (8, 104), (0, 118)], [], [], [], [], [(8, 238), (9, 1), (1, 13), (9, 0), (0, 145)], [], [(6, 101)], [], [], [], [(8, 118), (8, 120), (1, 13), (8, 119), (0, 0)], [], [], [], [], [], []]) (by decide +kernel)
theorem zg290 : zzmg zzP zt290 := zzmB_s (ps := [[], [], [(7, 117), (7, 120), (1, 13), (7, 119), (0, 87)], [], [], [], [], [], [], [], [], [(6, 53)], [], [], [], [], [], [], [], [], [], [], [], [], [], [], [], [], [], [], [], [], [], [], [], [], [], [], [], [], [(6, 103)], [], [], [], [], [], [], [], [], [], [], [], [], [], [], [], [], [], [(8, 125), (8, 128), (1, 13), (8, 127), (0, 123)], [], [], [(6, 103)], [], [], [], [], [], [], [], [], [], [], [], [], [], [], [], [(6, 103)], [], [], [], [], [], [], [], [], [], [], [], [], [(6, 103)], [], [], [(6, 53)], [], [], [], [], [], [], []]) (by decide +kernel)
theorem zg291 : zzmg zzP zt291 := zzmB_s (ps := [[], [], [(7, 154), (7, 157), (1, 13), (7, 156), (0, 93)], [], [], [], [], [(8, 102), (8, 105), (1, 13), (8, 104), (0, 118)], [], [], [], [], [], [(8, 106), (8, 109), (1, 13), (8, 108), (0, 119)], [], [], [], [], [(9, 22), (9, 25), (1, 13), (9, 24), (0, 150)], []]) (by decide +kernel)
theorem zg292 : zzmg zzP zt292 := zzmB_s (ps := [[], [], [], [], [], [], [], [(6, 51)], [], [], [], [], [(6, 52)], [], [], [], [], [], [(6, 101)], [], [], [], [(8, 118), (8, 120), (1, 13), (8, 119), (0, 0)], [], [], [], [], [], [], [], [], [], [], [], [], [(9, 22), (9, 25), (1, 13), (9, 24), (0, 150)], [], [], [], [], [], []]) (by decide +kernel)
theorem zg293 : zzmg zzP zt293 := zzmB_s (ps := [[], [], [], [], [(9, 39), (9, 42), (1, 13), (9, 41), (0, 153)], [], [], [], [(6, 105)], [], [], [], [], [], [], [], [(6, 105)], [], [], [], [], [], [(6, 106)], [], [], [(6, 106)], [], [], [(6, 107)], [], [], [], [], [], [], [(6, 107)], [], [], [], [], [], [], [(6, 107)], [(6, 107)], []]) (by decide +kernel)
theorem zg294 : zzmg zzP zt294 := zzmB_s (ps := [[], [(8, 238), (9, 1), (1, 13), (9, 0), (0, 145)], [], [], [(6, 104)], [], [], [(6, 105)], [], [], [(6, 106)], [], [], [(6, 107)], [], [], [], [], [], [], [], [], [(6, 104)], [], [(6, 101)], [], [], [], [], [], [], [], [(6, 104)], [], [], [], [], [], [], [], [], [], [], [], [], [], [(6, 51)], [], [], [], [], [], [(7, 209), (7, 212), (1, 13), (7, 211), (0, 103)], [], [], [], [], [], [], [(6, 51)], [], [], [], [], [], [], [], [(9, 35), (9, 38), (1, 13), (9, 37), (0, 152)], [], [], [], [], [], [], []]) (by decide +kernel)
theorem zg295 : zzmg zzP zt295 := zzmB_s (ps := [[], [(7, 166), (7, 169), (1, 13), (7, 168), (0, 94)], [], [], [], [], [(9, 30)], [(7, 61), (7, 63), (1, 13), (7, 62), (0, 0)], [], [], [], [], [(9, 31), (9, 34), (1, 13), (9, 33), (0, 151)], [], [], [], [(6, 104)], [], [], [], [], [], [(6, 105)], [], [], [], [], [], [(6, 106)], [], [], [(6, 107)], []]) (by decide +kernel)
theorem zg296 : zzmg zzP zt296 := zzmB_s (ps := [[], [], [], [], [], [], [], [(6, 51)], [], [], [], [], [(6, 108)], [], [], [], [(8, 118), (8, 120), (1, 13), (8, 119), (0, 0)], [], [(8, 2)], [], [], [], [], [], [], [(8, 137), (8, 140), (1, 13), (8, 139), (0, 126)], [], [], [], [], [], [(6, 108)], [], [], [], [(8, 118), (8, 120), (1, 13), (8, 119), (0, 0)], [], [], [(6, 108)], [], [], [], [(8, 118), (8, 120), (1, 13), (8, 119), (0, 0)], [], [], [], [], [], [], [], [], [], []]) (by decide +kernel)
theorem zg297 : zzmg zzP zt297 := zzmB_s (ps := [[], [], [], [(8, 129), (8, 132), (1, 13), (8, 131), (0, 124)], [], [], [], [], [], [], [(8, 133), (8, 136), (1, 13), (8, 135), (0, 125)], [], [], [], [(8, 2)], [], [], [], [], [], [], [(9, 63), (9, 66), (1, 13), (9, 65), (0, 158)], [], [], [], [], [(8, 2)], [], [], [(6, 108)], [], [], [], [(8, 118), (8, 120), (1, 13), (8, 119), (0, 0)], [], []]) (by decide +kernel)
theorem zg298 : zzmg zzP zt298 := zzmB_s (ps := [[], [(6, 53)], [], [], [], [], [], [], [], [], [], [], [], [], [], [], [(6, 53)], [], [], [], [], [], [], [], [], [(8, 2)], [], [], [], [], [], [], [], [], [], [(6, 53)], [], [], [], [], [(6, 109)], [], [], [], [], [], [], [], [], [], [], [(8, 2)], [], [], [], [], [], [], [(9, 59), (9, 62), (1, 13), (9, 61), (0, 157)], [], [(8, 7), (8, 9), (1, 13), (8, 8), (0, 0)], [], [(8, 2)], [], [], [], [], [], [], [], [], [], [], [], [(6, 109)], [], [], [], [], [], [], [], [], [], [], [], []]) (by decide +kernel)
theorem zg299 : zzmg zzP zt299 := zzmB_s (ps := [[], [], [], [], [], [], [], [], [], [(6, 51)], [], [], [], [], [], [], [], [], [(6, 51)], [], [], [], [], [], [], [], [], [(8, 118), (8, 120), (1, 13), (8, 119), (0, 0)], [], [], [(6, 92)], [], [], [], [], [], [], [], [], [], [], [], [(9, 55), (9, 58), (1, 13), (9, 57), (0, 156)], [], [], [(6, 109)], [], [], [(8, 7), (8, 9), (1, 13), (8, 8), (0, 0)], [], [], [], [], [], [(6, 108)], [], [], [], [], [], [], [], [], [(6, 108)], [], [], [], [(6, 108)], [], [], [], [], [], [], [(6, 108)], [], [], [], [], [], [], [], [], []]) (by decide +kernel)
theorem zg300 : zzmg zzP zt300 := zzmB_s (ps := [[], [(6, 86)], [], [], [], [], [], [], [(8, 106), (8, 109), (1, 13), (8, 108), (0, 119)], [], [], [], [], [], [], [], [(6, 108)], [], [(8, 2)], [], [], [], [], [], [], [], [], [(6, 51)], [], [], [], [], [], [], [], [], [], [], [(9, 51), (9, 54), (1, 13), (9, 53), (0, 155)], [], [], [], [], [], [], [(6, 86)], [], [], [(6, 86)], []]) (by decide +kernel)
theorem zg301 : zzmg zzP zt301 := zzmB_s (ps := [[], [], [], [], [], [], [], [(6, 51)], [], [], [], [], [], [], [(6, 51)], [], [], [(8, 118), (8, 120), (1, 13), (8, 119), (0, 0)], [], [], [(6, 52)], [], [], [], [(6, 51)], [], [], [], [], [(6, 108)], [], [], [(8, 2)], [], [], [], [], [], [(6, 108)], [], [], [], [(6, 108)], [], [], [], [(6, 51)], [], [], [(8, 118), (8, 120), (1, 13), (8, 119), (0, 0)], [], [], [], [], [], [], [], [], [], []]) (by decide +kernel)
theorem zg302 : zzmg zzP zt302 := zzmB_s (ps := [[], [(7, 166), (7, 169), (1, 13), (7, 168), (0, 94)], [], [], [], [], [(9, 47), (9, 50), (1, 13), (9, 49), (0, 154)], [], [(9, 67), (9, 70), (1, 13), (9, 69), (0, 159)], [], [], [], [], [], [], [], [(6, 108)], [], [], [], [(6, 51)], [], [], [(8, 118), (8, 120), (1, 13), (8, 119), (0, 0)], [], []]) (by decide +kernel)
theorem zg303 : zzmg zzP zt303 := zzmB_s (ps := [[], [(6, 110)], [], [], [(6, 112)], [], [], [(6, 111)], [], [], [], [], [], [(9, 55), (9, 58), (1, 13), (9, 57), (0, 156)], [], [], [(6, 113)], [], [], [(6, 113)], [], [], [], [], [], [], [], [(6, 53)], [], [], [], [], [], [], [], [], [], [], [(9, 80), (9, 83), (1, 13), (9, 82), (0, 161)], [], [], [], [], [(8, 129), (8, 132), (1, 13), (8, 131), (0, 124)], [], [], [], [], [], [], [(9, 63), (9, 66), (1, 13), (9, 65), (0, 158)], [], [], [], [], [], [], [], [], [], [(6, 108)], [], [], [], [(8, 118), (8, 120), (1, 13), (8, 119), (0, 0)], [], [], [], [(6, 113)], [], [], [], [], [], [], [], [], [(6, 113)], [], [], [], [], [], [], [(6, 113)], [], [], [], [], [(6, 110)], [], [], [(6, 111)], [], [], [(6, 112)], [], [], [], [], []]) (by decide +kernel)
theorem zg304 : zzmg zzP zt304 := zzmB_s (ps := [[], [], [], [], [], [], [], [], [(9, 59), (9, 62), (1, 13), (9, 61), (0, 157)], [], [(6, 109)], [], [], [], [], [], [], [], [], [(8, 7), (8, 9), (1, 13), (8, 8), (0, 0)], [], [(6, 109)], [], [], [], [], [], [], [], [], [], [], []]) (by decide +kernel)
theorem zg305 : zzmg zzP zt305 := zzmB_s (ps := [[], [(9, 75), (9, 46), (1, 13), (9, 44), (9, 45)], [], [], [], [], [], [], [], [], [(7, 61), (7, 63), (1, 13), (7, 62), (0, 0)], [], [], [], [], [(8, 93)], [(7, 61), (7, 63), (1, 13), (7, 62), (0, 0)], [], [], [], [], [], [(9, 67), (9, 70), (1, 13), (9, 69), (0, 159)], [(6, 110)], [], [], [(6, 111)], [], [], [(6, 51)], [], [], [(6, 112)], [], [], [(6, 113)], [], [], [(6, 113)], [], [], [(9, 76), (9, 79), (1, 13), (9, 78), (0, 160)], [], [], [], [], [(6, 110)], [], [], [], [], [], [(6, 111)], [], [], [(6, 112)], []]) (by decide +kernel)
theorem zg306 : zzmg zzP zt306 := zzmB_s (ps := [[], [(6, 54)], [], [], [], [], [], [], [], [(8, 2)], [], [], [(7, 66), (7, 68), (1, 13), (7, 67), (0, 0)], [], [], [], [], [], [], [], [], [], [], [], [], [(6, 57)], [], [], [], [], [], [], [], [], [], [], [], [], [], [], [], [], [], [], [], [], [], [], [], [], [], [], [], [], [], [], [], [], [(6, 51)], [], [], [], [], [], [(7, 117), (7, 120), (1, 13), (7, 119), (0, 87)], [], [], [(6, 52)], [], [], [], [], [], [(6, 114)], [], [], [], [(8, 118), (8, 120), (1, 13), (8, 119), (0, 0)], [], [], [(8, 2)], [], [], [], [], [], [], [], [], [], [], [], []]) (by decide +kernel)
theorem zg307 : zzmg zzP zt307 := zzmB_s (ps := [[], [(6, 53)], [], [], [], [], [], [], [], [], [], [], [], [], [(6, 53)], [], [], [], [], [], [], [], [], [], [], [], [], [], [], [], [], [(8, 2)], [], [], [], [], [], [], [], [], [], [], [(6, 115)], [], [], [], [], [], [], [], [], [], [], [(8, 2)], [], [], [], [], [], [], [], [], [], [(9, 96), (9, 99), (1, 13), (9, 98), (0, 164)], [(8, 7), (8, 9), (1, 13), (8, 8), (0, 0)], [], [(8, 2)], [], [], [], [], [], [], [], [], [], [], [], [(6, 115)], [], [], [], [], [], [], [], [], [], [], [], [], [(6, 115)], [], [], [(6, 53)], [], [], [], [], [], [], []]) (by decide +kernel)
theorem zg308 : zzmg zzP zt308 := zzmB_s (ps := [[], [], [], [], [], [], [], [], [], [(6, 51)], [], [], [], [], [], [], [], [], [(6, 51)], [], [], [], [], [], [], [], [], [(8, 118), (8, 120), (1, 13), (8, 119), (0, 0)], [], [], [], [(7, 117), (7, 120), (1, 13), (7, 119), (0, 87)], [], [], [], [], [], [], [], [(9, 92), (9, 95), (1, 13), (9, 94), (0, 163)], [], [(8, 2)], [], [], [], [], [], [(6, 114)], [], [], [], [], [], [], [], [], [(6, 114)], [], [], [], [(6, 114)], [], [], [], [], [], [], [(6, 114)], [], [], [], [], [], [], [], [], []]) (by decide +kernel)
theorem zg309 : zzmg zzP zt309 := zzmB_s (ps := [[], [(7, 166), (7, 169), (1, 13), (7, 168), (0, 94)], [], [], [], [], [], [], [], [], [], [], [(6, 114)], [], [(8, 2)], [], [], [], [], [], [], [], [], [(6, 51)], [], [], [], [], [], [], [], [], [], [], [(9, 88), (9, 91), (1, 13), (9, 90), (0, 162)], [], [], [], [], [(8, 2)], [], [], [], [], [], [], [(6, 51)], [], [], [], [], [], [(7, 117), (7, 120), (1, 13), (7, 119), (0, 87)], [], [], [(6, 52)], [], [], [], [(6, 51)], [], [], [], [], [(6, 114)], [], [], [], [(6, 51)], [], [], [(8, 118), (8, 120), (1, 13), (8, 119), (0, 0)], [], [], [(8, 2)], [], [], [], [], [], [], [], [], [], [], [], [(8, 2)], [], [], [], [], []]) (by decide +kernel)
theorem zg310 : zzmg zzP zt310 := zzmB_s (ps := [[], [], [], [], [], [(6, 51)], [], [], [], [], [(6, 51)], [], [], [], [], []]) (by decide +kernel)
theorem zg311 : zzmg zzP zt311 := zzmB_s (ps := [[], [(6, 51)], [], [], [(6, 51)], [], [], [], [(9, 127)], [], [(9, 128)], [], [(8, 233)], [], [], [], [], [(6, 51)], [], [], [(9, 129)], [], [], [], []]) (by decide +kernel)
theorem zg312 : zzmg zzP zt312 := zzmB_s (ps := [[], [], [], [], [], [], [], [(6, 51)], [], [], [], [], [], [], [(7, 117), (7, 120), (1, 13), (7, 119), (0, 87)], [], [], [(6, 52)], [], [], [], [], [], [], [], [], [], [], [], [], []]) (by decide +kernel)
theorem zg313 : zzmg zzP zt313 := zzmB_s (ps := [[], [], [], [], [], [], [], [(6, 51)], [], [], [], [], [], [(7, 117), (7, 120), (1, 13), (7, 119), (0, 87)], [], [], [(6, 52)], [], [], [], [], [], [], [], [], [], [], [], [], []]) (by decide +kernel)
theorem zg314 : zzmg zzP zt314 := zzmB_s (ps := [[], [], [], [], [], [(6, 117)], [], [], [(6, 116)], [], [], [(7, 66), (7, 68), (1, 13), (7, 67), (0, 0)], [], [], [], [], [], [], []]) (by decide +kernel)
theorem zg315 : zzmg zzP zt315 := zzmB_s (ps := [[], [(6, 53)], [], [], [], [], [], [], [], [], [], [], [], [], [], [], [(6, 117)], [], [], [(6, 116)], [], [], [(6, 116)], [], [], [], [], [], [], [], [], [], [(6, 117)], [], [], [], [], [], [], [], [], [(6, 116)], [], [], [], [], [(6, 116)], [], [], [], [], [], [], [], [], [], [], [(6, 53)], [], [], [], [], [(6, 116)], [], [], [], [], [(6, 54)], [], [], [], [], [], [], [], [], [], [], [], [(6, 117)], [], [], [(6, 117)], []]) (by decide +kernel)
theorem zg316 : zzmg zzP zt316 := zzmB_s (ps := [[], [(6, 116)], [], [], [(6, 51)], [], [], [], [], [], [(6, 117)], [], [], [], [(9, 115), (9, 118), (1, 13), (9, 117), (0, 166)], [], [], [], [], [], [], [], [(6, 116)], [], [], [(9, 119), (9, 122), (1, 13), (9, 121), (0, 167)], [], [], [], [], [], [], [], [], [], [], [], [], [(6, 116)], [], [], [], [], [(9, 123), (9, 126), (1, 13), (9, 125), (0, 168)], [(9, 130), (9, 133), (1, 13), (9, 132), (0, 169)], [(9, 134), (9, 137), (1, 13), (9, 136), (0, 170)], [], [], [(6, 117)], [], [], [], [], [], [(9, 115), (9, 118), (1, 13), (9, 117), (0, 166)], [], [], [], []]) (by decide +kernel)
theorem zg317 : zzmg zzP zt317 := zzmB_s (ps := [[], [(7, 166), (7, 169), (1, 13), (7, 168), (0, 94)], [], [], [], [], [(9, 108)], [(7, 61), (7, 63), (1, 13), (7, 62), (0, 0)], [], [], [], [(9, 109)], [(9, 110)], [(7, 61), (7, 63), (1, 13), (7, 62), (0, 0)], [], [], [], [], [(6, 51)], [], [], [], [], [], [], [], [], [], [], [], [], [(9, 111), (9, 114), (1, 13), (9, 113), (0, 165)], [], [], [], [], [(6, 51)], [], [], [], [], [], [], [], [], [], [], [], [(6, 117)], [], [], [], [(6, 117)], [], [], [(6, 116)], [], [], [], [], []]) (by decide +kernel)
theorem zg318 : zzmg zzP zt318 := zzmB_s (ps := [[], [], [], [(6, 51)], [], [], [], [], [(6, 51)], [], [], [], [], [(6, 51)], [], [], [], [], [(6, 51)], [], [], [], [], [(6, 51)], [], [], [], [], [(6, 51)], [], [], [], [], [(6, 89)], [], [], [(6, 51)], [], [], [], [], [(6, 66)], [], [], []]) (by decide +kernel)
theorem zg319 : zzmg zzP zt319 := zzmB_s (ps := [[], [], [], [], [], [], [], [], [(6, 121)], [], [], [], [], [(6, 118)], [], [(6, 120)], [], [], [], [], [(6, 118)], [], [(6, 120)], [], [], [], [], [], [], [(6, 120)], [], [], [(6, 120)], [], [], []]) (by decide +kernel)
theorem zg320 : zzmg zzP zt320 := zzmB_s (ps := [[], [], [], [], [(6, 120)], [], [], [(6, 121)], [], [], [(6, 51)], [(9, 150), (9, 153), (1, 13), (9, 152), (0, 172)], [], [], [(6, 52)], [(9, 150), (9, 153), (1, 13), (9, 152), (0, 172)], [], [], [(6, 53)], [(9, 150), (9, 153), (1, 13), (9, 152), (0, 172)], [], [], [(6, 54)], [(9, 150), (9, 153), (1, 13), (9, 152), (0, 172)], [], [], [(6, 55)], [(9, 150), (9, 153), (1, 13), (9, 152), (0, 172)], [], [], [(6, 56)], [(9, 150), (9, 153), (1, 13), (9, 152), (0, 172)], [], [], [(6, 57)], [(9, 150), (9, 153), (1, 13), (9, 152), (0, 172)], [], [], [(6, 58)], [(9, 150), (9, 153), (1, 13), (9, 152), (0, 172)], [], [(6, 88)], [], [], [(6, 89)], [], [], [], [(6, 88)], [(9, 150), (9, 153), (1, 13), (9, 152), (0, 172)], [], [], [(6, 88)], [], [], [(6, 89)], [], [], [(6, 87)], [(9, 150), (9, 153), (1, 13), (9, 152), (0, 172)], []]) (by decide +kernel)
theorem zg321 : zzmg zzP zt321 := zzmB_s (ps := [[], [], [], [(9, 30)], [(7, 61), (7, 63), (1, 13), (7, 62), (0, 0)], [], [], [], [], [(6, 119)], [], [], [], [], [], [], [(9, 146), (9, 149), (1, 13), (9, 148), (0, 171)], [], [(6, 51)], [], [], []]) (by decide +kernel)
theorem zg322 : zzmg zzP zt322 := zzmB_s (ps := [[], [], [], [(9, 30)], [(7, 61), (7, 63), (1, 13), (7, 62), (0, 0)], [], [], [(6, 119)], [], [], [], [], [], [], [], [], [(9, 146), (9, 149), (1, 13), (9, 148), (0, 171)], [], [], [(6, 86)], [], [(6, 51)], [], [], []]) (by decide +kernel)
end
section
set_option maxRecDepth 100000 in
theorem zzmg_all : ∀ q ∈ zzP, zzmg zzP q := List.forall_mem_cons.mpr ⟨zg3, List.forall_mem_cons.mpr ⟨zg4, List.forall_mem_cons.mpr ⟨zg5, List.forall_mem_cons.mpr ⟨zg6, List.forall_mem_cons.mpr ⟨zg7, List.forall_mem_cons.mpr ⟨zg8, List.forall_mem_cons.mpr ⟨zg9, List.forall_mem_cons.mpr ⟨zg10, List.forall_mem_cons.mpr ⟨zg11, List.forall_mem_cons.mpr ⟨zg12, List.forall_mem_cons.mpr ⟨zg13, List.forall_mem_cons.mpr ⟨zg14, List.forall_mem_cons.mpr ⟨zg15, List.forall_mem_cons.mpr ⟨zg16, List.forall_mem_cons.mpr ⟨zg17, List.forall_mem_cons.mpr ⟨zg18, List.forall_mem_cons.mpr ⟨zg19, List.forall_mem_cons.mpr ⟨zg20, List.forall_mem_cons.mpr ⟨zg21, List.forall_mem_cons.mpr ⟨zg22, List.forall_mem_cons.mpr ⟨zg23, List.forall_mem_cons.mpr ⟨zg24, List.forall_mem_cons.mpr ⟨zg25, List.forall_mem_cons.mpr ⟨zg26, List.forall_mem_cons.mpr ⟨zg27, List.forall_mem_cons.mpr ⟨zg28, List.forall_mem_cons.mpr ⟨zg29, List.forall_mem_cons.mpr ⟨zg30, List.forall_mem_cons.mpr ⟨zg31, List.forall_mem_cons.mpr ⟨zg32, List.forall_mem_cons.mpr ⟨zg33, List.forall_mem_cons.mpr ⟨zg34, List.forall_mem_cons.mpr ⟨zg35, List.forall_mem_cons.mpr ⟨zg36, List.forall_mem_cons.mpr ⟨zg37, List.forall_mem_cons.mpr ⟨zg38, List.forall_mem_cons.mpr ⟨zg39, List.forall_mem_cons.mpr ⟨zg40, List.forall_mem_cons.mpr ⟨zg41, List.forall_mem_cons.mpr ⟨zg42, List.forall_mem_cons.mpr ⟨zg43, List.forall_mem_cons.mpr ⟨zg44, List.forall_mem_cons.mpr ⟨zg45, List.forall_mem_cons.mpr ⟨zg46, List.forall_mem_cons.mpr ⟨zg47, List.forall_mem_cons.mpr ⟨zg48, List.forall_mem_cons.mpr ⟨zg49, List.forall_mem_cons.mpr ⟨zg50, List.forall_mem_cons.mpr ⟨zg51, List.forall_mem_cons.mpr ⟨zg52, List.forall_mem_cons.mpr ⟨zg53, List.forall_mem_cons.mpr ⟨zg54, List.forall_mem_cons.mpr ⟨zg55, List.forall_mem_cons.mpr ⟨zg56, List.forall_mem_cons.mpr ⟨zg57, List.forall_mem_cons.mpr ⟨zg58, List.forall_mem_cons.mpr ⟨zg59, List.forall_mem_cons.mpr ⟨zg60, List.forall_mem_cons.mpr ⟨zg61, List.forall_mem_cons.mpr ⟨zg62, List.forall_mem_cons.mpr ⟨zg63, List.forall_mem_cons.mpr ⟨zg64, List.forall_mem_cons.mpr ⟨zg65, List.forall_mem_cons.mpr ⟨zg66, List.forall_mem_cons.mpr ⟨zg67, List.forall_mem_cons.mpr ⟨zg68, List.forall_mem_cons.mpr ⟨zg69, List.forall_mem_cons.mpr ⟨zg70, List.forall_mem_cons.mpr ⟨zg71, List.forall_mem_cons.mpr ⟨zg72, List.forall_mem_cons.mpr ⟨zg73, List.forall_mem_cons.mpr ⟨zg74, List.forall_mem_cons.mpr ⟨zg75, List.forall_mem_cons.mpr ⟨zg76, List.forall_mem_cons.mpr ⟨zg77, List.forall_mem_cons.mpr ⟨zg78, List.forall_mem_cons.mpr ⟨zg79, List.forall_mem_cons.mpr ⟨zg80, List.forall_mem_cons.mpr ⟨zg81, List.forall_mem_cons.mpr ⟨zg82, List.forall_mem_cons.mpr ⟨zg83, List.forall_mem_cons.mpr ⟨zg84, List.forall_mem_cons.mpr ⟨zg85, List.forall_mem_cons.mpr ⟨zg86, List.forall_mem_cons.mpr ⟨zg87, List.forall_mem_cons.mpr ⟨zg88, List.forall_mem_cons.mpr ⟨zg89, List.forall_mem_cons.mpr ⟨zg90, List.forall_mem_cons.mpr ⟨zg91, List.forall_mem_cons.mpr ⟨zg92, List.forall_mem_cons.mpr ⟨zg93, List.forall_mem_cons.mpr ⟨zg94, List.forall_mem_cons.mpr ⟨zg95, List.forall_mem_cons.mpr ⟨zg96, List.forall_mem_cons.mpr ⟨zg97, List.forall_mem_cons.mpr ⟨zg98, List.forall_mem_cons.mpr ⟨zg99, List.forall_mem_cons.mpr ⟨zg100, List.forall_mem_cons.mpr ⟨zg101, List.forall_mem_cons.mpr ⟨zg102, List.forall_mem_cons.mpr ⟨zg103, List.forall_mem_cons.mpr ⟨zg104, List.forall_mem_cons.mpr ⟨zg105, List.forall_mem_cons.mpr ⟨zg106, List.forall_mem_cons.mpr ⟨zg107, List.forall_mem_cons.mpr ⟨zg108, List.forall_mem_cons.mpr ⟨zg109, List.forall_mem_cons.mpr ⟨zg110, List.forall_mem_cons.mpr ⟨zg111, List.forall_mem_cons.mpr ⟨zg112, List.forall_mem_cons.mpr ⟨zg113, List.forall_mem_cons.mpr ⟨zg114, List.forall_mem_cons.mpr ⟨zg115, List.forall_mem_cons.mpr ⟨zg116, List.forall_mem_cons.mpr ⟨zg117, List.forall_mem_cons.mpr ⟨zg118, List.forall_mem_cons.mpr ⟨zg119, List.forall_mem_cons.mpr ⟨zg120, List.forall_mem_cons.mpr ⟨zg121, List.forall_mem_cons.mpr ⟨zg122, List.forall_mem_cons.mpr ⟨zg123, List.forall_mem_cons.mpr ⟨zg124, List.forall_mem_cons.mpr ⟨zg125, List.forall_mem_cons.mpr ⟨zg126, List.forall_mem_cons.mpr ⟨zg127, List.forall_mem_cons.mpr ⟨zg128, List.forall_mem_cons.mpr ⟨zg129, List.forall_mem_cons.mpr ⟨zg130, List.forall_mem_cons.mpr ⟨zg131, List.forall_mem_cons.mpr ⟨zg132, List.forall_mem_cons.mpr ⟨zg133, List.forall_mem_cons.mpr ⟨zg134, List.forall_mem_cons.mpr ⟨zg135, List.forall_mem_cons.mpr ⟨zg136, List.forall_mem_cons.mpr ⟨zg137, List.forall_mem_cons.mpr ⟨zg138, List.forall_mem_cons.mpr ⟨zg139, List.forall_mem_cons.mpr ⟨zg140, List.forall_mem_cons.mpr ⟨zg141, List.forall_mem_cons.mpr ⟨zg142, List.forall_mem_cons.mpr ⟨zg143, List.forall_mem_cons.mpr ⟨zg144, List.forall_mem_cons.mpr ⟨zg145, List.forall_mem_cons.mpr ⟨zg146, List.forall_mem_cons.mpr ⟨zg147, List.forall_mem_cons.mpr ⟨zg148, List.forall_mem_cons.mpr ⟨zg149, List.forall_mem_cons.mpr ⟨zg150, List.forall_mem_cons.mpr ⟨zg151, List.forall_mem_cons.mpr ⟨zg152, List.forall_mem_cons.mpr ⟨zg153, List.forall_mem_cons.mpr ⟨zg154, List.forall_mem_cons.mpr ⟨zg155, List.forall_mem_cons.mpr ⟨zg156, List.forall_mem_cons.mpr ⟨zg157, List.forall_mem_cons.mpr ⟨zg158, List.forall_mem_cons.mpr ⟨zg159, List.forall_mem_cons.mpr ⟨zg160, List.forall_mem_cons.mpr ⟨zg161, List.forall_mem_cons.mpr ⟨zg162, List.forall_mem_cons.mpr ⟨zg163, List.forall_mem_cons.mpr ⟨zg164, List.forall_mem_cons.mpr ⟨zg165, List.forall_mem_cons.mpr ⟨zg166, List.forall_mem_cons.mpr ⟨zg167, List.forall_mem_cons.mpr ⟨zg168, List.forall_mem_cons.mpr ⟨zg169, List.forall_mem_cons.mpr ⟨zg170, List.forall_mem_cons.mpr ⟨zg171, List.forall_mem_cons.mpr ⟨zg172, List.forall_mem_cons.mpr ⟨zg173, List.forall_mem_cons.mpr ⟨zg174, List.forall_mem_cons.mpr ⟨zg175, List.forall_mem_cons.mpr ⟨zg176, List.forall_mem_cons.mpr ⟨zg177, List.forall_mem_cons.mpr ⟨zg178, List.forall_mem_cons.mpr ⟨zg179, List.forall_mem_cons.mpr ⟨zg180, List.forall_mem_cons.mpr ⟨zg181, List.forall_mem_cons.mpr ⟨zg182, List.forall_mem_cons.mpr ⟨zg183, List.forall_mem_cons.mpr ⟨zg184, List.forall_mem_cons.mpr ⟨zg185, List.forall_mem_cons.mpr ⟨zg186, List.forall_mem_cons.mpr ⟨zg187, List.forall_mem_cons.mpr ⟨zg188, List.forall_mem_cons.mpr ⟨zg189, List.forall_mem_cons.mpr ⟨zg190, List.forall_mem_cons.mpr ⟨zg191, List.forall_mem_cons.mpr ⟨zg192, List.forall_mem_cons.mpr ⟨zg193, List.forall_mem_cons.mpr ⟨zg194, List.forall_mem_cons.mpr ⟨zg195, List.forall_mem_cons.mpr ⟨zg196, List.forall_mem_cons.mpr ⟨zg197, List.forall_mem_cons.mpr ⟨zg198, List.forall_mem_cons.mpr ⟨zg199, List.forall_mem_cons.mpr ⟨zg200, List.forall_mem_cons.mpr ⟨zg201, List.forall_mem_cons.mpr ⟨zg202, List.forall_mem_cons.mpr ⟨zg203, List.forall_mem_cons.mpr ⟨zg204, List.forall_mem_cons.mpr ⟨zg205, List.forall_mem_cons.mpr ⟨zg206, List.forall_mem_cons.mpr ⟨zg207, List.forall_mem_cons.mpr ⟨zg208, List.forall_mem_cons.mpr ⟨zg209, List.forall_mem_cons.mpr ⟨zg210, List.forall_mem_cons.mpr ⟨zg211, List.forall_mem_cons.mpr ⟨zg212, List.forall_mem_cons.mpr ⟨zg213, List.forall_mem_cons.mpr ⟨zg214, List.forall_mem_cons.mpr ⟨zg215, List.forall_mem_cons.mpr ⟨zg216, List.forall_mem_cons.mpr ⟨zg217, List.forall_mem_cons.mpr ⟨zg218, List.forall_mem_cons.mpr ⟨zg219, List.forall_mem_cons.mpr ⟨zg220, List.forall_mem_cons.mpr ⟨zg221, List.forall_mem_cons.mpr ⟨zg222, List.forall_mem_cons.mpr ⟨zg223, List.forall_mem_cons.mpr ⟨zg224, List.forall_mem_cons.mpr ⟨zg225, List.forall_mem_cons.mpr ⟨zg226, List.forall_mem_cons.mpr ⟨zg227, List.forall_mem_cons.mpr ⟨zg228, List.forall_mem_cons.mpr ⟨zg229, List.forall_mem_cons.mpr ⟨zg230, List.forall_mem_cons.mpr ⟨zg231, List.forall_mem_cons.mpr ⟨zg232, List.forall_mem_cons.mpr ⟨zg233, List.forall_mem_cons.mpr ⟨zg234, List.forall_mem_cons.mpr ⟨zg235, List.forall_mem_cons.mpr ⟨zg236, List.forall_mem_cons.mpr ⟨zg237, List.forall_mem_cons.mpr ⟨zg238, List.forall_mem_cons.mpr ⟨zg239, List.forall_mem_cons.mpr ⟨zg240, List.forall_mem_cons.mpr ⟨zg241, List.forall_mem_cons.mpr ⟨zg242, List.forall_mem_cons.mpr ⟨zg243, List.forall_mem_cons.mpr ⟨zg244, List.forall_mem_cons.mpr ⟨zg245, List.forall_mem_cons.mpr ⟨zg246, List.forall_mem_cons.mpr ⟨zg247, List.forall_mem_cons.mpr ⟨zg248, List.forall_mem_cons.mpr ⟨zg249, List.forall_mem_cons.mpr ⟨zg250, List.forall_mem_cons.mpr ⟨zg251, List.forall_mem_cons.mpr ⟨zg252, List.forall_mem_cons.mpr ⟨zg253, List.forall_mem_cons.mpr ⟨zg254, List.forall_mem_cons.mpr ⟨zg255, List.forall_mem_cons.mpr ⟨zg256, List.forall_mem_cons.mpr ⟨zg257, List.forall_mem_cons.mpr ⟨zg258, List.forall_mem_cons.mpr ⟨zg259, List.forall_mem_cons.mpr ⟨zg260, List.forall_mem_cons.mpr ⟨zg261, List.forall_mem_cons.mpr ⟨zg262, List.forall_mem_cons.mpr ⟨zg263, List.forall_mem_cons.mpr ⟨zg264, List.forall_mem_cons.mpr ⟨zg265, List.forall_mem_cons.mpr ⟨zg266, List.forall_mem_cons.mpr ⟨zg267, List.forall_mem_cons.mpr ⟨zg268, List.forall_mem_cons.mpr ⟨zg269, List.forall_mem_cons.mpr ⟨zg270, List.forall_mem_cons.mpr ⟨zg271, List.forall_mem_cons.mpr ⟨zg272, List.forall_mem_cons.mpr ⟨zg273, List.forall_mem_cons.mpr ⟨zg274, List.forall_mem_cons.mpr ⟨zg275, List.forall_mem_cons.mpr ⟨zg276, List.forall_mem_cons.mpr ⟨zg277, List.forall_mem_cons.mpr ⟨zg278, List.forall_mem_cons.mpr ⟨zg279, List.forall_mem_cons.mpr ⟨zg280, List.forall_mem_cons.mpr ⟨zg281, List.forall_mem_cons.mpr ⟨zg282, List.forall_mem_cons.mpr ⟨zg283, List.forall_mem_cons.mpr ⟨zg284, List.forall_mem_cons.mpr ⟨zg285, List.forall_mem_cons.mpr ⟨zg286, List.forall_mem_cons.mpr ⟨zg287, List.forall_mem_cons.mpr ⟨zg288, List.forall_mem_cons.mpr ⟨zg289, List.forall_mem_cons.mpr ⟨zg290, List.forall_mem_cons.mpr ⟨zg291, List.forall_mem_cons.mpr ⟨zg292, List.forall_mem_cons.mpr ⟨zg293, List.forall_mem_cons.mpr ⟨zg294, List.forall_mem_cons.mpr ⟨zg295, List.forall_mem_cons.mpr ⟨zg296, List.forall_mem_cons.mpr ⟨zg297, List.forall_mem_cons.mpr ⟨zg298, List.forall_mem_cons.mpr ⟨zg299, List.forall_mem_cons.mpr ⟨zg300, List.forall_mem_cons.mpr ⟨zg301, List.forall_mem_cons.mpr ⟨zg302, List.forall_mem_cons.mpr ⟨zg303, List.forall_mem_cons.mpr ⟨zg304, List.forall_mem_cons.mpr ⟨zg305, List.forall_mem_cons.mpr ⟨zg306, List.forall_mem_cons.mpr ⟨zg307, List.forall_mem_cons.mpr ⟨zg308, List.forall_mem_cons.mpr ⟨zg309, List.forall_mem_cons.mpr ⟨zg310, List.forall_mem_cons.mpr ⟨zg311, List.forall_mem_cons.mpr ⟨zg312, List.forall_mem_cons.mpr ⟨zg313, List.forall_mem_cons.mpr ⟨zg314, List.forall_mem_cons.mpr ⟨zg315, List.forall_mem_cons.mpr ⟨zg316, List.forall_mem_cons.mpr ⟨zg317, List.forall_mem_cons.mpr ⟨zg318, List.forall_mem_cons.mpr ⟨zg319, List.forall_mem_cons.mpr ⟨zg320, List.forall_mem_cons.mpr ⟨zg321, List.forall_mem_cons.mpr ⟨zg322, fun _ h => absurd h List.not_mem_nil⟩⟩⟩⟩⟩⟩⟩⟩⟩⟩⟩⟩⟩⟩⟩⟩⟩⟩⟩⟩⟩⟩⟩⟩⟩⟩⟩⟩⟩⟩⟩⟩⟩⟩⟩⟩⟩⟩⟩⟩⟩⟩⟩⟩⟩⟩⟩⟩⟩⟩⟩⟩⟩⟩⟩⟩⟩⟩⟩⟩⟩⟩⟩⟩⟩⟩⟩⟩⟩⟩⟩⟩⟩⟩⟩⟩⟩⟩⟩⟩⟩⟩⟩⟩⟩⟩⟩⟩⟩⟩⟩⟩⟩⟩⟩⟩⟩⟩⟩⟩⟩⟩⟩⟩⟩⟩⟩⟩⟩⟩⟩⟩⟩⟩⟩⟩⟩⟩⟩⟩⟩⟩⟩⟩⟩⟩⟩⟩⟩⟩⟩⟩⟩⟩⟩⟩⟩⟩⟩⟩⟩⟩⟩⟩⟩⟩⟩⟩⟩⟩⟩⟩⟩⟩⟩⟩⟩⟩⟩⟩⟩⟩⟩⟩⟩⟩⟩⟩⟩⟩⟩⟩⟩⟩⟩⟩⟩⟩⟩⟩⟩⟩⟩⟩⟩⟩⟩⟩⟩⟩⟩⟩⟩⟩⟩⟩⟩⟩⟩⟩⟩⟩⟩⟩⟩⟩⟩⟩⟩⟩⟩⟩⟩⟩⟩⟩⟩⟩⟩⟩⟩⟩⟩⟩⟩⟩⟩⟩⟩⟩⟩⟩⟩⟩⟩⟩⟩⟩⟩⟩⟩⟩⟩⟩⟩⟩⟩⟩⟩⟩⟩⟩⟩⟩⟩⟩⟩⟩⟩⟩⟩⟩⟩⟩⟩⟩⟩⟩⟩⟩⟩⟩⟩⟩⟩⟩⟩⟩⟩⟩⟩⟩⟩⟩⟩⟩⟩⟩⟩⟩⟩⟩⟩⟩⟩⟩⟩⟩⟩⟩⟩⟩⟩⟩⟩⟩⟩⟩⟩⟩⟩⟩⟩⟩⟩⟩⟩⟩⟩⟩
end
section
/-! THE BUILDER: what the constructors do. Its heap is a list of cells, by the order in which they are made -/
abbrev zbE : Type := (Nat × List Value) ⊕ (Nat × Nat × List (Nat × Int32) × List (Option Nat))
abbrev zbH : Type := List zbE
def zbup : List (Nat × Int32) → Nat → Int32
  | [] => fun _ => 0
  | q :: r => upd (zbup r) q.1 q.2
def zbar (ad : Nat → Nat) (k : Nat) (q : List (Nat × Int32) × List (Option Nat)) : (Nat → Int32) ⊕ (Nat → Int64) ⊕ (Nat → UInt32) ⊕ (Nat → UInt64) ⊕ (Nat → Option Nat) := match k with
  | 3 => .inr (.inl (fun _ => 0))
  | 4 => .inr (.inr (.inr (.inr (fun j => ((q.2)[j]?.join).map ad))))
  | _ => .inl (zbup q.1)
def zbcell (dA : Nat → ClassId) (ad : Nat → Nat) (e : zbE) : va_E := match e with
  | .inl q => .inr (q.1, q.2.map (zzcv ad))
  | .inr q => .inl (dA q.1, q.2.1, zbar ad q.1 q.2.2)
def zbw (dA : Nat → ClassId) (ad : Nat → Nat) (h : zbH) : va_W := h.mapIdx fun i e => (ad i, zbcell dA ad e)
def zb4 (e : zbE) : Bool := match e with
  | .inr q => q.1.beq 4
  | .inl _ => false
def zbtys (dA : Nat → ClassId) (h : zbH) : List (ClassId × FieldType) := [(dA 0, .int), (dA 1, .boolean), (dA 2, .byte), (dA 3, .long)] ++ (bif h.any zb4 then [(dA 4, .object "PackedForest$Setting")] else [])
/-- references name cells that are there -/
def zbr (n : Nat) (v : Value) : Bool := match v with
  | .ref a => a.blt n
  | _ => true
def zbre (n : Nat) (e : zbE) : Bool := match e with
  | .inl q => q.2.all (zbr n)
  | .inr q => q.1.ble 4 && q.2.2.2.all fun o => (match o with
    | some a => a.blt n
    | none => true)
def zbok (ls : zzL) (st : List Value) (h : zbH) : Bool := (ls.all fun q => zbr h.length q.2) && st.all (zbr h.length) && h.all (zbre h.length)
/-- the addresses and array classes of a heap go on -/
def zbag (h : zbH) (dA : Nat → ClassId) (ad : Nat → Nat) (dA' : Nat → ClassId) (ad' : Nat → Nat) : Prop := (∀ i, i < h.length → ad' i = ad i) ∧ (∀ k, k ≤ 3 → dA' k = dA k) ∧ (h.any zb4 = true → dA' 4 = dA 4)
theorem zbr_ag {n : Nat} {ad ad' : Nat → Nat} {v : Value} (ha : ∀ i, i < n → ad' i = ad i) (h : zbr n v = true) : zzcv ad' v = zzcv ad v := by
  cases v with
  | ref a =>
    have : a < n := of_decide_eq_true (by simpa [zbr, Nat.blt_eq] using h)
    show Value.ref (ad' a) = Value.ref (ad a)
    rw [ha a this]
  | _ => rfl
theorem zbrs_ag {n : Nat} {ad ad' : Nat → Nat} (ha : ∀ i, i < n → ad' i = ad i) : ∀ {vs : List Value}, vs.all (zbr n) = true → vs.map (zzcv ad') = vs.map (zzcv ad)
  | [], _ => rfl
  | v :: vs, h => by
    rw [List.all_cons, Bool.and_eq_true] at h
    rw [List.map_cons, List.map_cons, zbr_ag ha h.1, zbrs_ag ha h.2]
theorem zbls_ag {n : Nat} {ad ad' : Nat → Nat} (ha : ∀ i, i < n → ad' i = ad i) : ∀ {ls : zzL}, (ls.all fun q => zbr n q.2) = true → zzlc ad' ls = zzlc ad ls
  | [], _ => rfl
  | v :: vs, h => by
    rw [List.all_cons, Bool.and_eq_true] at h
    have h2 := zbls_ag ha h.2
    unfold zzlc at h2 ⊢
    rw [List.map_cons, List.map_cons, zbr_ag ha h.1, h2]
theorem zbcell_ag {h : zbH} {dA dA' : Nat → ClassId} {ad ad' : Nat → Nat} (hag : zbag h dA ad dA' ad') {e : zbE} (he : e ∈ h) (hr : zbre h.length e = true) : zbcell dA' ad' e = zbcell dA ad e := by
  cases e with
  | inl q =>
    show (Sum.inr (q.1, q.2.map (zzcv ad')) : va_E) = Sum.inr (q.1, q.2.map (zzcv ad))
    rw [zbrs_ag hag.1 hr]
  | inr q =>
    obtain ⟨k, n, us, rs⟩ := q
    have hr : (k.ble 4 && rs.all fun o => (match o with
      | some a => a.blt h.length
      | none => true)) = true := hr
    rw [Bool.and_eq_true] at hr
    have hk : k ≤ 4 := Nat.le_of_ble_eq_true hr.1
    have hdA : dA' k = dA k := by
      by_cases h4 : k = 4
      · subst h4
        exact hag.2.2 (List.any_eq_true.mpr ⟨_, he, rfl⟩)
      · exact hag.2.1 k (by omega)
    show (Sum.inl (dA' k, n, zbar ad' k (us, rs)) : va_E) = Sum.inl (dA k, n, zbar ad k (us, rs))
    have ha : zbar ad' k (us, rs) = zbar ad k (us, rs) := by
      unfold zbar
      split
      · rfl
      · congr 4
        funext j
        cases hj : rs[j]? with
        | none => rfl
        | some o =>
          cases o with
          | none => rfl
          | some a =>
            have h2 := List.all_eq_true.mp hr.2 _ (List.mem_of_getElem? hj)
            have h3 : a < h.length := by simpa [Nat.blt_eq] using h2
            show some (ad' a) = some (ad a)
            rw [hag.1 a h3]
      · rfl
    rw [hdA, ha]
theorem zbw_ag {h : zbH} {dA dA' : Nat → ClassId} {ad ad' : Nat → Nat} (hag : zbag h dA ad dA' ad') (hr : h.all (zbre h.length) = true) : zbw dA' ad' h = zbw dA ad h := by
  apply List.ext_getElem?
  intro i
  unfold zbw
  rw [List.getElem?_mapIdx, List.getElem?_mapIdx]
  cases hi : h[i]? with
  | none => rfl
  | some e =>
    show some (ad' i, zbcell dA' ad' e) = some (ad i, zbcell dA ad e)
    rw [hag.1 i (List.getElem?_eq_some_iff.mp hi).1, zbcell_ag hag (List.mem_of_getElem? hi) (List.all_eq_true.mp hr e (List.mem_of_getElem? hi))]
theorem zbw_at {dA : Nat → ClassId} {ad : Nat → Nat} {h : zbH} {i : Nat} {e : zbE} (hi : h[i]? = some e) : (zbw dA ad h)[i]? = some (ad i, zbcell dA ad e) := by
  unfold zbw
  rw [List.getElem?_mapIdx, hi]
  rfl
theorem zbw_push {dA : Nat → ClassId} {ad : Nat → Nat} {h : zbH} {e : zbE} : zbw dA ad (h ++ [e]) = zbw dA ad h ++ [(ad h.length, zbcell dA ad e)] := by
  unfold zbw
  rw [List.mapIdx_append, List.mapIdx_cons, List.mapIdx_nil, Nat.zero_add]
theorem zbw_set {dA : Nat → ClassId} {ad : Nat → Nat} {h : zbH} {i : Nat} {e : zbE} {x : va_E} (hx : zbcell dA ad e = x) : (zbw dA ad h).set i (ad i, x) = zbw dA ad (h.set i e) := by
  subst hx
  apply List.ext_getElem?
  intro j
  unfold zbw
  rw [List.getElem?_set, List.getElem?_mapIdx, List.getElem?_mapIdx, List.getElem?_set, List.length_mapIdx]
  by_cases hj : i = j
  · subst hj
    by_cases hl : i < h.length
    · rw [if_pos rfl, if_pos hl, if_pos rfl, if_pos hl]; rfl
    · rw [if_pos rfl, if_neg hl, if_pos rfl, if_neg hl]; rfl
  · rw [if_neg hj, if_neg hj]
/-- one address more -/
def zbad (ad : Nat → Nat) (n q : Nat) : Nat → Nat := fun i => if i = n then q else ad i
theorem zbag_push {h : zbH} {dA : Nat → ClassId} {ad : Nat → Nat} {q : Nat} : zbag h dA ad dA (zbad ad h.length q) := ⟨fun i hi => if_neg (Nat.ne_of_lt hi), fun _ _ => rfl, fun _ => rfl⟩
theorem zbag_trans {h0 h : zbH} {d0 d1 d2 : Nat → ClassId} {a0 a1 a2 : Nat → Nat} (h1 : zbag h0 d0 a0 d1 a1) (h2 : zbag h d1 a1 d2 a2) (hl : h0.length ≤ h.length) (h4 : h0.any zb4 = true → h.any zb4 = true) : zbag h0 d0 a0 d2 a2 :=
  ⟨fun i hi => (h2.1 i (Nat.lt_of_lt_of_le hi hl)).trans (h1.1 i hi), fun k hk => (h2.2.1 k hk).trans (h1.2.1 k hk), fun h => (h2.2.2 (h4 h)).trans (h1.2.2 h)⟩
/-- a value of a field's type -/
def zbfit (ty : FieldType) (v : Value) : Bool := match ty, v with
  | .int, .int _ => true
  | .boolean, .int x => x == 0 || x == 1
  | .object _, .ref _ => true
  | .array _, .ref _ => true
  | _, _ => false
theorem zbfit_s {ty : FieldType} {v : Value} {ad : Nat → Nat} (h : zbfit ty v = true) : narrow ty (zzcv ad v) = zzcv ad v ∧ fits ty (zzcv ad v) = true := by
  unfold zbfit at h
  split at h
  · exact ⟨rfl, rfl⟩
  · rename_i x
    have hx : x = 0 ∨ x = 1 := by simpa using h
    exact ⟨zznarB hx, zzfitB hx⟩
  · exact ⟨rfl, rfl⟩
  · exact ⟨rfl, rfl⟩
  · cases h
/-- the fields of a new object -/
def zbnull (ci : Nat) : List Value := match zzcl[ci]? with
  | some r => (List.range r.2.2).map fun k => (match parseFieldDescriptor (r.2.1 k).2.2.1 with
    | some ty => defaultValue ty
    | none => .null)
  | none => []
def zbkind (t : ArrayType) : Nat := match t with
  | .int => 0
  | .boolean => 1
  | .byte => 2
  | .long => 3
  | _ => 9
/-- a constructor: name, bytes, locals, cells and slots that it makes, rows -/
abbrev zbT : Type := MethodName × ByteArray × Nat × (Nat × Nat) × List zzI
abbrev zbK : Type := Nat → zzL → List Value → zbH → Nat → Nat → Option zbH
def zbstep (P : List zbT) (call : Nat → List Value → zbH → Option zbH) (lim : Nat × Nat) (q : zzI) (ls : zzL) (st : List Value) (h : zbH) (cs ss : Nat) (k : zbK) : Option zbH :=
  match q.2.2.1, st with
  | .aload_n _, st => (match zzlk ls (zzfst q.2.2.2).1 with
    | some (.ref x) => k (q.1 + q.2.1) ls (.ref x :: st) h cs ss
    | _ => none)
  | .iload_n _, st => (match zzlk ls (zzfst q.2.2.2).1 with
    | some (.int x) => k (q.1 + q.2.1) ls (.int x :: st) h cs ss
    | _ => none)
  | .istore_n _, .int x :: st => k (q.1 + q.2.1) (zzset1 (zzfst q.2.2.2).1 (.int x) ls) st h cs ss
  | .iinc i _, st => (match zzlk ls i with
    | some (.int x) => k (q.1 + q.2.1) (zzset1 i (.int (zzinc x (zzfst q.2.2.2))) ls) st h cs ss
    | _ => none)
  | .iconst _, st => k (q.1 + q.2.1) ls (.int (zzkon (zzfst q.2.2.2)) :: st) h cs ss
  | .bipush _, st => k (q.1 + q.2.1) ls (.int (zzkon (zzfst q.2.2.2)) :: st) h cs ss
  | .sipush _, st => k (q.1 + q.2.1) ls (.int (zzkon (zzfst q.2.2.2)) :: st) h cs ss
  | .dup, .ref x :: st => k (q.1 + q.2.1) ls (.ref x :: .ref x :: st) h cs ss
  | .goto _, st => k (zzfst q.2.2.2).1 ls st h cs ss
  | .if_icmp .ge _, .int y :: .int x :: st => if y ≤ x then k (zzfst q.2.2.2).1 ls st h cs ss else k (q.1 + q.2.1) ls st h cs ss
  | .getfield _, .ref c :: st => (match h[c]? with
    | some (.inl (ci, fs)) => bif ci.beq (zzfst q.2.2.2).1 then (match fs[(zzfst q.2.2.2).2]? with
      | some v => k (q.1 + q.2.1) ls (v :: st) h cs ss
      | none => none) else none
    | _ => none)
  | .putfield _, v :: .ref c :: st => (match h[c]?, zzcl[(zzfst q.2.2.2).1]? with
    | some (.inl (ci, fs)), some r => bif ci.beq (zzfst q.2.2.2).1 && (zzfst q.2.2.2).2.blt fs.length && (match parseFieldDescriptor (r.2.1 (zzfst q.2.2.2).2).2.2.1 with
      | some ty => zbfit ty v
      | none => false) then k (q.1 + q.2.1) ls st (h.set c (.inl (ci, fs.set (zzfst q.2.2.2).2 v))) cs ss else none
    | _, _ => none)
  | .iastore, .int v :: .int i :: .ref c :: st => (match h[c]? with
    | some (.inr (0, n, us, rs)) => if i < 0 ∨ n ≤ i.toNatClampNeg then none else k (q.1 + q.2.1) ls st (h.set c (.inr (0, n, (i.toNatClampNeg, v) :: us, rs))) cs ss
    | _ => none)
  | .new _, st => bif zbok ls st h && (cs + 1).ble lim.1 && (ss + (zzfst q.2.2.2).2).ble lim.2 then k (q.1 + q.2.1) ls (.ref h.length :: st) (h ++ [.inl ((zzfst q.2.2.2).1, zbnull (zzfst q.2.2.2).1)]) (cs + 1) (ss + (zzfst q.2.2.2).2) else none
  | .newarray t, .int n :: st => if n < 0 then none else bif zbok ls st h && (cs + 1).ble lim.1 && (ss + n.toNatClampNeg).ble lim.2 && n.toNatClampNeg.ble 100000 && (zbkind t).ble 3 then k (q.1 + q.2.1) ls (.ref h.length :: st) (h ++ [.inr (zbkind t, n.toNatClampNeg, [], [])]) (cs + 1) (ss + n.toNatClampNeg) else none
  | .anewarray _, .int n :: st => if n < 0 then none else bif zbok ls st h && (cs + 1).ble lim.1 && (ss + n.toNatClampNeg).ble lim.2 && n.toNatClampNeg.ble 100000 && !h.any zb4 then k (q.1 + q.2.1) ls (.ref h.length :: st) (h ++ [.inr (4, n.toNatClampNeg, [], [])]) (cs + 1) (ss + n.toNatClampNeg) else none
  | .aastore, .ref a :: .int i :: .ref c :: st => (match h[c]?, h[a]? with
    | some (.inr (4, n, us, rs)), some (.inl (ci, _)) => if i < 0 ∨ n ≤ i.toNatClampNeg then none else bif ci.beq 7 && i.toNatClampNeg.beq rs.length then k (q.1 + q.2.1) ls st (h.set c (.inr (4, n, us, rs ++ [some a]))) cs ss else none
    | _, _ => none)
  | .invokespecial _, st => (zzcut (zzfst q.2.2.2).2 st []).bind fun u => (match u.2 with
    | .ref c :: r => (match (zzfst q.2.2.2).1 with
      | 0 => bif u.1.isEmpty && (zzcat r).ble 8 then k (q.1 + q.2.1) ls r h cs ss else none
      | y + 1 => (match P[y]? with
        | some p => bif zbok ls st h && (zzcat r).ble 8 && (cs + p.2.2.2.1.1).ble lim.1 && (ss + p.2.2.2.1.2).ble lim.2 then (call (y + 1) (.ref c :: u.1) h).bind fun h' => bif h.length.ble h'.length && (!h.any zb4 || h'.any zb4) then k (q.1 + q.2.1) ls r h' (cs + p.2.2.2.1.1) (ss + p.2.2.2.1.2) else none else none
        | none => none))
    | _ => none)
  | .return_, [] => bif cs.ble lim.1 && ss.ble lim.2 then some h else none
  | _, _ => none
def zbx (P : List zbT) (call : Nat → List Value → zbH → Option zbH) (lim : Nat × Nat) (rows : List zzI) : Nat → zbK
  | 0, _, _, _, _, _, _ => none
  | f + 1, pc, ls, st, h, cs, ss => (match zzdrop pc rows with
    | [] => none
    | q :: _ => zbstep P call lim q ls st h cs ss (zbx P call lim rows f))
def zbf (P : List zbT) : Nat → Nat → List Value → zbH → Option zbH
  | 0, _, _, _ => none
  | d + 1, y, as, h => (match y with
    | 0 => none
    | y + 1 => (match P[y]? with
      | some q => bif (zzcat as).ble q.2.2.1 then zbx P (zbf P d) q.2.2.2.1 q.2.2.2.2 600 0 (lv_args 0 as) [] h 0 0 else none
      | none => none))
end
section
def zbr1 : List zzI := [(0, 1, .aload_n 0, [(0, 0)]),
  (1, 3, .invokespecial 3, [(0, 0)]),
  (4, 1, .aload_n 0, [(0, 0)]),
  (5, 2, .bipush 12, [(12, 0)]),
  (7, 2, .newarray .int, []),
  (9, 3, .putfield 9, [(4, 2)]),
  (12, 1, .aload_n 0, [(0, 0)]),
  (13, 2, .bipush 12, [(12, 0)]),
  (15, 2, .newarray .int, []),
  (17, 3, .putfield 15, [(4, 3)]),
  (20, 1, .aload_n 0, [(0, 0)]),
  (21, 2, .bipush 12, [(12, 0)]),
  (23, 2, .newarray .int, []),
  (25, 3, .putfield 18, [(4, 4)]),
  (28, 1, .aload_n 0, [(0, 0)]),
  (29, 2, .bipush 12, [(12, 0)]),
  (31, 2, .newarray .int, []),
  (33, 3, .putfield 21, [(4, 5)]),
  (36, 1, .aload_n 0, [(0, 0)]),
  (37, 2, .bipush 48, [(48, 0)]),
  (39, 2, .newarray .int, []),
  (41, 3, .putfield 24, [(4, 6)]),
  (44, 1, .aload_n 0, [(0, 0)]),
  (45, 2, .bipush 26, [(26, 0)]),
  (47, 2, .newarray .int, []),
  (49, 3, .putfield 27, [(4, 7)]),
  (52, 1, .return_, [])]
def zbt1 : zbT := (⟨"PackedForest$Grammar", "<init>", "()V"⟩, prog_6_method_1_code, 1, (6, 122), zbr1)
def zbr2 : List zzI := [(0, 1, .aload_n 0, [(0, 0)]),
  (1, 3, .invokespecial 3, [(0, 0)]),
  (4, 1, .aload_n 0, [(0, 0)]),
  (5, 3, .new 9, [(4, 8)]),
  (8, 1, .dup, []),
  (9, 3, .invokespecial 11, [(1, 0)]),
  (12, 3, .putfield 12, [(7, 0)]),
  (15, 1, .aload_n 0, [(0, 0)]),
  (16, 2, .bipush 12, [(12, 0)]),
  (18, 2, .newarray .int, []),
  (20, 3, .putfield 18, [(7, 1)]),
  (23, 1, .aload_n 0, [(0, 0)]),
  (24, 2, .bipush 48, [(48, 0)]),
  (26, 2, .newarray .int, []),
  (28, 3, .putfield 22, [(7, 4)]),
  (31, 1, .aload_n 0, [(0, 0)]),
  (32, 2, .bipush 7, [(7, 0)]),
  (34, 3, .putfield 25, [(7, 6)]),
  (37, 1, .aload_n 0, [(0, 0)]),
  (38, 2, .bipush 20, [(20, 0)]),
  (40, 2, .newarray .int, []),
  (42, 3, .putfield 29, [(7, 7)]),
  (45, 1, .return_, [])]
def zbt2 : zbT := (⟨"PackedForest$Setting", "<init>", "()V"⟩, prog_9_method_1_code, 1, (10, 210), zbr2)
def zbr3 : List zzI := [(0, 1, .aload_n 0, [(0, 0)]),
  (1, 3, .invokespecial 3, [(0, 0)]),
  (4, 1, .aload_n 0, [(0, 0)]),
  (5, 2, .bipush 26, [(26, 0)]),
  (7, 2, .newarray .int, []),
  (9, 3, .putfield 9, [(2, 7)]),
  (12, 1, .aload_n 0, [(0, 0)]),
  (13, 2, .bipush 26, [(26, 0)]),
  (15, 2, .newarray .int, []),
  (17, 3, .putfield 15, [(2, 8)]),
  (20, 1, .aload_n 0, [(0, 0)]),
  (21, 2, .bipush 26, [(26, 0)]),
  (23, 2, .newarray .int, []),
  (25, 3, .putfield 18, [(2, 9)]),
  (28, 1, .aload_n 0, [(0, 0)]),
  (29, 2, .bipush 26, [(26, 0)]),
  (31, 2, .newarray .int, []),
  (33, 3, .putfield 21, [(2, 10)]),
  (36, 1, .aload_n 0, [(0, 0)]),
  (37, 1, .aload_n 1, [(1, 0)]),
  (38, 3, .putfield 24, [(2, 0)]),
  (41, 1, .return_, [])]
def zbt3 : zbT := (⟨"PackedForest$Facts", "<init>", "(LPackedForest$Setting;)V"⟩, prog_4_method_1_code, 2, (4, 104), zbr3)
def zbr4 : List zzI := [(0, 1, .aload_n 0, [(0, 0)]),
  (1, 3, .invokespecial 3, [(0, 0)]),
  (4, 1, .aload_n 0, [(0, 0)]),
  (5, 2, .bipush 90, [(90, 0)]),
  (7, 2, .newarray .long, []),
  (9, 3, .putfield 9, [(10, 2)]),
  (12, 1, .aload_n 0, [(0, 0)]),
  (13, 3, .sipush 4680, [(4680, 0)]),
  (16, 2, .newarray .int, []),
  (18, 3, .putfield 15, [(10, 3)]),
  (21, 1, .aload_n 0, [(0, 0)]),
  (22, 2, .bipush 52, [(52, 0)]),
  (24, 2, .newarray .long, []),
  (26, 3, .putfield 19, [(10, 4)]),
  (29, 1, .aload_n 0, [(0, 0)]),
  (30, 2, .bipush 26, [(26, 0)]),
  (32, 2, .newarray .long, []),
  (34, 3, .putfield 22, [(10, 5)]),
  (37, 1, .return_, [])]
def zbt4 : zbT := (⟨"PackedForest$States", "<init>", "()V"⟩, prog_12_method_1_code, 1, (4, 4848), zbr4)
def zbr5 : List zzI := [(0, 1, .aload_n 0, [(0, 0)]),
  (1, 3, .invokespecial 3, [(0, 0)]),
  (4, 1, .aload_n 0, [(0, 0)]),
  (5, 2, .bipush 48, [(48, 0)]),
  (7, 2, .newarray .int, []),
  (9, 3, .putfield 9, [(0, 3)]),
  (12, 1, .aload_n 0, [(0, 0)]),
  (13, 2, .bipush 91, [(91, 0)]),
  (15, 2, .newarray .int, []),
  (17, 3, .putfield 15, [(0, 4)]),
  (20, 1, .aload_n 0, [(0, 0)]),
  (21, 3, .sipush 624, [(624, 0)]),
  (24, 2, .newarray .int, []),
  (26, 3, .putfield 18, [(0, 5)]),
  (29, 1, .aload_n 0, [(0, 0)]),
  (30, 2, .bipush 13, [(13, 0)]),
  (32, 2, .newarray .int, []),
  (34, 3, .putfield 21, [(0, 6)]),
  (37, 1, .aload_n 0, [(0, 0)]),
  (38, 1, .aload_n 1, [(1, 0)]),
  (39, 3, .putfield 24, [(0, 0)]),
  (42, 1, .aload_n 0, [(0, 0)]),
  (43, 1, .iload_n 2, [(2, 0)]),
  (44, 3, .putfield 28, [(0, 1)]),
  (47, 1, .return_, [])]
def zbt5 : zbT := (⟨"PackedForest$Chart", "<init>", "(LPackedForest$Setting;Z)V"⟩, prog_2_method_1_code, 3, (4, 776), zbr5)
def zbr6 : List zzI := [(0, 1, .aload_n 0, [(0, 0)]),
  (1, 3, .invokespecial 3, [(0, 0)]),
  (4, 1, .aload_n 0, [(0, 0)]),
  (5, 3, .sipush 1170, [(1170, 0)]),
  (8, 2, .newarray .boolean, []),
  (10, 3, .putfield 9, [(5, 4)]),
  (13, 1, .aload_n 0, [(0, 0)]),
  (14, 3, .sipush 1170, [(1170, 0)]),
  (17, 2, .newarray .int, []),
  (19, 3, .putfield 15, [(5, 5)]),
  (22, 1, .aload_n 0, [(0, 0)]),
  (23, 2, .bipush 90, [(90, 0)]),
  (25, 2, .newarray .int, []),
  (27, 3, .putfield 19, [(5, 6)]),
  (30, 1, .aload_n 0, [(0, 0)]),
  (31, 1, .aload_n 1, [(1, 0)]),
  (32, 3, .putfield 22, [(5, 0)]),
  (35, 1, .aload_n 0, [(0, 0)]),
  (36, 1, .aload_n 2, [(2, 0)]),
  (37, 3, .putfield 26, [(5, 1)]),
  (40, 1, .aload_n 0, [(0, 0)]),
  (41, 1, .aload_n 3, [(3, 0)]),
  (42, 3, .putfield 30, [(5, 2)]),
  (45, 1, .return_, [])]
def zbt6 : zbT := (⟨"PackedForest$Levels", "<init>", "(LPackedForest$Setting;LPackedForest$States;LPackedForest$Chart;)V"⟩, prog_7_method_1_code, 4, (3, 2430), zbr6)
def zbr7 : List zzI := [(0, 1, .aload_n 0, [(0, 0)]),
  (1, 3, .invokespecial 3, [(0, 0)]),
  (4, 1, .aload_n 0, [(0, 0)]),
  (5, 3, .sipush 1092, [(1092, 0)]),
  (8, 2, .newarray .long, []),
  (10, 3, .putfield 9, [(1, 3)]),
  (13, 1, .aload_n 0, [(0, 0)]),
  (14, 2, .bipush 13, [(13, 0)]),
  (16, 2, .newarray .long, []),
  (18, 3, .putfield 15, [(1, 4)]),
  (21, 1, .aload_n 0, [(0, 0)]),
  (22, 1, .aload_n 1, [(1, 0)]),
  (23, 3, .putfield 18, [(1, 0)]),
  (26, 1, .aload_n 0, [(0, 0)]),
  (27, 1, .aload_n 2, [(2, 0)]),
  (28, 3, .putfield 22, [(1, 1)]),
  (31, 1, .return_, [])]
def zbt7 : zbT := (⟨"PackedForest$Counts", "<init>", "(LPackedForest$Setting;LPackedForest$Chart;)V"⟩, prog_3_method_1_code, 3, (2, 1105), zbr7)
def zbr8 : List zzI := [(0, 1, .aload_n 0, [(0, 0)]),
  (1, 3, .invokespecial 3, [(0, 0)]),
  (4, 1, .aload_n 0, [(0, 0)]),
  (5, 3, .sipush 1092, [(1092, 0)]),
  (8, 2, .newarray .long, []),
  (10, 3, .putfield 9, [(8, 6)]),
  (13, 1, .aload_n 0, [(0, 0)]),
  (14, 3, .sipush 4368, [(4368, 0)]),
  (17, 2, .newarray .long, []),
  (19, 3, .putfield 15, [(8, 7)]),
  (22, 1, .aload_n 0, [(0, 0)]),
  (23, 2, .bipush 65, [(65, 0)]),
  (25, 2, .newarray .long, []),
  (27, 3, .putfield 18, [(8, 8)]),
  (30, 1, .aload_n 0, [(0, 0)]),
  (31, 1, .aload_n 1, [(1, 0)]),
  (32, 3, .putfield 21, [(8, 0)]),
  (35, 1, .aload_n 0, [(0, 0)]),
  (36, 1, .aload_n 2, [(2, 0)]),
  (37, 3, .putfield 25, [(8, 1)]),
  (40, 1, .return_, [])]
def zbt8 : zbT := (⟨"PackedForest$Sizes", "<init>", "(LPackedForest$Setting;LPackedForest$Chart;)V"⟩, prog_10_method_1_code, 3, (3, 5525), zbr8)
def zbr9 : List zzI := [(0, 1, .aload_n 0, [(0, 0)]),
  (1, 3, .invokespecial 3, [(0, 0)]),
  (4, 1, .aload_n 0, [(0, 0)]),
  (5, 2, .bipush 91, [(91, 0)]),
  (7, 2, .newarray .int, []),
  (9, 3, .putfield 9, [(3, 4)]),
  (12, 1, .aload_n 0, [(0, 0)]),
  (13, 1, .iconst 5, [(5, 0)]),
  (14, 2, .newarray .int, []),
  (16, 3, .putfield 15, [(3, 8)]),
  (19, 1, .aload_n 0, [(0, 0)]),
  (20, 1, .iconst 5, [(5, 0)]),
  (21, 2, .newarray .int, []),
  (23, 3, .putfield 18, [(3, 9)]),
  (26, 1, .aload_n 0, [(0, 0)]),
  (27, 1, .aload_n 1, [(1, 0)]),
  (28, 3, .putfield 21, [(3, 0)]),
  (31, 1, .aload_n 0, [(0, 0)]),
  (32, 1, .aload_n 2, [(2, 0)]),
  (33, 3, .putfield 25, [(3, 1)]),
  (36, 1, .return_, [])]
def zbt9 : zbT := (⟨"PackedForest$Forest", "<init>", "(LPackedForest$Setting;LPackedForest$Chart;)V"⟩, prog_5_method_1_code, 3, (3, 101), zbr9)
def zbr10 : List zzI := [(0, 1, .aload_n 0, [(0, 0)]),
  (1, 3, .invokespecial 3, [(0, 0)]),
  (4, 1, .aload_n 0, [(0, 0)]),
  (5, 3, .sipush 2366, [(2366, 0)]),
  (8, 2, .newarray .int, []),
  (10, 3, .putfield 9, [(6, 2)]),
  (13, 1, .aload_n 0, [(0, 0)]),
  (14, 2, .bipush 13, [(13, 0)]),
  (16, 2, .newarray .int, []),
  (18, 3, .putfield 15, [(6, 3)]),
  (21, 1, .aload_n 0, [(0, 0)]),
  (22, 1, .aload_n 1, [(1, 0)]),
  (23, 3, .putfield 18, [(6, 0)]),
  (26, 1, .return_, [])]
def zbt10 : zbT := (⟨"PackedForest$Mender", "<init>", "(LPackedForest$Setting;)V"⟩, prog_8_method_1_code, 2, (2, 2379), zbr10)
def zbr11 : List zzI := [(0, 1, .aload_n 0, [(0, 0)]),
  (1, 3, .invokespecial 3, [(0, 0)]),
  (4, 1, .aload_n 0, [(0, 0)]),
  (5, 2, .bipush 24, [(24, 0)]),
  (7, 2, .newarray .int, []),
  (9, 3, .putfield 9, [(9, 1)]),
  (12, 1, .aload_n 0, [(0, 0)]),
  (13, 1, .aload_n 1, [(1, 0)]),
  (14, 3, .putfield 15, [(9, 0)]),
  (17, 1, .return_, [])]
def zbt11 : zbT := (⟨"PackedForest$Speaker", "<init>", "(LPackedForest$Setting;)V"⟩, prog_11_method_1_code, 2, (1, 24), zbr11)
def zbr12 : List zzI := [(0, 1, .aload_n 0, [(0, 0)]),
  (1, 3, .invokespecial 3, [(0, 0)]),
  (4, 1, .aload_n 0, [(0, 0)]),
  (5, 3, .sipush 400, [(400, 0)]),
  (8, 2, .newarray .int, []),
  (10, 3, .putfield 9, [(11, 0)]),
  (13, 1, .aload_n 0, [(0, 0)]),
  (14, 3, .new 13, [(7, 11)]),
  (17, 1, .dup, []),
  (18, 3, .invokespecial 15, [(2, 0)]),
  (21, 3, .putfield 16, [(11, 2)]),
  (24, 1, .aload_n 0, [(0, 0)]),
  (25, 1, .iconst 4, [(4, 0)]),
  (26, 3, .anewarray 13, []),
  (29, 3, .putfield 20, [(11, 3)]),
  (32, 1, .aload_n 0, [(0, 0)]),
  (33, 3, .new 24, [(4, 8)]),
  (36, 1, .dup, []),
  (37, 3, .invokespecial 26, [(1, 0)]),
  (40, 3, .putfield 27, [(11, 4)]),
  (43, 1, .aload_n 0, [(0, 0)]),
  (44, 3, .new 31, [(2, 11)]),
  (47, 1, .dup, []),
  (48, 1, .aload_n 0, [(0, 0)]),
  (49, 3, .getfield 16, [(11, 2)]),
  (52, 3, .invokespecial 33, [(3, 1)]),
  (55, 3, .putfield 36, [(11, 5)]),
  (58, 1, .aload_n 0, [(0, 0)]),
  (59, 3, .new 40, [(10, 6)]),
  (62, 1, .dup, []),
  (63, 3, .invokespecial 42, [(4, 0)]),
  (66, 3, .putfield 43, [(11, 6)]),
  (69, 1, .aload_n 0, [(0, 0)]),
  (70, 3, .new 47, [(0, 7)]),
  (73, 1, .dup, []),
  (74, 1, .aload_n 0, [(0, 0)]),
  (75, 3, .getfield 16, [(11, 2)]),
  (78, 1, .iconst 0, [(0, 0)]),
  (79, 3, .invokespecial 49, [(5, 2)]),
  (82, 3, .putfield 52, [(11, 7)]),
  (85, 1, .aload_n 0, [(0, 0)]),
  (86, 3, .new 47, [(0, 7)]),
  (89, 1, .dup, []),
  (90, 1, .aload_n 0, [(0, 0)]),
  (91, 3, .getfield 16, [(11, 2)]),
  (94, 1, .iconst 1, [(1, 0)]),
  (95, 3, .invokespecial 49, [(5, 2)]),
  (98, 3, .putfield 56, [(11, 8)]),
  (101, 1, .aload_n 0, [(0, 0)]),
  (102, 3, .new 59, [(5, 8)]),
  (105, 1, .dup, []),
  (106, 1, .aload_n 0, [(0, 0)]),
  (107, 3, .getfield 16, [(11, 2)]),
  (110, 1, .aload_n 0, [(0, 0)]),
  (111, 3, .getfield 43, [(11, 6)]),
  (114, 1, .aload_n 0, [(0, 0)]),
  (115, 3, .getfield 52, [(11, 7)]),
  (118, 3, .invokespecial 61, [(6, 3)]),
  (121, 3, .putfield 64, [(11, 9)]),
  (124, 1, .aload_n 0, [(0, 0)]),
  (125, 3, .new 68, [(1, 5)]),
  (128, 1, .dup, []),
  (129, 1, .aload_n 0, [(0, 0)]),
  (130, 3, .getfield 16, [(11, 2)]),
  (133, 1, .aload_n 0, [(0, 0)]),
  (134, 3, .getfield 56, [(11, 8)]),
  (137, 3, .invokespecial 70, [(7, 2)]),
  (140, 3, .putfield 73, [(11, 10)]),
  (143, 1, .aload_n 0, [(0, 0)]),
  (144, 3, .new 77, [(8, 9)]),
  (147, 1, .dup, []),
  (148, 1, .aload_n 0, [(0, 0)]),
  (149, 3, .getfield 16, [(11, 2)]),
  (152, 1, .aload_n 0, [(0, 0)]),
  (153, 3, .getfield 56, [(11, 8)]),
  (156, 3, .invokespecial 79, [(8, 2)]),
  (159, 3, .putfield 80, [(11, 11)]),
  (162, 1, .aload_n 0, [(0, 0)]),
  (163, 3, .new 84, [(3, 10)]),
  (166, 1, .dup, []),
  (167, 1, .aload_n 0, [(0, 0)]),
  (168, 3, .getfield 16, [(11, 2)]),
  (171, 1, .aload_n 0, [(0, 0)]),
  (172, 3, .getfield 56, [(11, 8)]),
  (175, 3, .invokespecial 86, [(9, 2)]),
  (178, 3, .putfield 87, [(11, 12)]),
  (181, 1, .aload_n 0, [(0, 0)]),
  (182, 3, .new 91, [(6, 4)]),
  (185, 1, .dup, []),
  (186, 1, .aload_n 0, [(0, 0)]),
  (187, 3, .getfield 16, [(11, 2)]),
  (190, 3, .invokespecial 93, [(10, 1)]),
  (193, 3, .putfield 94, [(11, 13)]),
  (196, 1, .aload_n 0, [(0, 0)]),
  (197, 3, .new 98, [(9, 4)]),
  (200, 1, .dup, []),
  (201, 1, .aload_n 0, [(0, 0)]),
  (202, 3, .getfield 16, [(11, 2)]),
  (205, 3, .invokespecial 100, [(11, 1)]),
  (208, 3, .putfield 101, [(11, 14)]),
  (211, 1, .iconst 0, [(0, 0)]),
  (212, 1, .istore_n 1, [(1, 0)]),
  (213, 1, .iload_n 1, [(1, 0)]),
  (214, 1, .iconst 4, [(4, 0)]),
  (215, 3, .if_icmp .ge 22, [(237, 0)]),
  (218, 1, .aload_n 0, [(0, 0)]),
  (219, 3, .getfield 20, [(11, 3)]),
  (222, 1, .iload_n 1, [(1, 0)]),
  (223, 3, .new 13, [(7, 11)]),
  (226, 1, .dup, []),
  (227, 3, .invokespecial 15, [(2, 0)]),
  (230, 1, .aastore, []),
  (231, 3, .iinc 1 1, [(1, 0)]),
  (234, 3, .goto (-21), [(213, 0)]),
  (237, 1, .return_, [])]
def zbt12 : zbT := (⟨"PackedForest", "<init>", "()V"⟩, prog_1_method_1_code, 2, (104, 19778), zbr12)
def zbr13 : List zzI := [(0, 1, .aload_n 0, [(0, 0)]),
  (1, 3, .invokespecial 3, [(0, 0)]),
  (4, 1, .aload_n 0, [(0, 0)]),
  (5, 2, .bipush 7, [(7, 0)]),
  (7, 2, .newarray .int, []),
  (9, 1, .dup, []),
  (10, 1, .iconst 0, [(0, 0)]),
  (11, 1, .iconst 0, [(0, 0)]),
  (12, 1, .iastore, []),
  (13, 1, .dup, []),
  (14, 1, .iconst 1, [(1, 0)]),
  (15, 1, .iconst (-1), [(1, 1)]),
  (16, 1, .iastore, []),
  (17, 1, .dup, []),
  (18, 1, .iconst 2, [(2, 0)]),
  (19, 1, .iconst 0, [(0, 0)]),
  (20, 1, .iastore, []),
  (21, 1, .dup, []),
  (22, 1, .iconst 3, [(3, 0)]),
  (23, 1, .iconst 0, [(0, 0)]),
  (24, 1, .iastore, []),
  (25, 1, .dup, []),
  (26, 1, .iconst 4, [(4, 0)]),
  (27, 1, .iconst 0, [(0, 0)]),
  (28, 1, .iastore, []),
  (29, 1, .dup, []),
  (30, 1, .iconst 5, [(5, 0)]),
  (31, 2, .bipush 7, [(7, 0)]),
  (33, 1, .iastore, []),
  (34, 1, .dup, []),
  (35, 2, .bipush 6, [(6, 0)]),
  (37, 1, .iconst 0, [(0, 0)]),
  (38, 1, .iastore, []),
  (39, 3, .putfield 9, [(12, 1)]),
  (42, 1, .aload_n 0, [(0, 0)]),
  (43, 2, .bipush 12, [(12, 0)]),
  (45, 2, .newarray .int, []),
  (47, 3, .putfield 13, [(12, 2)]),
  (50, 1, .aload_n 0, [(0, 0)]),
  (51, 2, .bipush 12, [(12, 0)]),
  (53, 2, .newarray .int, []),
  (55, 3, .putfield 16, [(12, 3)]),
  (58, 1, .aload_n 0, [(0, 0)]),
  (59, 2, .bipush 48, [(48, 0)]),
  (61, 2, .newarray .int, []),
  (63, 3, .putfield 19, [(12, 4)]),
  (66, 1, .aload_n 0, [(0, 0)]),
  (67, 2, .bipush 12, [(12, 0)]),
  (69, 2, .newarray .int, []),
  (71, 3, .putfield 22, [(12, 5)]),
  (74, 1, .aload_n 0, [(0, 0)]),
  (75, 2, .bipush 12, [(12, 0)]),
  (77, 2, .newarray .int, []),
  (79, 3, .putfield 25, [(12, 6)]),
  (82, 1, .aload_n 0, [(0, 0)]),
  (83, 2, .bipush 12, [(12, 0)]),
  (85, 2, .newarray .int, []),
  (87, 3, .putfield 28, [(12, 7)]),
  (90, 1, .aload_n 0, [(0, 0)]),
  (91, 2, .bipush 8, [(8, 0)]),
  (93, 2, .newarray .int, []),
  (95, 3, .putfield 31, [(12, 8)]),
  (98, 1, .aload_n 0, [(0, 0)]),
  (99, 2, .bipush 12, [(12, 0)]),
  (101, 2, .newarray .int, []),
  (103, 3, .putfield 34, [(12, 9)]),
  (106, 1, .aload_n 0, [(0, 0)]),
  (107, 2, .bipush 12, [(12, 0)]),
  (109, 2, .newarray .int, []),
  (111, 3, .putfield 37, [(12, 10)]),
  (114, 1, .aload_n 0, [(0, 0)]),
  (115, 2, .bipush 48, [(48, 0)]),
  (117, 2, .newarray .int, []),
  (119, 3, .putfield 40, [(12, 11)]),
  (122, 1, .aload_n 0, [(0, 0)]),
  (123, 2, .bipush 12, [(12, 0)]),
  (125, 2, .newarray .int, []),
  (127, 3, .putfield 43, [(12, 12)]),
  (130, 1, .aload_n 0, [(0, 0)]),
  (131, 2, .bipush 12, [(12, 0)]),
  (133, 2, .newarray .int, []),
  (135, 3, .putfield 46, [(12, 13)]),
  (138, 1, .aload_n 0, [(0, 0)]),
  (139, 2, .bipush 48, [(48, 0)]),
  (141, 2, .newarray .int, []),
  (143, 3, .putfield 49, [(12, 14)]),
  (146, 1, .aload_n 0, [(0, 0)]),
  (147, 3, .sipush 400, [(400, 0)]),
  (150, 2, .newarray .byte, []),
  (152, 3, .putfield 52, [(12, 19)]),
  (155, 1, .aload_n 0, [(0, 0)]),
  (156, 2, .bipush 7, [(7, 0)]),
  (158, 2, .newarray .int, []),
  (160, 3, .putfield 56, [(12, 20)]),
  (163, 1, .aload_n 0, [(0, 0)]),
  (164, 2, .bipush 12, [(12, 0)]),
  (166, 2, .newarray .int, []),
  (168, 3, .putfield 59, [(12, 21)]),
  (171, 1, .aload_n 0, [(0, 0)]),
  (172, 2, .bipush 12, [(12, 0)]),
  (174, 2, .newarray .int, []),
  (176, 3, .putfield 62, [(12, 22)]),
  (179, 1, .aload_n 0, [(0, 0)]),
  (180, 2, .bipush 48, [(48, 0)]),
  (182, 2, .newarray .int, []),
  (184, 3, .putfield 65, [(12, 23)]),
  (187, 1, .aload_n 0, [(0, 0)]),
  (188, 2, .bipush 12, [(12, 0)]),
  (190, 2, .newarray .int, []),
  (192, 3, .putfield 68, [(12, 24)]),
  (195, 1, .aload_n 0, [(0, 0)]),
  (196, 2, .bipush 12, [(12, 0)]),
  (198, 2, .newarray .int, []),
  (200, 3, .putfield 71, [(12, 25)]),
  (203, 1, .aload_n 0, [(0, 0)]),
  (204, 2, .bipush 26, [(26, 0)]),
  (206, 2, .newarray .int, []),
  (208, 3, .putfield 74, [(12, 30)]),
  (211, 1, .aload_n 0, [(0, 0)]),
  (212, 2, .bipush 26, [(26, 0)]),
  (214, 2, .newarray .int, []),
  (216, 3, .putfield 77, [(12, 31)]),
  (219, 1, .aload_n 0, [(0, 0)]),
  (220, 2, .bipush 26, [(26, 0)]),
  (222, 2, .newarray .int, []),
  (224, 3, .putfield 80, [(12, 32)]),
  (227, 1, .aload_n 0, [(0, 0)]),
  (228, 2, .bipush 90, [(90, 0)]),
  (230, 2, .newarray .long, []),
  (232, 3, .putfield 83, [(12, 33)]),
  (235, 1, .aload_n 0, [(0, 0)]),
  (236, 3, .sipush 4680, [(4680, 0)]),
  (239, 2, .newarray .int, []),
  (241, 3, .putfield 87, [(12, 34)]),
  (244, 1, .aload_n 0, [(0, 0)]),
  (245, 3, .sipush 480, [(480, 0)]),
  (248, 2, .newarray .int, []),
  (250, 3, .putfield 90, [(12, 37)]),
  (253, 1, .aload_n 0, [(0, 0)]),
  (254, 1, .iconst 1, [(1, 0)]),
  (255, 2, .newarray .int, []),
  (257, 3, .putfield 93, [(12, 38)]),
  (260, 1, .aload_n 0, [(0, 0)]),
  (261, 3, .sipush 4056, [(4056, 0)]),
  (264, 2, .newarray .boolean, []),
  (266, 3, .putfield 96, [(12, 42)]),
  (269, 1, .aload_n 0, [(0, 0)]),
  (270, 2, .bipush 65, [(65, 0)]),
  (272, 2, .newarray .boolean, []),
  (274, 3, .putfield 100, [(12, 43)]),
  (277, 1, .aload_n 0, [(0, 0)]),
  (278, 2, .bipush 65, [(65, 0)]),
  (280, 2, .newarray .boolean, []),
  (282, 3, .putfield 103, [(12, 44)]),
  (285, 1, .aload_n 0, [(0, 0)]),
  (286, 3, .sipush 1170, [(1170, 0)]),
  (289, 2, .newarray .boolean, []),
  (291, 3, .putfield 106, [(12, 45)]),
  (294, 1, .aload_n 0, [(0, 0)]),
  (295, 3, .sipush 2028, [(2028, 0)]),
  (298, 2, .newarray .boolean, []),
  (300, 3, .putfield 109, [(12, 46)]),
  (303, 1, .aload_n 0, [(0, 0)]),
  (304, 3, .sipush 2028, [(2028, 0)]),
  (307, 2, .newarray .long, []),
  (309, 3, .putfield 112, [(12, 47)]),
  (312, 1, .aload_n 0, [(0, 0)]),
  (313, 2, .bipush 65, [(65, 0)]),
  (315, 2, .newarray .long, []),
  (317, 3, .putfield 115, [(12, 48)]),
  (320, 1, .aload_n 0, [(0, 0)]),
  (321, 2, .bipush 65, [(65, 0)]),
  (323, 2, .newarray .boolean, []),
  (325, 3, .putfield 118, [(12, 49)]),
  (328, 1, .aload_n 0, [(0, 0)]),
  (329, 2, .bipush 12, [(12, 0)]),
  (331, 2, .newarray .int, []),
  (333, 3, .putfield 121, [(12, 50)]),
  (336, 1, .aload_n 0, [(0, 0)]),
  (337, 3, .sipush 2028, [(2028, 0)]),
  (340, 2, .newarray .boolean, []),
  (342, 3, .putfield 124, [(12, 51)]),
  (345, 1, .aload_n 0, [(0, 0)]),
  (346, 3, .sipush 2028, [(2028, 0)]),
  (349, 2, .newarray .boolean, []),
  (351, 3, .putfield 127, [(12, 52)]),
  (354, 1, .aload_n 0, [(0, 0)]),
  (355, 2, .bipush 65, [(65, 0)]),
  (357, 2, .newarray .int, []),
  (359, 3, .putfield 130, [(12, 53)]),
  (362, 1, .aload_n 0, [(0, 0)]),
  (363, 3, .sipush 2028, [(2028, 0)]),
  (366, 2, .newarray .int, []),
  (368, 3, .putfield 133, [(12, 58)]),
  (371, 1, .aload_n 0, [(0, 0)]),
  (372, 2, .bipush 65, [(65, 0)]),
  (374, 2, .newarray .int, []),
  (376, 3, .putfield 136, [(12, 59)]),
  (379, 1, .aload_n 0, [(0, 0)]),
  (380, 3, .sipush 2028, [(2028, 0)]),
  (383, 2, .newarray .int, []),
  (385, 3, .putfield 139, [(12, 64)]),
  (388, 1, .aload_n 0, [(0, 0)]),
  (389, 2, .bipush 65, [(65, 0)]),
  (391, 2, .newarray .int, []),
  (393, 3, .putfield 142, [(12, 65)]),
  (396, 1, .aload_n 0, [(0, 0)]),
  (397, 2, .bipush 28, [(28, 0)]),
  (399, 2, .newarray .int, []),
  (401, 3, .putfield 145, [(12, 66)]),
  (404, 1, .aload_n 0, [(0, 0)]),
  (405, 3, .sipush 2560, [(2560, 0)]),
  (408, 2, .newarray .int, []),
  (410, 3, .putfield 148, [(12, 68)]),
  (413, 1, .aload_n 0, [(0, 0)]),
  (414, 1, .iconst 4, [(4, 0)]),
  (415, 2, .newarray .boolean, []),
  (417, 3, .putfield 151, [(12, 69)]),
  (420, 1, .return_, [])]
def zbt13 : zbT := (⟨"PackedForestModel", "<init>", "()V"⟩, prog_14_method_1_code, 1, (47, 26552), zbr13)
def zbP : List zbT := [zbt1, zbt2, zbt3, zbt4, zbt5, zbt6, zbt7, zbt8, zbt9, zbt10, zbt11, zbt12, zbt13]
def zbfin : zbH := [
  .inl (11, [.ref 1, .int 0, .ref 2, .ref 13, .ref 14, .ref 21, .ref 26, .ref 31, .ref 36, .ref 41, .ref 45, .ref 48, .ref 52, .ref 56, .ref 59]),
  .inr (0, 400, [], []),
  .inl (7, [.ref 3, .ref 10, .int 0, .int 0, .ref 11, .int 0, .int (nI 7), .ref 12, .int 0, .int 0, .int 0]),
  .inl (4, [.int 0, .int 0, .ref 4, .ref 5, .ref 6, .ref 7, .ref 8, .ref 9]),
  .inr (0, 12, [], []),
  .inr (0, 12, [], []),
  .inr (0, 12, [], []),
  .inr (0, 12, [], []),
  .inr (0, 48, [], []),
  .inr (0, 26, [], []),
  .inr (0, 12, [], []),
  .inr (0, 48, [], []),
  .inr (0, 20, [], []),
  .inr (4, 4, [], [some 61, some 72, some 83, some 94]),
  .inl (4, [.int 0, .int 0, .ref 15, .ref 16, .ref 17, .ref 18, .ref 19, .ref 20]),
  .inr (0, 12, [], []),
  .inr (0, 12, [], []),
  .inr (0, 12, [], []),
  .inr (0, 12, [], []),
  .inr (0, 48, [], []),
  .inr (0, 26, [], []),
  .inl (2, [.ref 2, .int 0, .int 0, .int 0, .int 0, .int 0, .int 0, .ref 22, .ref 23, .ref 24, .ref 25]),
  .inr (0, 26, [], []),
  .inr (0, 26, [], []),
  .inr (0, 26, [], []),
  .inr (0, 26, [], []),
  .inl (10, [.int 0, .int 0, .ref 27, .ref 28, .ref 29, .ref 30]),
  .inr (3, 90, [], []),
  .inr (0, 4680, [], []),
  .inr (3, 52, [], []),
  .inr (3, 26, [], []),
  .inl (0, [.ref 2, .int (nI 0), .int 0, .ref 32, .ref 33, .ref 34, .ref 35]),
  .inr (0, 48, [], []),
  .inr (0, 91, [], []),
  .inr (0, 624, [], []),
  .inr (0, 13, [], []),
  .inl (0, [.ref 2, .int (nI 1), .int 0, .ref 37, .ref 38, .ref 39, .ref 40]),
  .inr (0, 48, [], []),
  .inr (0, 91, [], []),
  .inr (0, 624, [], []),
  .inr (0, 13, [], []),
  .inl (5, [.ref 2, .ref 26, .ref 31, .int 0, .ref 42, .ref 43, .ref 44, .int 0]),
  .inr (1, 1170, [], []),
  .inr (0, 1170, [], []),
  .inr (0, 90, [], []),
  .inl (1, [.ref 2, .ref 36, .int 0, .ref 46, .ref 47]),
  .inr (3, 1092, [], []),
  .inr (3, 13, [], []),
  .inl (8, [.ref 2, .ref 36, .int 0, .int 0, .int 0, .int 0, .ref 49, .ref 50, .ref 51]),
  .inr (3, 1092, [], []),
  .inr (3, 4368, [], []),
  .inr (3, 65, [], []),
  .inl (3, [.ref 2, .ref 36, .int 0, .int 0, .ref 53, .int 0, .int 0, .int 0, .ref 54, .ref 55]),
  .inr (0, 91, [], []),
  .inr (0, 5, [], []),
  .inr (0, 5, [], []),
  .inl (6, [.ref 2, .int 0, .ref 57, .ref 58]),
  .inr (0, 2366, [], []),
  .inr (0, 13, [], []),
  .inl (9, [.ref 2, .ref 60, .int 0, .long 0]),
  .inr (0, 24, [], []),
  .inl (7, [.ref 62, .ref 69, .int 0, .int 0, .ref 70, .int 0, .int (nI 7), .ref 71, .int 0, .int 0, .int 0]),
  .inl (4, [.int 0, .int 0, .ref 63, .ref 64, .ref 65, .ref 66, .ref 67, .ref 68]),
  .inr (0, 12, [], []),
  .inr (0, 12, [], []),
  .inr (0, 12, [], []),
  .inr (0, 12, [], []),
  .inr (0, 48, [], []),
  .inr (0, 26, [], []),
  .inr (0, 12, [], []),
  .inr (0, 48, [], []),
  .inr (0, 20, [], []),
  .inl (7, [.ref 73, .ref 80, .int 0, .int 0, .ref 81, .int 0, .int (nI 7), .ref 82, .int 0, .int 0, .int 0]),
  .inl (4, [.int 0, .int 0, .ref 74, .ref 75, .ref 76, .ref 77, .ref 78, .ref 79]),
  .inr (0, 12, [], []),
  .inr (0, 12, [], []),
  .inr (0, 12, [], []),
  .inr (0, 12, [], []),
  .inr (0, 48, [], []),
  .inr (0, 26, [], []),
  .inr (0, 12, [], []),
  .inr (0, 48, [], []),
  .inr (0, 20, [], []),
  .inl (7, [.ref 84, .ref 91, .int 0, .int 0, .ref 92, .int 0, .int (nI 7), .ref 93, .int 0, .int 0, .int 0]),
  .inl (4, [.int 0, .int 0, .ref 85, .ref 86, .ref 87, .ref 88, .ref 89, .ref 90]),
  .inr (0, 12, [], []),
  .inr (0, 12, [], []),
  .inr (0, 12, [], []),
  .inr (0, 12, [], []),
  .inr (0, 48, [], []),
  .inr (0, 26, [], []),
  .inr (0, 12, [], []),
  .inr (0, 48, [], []),
  .inr (0, 20, [], []),
  .inl (7, [.ref 95, .ref 102, .int 0, .int 0, .ref 103, .int 0, .int (nI 7), .ref 104, .int 0, .int 0, .int 0]),
  .inl (4, [.int 0, .int 0, .ref 96, .ref 97, .ref 98, .ref 99, .ref 100, .ref 101]),
  .inr (0, 12, [], []),
  .inr (0, 12, [], []),
  .inr (0, 12, [], []),
  .inr (0, 12, [], []),
  .inr (0, 48, [], []),
  .inr (0, 26, [], []),
  .inr (0, 12, [], []),
  .inr (0, 48, [], []),
  .inr (0, 20, [], []),
  .inl (12, [.int 0, .ref 106, .ref 107, .ref 108, .ref 109, .ref 110, .ref 111, .ref 112, .ref 113, .ref 114, .ref 115, .ref 116, .ref 117, .ref 118, .ref 119, .int 0, .int 0, .int 0, .int 0, .ref 120, .ref 121, .ref 122, .ref 123, .ref 124, .ref 125, .ref 126, .int 0, .int 0, .int 0, .int 0, .ref 127, .ref 128, .ref 129, .ref 130, .ref 131, .int 0, .int 0, .ref 132, .ref 133, .int 0, .int 0, .int 0, .ref 134, .ref 135, .ref 136, .ref 137, .ref 138, .ref 139, .ref 140, .ref 141, .ref 142, .ref 143, .ref 144, .ref 145, .int 0, .int 0, .int 0, .int 0, .ref 146, .ref 147, .int 0, .int 0, .int 0, .int 0, .ref 148, .ref 149, .ref 150, .int 0, .ref 151, .ref 152, .int 0, .int 0]),
  .inr (0, 7, [(6, nI 0), (5, nI 7), (4, nI 0), (3, nI 0), (2, nI 0), (1, -(nI 1)), (0, nI 0)], []),
  .inr (0, 12, [], []),
  .inr (0, 12, [], []),
  .inr (0, 48, [], []),
  .inr (0, 12, [], []),
  .inr (0, 12, [], []),
  .inr (0, 12, [], []),
  .inr (0, 8, [], []),
  .inr (0, 12, [], []),
  .inr (0, 12, [], []),
  .inr (0, 48, [], []),
  .inr (0, 12, [], []),
  .inr (0, 12, [], []),
  .inr (0, 48, [], []),
  .inr (2, 400, [], []),
  .inr (0, 7, [], []),
  .inr (0, 12, [], []),
  .inr (0, 12, [], []),
  .inr (0, 48, [], []),
  .inr (0, 12, [], []),
  .inr (0, 12, [], []),
  .inr (0, 26, [], []),
  .inr (0, 26, [], []),
  .inr (0, 26, [], []),
  .inr (3, 90, [], []),
  .inr (0, 4680, [], []),
  .inr (0, 480, [], []),
  .inr (0, 1, [], []),
  .inr (1, 4056, [], []),
  .inr (1, 65, [], []),
  .inr (1, 65, [], []),
  .inr (1, 1170, [], []),
  .inr (1, 2028, [], []),
  .inr (3, 2028, [], []),
  .inr (3, 65, [], []),
  .inr (1, 65, [], []),
  .inr (0, 12, [], []),
  .inr (1, 2028, [], []),
  .inr (1, 2028, [], []),
  .inr (0, 65, [], []),
  .inr (0, 2028, [], []),
  .inr (0, 65, [], []),
  .inr (0, 2028, [], []),
  .inr (0, 65, [], []),
  .inr (0, 28, [], []),
  .inr (0, 2560, [], []),
  .inr (1, 4, [], [])]
def zbeqE (a b : zbE) : Bool := match a, b with
  | .inl x, .inl y => decide (x = y)
  | .inr x, .inr y => decide (x = y)
  | _, _ => false
def zbeq : zbH → zbH → Bool
  | [], [] => true
  | a :: r, b :: t => zbeqE a b && zbeq r t
  | _, _ => false
theorem zbeqE_s {a b : zbE} (h : zbeqE a b = true) : a = b := by
  unfold zbeqE at h
  split at h
  · rw [of_decide_eq_true h]
  · rw [of_decide_eq_true h]
  · cases h
theorem zbeq_s : ∀ {a b : zbH}, zbeq a b = true → a = b
  | [], [], _ => rfl
  | a :: r, b :: t, h => by
    unfold zbeq at h
    rw [Bool.and_eq_true] at h
    rw [zbeqE_s h.1, zbeq_s h.2]
  | [], _ :: _, h => by cases h
  | _ :: _, [], h => by cases h
def zbis (o : Option zbH) (h : zbH) : Bool := match o with
  | some x => zbeq x h
  | none => false
theorem zbis_s {o : Option zbH} {h : zbH} (z : zbis o h = true) : o = some h := by
  unfold zbis at z
  split at z
  · rw [zbeq_s z]
  · cases z
theorem zbrun0 : zbf zbP 5 12 [.ref 0] [.inl (11, zbnull 11)] = some (zbfin.take 105) := zbis_s (by decide +kernel)
theorem zbrun1 : zbf zbP 5 13 [.ref 105] (zbfin.take 105 ++ [.inl (12, zbnull 12)]) = some zbfin := zbis_s (by decide +kernel)
end
section
/-! THE BUILDER, over the machine -/
def zbnest : List (String × Nat × MethodName) := [("PackedForest", 15, ⟨"PackedForest$Setting", "<init>", "()V"⟩), ("PackedForest$Setting", 11, ⟨"PackedForest$Grammar", "<init>", "()V"⟩), ("PackedForest", 26, ⟨"PackedForest$Grammar", "<init>", "()V"⟩), ("PackedForest", 42, ⟨"PackedForest$States", "<init>", "()V"⟩)]
def zbnw (U : State) : Prop := (∀ q ∈ zbnest, va_Nw (.methodLinkNest q.1 q.2.1 q.2.2 "PackedForest") U) ∧ va_AO "PackedForest$Setting" U
def zbmw (q : zbT) : Prop := Cond.code q.1 q.2.1 q.2.2.1 none ∈ zzTb ∧ Cond.initialized q.1.cls ∈ zzTb ∧ Cond.instanceMethod q.1 ∈ zzTb ∧ q.1.name = "<init>" ∧ q.1.cls ≠ "java/lang/invoke/MethodHandle" ∧ q.1.cls ≠ "java/lang/invoke/VarHandle" ∧ q.2.2.1 ≤ 21
def zbwd (P : List zbT) (own : String) (nL len pc : Nat) (i : Instr) (aux : List (Nat × Nat)) : Prop := match i with
  | .iconst n => len = 1 ∧ Int32.ofInt n = zzkon (zzfst aux)
  | .bipush n => len = 2 ∧ (Int8.ofInt n).toInt32 = zzkon (zzfst aux)
  | .sipush n => len = 3 ∧ (Int16.ofInt n).toInt32 = zzkon (zzfst aux)
  | .iload_n k => len = 1 ∧ (k : Nat) = (zzfst aux).1
  | .aload_n k => len = 1 ∧ (k : Nat) = (zzfst aux).1
  | .istore_n k => len = 1 ∧ (k : Nat) = (zzfst aux).1 ∧ (zzfst aux).1 < nL
  | .iinc k n => len = 3 ∧ k < nL ∧ Int32.ofInt n = zzkon (zzfst aux)
  | .goto o => len = 3 ∧ (pc : Int) + o = ((zzfst aux).1 : Int)
  | .if_icmp _ o => len = 3 ∧ (pc : Int) + o = ((zzfst aux).1 : Int)
  | .getfield j => len = 3 ∧ ∃ r, zzcl[(zzfst aux).1]? = some r ∧ (zzfst aux).2 < r.2.2 ∧ Cond.fieldLink own j (r.2.1 (zzfst aux).2).1 (r.2.1 (zzfst aux).2).2.1 (r.2.1 (zzfst aux).2).2.2.1 ∈ zzTb
  | .putfield j => len = 3 ∧ ∃ r, zzcl[(zzfst aux).1]? = some r ∧ (zzfst aux).2 < r.2.2 ∧ Cond.fieldLink own j (r.2.1 (zzfst aux).2).1 (r.2.1 (zzfst aux).2).2.1 (r.2.1 (zzfst aux).2).2.2.1 ∈ zzTb ∧ (r.2.1 (zzfst aux).2).1 = own
  | .new j => len = 3 ∧ ∃ r, zzcl[(zzfst aux).1]? = some r ∧ (zzfst aux).2 = r.2.2 ∧ Cond.classLink own j r.1 ∈ zzTb ∧ Cond.instantiable r.1 r.2.2 ∈ zzTb ∧ Cond.initialized r.1 ∈ zzTb
  | .newarray t => len = 2 ∧ Cond.arrayClass (newarray.typeOf t) ∈ zzTb
  | .anewarray j => len = 3 ∧ Cond.classLink own j "PackedForest$Setting" ∈ zzTb
  | .invokespecial j => len = 3 ∧ (match (zzfst aux).1 with
    | 0 => Cond.methodLink own j objectInit ∈ zzTb ∧ Cond.instanceMethod objectInit ∈ zzTb ∧ Cond.code objectInit ⟨#[0xb1]⟩ 1 none ∈ zzTb
    | y + 1 => ∃ q, P[y]? = some q ∧ zbmw q ∧ (parseMethodDescriptor q.1.desc).map (fun d => d.parameters.length) = some (zzfst aux).2 ∧ (Cond.methodLink own j q.1 ∈ zzTb ∨ (own, j, q.1) ∈ zbnest))
  | _ => len = 1
def zbroom (d : Nat) (lim : Nat × Nat) : Room := { frames := d + 1, cells := lim.1, slots := lim.2, locals := 40 * (d + 1) }
def zbA (ad : Nat → Nat) (n sz : Nat) : Nat → Prop := fun q => (∃ i, i < n ∧ q = ad i) ∨ sz ≤ q
def zbPc (D : va_G) (dA : Nat → ClassId) (ad : Nat → Nat) (as : List Value) (h : zbH) (sz : Nat) : Array Value → State → Prop := va_Pc (as.map (zzcv ad)) (fun U => U.heap.size = sz ∧ va_P D zzcl (zbw dA ad h) U.heap ∧ va_D (fun _ => True) (zbw dA ad h) ∧ va_K D zzcl (zbtys dA h) U ∧ zbnw U)
def zbQ (D : va_G) (h0 : zbH) (dA0 : Nat → ClassId) (ad0 : Nat → Nat) (A : Nat → Prop) (h' : zbH) : Array Value → State → Outcome → State → Prop := fun _ st oc t => oc = .returned none ∧ (∃ dA ad, zbag h0 dA0 ad0 dA ad ∧ va_P D zzcl (zbw dA ad h') t.heap ∧ va_D A (zbw dA ad h') ∧ va_K D zzcl (zbtys dA h') t) ∧ va_F A st t
def zbMet (l : Launch) (D : va_G) (d : Nat) (q : zbT) (as : List Value) (h h' : zbH) : Prop := ∀ (dA : Nat → ClassId) (ad : Nat → Nat) (sz : Nat), Met l q.1 (Cond.code q.1 q.2.1 q.2.2.1 none :: zzTb) (zbroom d q.2.2.2.1) (zbPc D dA ad as h sz) (zbQ D h dA ad (zbA ad h.length sz) h') q.2.2.2.1.1 q.2.2.2.1.2 (zbA ad h.length sz)
def zbW (p : Program) (l : Launch) (e : Env) (R : Room) (s : State) (m : MethodId) (args : Array Value) (below : List Frame) (meth : Method) (c : Code) (Q : State → Prop) (D : va_G) (A : Nat → Prop) (nL : Nat) (h0 : zbH) (dA0 : Nat → ClassId) (ad0 : Nat → Nat) (pc : Nat) (ls : zzL) (st : List Value) (h : zbH) (cs ss : Nat) : Prop :=
  ∀ (dA : Nat → ClassId) (ad : Nat → Nat) (H : Heap) (locs : List Loc) (lc : Array Slot), zbag h0 dA0 ad0 dA ad → h0.length ≤ h.length → (h0.any zb4 = true → h.any zb4 = true) → va_P D zzcl (zbw dA ad h) H → va_D A (zbw dA ad h) → va_K D zzcl (zbtys dA h) s → va_S A s.heap H locs → lv_has lc nL (zzlc ad ls) → W p l e R s m args below meth c H locs cs ss Q (F0 m pc lc (st.map (zzcv ad)))
def zbX (p : Program) (s : State) (m : MethodId) (args : Array Value) (meth : Method) (c : Code) (cc : ByteArray) (own : String) (nL : Nat) (A : Nat → Prop) : Prop :=
  p.tables.exec = Jvm.exec ∧ c.code = cc ∧ c.maxLocals = nL ∧ s.vm.findClass own = some m.cls ∧ (∀ w ∈ zzTb, w.before args s = true) ∧ zbnw s ∧ (∀ q, s.heap.size ≤ q → A q) ∧ meth.locks = false ∧ meth.sig.returnType = none ∧ meth.name = "<init>"
theorem zb4_set : ∀ {h : zbH} {i : Nat} {e e' : zbE}, h[i]? = some e → zb4 e' = zb4 e → (h.set i e').any zb4 = h.any zb4
  | [], _, _, _, hi, _ => by cases hi
  | a :: r, 0, e, e', hi, h4 => by
    cases hi
    rw [List.set_cons_zero, List.any_cons, List.any_cons, h4]
  | a :: r, i + 1, e, e', hi, h4 => by
    rw [List.set_cons_succ, List.any_cons, List.any_cons, zb4_set (h := r) (i := i) hi h4]
theorem zbtys_set {dA : Nat → ClassId} {h : zbH} {i : Nat} {e e' : zbE} (hi : h[i]? = some e) (h4 : zb4 e' = zb4 e) : zbtys dA (h.set i e') = zbtys dA h := by
  unfold zbtys
  rw [zb4_set hi h4]
theorem zb4_push {h : zbH} {e : zbE} : (h ++ [e]).any zb4 = (h.any zb4 || zb4 e) := by
  rw [List.any_append, List.any_cons, List.any_nil, Bool.or_false]
theorem zbtys_push {dA : Nat → ClassId} {h : zbH} {e : zbE} (h4 : zb4 e = false) : zbtys dA (h ++ [e]) = zbtys dA h := by
  unfold zbtys
  rw [zb4_push, h4, Bool.or_false]
theorem zbtys_at (dA : Nat → ClassId) (h : zbH) : (zbtys dA h)[0]? = some (dA 0, .int) ∧ (zbtys dA h)[1]? = some (dA 1, .boolean) ∧ (zbtys dA h)[2]? = some (dA 2, .byte) ∧ (zbtys dA h)[3]? = some (dA 3, .long) := ⟨rfl, rfl, rfl, rfl⟩
theorem zbtys_4 (dA : Nat → ClassId) {h : zbH} (h4 : h.any zb4 = true) : (zbtys dA h)[4]? = some (dA 4, .object "PackedForest$Setting") := by
  unfold zbtys
  rw [h4]
  rfl
theorem zbok_s {ls : zzL} {st : List Value} {h : zbH} (z : zbok ls st h = true) : (ls.all fun q => zbr h.length q.2) = true ∧ st.all (zbr h.length) = true ∧ h.all (zbre h.length) = true := by
  unfold zbok at z
  rw [Bool.and_eq_true, Bool.and_eq_true] at z
  exact ⟨z.1.1, z.1.2, z.2⟩
theorem zbnull_at {ci : Nat} {r : vw_C} {ty : Nat → FieldType} (hr : zzcl[ci]? = some r) (hty : ∀ k, k < r.2.2 → parseFieldDescriptor (r.2.1 k).2.2.1 = some (ty k)) (ad : Nat → Nat) : ∀ j, j < r.2.2 → defaultValue (ty j) = vp_V ((zbnull ci).map (zzcv ad)) j := by
  intro j hj
  unfold zbnull vp_V
  rw [hr]
  simp only [List.map_map, List.getD_eq_getElem?_getD, List.getElem?_map, List.getElem?_range hj, Option.map_some, Option.getD_some, Function.comp]
  rw [hty j hj]
  show defaultValue (ty j) = zzcv ad (defaultValue (ty j))
  cases ty j <;> rfl
end
section
/-! ONE INSTRUCTION of the builder, over the machine -/
theorem zbnull_cv (ci : Nat) (ad : Nat → Nat) : (zbnull ci).map (zzcv ad) = zbnull ci := by
  have h : ∀ v ∈ zbnull ci, zzcv ad v = v := by
    intro v hv
    unfold zbnull at hv
    split at hv
    · obtain ⟨k, -, rfl⟩ := List.mem_map.mp hv
      split
      · rename_i ty _
        cases ty <;> rfl
      · rfl
    · cases hv
  exact (List.map_congr_left h).trans (List.map_id _)
theorem zbcA {D : va_G} {tys : List (ClassId × FieldType)} {s : State} {cA d : ClassId} {ty : FieldType} {k : Nat} (h1 : va_K D zzcl (tys ++ [(cA, ty)]) s) (hk : tys[k]? = some (d, ty)) (hp : ty = .int ∨ ty = .boolean ∨ ty = .byte ∨ ty = .long) : cA = d := by
  have e1 : (tys ++ [(cA, ty)])[tys.length]? = some (cA, ty) := by rw [List.getElem?_append_right (Nat.le_refl _), Nat.sub_self]; rfl
  have e2 : (tys ++ [(cA, ty)])[k]? = some (d, ty) := by rw [List.getElem?_append_left (List.getElem?_eq_some_iff.mp hk).1]; exact hk
  have r1 := (h1.2 _ _ e1).2
  have r2 := (h1.2 _ _ e2).2
  rcases hp with rfl | rfl | rfl | rfl
  · exact Option.some.inj ((show s.vm.findClass _ = some cA from r1).symm.trans r2)
  · exact Option.some.inj ((show s.vm.findClass _ = some cA from r1).symm.trans r2)
  · exact Option.some.inj ((show s.vm.findClass _ = some cA from r1).symm.trans r2)
  · exact Option.some.inj ((show s.vm.findClass _ = some cA from r1).symm.trans r2)
theorem zbKcut {D : va_G} {tys t2 : List (ClassId × FieldType)} {s : State} (h : va_K D zzcl (tys ++ t2) s) : va_K D zzcl tys s := ⟨h.1, fun k q hq => h.2 k q (by rw [List.getElem?_append_left (List.getElem?_eq_some_iff.mp hq).1]; exact hq)⟩
/-- a new cell at the address q: the rest is as it was -/
theorem zbnew {dA : Nat → ClassId} {ad : Nat → Nat} {h : zbH} {q : Nat} {e : zbE} {x : va_E} (hr : h.all (zbre h.length) = true) (hx : zbcell dA (zbad ad h.length q) e = x) : zbw dA ad h ++ [(q, x)] = zbw dA (zbad ad h.length q) (h ++ [e]) := by
  rw [zbw_push, zbw_ag zbag_push hr, hx]
  show _ = _ ++ [((if h.length = h.length then q else ad h.length), x)]
  rw [if_pos rfl]
theorem zbad_at {ad : Nat → Nat} {n x : Nat} : zzcv (zbad ad n x) (.ref n) = .ref x := by
  show Value.ref (if n = n then x else _) = _
  rw [if_pos rfl]
def zbCl (l : Launch) (D : va_G) (P : List zbT) (R : Room) (call : Nat → List Value → zbH → Option zbH) : Prop := ∀ y as h h', call (y + 1) as h = some h' → ∀ q, P[y]? = some q → ∃ d, R.frames = d + 2 ∧ R.locals = 40 * (d + 2) ∧ zbMet l D d q as h h'
section
variable {p : Program} {l : Launch} {e : Env} {R : Room} {s : State} {m : MethodId} {args : Array Value} {below : List Frame} {meth : Method} {c : Code} {Q : State → Prop} {D : va_G} {A : Nat → Prop} {nL : Nat} {cc : ByteArray} {own : String} {P : List zbT} {H : Heap} {locs : List Loc} {lc : Array Slot}
theorem zbcall {pc mc ms cs ss : Nat} {h0 h' : zbH} {dA0 : Nat → ClassId} {ad0 : Nat → Nat} {A1 : Nat → Prop} {a : Array Value} {rest st0 : List Value} (hr : va_Run p l e R s m args below meth c H locs cs ss mc ms (F0 m pc lc st0) rest (zbQ D h0 dA0 ad0 A1 h' a) A1) (hS : va_S A s.heap H locs) (hA : ∀ q, A1 q → A q)
    (kk : ∀ (dA : Nat → ClassId) (ad : Nat → Nat) (H1 : Heap) (locs1 : List Loc), zbag h0 dA0 ad0 dA ad → va_P D zzcl (zbw dA ad h') H1 → va_D A1 (zbw dA ad h') → va_K D zzcl (zbtys dA h') s → va_S A s.heap H1 locs1 → W p l e R s m args below meth c H1 locs1 (cs + mc) (ss + ms) Q (F0 m (pc + 3) lc rest)) : W p l e R s m args below meth c H locs cs ss Q (F0 m pc lc st0) := by
  intro T hT X
  obtain ⟨v, st₀, t, T', L, h0', X', hL, e1, e2, ⟨hv, ⟨dA, ad, hag, hp, hd, hk⟩, hz, hkk⟩, st⟩ := hr T hT X
  cases hv
  rw [h0'] at hz hkk
  obtain ⟨t2, a1, b1⟩ := kk dA ad T'.heap (locs ++ L) hag (by rw [e1]; exact hp) hd (va_K.moved (by rw [← e2]; exact X'.warmed.alike.symm) hk)
    ⟨Nat.le_trans hS.1 (by rw [e1]; exact hz), fun q h1 h2 => by rw [e1, hkk q (Nat.lt_of_lt_of_le h1 hS.1) (fun z => h2 (hA q z))]; exact hS.2.1 q h1 h2, fun q hq => by
      rcases List.mem_append.mp hq with h | h
      · exact hS.2.2 q h
      · exact hA _ (hL q h)⟩ T' rfl X'
  exact ⟨t2, st t2 a1, b1⟩
set_option maxHeartbeats 4000000 in
set_option maxRecDepth 20000 in
theorem zbstep_ok {h' h0 : zbH} {dA0 : Nat → ClassId} {ad0 : Nat → Nat} {lim : Nat × Nat} (hX : zbX p s m args meth c cc own nL A) (hQ : Q = MQ below (zbQ D h0 dA0 ad0 A h') args s lim.1 lim.2 A) (hR : R.cells = lim.1 ∧ R.slots = lim.2 ∧ 1 ≤ R.frames ∧ 40 ≤ R.locals) {call : Nat → List Value → zbH → Option zbH} (hcall : zbCl l D P R call)
    {pc len : Nat} {i : Instr} {aux : List (Nat × Nat)} (hdg : decode cc pc = .ok (i, len)) (hw : zbwd P own nL len pc i aux) {ls : zzL} {st : List Value} {h : zbH} {cs ss : Nat} {k : zbK} (hz : zbstep P call lim (pc, len, i, aux) ls st h cs ss k = some h')
    (hk : ∀ pc ls st h cs ss, k pc ls st h cs ss = some h' → zbW p l e R s m args below meth c Q D A nL h0 dA0 ad0 pc ls st h cs ss) : zbW p l e R s m args below meth c Q D A nL h0 dA0 ad0 pc ls st h cs ss := by
  intro dA ad H locs lc hag hlen h4 hP hD hK hS hl
  obtain ⟨hx, hb, hml, hown, hts, hnw, hA, hlocks, hrt, hin⟩ := hX
  unfold zbstep at hz
  dsimp only at hz
  split at hz
  · -- aload_n
    obtain ⟨rfl, hk2⟩ := hw
    split at hz
    · rename_i x hv
      exact lv_aload_n hx hb hdg hk2 (zzlc_at hl hv) (hk _ _ _ _ _ _ hz dA ad H locs lc hag hlen h4 hP hD hK hS hl)
    · cases hz
  · -- iload_n
    obtain ⟨rfl, hk2⟩ := hw
    split at hz
    · rename_i x hv
      exact lv_iload_n hx hb hdg hk2 (zzlc_at hl hv) (hk _ _ _ _ _ _ hz dA ad H locs lc hag hlen h4 hP hD hK hS hl)
    · cases hz
  · -- istore_n
    obtain ⟨rfl, hk2, hk3⟩ := hw
    exact lv_istore_n hx hb hdg hk2 hl hk3 (zzlc_set1 (ad := ad) (v := .int _)) (fun lc' hl' => hk _ _ _ _ _ _ hz dA ad H locs lc' hag hlen h4 hP hD hK hS hl')
  · -- iinc
    obtain ⟨rfl, hk2, hv⟩ := hw
    split at hz
    · rename_i x hv2
      obtain ⟨j, hj2⟩ := List.getElem?_of_mem (show (_, Value.int x) ∈ zzlc ad ls from List.mem_map.mpr ⟨(_, .int x), zzlk_mem hv2, rfl⟩)
      exact lv_iinc (v := zzinc x (zzfst aux)) hx hb hdg hl hj2 (by rw [hv]; exact zzinc_eq _ _) hk2 (zzlc_set1 (ad := ad) (v := .int (zzinc x (zzfst aux)))) (fun lc' hl' => hk _ _ _ _ _ _ hz dA ad H locs lc' hag hlen h4 hP hD hK hS hl')
    · cases hz
  · obtain ⟨rfl, hv⟩ := hw
    exact lv_iconst hx hb hdg hv (hk _ _ _ _ _ _ hz dA ad H locs lc hag hlen h4 hP hD hK hS hl)
  · obtain ⟨rfl, hv⟩ := hw
    exact lv_bipush hx hb hdg hv (hk _ _ _ _ _ _ hz dA ad H locs lc hag hlen h4 hP hD hK hS hl)
  · obtain ⟨rfl, hv⟩ := hw
    exact lv_sipush hx hb hdg hv (hk _ _ _ _ _ _ hz dA ad H locs lc hag hlen h4 hP hD hK hS hl)
  · -- dup
    cases hw
    exact lv_dup hx hb hdg rfl (hk _ _ _ _ _ _ hz dA ad H locs lc hag hlen h4 hP hD hK hS hl)
  · obtain ⟨rfl, ht⟩ := hw
    exact lv_goto hx hb hdg ht (hk _ _ _ _ _ _ hz dA ad H locs lc hag hlen h4 hP hD hK hS hl)
  · -- if_icmpge
    obtain ⟨rfl, ht⟩ := hw
    split at hz
    · rename_i hc
      exact lv_icmp_ge hx hb hdg ht (fun _ => hk _ _ _ _ _ _ hz dA ad H locs lc hag hlen h4 hP hD hK hS hl) (fun z => absurd hc z)
    · rename_i hc
      exact lv_icmp_ge hx hb hdg ht (fun z => absurd z hc) (fun _ => hk _ _ _ _ _ _ hz dA ad H locs lc hag hlen h4 hP hD hK hS hl)
  · -- getfield
    rename_i j a r
    obtain ⟨rfl, q, hq, hk2, hlk⟩ := hw
    obtain ⟨ty, hty, hnm, hin2⟩ := zzcls _ _ hq
    split at hz
    · rename_i ci fs hc
      cases hbq : ci.beq (zzfst aux).1 with
      | false => rw [hbq] at hz; cases hz
      | true =>
        rw [hbq] at hz
        have hci := Nat.eq_of_beq_eq_true hbq
        subst hci
        simp only [cond_true] at hz
        split at hz
        · rename_i v hv
          refine va_get (C := q.1) (T := q.2.1) (N := q.2.2) (v := zzcv ad v) hx hb hts hin2 hown hK hP a (zbw_at hc) hq (zzfst aux).2 hk2 (hts _ hlk) (fun _ h9 => h9) ?_ hdg (hk _ _ _ _ _ _ hz dA ad H locs lc hag hlen h4 hP hD hK hS hl)
          show (fs.map (zzcv ad))[(zzfst aux).2]? = _
          rw [List.getElem?_map, hv]
          rfl
        · cases hz
    · cases hz
  · -- putfield
    rename_i j v a r
    obtain ⟨rfl, q, hq, hk2, hlk, hdecl⟩ := hw
    obtain ⟨ty, hty, hnm, hin2⟩ := zzcls _ _ hq
    split at hz
    · rename_i ci fs r2 hc hr2
      cases hr2.symm.trans hq
      split at hz
      · rename_i ty1 hty1
        cases hbq : (ci.beq (zzfst aux).1 && (zzfst aux).2.blt fs.length && zbfit ty1 v) with
        | false => rw [hbq] at hz; cases hz
        | true =>
          rw [hbq] at hz
          simp only [cond_true] at hz
          simp only [Bool.and_eq_true] at hbq
          have hci := Nat.eq_of_beq_eq_true hbq.1.1
          subst hci
          have hfl : (zzfst aux).2 < fs.length := by simpa [Nat.blt_eq] using hbq.1.2
          obtain ⟨hnar, hfit⟩ := zbfit_s (ad := ad) hbq.2
          have hw4 : zb4 (.inl ((zzfst aux).1, fs.set (zzfst aux).2 v) : zbE) = zb4 (.inl ((zzfst aux).1, fs) : zbE) := rfl
          have hgo : ∀ (H1 : Heap) (locs1 : List Loc), va_P D zzcl ((zbw dA ad h).set a (ad a, .inr ((zzfst aux).1, (fs.map (zzcv ad)).set (zzfst aux).2 (zzcv ad v)))) H1 → va_D A ((zbw dA ad h).set a (ad a, .inr ((zzfst aux).1, (fs.map (zzcv ad)).set (zzfst aux).2 (zzcv ad v)))) → va_S A s.heap H1 locs1 → W p l e R s m args below meth c H1 locs1 cs ss Q (F0 m (pc + 3) lc (r.map (zzcv ad))) := by
            intro H1 locs1 hP1 hD1 hS1
            rw [zbw_set (e := .inl ((zzfst aux).1, fs.set (zzfst aux).2 v)) (by show (Sum.inr ((zzfst aux).1, (fs.set (zzfst aux).2 v).map (zzcv ad)) : va_E) = _; rw [List.map_set])] at hP1 hD1
            exact hk _ _ _ _ _ _ hz dA ad H1 locs1 lc hag (by rw [List.length_set]; exact hlen) (fun z => by rw [zb4_set hc hw4]; exact h4 z) hP1 hD1 (by rw [zbtys_set hc hw4]; exact hK) hS1 hl
          have hlen2 : (zzfst aux).2 < (fs.map (zzcv ad)).length := by rw [List.length_map]; exact hfl
          cases hfin : (q.2.1 (zzfst aux).2).2.2.2 with
          | false => exact va_put (C := q.1) (T := q.2.1) (N := q.2.2) (ty := ty1) (v := zzcv ad v) hx hb hts hin2 ty hty hnm hown hK hP hD hS a (zbw_at hc) hq (zzfst aux).2 hk2 (hts _ hlk) (fun _ h9 => h9) hfin hty1 hnar hfit hlen2 hdg hgo
          | true => exact va_putF (C := q.1) (T := q.2.1) (N := q.2.2) (ty := ty1) (v := zzcv ad v) hx hb hts hin2 ty hty hnm hown hK hP hD hS a (zbw_at hc) hq (zzfst aux).2 hk2 (hts _ hlk) (fun _ h9 => h9) hfin hin hdecl hty1 hnar hfit hlen2 hdg hgo
      · simp at hz
    · cases hz
  · -- iastore
    rename_i v j a r
    cases hw
    split at hz
    · rename_i n us rs hc
      split at hz
      · cases hz
      · rename_i hj
        have hw4 : zb4 (.inr (0, n, (j.toNatClampNeg, v) :: us, rs) : zbE) = zb4 (.inr (0, n, us, rs) : zbE) := rfl
        refine va_iast hx hb hK hP hD hS a 0 (zbw_at hc) rfl hj hdg (fun H1 locs1 hP1 hD1 hS1 => ?_)
        have e9 := zbw_set (dA := dA) (ad := ad) (h := h) (i := a) (e := .inr (0, n, (j.toNatClampNeg, v) :: us, rs)) rfl
        exact hk _ _ _ _ _ _ hz dA ad H1 locs1 lc hag (by rw [List.length_set]; exact hlen) (fun z => by rw [zb4_set hc hw4]; exact h4 z) (by rw [← e9]; exact hP1) (by rw [← e9]; exact hD1) (by rw [zbtys_set hc hw4]; exact hK) hS1 hl
    · cases hz
  · -- new
    obtain ⟨rfl, q, hq, hk2, hlk, hins, hini⟩ := hw
    obtain ⟨ty, hty, hnm, hin2⟩ := zzcls _ _ hq
    cases hbq : (zbok ls st h && (cs + 1).ble lim.1 && (ss + (zzfst aux).2).ble lim.2) with
    | false => rw [hbq] at hz; cases hz
    | true =>
      rw [hbq] at hz
      simp only [cond_true] at hz
      simp only [Bool.and_eq_true] at hbq
      obtain ⟨o1, o2, o3⟩ := zbok_s hbq.1.1
      rw [hk2] at hz hbq
      refine va_new (C := q.1) (T := q.2.1) (N := q.2.2) (fs := (zbnull (zzfst aux).1).map (zzcv ad)) hx hb hts hin2 ty hty hown (hts _ hlk) (hts _ hins) (hts _ hini) hK hP hD hS hA hq (zbnull_at hq hty ad) (by rw [hR.1]; exact Nat.le_of_ble_eq_true hbq.1.2) (by rw [hR.2.1]; exact Nat.le_of_ble_eq_true hbq.2) hdg (fun x H1 hP1 hD1 hS1 => ?_)
      rw [zbnull_cv, zbnew (e := .inl ((zzfst aux).1, zbnull (zzfst aux).1)) o3 (by show (Sum.inr ((zzfst aux).1, (zbnull (zzfst aux).1).map (zzcv (zbad ad h.length x))) : va_E) = _; rw [zbnull_cv])] at hP1 hD1
      have key := hk _ _ _ _ _ _ hz dA (zbad ad h.length x) H1 locs lc (zbag_trans hag zbag_push hlen h4) (by rw [List.length_append]; omega) (fun z => by rw [zb4_push, h4 z, Bool.true_or]) hP1 hD1 (by rw [zbtys_push rfl]; exact hK) hS1 (by rw [zbls_ag (zbag_push (dA := dA)).1 o1]; exact hl)
      rw [List.map_cons, zbrs_ag (zbag_push (dA := dA)).1 o2] at key
      have e1 : zzcv (zbad ad h.length x) (.ref h.length) = .ref x := by show Value.ref (if h.length = h.length then x else _) = _; rw [if_pos rfl]
      rw [e1] at key
      exact key
  · -- newarray
    rename_i t n r
    obtain ⟨rfl, harr⟩ := hw
    split at hz
    · cases hz
    · rename_i hn
      cases hbq : (zbok ls r h && (cs + 1).ble lim.1 && (ss + n.toNatClampNeg).ble lim.2 && n.toNatClampNeg.ble 100000 && (zbkind t).ble 3) with
      | false => rw [hbq] at hz; cases hz
      | true =>
      rw [hbq] at hz
      simp only [cond_true] at hz
      simp only [Bool.and_eq_true] at hbq
      obtain ⟨o1, o2, o3⟩ := zbok_s hbq.1.1.1.1
      have hc1 : cs + 1 ≤ R.cells := by rw [hR.1]; exact Nat.le_of_ble_eq_true hbq.1.1.1.2
      have hc2 : ss + n.toNatClampNeg ≤ R.slots := by rw [hR.2.1]; exact Nat.le_of_ble_eq_true hbq.1.1.2
      have hn5 : n.toNatClampNeg ≤ 100000 := Nat.le_of_ble_eq_true hbq.1.2
      cases t with
      | int =>
        refine va_newa (atype := .int) (ty := .int) (a0 := (n.toNatClampNeg, .inl (fun _ => 0))) hx hb (hts _ harr) rfl hK hP hD hS hA (fun _ => rfl) hn rfl (by show n.toNatClampNeg * 4 ≤ _; omega) hc1 hc2 hdg (fun x cA H1 hK1 hP1 hD1 hS1 => ?_)
        have hcA : cA = dA 0 := zbcA hK1 (k := 0) rfl (by simp)
        subst hcA
        have e9 := zbnew (dA := dA) (ad := ad) (q := x) (e := .inr (zbkind .int, n.toNatClampNeg, [], [])) o3 rfl
        have key := hk _ _ _ _ _ _ hz dA (zbad ad h.length x) H1 locs lc (zbag_trans hag zbag_push hlen h4) (by rw [List.length_append]; omega) (fun z => by rw [zb4_push, h4 z, Bool.true_or]) (by rw [← e9]; exact hP1) (by rw [← e9]; exact hD1) (by rw [zbtys_push rfl]; exact hK) hS1 (by rw [zbls_ag (zbag_push (dA := dA)).1 o1]; exact hl)
        rw [List.map_cons, zbrs_ag (zbag_push (dA := dA)).1 o2, zbad_at] at key
        exact key
      | boolean =>
        refine va_newa (atype := .boolean) (ty := .boolean) (a0 := (n.toNatClampNeg, .inl (fun _ => 0))) hx hb (hts _ harr) rfl hK hP hD hS hA (fun _ => rfl) hn rfl (by show n.toNatClampNeg * 1 ≤ _; omega) hc1 hc2 hdg (fun x cA H1 hK1 hP1 hD1 hS1 => ?_)
        have hcA : cA = dA 1 := zbcA hK1 (k := 1) rfl (by simp)
        subst hcA
        have e9 := zbnew (dA := dA) (ad := ad) (q := x) (e := .inr (zbkind .boolean, n.toNatClampNeg, [], [])) o3 rfl
        have key := hk _ _ _ _ _ _ hz dA (zbad ad h.length x) H1 locs lc (zbag_trans hag zbag_push hlen h4) (by rw [List.length_append]; omega) (fun z => by rw [zb4_push, h4 z, Bool.true_or]) (by rw [← e9]; exact hP1) (by rw [← e9]; exact hD1) (by rw [zbtys_push rfl]; exact hK) hS1 (by rw [zbls_ag (zbag_push (dA := dA)).1 o1]; exact hl)
        rw [List.map_cons, zbrs_ag (zbag_push (dA := dA)).1 o2, zbad_at] at key
        exact key
      | byte =>
        refine va_newa (atype := .byte) (ty := .byte) (a0 := (n.toNatClampNeg, .inl (fun _ => 0))) hx hb (hts _ harr) rfl hK hP hD hS hA (fun _ => rfl) hn rfl (by show n.toNatClampNeg * 1 ≤ _; omega) hc1 hc2 hdg (fun x cA H1 hK1 hP1 hD1 hS1 => ?_)
        have hcA : cA = dA 2 := zbcA hK1 (k := 2) rfl (by simp)
        subst hcA
        have e9 := zbnew (dA := dA) (ad := ad) (q := x) (e := .inr (zbkind .byte, n.toNatClampNeg, [], [])) o3 rfl
        have key := hk _ _ _ _ _ _ hz dA (zbad ad h.length x) H1 locs lc (zbag_trans hag zbag_push hlen h4) (by rw [List.length_append]; omega) (fun z => by rw [zb4_push, h4 z, Bool.true_or]) (by rw [← e9]; exact hP1) (by rw [← e9]; exact hD1) (by rw [zbtys_push rfl]; exact hK) hS1 (by rw [zbls_ag (zbag_push (dA := dA)).1 o1]; exact hl)
        rw [List.map_cons, zbrs_ag (zbag_push (dA := dA)).1 o2, zbad_at] at key
        exact key
      | long =>
        refine va_newa (atype := .long) (ty := .long) (a0 := (n.toNatClampNeg, .inr (.inl (fun _ => 0)))) hx hb (hts _ harr) rfl hK hP hD hS hA (fun _ => rfl) hn rfl (by show n.toNatClampNeg * 8 ≤ _; omega) hc1 hc2 hdg (fun x cA H1 hK1 hP1 hD1 hS1 => ?_)
        have hcA : cA = dA 3 := zbcA hK1 (k := 3) rfl (by simp)
        subst hcA
        have e9 := zbnew (dA := dA) (ad := ad) (q := x) (e := .inr (zbkind .long, n.toNatClampNeg, [], [])) o3 rfl
        have key := hk _ _ _ _ _ _ hz dA (zbad ad h.length x) H1 locs lc (zbag_trans hag zbag_push hlen h4) (by rw [List.length_append]; omega) (fun z => by rw [zb4_push, h4 z, Bool.true_or]) (by rw [← e9]; exact hP1) (by rw [← e9]; exact hD1) (by rw [zbtys_push rfl]; exact hK) hS1 (by rw [zbls_ag (zbag_push (dA := dA)).1 o1]; exact hl)
        rw [List.map_cons, zbrs_ag (zbag_push (dA := dA)).1 o2, zbad_at] at key
        exact key
      | _ => exact absurd hbq.2 (by decide)
  · -- anewarray
    rename_i j n r
    obtain ⟨rfl, hlk⟩ := hw
    split at hz
    · cases hz
    · rename_i hn
      cases hbq : (zbok ls r h && (cs + 1).ble lim.1 && (ss + n.toNatClampNeg).ble lim.2 && n.toNatClampNeg.ble 100000 && !h.any zb4) with
      | false => rw [hbq] at hz; cases hz
      | true =>
        rw [hbq] at hz
        simp only [cond_true] at hz
        simp only [Bool.and_eq_true] at hbq
        obtain ⟨o1, o2, o3⟩ := zbok_s hbq.1.1.1.1
        have hn5 : n.toNatClampNeg ≤ 100000 := Nat.le_of_ble_eq_true hbq.1.2
        have h40 : h.any zb4 = false := by simpa using hbq.2
        refine va_newq (C := "PackedForest$Setting") hx hb hown (hts _ hlk) hnw.2 hK hP hD hS hA hn rfl (by omega) (by rw [hR.1]; exact Nat.le_of_ble_eq_true hbq.1.1.1.2) (by rw [hR.2.1]; exact Nat.le_of_ble_eq_true hbq.1.1.2) hdg (fun x cA H1 hK1 hP1 hD1 hS1 => ?_)
        have hag2 : zbag h dA ad (fun k => if k = 4 then cA else dA k) (zbad ad h.length x) := ⟨fun i hi => if_neg (Nat.ne_of_lt hi), fun k hk => if_neg (by omega), fun z => by rw [h40] at z; cases z⟩
        have e9 : zbw dA ad h ++ [(x, .inl (cA, n.toNatClampNeg, .inr (.inr (.inr (.inr (fun _ => none))))))] = zbw (fun k => if k = 4 then cA else dA k) (zbad ad h.length x) (h ++ [.inr (4, n.toNatClampNeg, [], [])]) := by
          rw [zbw_push, zbw_ag hag2 o3]
          show _ = _ ++ [((if h.length = h.length then x else ad h.length), _)]
          rw [if_pos rfl]
          rfl
        have eT : zbtys (fun k => if k = 4 then cA else dA k) (h ++ [.inr (4, n.toNatClampNeg, [], [])]) = zbtys dA h ++ [(cA, .object "PackedForest$Setting")] := by
          unfold zbtys
          rw [zb4_push, h40]
          rfl
        have key := hk _ _ _ _ _ _ hz (fun k => if k = 4 then cA else dA k) (zbad ad h.length x) H1 locs lc (zbag_trans hag hag2 hlen h4) (by rw [List.length_append]; omega) (fun z => by rw [zb4_push, h4 z, Bool.true_or]) (by rw [← e9]; exact hP1) (by rw [← e9]; exact hD1) (by rw [eT]; exact hK1) hS1 (by rw [zbls_ag hag2.1 o1]; exact hl)
        rw [List.map_cons, zbrs_ag hag2.1 o2, zbad_at] at key
        exact key
  · -- aastore
    rename_i b j a r
    cases hw
    split at hz
    · rename_i n us rs ci fs hc hv
      split at hz
      · cases hz
      · rename_i hj
        cases hbq : (ci.beq 7 && j.toNatClampNeg.beq rs.length) with
        | false => rw [hbq] at hz; cases hz
        | true =>
          rw [hbq] at hz
          simp only [cond_true] at hz
          simp only [Bool.and_eq_true] at hbq
          have hci : ci = 7 := Nat.eq_of_beq_eq_true hbq.1
          have hjl : j.toNatClampNeg = rs.length := Nat.eq_of_beq_eq_true hbq.2
          subst hci
          have hw4 : zb4 (.inr (4, n, us, rs ++ [some b]) : zbE) = zb4 (.inr (4, n, us, rs) : zbE) := rfl
          have hh4 : h.any zb4 = true := List.any_eq_true.mpr ⟨_, List.mem_of_getElem? hc, rfl⟩
          refine va_astq (r := (zzR7, zzT7, 11)) hx hb hK hP hD hS a 4 b 7 (zbw_at hc) (zbtys_4 dA hh4) (zbw_at hv) rfl hj hdg (fun H1 locs1 hP1 hD1 hS1 => ?_)
          have e9 := zbw_set (dA := dA) (ad := ad) (h := h) (i := a) (e := .inr (4, n, us, rs ++ [some b])) (x := .inl (dA 4, n, .inr (.inr (.inr (.inr (va_up (fun j => ((rs)[j]?.join).map ad) j.toNatClampNeg (some (ad b)))))))) (by
            show (Sum.inl (dA 4, n, .inr (.inr (.inr (.inr (fun j => ((rs ++ [some b])[j]?.join).map ad))))) : va_E) = _
            congr 7
            funext i
            unfold va_up
            rw [hjl]
            by_cases hi : i = rs.length
            · subst hi
              rw [if_pos rfl, List.getElem?_append_right (Nat.le_refl _), Nat.sub_self]
              rfl
            · rw [if_neg hi]
              by_cases hi2 : i < rs.length
              · rw [List.getElem?_append_left hi2]
              · show Option.map ad ((rs ++ [some b])[i]?.join) = Option.map ad (rs[i]?.join)
                rw [List.getElem?_eq_none (by rw [List.length_append]; show rs.length + 1 ≤ i; omega), List.getElem?_eq_none (show rs.length ≤ i by omega)])
          exact hk _ _ _ _ _ _ hz dA ad H1 locs1 lc hag (by rw [List.length_set]; exact hlen) (fun z => by rw [zb4_set hc hw4]; exact h4 z) (by rw [← e9]; exact hP1) (by rw [← e9]; exact hD1) (by rw [zbtys_set hc hw4]; exact hK) hS1 hl
    · cases hz
  · -- invokespecial
    obtain ⟨rfl, hw⟩ := hw
    obtain ⟨⟨as, rest0⟩, hq, hz9⟩ := Option.bind_eq_some_iff.mp hz
    clear hz
    have hz := hz9
    clear hz9
    obtain ⟨bs, hbl, hst, has⟩ := zzcut_s _ _ _ _ _ hq
    rw [List.append_nil] at has
    subst has
    dsimp only at hz
    split at hz
    · rename_i a r
      cases hy : (zzfst aux).1 with
      | zero =>
        rw [hy] at hz hw
        dsimp only at hz
        cases hbq : (as.isEmpty && (zzcat r).ble 8) with
        | false => rw [hbq] at hz; cases hz
        | true =>
          rw [hbq] at hz
          simp only [cond_true] at hz
          simp only [Bool.and_eq_true, List.isEmpty_iff] at hbq
          obtain ⟨hbe, hb8⟩ := hbq
          subst hbe
          have hr8 : ((r.map (zzcv ad)).map fun v => v.category).sum ≤ 8 := by rw [zzcat_s]; exact Nat.le_of_ble_eq_true hb8
          have hst : st = .ref a :: r := hst
          subst hst
          exact W.objInit (g := F0 m pc lc (.ref (ad a) :: r.map (zzcv ad))) hx hb hown (hts _ hw.1) (hts _ hw.2.1) (hts _ hw.2.2) rfl (hl.1.trans hml.symm) rfl hdg hR.2.2.1 (by show 2 * 0 + _ + 12 ≤ _; have := hR.2.2.2; omega) (hk _ _ _ _ _ _ hz dA ad H locs lc hag hlen h4 hP hD hK hS hl)
      | succ y =>
        rw [hy] at hz hw
        dsimp only at hz
        obtain ⟨q, hPq, ⟨hcode, hini, hins, hnm, hc1, hc2, hmL⟩, hpar, hlink⟩ := hw
        rw [hPq] at hz
        dsimp only at hz
        cases hbq : (zbok ls st h && (zzcat r).ble 8 && (cs + q.2.2.2.1.1).ble lim.1 && (ss + q.2.2.2.1.2).ble lim.2) with
        | false => rw [hbq] at hz; cases hz
        | true =>
          rw [hbq] at hz
          simp only [cond_true] at hz
          simp only [Bool.and_eq_true] at hbq
          obtain ⟨o1, o2, o3⟩ := zbok_s hbq.1.1.1
          have hr8 : ((r.map (zzcv ad)).map fun v => v.category).sum ≤ 8 := by rw [zzcat_s]; exact Nat.le_of_ble_eq_true hbq.1.1.2
          obtain ⟨h2, hc, hz⟩ := Option.bind_eq_some_iff.mp hz
          cases hbz : (h.length.ble h2.length && (!h.any zb4 || h2.any zb4)) with
          | false => rw [hbz] at hz; cases hz
          | true =>
            rw [hbz] at hz
            simp only [cond_true] at hz
            simp only [Bool.and_eq_true] at hbz
            have hl2 : h.length ≤ h2.length := Nat.le_of_ble_eq_true hbz.1
            have h42 : h.any zb4 = true → h2.any zb4 = true := fun z => by have := hbz.2; rw [z] at this; simpa using this
            obtain ⟨d, hRf, hRl, hM⟩ := hcall y _ _ _ hc q hPq
            have hA1 : ∀ x, zbA ad h.length H.size x → A x := by
              intro x hx2
              rcases hx2 with ⟨i, hi, rfl⟩ | hx2
              · have hi2 : h[i]? = some h[i] := List.getElem?_eq_getElem hi
                exact hD.2 i _ (zbw_at hi2)
              · exact hA x (Nat.le_trans hS.1 hx2)
            have hstk : st.map (zzcv ad) = (as.map (zzcv ad)).reverse ++ .ref (ad a) :: r.map (zzcv ad) := by rw [hst, List.map_append, List.map_reverse]; rfl
            have hor : r.all (zbr h.length) = true := by
              rw [hst, List.all_append, Bool.and_eq_true, List.all_cons, Bool.and_eq_true] at o2
              exact o2.2.2
            have hroom : (zbroom d q.2.2.2.1).frames + 1 ≤ R.frames ∧ 8 + (q.2.2.1 + 11) + (zbroom d q.2.2.2.1).locals ≤ R.locals := ⟨by rw [hRf]; exact Nat.le_refl _, by rw [hRl]; show 8 + (q.2.2.1 + 11) + 40 * (d + 1) ≤ 40 * (d + 2); omega⟩
            have hpre : PreS s H (zbPc D dA ad (.ref a :: as) h H.size) (.ref (ad a) :: as.map (zzcv ad)) := ⟨fun a U g mk q => by
                obtain ⟨q0, q1, qP, qD, qK, qN, qO⟩ := q
                exact ⟨q0, q1, qP, qD, va_K.moved (u := U) (U := U.calling g mk a) (Vm.Alike.refl U.vm) qK, fun z hz => va_Nw.same rfl rfl (qN z hz), va_AO.moved (u := U) (U := U.calling g mk a) (Vm.Alike.refl U.vm) qO⟩,
              fun U hU hW => ⟨rfl, by rw [hU], by rw [hU]; exact hP, hD.weaken (fun _ _ _ _ => trivial), va_K.moved hW.alike hK, fun z hz => va_Nw.warmM hW (hnw.1 z hz), va_AO.moved hW.alike hnw.2⟩⟩
            have hgo : ∀ (dA2 : Nat → ClassId) (ad2 : Nat → Nat) (H1 : Heap) (locs1 : List Loc), zbag h dA ad dA2 ad2 → va_P D zzcl (zbw dA2 ad2 h2) H1 → va_D (zbA ad h.length H.size) (zbw dA2 ad2 h2) → va_K D zzcl (zbtys dA2 h2) s → va_S A s.heap H1 locs1 → W p l e R s m args below meth c H1 locs1 (cs + q.2.2.2.1.1) (ss + q.2.2.2.1.2) Q (F0 m (pc + 3) lc (r.map (zzcv ad))) := by
              intro dA2 ad2 H1 locs1 hag2 hP1 hD1 hK1 hS1
              have key := hk _ _ _ _ _ _ hz dA2 ad2 H1 locs1 lc (zbag_trans hag hag2 hlen h4) (Nat.le_trans hlen hl2) (fun z => h42 (h4 z)) hP1 (hD1.weaken (fun _ x _ z => hA1 x.1 z)) hK1 hS1 (by rw [zbls_ag hag2.1 o1]; exact hl)
              rw [zbrs_ag hag2.1 hor] at key
              exact key
            have hf : cs + q.2.2.2.1.1 ≤ R.cells ∧ ss + q.2.2.2.1.2 ≤ R.slots := ⟨by rw [hR.1]; exact Nat.le_of_ble_eq_true hbq.1.2, by rw [hR.2.1]; exact Nat.le_of_ble_eq_true hbq.2⟩
            rcases hlink with hlink | hlink
            · exact zbcall (va_runI (As := as.map (zzcv ad)) (rest := r.map (zzcv ad)) ⟨hx, hb, hml, hown, hts⟩ (hM dA ad H.size) (cwI (zzfst aux).2 hts (zzgoodIn hcode) rfl rfl rfl (hts _ hini) (hts _ hlink) (hts _ hins) hnm ⟨hc1, hc2, hpar⟩ hroom) hpre rfl (by rw [List.length_map, hbl]) hl.1 hstk (lv_room hr8) hdg hf) hS hA1 hgo
            · exact zbcall (va_runIN (As := as.map (zzcv ad)) (rest := r.map (zzcv ad)) ⟨hx, hb, hml, hown, hts⟩ (hM dA ad H.size) ⟨va_cnB (zzfst aux).2 hts (zzgoodIn hcode) rfl rfl rfl (hnw.1 _ hlink) (hts _ hini) ⟨hc1, hc2, hpar⟩ hroom, hnm, hts _ hins⟩ hpre rfl (by rw [List.length_map, hbl]) hl.1 hstk (lv_room hr8) hdg hf) hS hA1 hgo
    · cases hz
  · -- return
    cases hw
    cases hbq : (cs.ble lim.1 && ss.ble lim.2) with
    | false => rw [hbq] at hz; cases hz
    | true =>
      rw [hbq] at hz
      simp only [cond_true] at hz
      cases hz
      rw [Bool.and_eq_true] at hbq
      subst hQ
      refine W.widen (k := lim.1) (n := lim.2) (Nat.le_of_ble_eq_true hbq.1) (Nat.le_of_ble_eq_true hbq.2) ?_
      exact W.vret hx hb hrt (fun t ht hW => ⟨rfl, ⟨dA, ad, hag, by rw [ht]; exact hP, hD, va_K.moved hW.alike hK⟩, hS.F ht⟩) hS.2.2 hdg hlocks
  · cases hz
end
end
