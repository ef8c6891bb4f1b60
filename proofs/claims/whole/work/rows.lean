section
-- ===== PART A: goes FIRST, ahead of the names: the tables' words, and 'selects' of the private methods out of them =====
/-- a private method of a class that the tables say can be made, by its rows of tables_1 -/
def lw_okq (q : MethodName × Nat) : Prop := (q.1.cls ≠ "java/lang/invoke/MethodHandle" ∧ q.1.cls ≠ "java/lang/invoke/VarHandle") ∧ Cond.instantiable q.1.cls q.2 ∈ tables_1 ∧ Cond.privateMethod q.1 ∈ tables_1 ∧ Cond.instanceMethod q.1 ∈ tables_1
theorem lw_p0 : lw_okq (⟨"MistakesLent", "put", "(I)V"⟩, 16) := ⟨⟨by decide +kernel, by decide +kernel⟩, List.mem_of_getElem? (i := 26) (by decide +kernel), List.mem_of_getElem? (i := 596) (by decide +kernel), List.mem_of_getElem? (i := 597) (by decide +kernel)⟩
theorem lw_p1 : lw_okq (⟨"MistakesLent", "refuse", "(I)I"⟩, 16) := ⟨⟨by decide +kernel, by decide +kernel⟩, List.mem_of_getElem? (i := 26) (by decide +kernel), List.mem_of_getElem? (i := 604) (by decide +kernel), List.mem_of_getElem? (i := 605) (by decide +kernel)⟩
theorem lw_p2 : lw_okq (⟨"MistakesLent$Tokens", "takeWord", "()V"⟩, 7) := ⟨⟨by decide +kernel, by decide +kernel⟩, List.mem_of_getElem? (i := 319) (by decide +kernel), List.mem_of_getElem? (i := 627) (by decide +kernel), List.mem_of_getElem? (i := 628) (by decide +kernel)⟩
theorem lw_p3 : lw_okq (⟨"MistakesLent$Tokens", "takeWhole", "()V"⟩, 7) := ⟨⟨by decide +kernel, by decide +kernel⟩, List.mem_of_getElem? (i := 319) (by decide +kernel), List.mem_of_getElem? (i := 632) (by decide +kernel), List.mem_of_getElem? (i := 633) (by decide +kernel)⟩
theorem lw_p4 : lw_okq (⟨"MistakesLent$Reader", "findName", "()I"⟩, 10) := ⟨⟨by decide +kernel, by decide +kernel⟩, List.mem_of_getElem? (i := 313) (by decide +kernel), List.mem_of_getElem? (i := 636) (by decide +kernel), List.mem_of_getElem? (i := 637) (by decide +kernel)⟩
theorem lw_p5 : lw_okq (⟨"MistakesLent$Reader", "mayBegin", "(I)Z"⟩, 10) := ⟨⟨by decide +kernel, by decide +kernel⟩, List.mem_of_getElem? (i := 313) (by decide +kernel), List.mem_of_getElem? (i := 640) (by decide +kernel), List.mem_of_getElem? (i := 641) (by decide +kernel)⟩
theorem lw_p6 : lw_okq (⟨"MistakesLent$Reader", "fail", "(I)Z"⟩, 10) := ⟨⟨by decide +kernel, by decide +kernel⟩, List.mem_of_getElem? (i := 313) (by decide +kernel), List.mem_of_getElem? (i := 644) (by decide +kernel), List.mem_of_getElem? (i := 645) (by decide +kernel)⟩
theorem lw_p7 : lw_okq (⟨"MistakesLent$Reader", "failAt", "(II)Z"⟩, 10) := ⟨⟨by decide +kernel, by decide +kernel⟩, List.mem_of_getElem? (i := 313) (by decide +kernel), List.mem_of_getElem? (i := 648) (by decide +kernel), List.mem_of_getElem? (i := 649) (by decide +kernel)⟩
theorem lw_p8 : lw_okq (⟨"MistakesLent$Reader", "tellLine", "(I)Z"⟩, 10) := ⟨⟨by decide +kernel, by decide +kernel⟩, List.mem_of_getElem? (i := 313) (by decide +kernel), List.mem_of_getElem? (i := 653) (by decide +kernel), List.mem_of_getElem? (i := 654) (by decide +kernel)⟩
theorem lw_p9 : lw_okq (⟨"MistakesLent$Reader", "tellMuseum", "()Z"⟩, 10) := ⟨⟨by decide +kernel, by decide +kernel⟩, List.mem_of_getElem? (i := 313) (by decide +kernel), List.mem_of_getElem? (i := 657) (by decide +kernel), List.mem_of_getElem? (i := 658) (by decide +kernel)⟩
theorem lw_p10 : lw_okq (⟨"MistakesLent$Reader", "word", "(Ljava/lang/String;)Z"⟩, 10) := ⟨⟨by decide +kernel, by decide +kernel⟩, List.mem_of_getElem? (i := 313) (by decide +kernel), List.mem_of_getElem? (i := 662) (by decide +kernel), List.mem_of_getElem? (i := 663) (by decide +kernel)⟩
theorem lw_p11 : lw_okq (⟨"MistakesLent$Reader", "whole", "(II)Z"⟩, 10) := ⟨⟨by decide +kernel, by decide +kernel⟩, List.mem_of_getElem? (i := 313) (by decide +kernel), List.mem_of_getElem? (i := 672) (by decide +kernel), List.mem_of_getElem? (i := 673) (by decide +kernel)⟩
theorem lw_p12 : lw_okq (⟨"MistakesLent$Reader", "tellThing", "(I)Z"⟩, 10) := ⟨⟨by decide +kernel, by decide +kernel⟩, List.mem_of_getElem? (i := 313) (by decide +kernel), List.mem_of_getElem? (i := 679) (by decide +kernel), List.mem_of_getElem? (i := 680) (by decide +kernel)⟩
theorem lw_p13 : lw_okq (⟨"MistakesLent$Reader", "newName", "(I)Z"⟩, 10) := ⟨⟨by decide +kernel, by decide +kernel⟩, List.mem_of_getElem? (i := 313) (by decide +kernel), List.mem_of_getElem? (i := 683) (by decide +kernel), List.mem_of_getElem? (i := 684) (by decide +kernel)⟩
theorem lw_p14 : lw_okq (⟨"MistakesLent$Reader", "tellHarm", "(I)Z"⟩, 10) := ⟨⟨by decide +kernel, by decide +kernel⟩, List.mem_of_getElem? (i := 313) (by decide +kernel), List.mem_of_getElem? (i := 687) (by decide +kernel), List.mem_of_getElem? (i := 688) (by decide +kernel)⟩
theorem lw_p15 : lw_okq (⟨"MistakesLent$Reader", "tellNeed", "(LMistakesLent$Need;)Z"⟩, 10) := ⟨⟨by decide +kernel, by decide +kernel⟩, List.mem_of_getElem? (i := 313) (by decide +kernel), List.mem_of_getElem? (i := 691) (by decide +kernel), List.mem_of_getElem? (i := 692) (by decide +kernel)⟩
def lw_privs_1 : List (MethodName × Nat) := [(⟨"MistakesLent", "put", "(I)V"⟩, 16), (⟨"MistakesLent", "refuse", "(I)I"⟩, 16), (⟨"MistakesLent$Tokens", "takeWord", "()V"⟩, 7), (⟨"MistakesLent$Tokens", "takeWhole", "()V"⟩, 7), (⟨"MistakesLent$Reader", "findName", "()I"⟩, 10), (⟨"MistakesLent$Reader", "mayBegin", "(I)Z"⟩, 10), (⟨"MistakesLent$Reader", "fail", "(I)Z"⟩, 10), (⟨"MistakesLent$Reader", "failAt", "(II)Z"⟩, 10), (⟨"MistakesLent$Reader", "tellLine", "(I)Z"⟩, 10), (⟨"MistakesLent$Reader", "tellMuseum", "()Z"⟩, 10), (⟨"MistakesLent$Reader", "word", "(Ljava/lang/String;)Z"⟩, 10), (⟨"MistakesLent$Reader", "whole", "(II)Z"⟩, 10), (⟨"MistakesLent$Reader", "tellThing", "(I)Z"⟩, 10), (⟨"MistakesLent$Reader", "newName", "(I)Z"⟩, 10), (⟨"MistakesLent$Reader", "tellHarm", "(I)Z"⟩, 10), (⟨"MistakesLent$Reader", "tellNeed", "(LMistakesLent$Need;)Z"⟩, 10)]
theorem lw_r1 : ∀ q ∈ lw_privs_1, lw_okq q := List.forall_mem_cons.mpr ⟨lw_p0, List.forall_mem_cons.mpr ⟨lw_p1, List.forall_mem_cons.mpr ⟨lw_p2, List.forall_mem_cons.mpr ⟨lw_p3, List.forall_mem_cons.mpr ⟨lw_p4, List.forall_mem_cons.mpr ⟨lw_p5, List.forall_mem_cons.mpr ⟨lw_p6, List.forall_mem_cons.mpr ⟨lw_p7, List.forall_mem_cons.mpr ⟨lw_p8, List.forall_mem_cons.mpr ⟨lw_p9, List.forall_mem_cons.mpr ⟨lw_p10, List.forall_mem_cons.mpr ⟨lw_p11, List.forall_mem_cons.mpr ⟨lw_p12, List.forall_mem_cons.mpr ⟨lw_p13, List.forall_mem_cons.mpr ⟨lw_p14, List.forall_mem_cons.mpr ⟨lw_p15, fun _ h => absurd h List.not_mem_nil⟩⟩⟩⟩⟩⟩⟩⟩⟩⟩⟩⟩⟩⟩⟩⟩
theorem lw_p16 : lw_okq (⟨"MistakesLent$Reader", "usedName", "(I)Z"⟩, 10) := ⟨⟨by decide +kernel, by decide +kernel⟩, List.mem_of_getElem? (i := 313) (by decide +kernel), List.mem_of_getElem? (i := 695) (by decide +kernel), List.mem_of_getElem? (i := 696) (by decide +kernel)⟩
theorem lw_p17 : lw_okq (⟨"MistakesLent$Reader", "tellDeed", "(LMistakesLent$Deed;)Z"⟩, 10) := ⟨⟨by decide +kernel, by decide +kernel⟩, List.mem_of_getElem? (i := 313) (by decide +kernel), List.mem_of_getElem? (i := 702) (by decide +kernel), List.mem_of_getElem? (i := 703) (by decide +kernel)⟩
theorem lw_p18 : lw_okq (⟨"MistakesLent$Reader", "tellEffect", "(LMistakesLent$Deed;)Z"⟩, 10) := ⟨⟨by decide +kernel, by decide +kernel⟩, List.mem_of_getElem? (i := 313) (by decide +kernel), List.mem_of_getElem? (i := 706) (by decide +kernel), List.mem_of_getElem? (i := 707) (by decide +kernel)⟩
theorem lw_p19 : lw_okq (⟨"MistakesLent$Reader", "tellPlan", "(LMistakesLent$Steps;)Z"⟩, 10) := ⟨⟨by decide +kernel, by decide +kernel⟩, List.mem_of_getElem? (i := 313) (by decide +kernel), List.mem_of_getElem? (i := 712) (by decide +kernel), List.mem_of_getElem? (i := 713) (by decide +kernel)⟩
theorem lw_p20 : lw_okq (⟨"MistakesLent$Reader", "tellSlip", "(LMistakesLent$Slip;)Z"⟩, 10) := ⟨⟨by decide +kernel, by decide +kernel⟩, List.mem_of_getElem? (i := 313) (by decide +kernel), List.mem_of_getElem? (i := 720) (by decide +kernel), List.mem_of_getElem? (i := 721) (by decide +kernel)⟩
theorem lw_p21 : lw_okq (⟨"MistakesLent$Reader", "mistake", "()I"⟩, 10) := ⟨⟨by decide +kernel, by decide +kernel⟩, List.mem_of_getElem? (i := 313) (by decide +kernel), List.mem_of_getElem? (i := 724) (by decide +kernel), List.mem_of_getElem? (i := 725) (by decide +kernel)⟩
theorem lw_p22 : lw_okq (⟨"MistakesLent$Reader", "tellPerson", "(I)Z"⟩, 10) := ⟨⟨by decide +kernel, by decide +kernel⟩, List.mem_of_getElem? (i := 313) (by decide +kernel), List.mem_of_getElem? (i := 734) (by decide +kernel), List.mem_of_getElem? (i := 735) (by decide +kernel)⟩
theorem lw_p23 : lw_okq (⟨"MistakesLent$Reader", "tellAsk", "(I)Z"⟩, 10) := ⟨⟨by decide +kernel, by decide +kernel⟩, List.mem_of_getElem? (i := 313) (by decide +kernel), List.mem_of_getElem? (i := 740) (by decide +kernel), List.mem_of_getElem? (i := 741) (by decide +kernel)⟩
theorem lw_p24 : lw_okq (⟨"MistakesLent$Reader", "tellEnds", "()Z"⟩, 10) := ⟨⟨by decide +kernel, by decide +kernel⟩, List.mem_of_getElem? (i := 313) (by decide +kernel), List.mem_of_getElem? (i := 745) (by decide +kernel), List.mem_of_getElem? (i := 746) (by decide +kernel)⟩
theorem lw_p25 : lw_okq (⟨"MistakesLent$Reader", "checkWhole", "()Z"⟩, 10) := ⟨⟨by decide +kernel, by decide +kernel⟩, List.mem_of_getElem? (i := 313) (by decide +kernel), List.mem_of_getElem? (i := 749) (by decide +kernel), List.mem_of_getElem? (i := 750) (by decide +kernel)⟩
theorem lw_p26 : lw_okq (⟨"MistakesLent", "tell", "(I)I"⟩, 16) := ⟨⟨by decide +kernel, by decide +kernel⟩, List.mem_of_getElem? (i := 26) (by decide +kernel), List.mem_of_getElem? (i := 769) (by decide +kernel), List.mem_of_getElem? (i := 770) (by decide +kernel)⟩
theorem lw_p27 : lw_okq (⟨"MistakesLent", "has", "(II)Z"⟩, 16) := ⟨⟨by decide +kernel, by decide +kernel⟩, List.mem_of_getElem? (i := 26) (by decide +kernel), List.mem_of_getElem? (i := 785) (by decide +kernel), List.mem_of_getElem? (i := 786) (by decide +kernel)⟩
theorem lw_p28 : lw_okq (⟨"MistakesLent", "isRun", "(III)Z"⟩, 16) := ⟨⟨by decide +kernel, by decide +kernel⟩, List.mem_of_getElem? (i := 26) (by decide +kernel), List.mem_of_getElem? (i := 805) (by decide +kernel), List.mem_of_getElem? (i := 806) (by decide +kernel)⟩
theorem lw_p29 : lw_okq (⟨"MistakesLent", "isChoice", "(I)Z"⟩, 16) := ⟨⟨by decide +kernel, by decide +kernel⟩, List.mem_of_getElem? (i := 26) (by decide +kernel), List.mem_of_getElem? (i := 809) (by decide +kernel), List.mem_of_getElem? (i := 810) (by decide +kernel)⟩
theorem lw_p30 : lw_okq (⟨"MistakesLent$Runner", "make", "(I)V"⟩, 6) := ⟨⟨by decide +kernel, by decide +kernel⟩, List.mem_of_getElem? (i := 34) (by decide +kernel), List.mem_of_getElem? (i := 821) (by decide +kernel), List.mem_of_getElem? (i := 822) (by decide +kernel)⟩
theorem lw_p31 : lw_okq (⟨"MistakesLent$Runner", "stepOf", "(LMistakesLent$Steps;I)I"⟩, 6) := ⟨⟨by decide +kernel, by decide +kernel⟩, List.mem_of_getElem? (i := 34) (by decide +kernel), List.mem_of_getElem? (i := 825) (by decide +kernel), List.mem_of_getElem? (i := 826) (by decide +kernel)⟩
def lw_privs_2 : List (MethodName × Nat) := [(⟨"MistakesLent$Reader", "usedName", "(I)Z"⟩, 10), (⟨"MistakesLent$Reader", "tellDeed", "(LMistakesLent$Deed;)Z"⟩, 10), (⟨"MistakesLent$Reader", "tellEffect", "(LMistakesLent$Deed;)Z"⟩, 10), (⟨"MistakesLent$Reader", "tellPlan", "(LMistakesLent$Steps;)Z"⟩, 10), (⟨"MistakesLent$Reader", "tellSlip", "(LMistakesLent$Slip;)Z"⟩, 10), (⟨"MistakesLent$Reader", "mistake", "()I"⟩, 10), (⟨"MistakesLent$Reader", "tellPerson", "(I)Z"⟩, 10), (⟨"MistakesLent$Reader", "tellAsk", "(I)Z"⟩, 10), (⟨"MistakesLent$Reader", "tellEnds", "()Z"⟩, 10), (⟨"MistakesLent$Reader", "checkWhole", "()Z"⟩, 10), (⟨"MistakesLent", "tell", "(I)I"⟩, 16), (⟨"MistakesLent", "has", "(II)Z"⟩, 16), (⟨"MistakesLent", "isRun", "(III)Z"⟩, 16), (⟨"MistakesLent", "isChoice", "(I)Z"⟩, 16), (⟨"MistakesLent$Runner", "make", "(I)V"⟩, 6), (⟨"MistakesLent$Runner", "stepOf", "(LMistakesLent$Steps;I)I"⟩, 6)]
theorem lw_r2 : ∀ q ∈ lw_privs_2, lw_okq q := List.forall_mem_cons.mpr ⟨lw_p16, List.forall_mem_cons.mpr ⟨lw_p17, List.forall_mem_cons.mpr ⟨lw_p18, List.forall_mem_cons.mpr ⟨lw_p19, List.forall_mem_cons.mpr ⟨lw_p20, List.forall_mem_cons.mpr ⟨lw_p21, List.forall_mem_cons.mpr ⟨lw_p22, List.forall_mem_cons.mpr ⟨lw_p23, List.forall_mem_cons.mpr ⟨lw_p24, List.forall_mem_cons.mpr ⟨lw_p25, List.forall_mem_cons.mpr ⟨lw_p26, List.forall_mem_cons.mpr ⟨lw_p27, List.forall_mem_cons.mpr ⟨lw_p28, List.forall_mem_cons.mpr ⟨lw_p29, List.forall_mem_cons.mpr ⟨lw_p30, List.forall_mem_cons.mpr ⟨lw_p31, fun _ h => absurd h List.not_mem_nil⟩⟩⟩⟩⟩⟩⟩⟩⟩⟩⟩⟩⟩⟩⟩⟩
theorem lw_p32 : lw_okq (⟨"MistakesLent$Runner", "addCosts", "()V"⟩, 6) := ⟨⟨by decide +kernel, by decide +kernel⟩, List.mem_of_getElem? (i := 34) (by decide +kernel), List.mem_of_getElem? (i := 849) (by decide +kernel), List.mem_of_getElem? (i := 850) (by decide +kernel)⟩
theorem lw_p33 : lw_okq (⟨"MistakesLent", "slipsUpTo", "(LMistakesLent$Steps;I)I"⟩, 16) := ⟨⟨by decide +kernel, by decide +kernel⟩, List.mem_of_getElem? (i := 26) (by decide +kernel), List.mem_of_getElem? (i := 882) (by decide +kernel), List.mem_of_getElem? (i := 883) (by decide +kernel)⟩
theorem lw_p34 : lw_okq (⟨"MistakesLent", "cancelling", "(LMistakesLent$Steps;I)I"⟩, 16) := ⟨⟨by decide +kernel, by decide +kernel⟩, List.mem_of_getElem? (i := 26) (by decide +kernel), List.mem_of_getElem? (i := 898) (by decide +kernel), List.mem_of_getElem? (i := 899) (by decide +kernel)⟩
theorem lw_p35 : lw_okq (⟨"MistakesLent", "changesEnd", "(LMistakesLent$Steps;II)Z"⟩, 16) := ⟨⟨by decide +kernel, by decide +kernel⟩, List.mem_of_getElem? (i := 26) (by decide +kernel), List.mem_of_getElem? (i := 906) (by decide +kernel), List.mem_of_getElem? (i := 907) (by decide +kernel)⟩
theorem lw_p36 : lw_okq (⟨"MistakesLent", "endIsTold", "()Z"⟩, 16) := ⟨⟨by decide +kernel, by decide +kernel⟩, List.mem_of_getElem? (i := 26) (by decide +kernel), List.mem_of_getElem? (i := 923) (by decide +kernel), List.mem_of_getElem? (i := 924) (by decide +kernel)⟩
theorem lw_p37 : lw_okq (⟨"MistakesLent", "deny", "(I)Z"⟩, 16) := ⟨⟨by decide +kernel, by decide +kernel⟩, List.mem_of_getElem? (i := 26) (by decide +kernel), List.mem_of_getElem? (i := 927) (by decide +kernel), List.mem_of_getElem? (i := 928) (by decide +kernel)⟩
theorem lw_p38 : lw_okq (⟨"MistakesLent", "canHaveBeen", "(I)Z"⟩, 16) := ⟨⟨by decide +kernel, by decide +kernel⟩, List.mem_of_getElem? (i := 26) (by decide +kernel), List.mem_of_getElem? (i := 931) (by decide +kernel), List.mem_of_getElem? (i := 932) (by decide +kernel)⟩
theorem lw_p39 : lw_okq (⟨"MistakesLent", "bestLook", "(LMistakesLent$Steps;)I"⟩, 16) := ⟨⟨by decide +kernel, by decide +kernel⟩, List.mem_of_getElem? (i := 26) (by decide +kernel), List.mem_of_getElem? (i := 947) (by decide +kernel), List.mem_of_getElem? (i := 948) (by decide +kernel)⟩
theorem lw_p40 : lw_okq (⟨"MistakesLent", "countAlike", "(LMistakesLent$Steps;I)V"⟩, 16) := ⟨⟨by decide +kernel, by decide +kernel⟩, List.mem_of_getElem? (i := 26) (by decide +kernel), List.mem_of_getElem? (i := 951) (by decide +kernel), List.mem_of_getElem? (i := 952) (by decide +kernel)⟩
theorem lw_p41 : lw_okq (⟨"MistakesLent", "addAlike", "(LMistakesLent$Steps;II)V"⟩, 16) := ⟨⟨by decide +kernel, by decide +kernel⟩, List.mem_of_getElem? (i := 26) (by decide +kernel), List.mem_of_getElem? (i := 955) (by decide +kernel), List.mem_of_getElem? (i := 956) (by decide +kernel)⟩
theorem lw_p42 : lw_okq (⟨"MistakesLent", "mostAlike", "(I)I"⟩, 16) := ⟨⟨by decide +kernel, by decide +kernel⟩, List.mem_of_getElem? (i := 26) (by decide +kernel), List.mem_of_getElem? (i := 959) (by decide +kernel), List.mem_of_getElem? (i := 960) (by decide +kernel)⟩
theorem lw_p43 : lw_okq (⟨"MistakesLent$Maker", "findOne", "(LMistakesLent$Runner;II)Z"⟩, 6) := ⟨⟨by decide +kernel, by decide +kernel⟩, List.mem_of_getElem? (i := 477) (by decide +kernel), List.mem_of_getElem? (i := 987) (by decide +kernel), List.mem_of_getElem? (i := 988) (by decide +kernel)⟩
theorem lw_p44 : lw_okq (⟨"MistakesLent$Maker", "findTwo", "(LMistakesLent$Runner;II)Z"⟩, 6) := ⟨⟨by decide +kernel, by decide +kernel⟩, List.mem_of_getElem? (i := 477) (by decide +kernel), List.mem_of_getElem? (i := 993) (by decide +kernel), List.mem_of_getElem? (i := 994) (by decide +kernel)⟩
theorem lw_p45 : lw_okq (⟨"MistakesLent$Maker", "findSecond", "(LMistakesLent$Runner;I)I"⟩, 6) := ⟨⟨by decide +kernel, by decide +kernel⟩, List.mem_of_getElem? (i := 477) (by decide +kernel), List.mem_of_getElem? (i := 997) (by decide +kernel), List.mem_of_getElem? (i := 998) (by decide +kernel)⟩
theorem lw_p46 : lw_okq (⟨"MistakesLent", "fillEnds", "()V"⟩, 16) := ⟨⟨by decide +kernel, by decide +kernel⟩, List.mem_of_getElem? (i := 26) (by decide +kernel), List.mem_of_getElem? (i := 1009) (by decide +kernel), List.mem_of_getElem? (i := 1010) (by decide +kernel)⟩
theorem lw_p47 : lw_okq (⟨"MistakesLent", "tellAllApart", "(I)Z"⟩, 16) := ⟨⟨by decide +kernel, by decide +kernel⟩, List.mem_of_getElem? (i := 26) (by decide +kernel), List.mem_of_getElem? (i := 1019) (by decide +kernel), List.mem_of_getElem? (i := 1020) (by decide +kernel)⟩
def lw_privs_3 : List (MethodName × Nat) := [(⟨"MistakesLent$Runner", "addCosts", "()V"⟩, 6), (⟨"MistakesLent", "slipsUpTo", "(LMistakesLent$Steps;I)I"⟩, 16), (⟨"MistakesLent", "cancelling", "(LMistakesLent$Steps;I)I"⟩, 16), (⟨"MistakesLent", "changesEnd", "(LMistakesLent$Steps;II)Z"⟩, 16), (⟨"MistakesLent", "endIsTold", "()Z"⟩, 16), (⟨"MistakesLent", "deny", "(I)Z"⟩, 16), (⟨"MistakesLent", "canHaveBeen", "(I)Z"⟩, 16), (⟨"MistakesLent", "bestLook", "(LMistakesLent$Steps;)I"⟩, 16), (⟨"MistakesLent", "countAlike", "(LMistakesLent$Steps;I)V"⟩, 16), (⟨"MistakesLent", "addAlike", "(LMistakesLent$Steps;II)V"⟩, 16), (⟨"MistakesLent", "mostAlike", "(I)I"⟩, 16), (⟨"MistakesLent$Maker", "findOne", "(LMistakesLent$Runner;II)Z"⟩, 6), (⟨"MistakesLent$Maker", "findTwo", "(LMistakesLent$Runner;II)Z"⟩, 6), (⟨"MistakesLent$Maker", "findSecond", "(LMistakesLent$Runner;I)I"⟩, 6), (⟨"MistakesLent", "fillEnds", "()V"⟩, 16), (⟨"MistakesLent", "tellAllApart", "(I)Z"⟩, 16)]
theorem lw_r3 : ∀ q ∈ lw_privs_3, lw_okq q := List.forall_mem_cons.mpr ⟨lw_p32, List.forall_mem_cons.mpr ⟨lw_p33, List.forall_mem_cons.mpr ⟨lw_p34, List.forall_mem_cons.mpr ⟨lw_p35, List.forall_mem_cons.mpr ⟨lw_p36, List.forall_mem_cons.mpr ⟨lw_p37, List.forall_mem_cons.mpr ⟨lw_p38, List.forall_mem_cons.mpr ⟨lw_p39, List.forall_mem_cons.mpr ⟨lw_p40, List.forall_mem_cons.mpr ⟨lw_p41, List.forall_mem_cons.mpr ⟨lw_p42, List.forall_mem_cons.mpr ⟨lw_p43, List.forall_mem_cons.mpr ⟨lw_p44, List.forall_mem_cons.mpr ⟨lw_p45, List.forall_mem_cons.mpr ⟨lw_p46, List.forall_mem_cons.mpr ⟨lw_p47, fun _ h => absurd h List.not_mem_nil⟩⟩⟩⟩⟩⟩⟩⟩⟩⟩⟩⟩⟩⟩⟩⟩
theorem lw_p48 : lw_okq (⟨"MistakesLent", "differ", "(III)Z"⟩, 16) := ⟨⟨by decide +kernel, by decide +kernel⟩, List.mem_of_getElem? (i := 26) (by decide +kernel), List.mem_of_getElem? (i := 1023) (by decide +kernel), List.mem_of_getElem? (i := 1024) (by decide +kernel)⟩
theorem lw_p49 : lw_okq (⟨"MistakesLent$Lending", "choose", "(LMistakesLent$Museum;II)V"⟩, 8) := ⟨⟨by decide +kernel, by decide +kernel⟩, List.mem_of_getElem? (i := 508) (by decide +kernel), List.mem_of_getElem? (i := 1055) (by decide +kernel), List.mem_of_getElem? (i := 1056) (by decide +kernel)⟩
theorem lw_p50 : lw_okq (⟨"MistakesLent", "arePlayers", "(II)Z"⟩, 16) := ⟨⟨by decide +kernel, by decide +kernel⟩, List.mem_of_getElem? (i := 26) (by decide +kernel), List.mem_of_getElem? (i := 1067) (by decide +kernel), List.mem_of_getElem? (i := 1068) (by decide +kernel)⟩
theorem lw_p51 : lw_okq (⟨"MistakesLent", "planOf", "(I)LMistakesLent$Steps;"⟩, 16) := ⟨⟨by decide +kernel, by decide +kernel⟩, List.mem_of_getElem? (i := 26) (by decide +kernel), List.mem_of_getElem? (i := 1071) (by decide +kernel), List.mem_of_getElem? (i := 1072) (by decide +kernel)⟩
theorem lw_p52 : lw_okq (⟨"MistakesLent", "countWorst", "(LMistakesLent$Steps;)I"⟩, 16) := ⟨⟨by decide +kernel, by decide +kernel⟩, List.mem_of_getElem? (i := 26) (by decide +kernel), List.mem_of_getElem? (i := 1075) (by decide +kernel), List.mem_of_getElem? (i := 1076) (by decide +kernel)⟩
theorem lw_p53 : lw_okq (⟨"MistakesLent", "firstWorst", "(LMistakesLent$Steps;)I"⟩, 16) := ⟨⟨by decide +kernel, by decide +kernel⟩, List.mem_of_getElem? (i := 26) (by decide +kernel), List.mem_of_getElem? (i := 1079) (by decide +kernel), List.mem_of_getElem? (i := 1080) (by decide +kernel)⟩
theorem lw_p54 : lw_okq (⟨"MistakesLent", "costOfChoice", "(LMistakesLent$Steps;I)I"⟩, 16) := ⟨⟨by decide +kernel, by decide +kernel⟩, List.mem_of_getElem? (i := 26) (by decide +kernel), List.mem_of_getElem? (i := 1083) (by decide +kernel), List.mem_of_getElem? (i := 1084) (by decide +kernel)⟩
theorem lw_p55 : lw_okq (⟨"MistakesLent", "grant", "()Z"⟩, 16) := ⟨⟨by decide +kernel, by decide +kernel⟩, List.mem_of_getElem? (i := 26) (by decide +kernel), List.mem_of_getElem? (i := 1129) (by decide +kernel), List.mem_of_getElem? (i := 1130) (by decide +kernel)⟩
theorem lw_p56 : lw_okq (⟨"java/lang/Throwable", "fillInStackTrace", "(I)Ljava/lang/Throwable;"⟩, 6) := ⟨⟨by decide +kernel, by decide +kernel⟩, List.mem_of_getElem? (i := 1221) (by decide +kernel), List.mem_of_getElem? (i := 1219) (by decide +kernel), List.mem_of_getElem? (i := 1220) (by decide +kernel)⟩
theorem lw_p57 : lw_okq (⟨"MistakesLentModel", "good1", "()V"⟩, 37) := ⟨⟨by decide +kernel, by decide +kernel⟩, List.mem_of_getElem? (i := 1250) (by decide +kernel), List.mem_of_getElem? (i := 1380) (by decide +kernel), List.mem_of_getElem? (i := 1381) (by decide +kernel)⟩
theorem lw_p58 : lw_okq (⟨"MistakesLentModel", "no", "(I)I"⟩, 37) := ⟨⟨by decide +kernel, by decide +kernel⟩, List.mem_of_getElem? (i := 1250) (by decide +kernel), List.mem_of_getElem? (i := 1387) (by decide +kernel), List.mem_of_getElem? (i := 1388) (by decide +kernel)⟩
theorem lw_p59 : lw_okq (⟨"MistakesLentModel", "next", "()V"⟩, 37) := ⟨⟨by decide +kernel, by decide +kernel⟩, List.mem_of_getElem? (i := 1250) (by decide +kernel), List.mem_of_getElem? (i := 1391) (by decide +kernel), List.mem_of_getElem? (i := 1392) (by decide +kernel)⟩
theorem lw_p60 : lw_okq (⟨"MistakesLentModel", "look1", "(I)I"⟩, 37) := ⟨⟨by decide +kernel, by decide +kernel⟩, List.mem_of_getElem? (i := 1250) (by decide +kernel), List.mem_of_getElem? (i := 1395) (by decide +kernel), List.mem_of_getElem? (i := 1396) (by decide +kernel)⟩
theorem lw_p61 : lw_okq (⟨"MistakesLentModel", "readLine", "()V"⟩, 37) := ⟨⟨by decide +kernel, by decide +kernel⟩, List.mem_of_getElem? (i := 1250) (by decide +kernel), List.mem_of_getElem? (i := 1405) (by decide +kernel), List.mem_of_getElem? (i := 1406) (by decide +kernel)⟩
theorem lw_p62 : lw_okq (⟨"MistakesLentModel", "isWord", "(Ljava/lang/String;)Z"⟩, 37) := ⟨⟨by decide +kernel, by decide +kernel⟩, List.mem_of_getElem? (i := 1250) (by decide +kernel), List.mem_of_getElem? (i := 1410) (by decide +kernel), List.mem_of_getElem? (i := 1411) (by decide +kernel)⟩
theorem lw_p63 : lw_okq (⟨"MistakesLentModel", "museumLine", "()V"⟩, 37) := ⟨⟨by decide +kernel, by decide +kernel⟩, List.mem_of_getElem? (i := 1250) (by decide +kernel), List.mem_of_getElem? (i := 1416) (by decide +kernel), List.mem_of_getElem? (i := 1417) (by decide +kernel)⟩
def lw_privs_4 : List (MethodName × Nat) := [(⟨"MistakesLent", "differ", "(III)Z"⟩, 16), (⟨"MistakesLent$Lending", "choose", "(LMistakesLent$Museum;II)V"⟩, 8), (⟨"MistakesLent", "arePlayers", "(II)Z"⟩, 16), (⟨"MistakesLent", "planOf", "(I)LMistakesLent$Steps;"⟩, 16), (⟨"MistakesLent", "countWorst", "(LMistakesLent$Steps;)I"⟩, 16), (⟨"MistakesLent", "firstWorst", "(LMistakesLent$Steps;)I"⟩, 16), (⟨"MistakesLent", "costOfChoice", "(LMistakesLent$Steps;I)I"⟩, 16), (⟨"MistakesLent", "grant", "()Z"⟩, 16), (⟨"java/lang/Throwable", "fillInStackTrace", "(I)Ljava/lang/Throwable;"⟩, 6), (⟨"MistakesLentModel", "good1", "()V"⟩, 37), (⟨"MistakesLentModel", "no", "(I)I"⟩, 37), (⟨"MistakesLentModel", "next", "()V"⟩, 37), (⟨"MistakesLentModel", "look1", "(I)I"⟩, 37), (⟨"MistakesLentModel", "readLine", "()V"⟩, 37), (⟨"MistakesLentModel", "isWord", "(Ljava/lang/String;)Z"⟩, 37), (⟨"MistakesLentModel", "museumLine", "()V"⟩, 37)]
theorem lw_r4 : ∀ q ∈ lw_privs_4, lw_okq q := List.forall_mem_cons.mpr ⟨lw_p48, List.forall_mem_cons.mpr ⟨lw_p49, List.forall_mem_cons.mpr ⟨lw_p50, List.forall_mem_cons.mpr ⟨lw_p51, List.forall_mem_cons.mpr ⟨lw_p52, List.forall_mem_cons.mpr ⟨lw_p53, List.forall_mem_cons.mpr ⟨lw_p54, List.forall_mem_cons.mpr ⟨lw_p55, List.forall_mem_cons.mpr ⟨lw_p56, List.forall_mem_cons.mpr ⟨lw_p57, List.forall_mem_cons.mpr ⟨lw_p58, List.forall_mem_cons.mpr ⟨lw_p59, List.forall_mem_cons.mpr ⟨lw_p60, List.forall_mem_cons.mpr ⟨lw_p61, List.forall_mem_cons.mpr ⟨lw_p62, List.forall_mem_cons.mpr ⟨lw_p63, fun _ h => absurd h List.not_mem_nil⟩⟩⟩⟩⟩⟩⟩⟩⟩⟩⟩⟩⟩⟩⟩⟩
theorem lw_p64 : lw_okq (⟨"MistakesLentModel", "wrong", "(II)V"⟩, 37) := ⟨⟨by decide +kernel, by decide +kernel⟩, List.mem_of_getElem? (i := 1250) (by decide +kernel), List.mem_of_getElem? (i := 1420) (by decide +kernel), List.mem_of_getElem? (i := 1421) (by decide +kernel)⟩
theorem lw_p65 : lw_okq (⟨"MistakesLentModel", "after", "(Ljava/lang/String;II)I"⟩, 37) := ⟨⟨by decide +kernel, by decide +kernel⟩, List.mem_of_getElem? (i := 1250) (by decide +kernel), List.mem_of_getElem? (i := 1425) (by decide +kernel), List.mem_of_getElem? (i := 1426) (by decide +kernel)⟩
theorem lw_p66 : lw_okq (⟨"MistakesLentModel", "must", "(Ljava/lang/String;)V"⟩, 37) := ⟨⟨by decide +kernel, by decide +kernel⟩, List.mem_of_getElem? (i := 1250) (by decide +kernel), List.mem_of_getElem? (i := 1429) (by decide +kernel), List.mem_of_getElem? (i := 1430) (by decide +kernel)⟩
theorem lw_p67 : lw_okq (⟨"MistakesLentModel", "takesWord", "(Ljava/lang/String;)Z"⟩, 37) := ⟨⟨by decide +kernel, by decide +kernel⟩, List.mem_of_getElem? (i := 1250) (by decide +kernel), List.mem_of_getElem? (i := 1433) (by decide +kernel), List.mem_of_getElem? (i := 1434) (by decide +kernel)⟩
theorem lw_p68 : lw_okq (⟨"MistakesLentModel", "number", "(II)I"⟩, 37) := ⟨⟨by decide +kernel, by decide +kernel⟩, List.mem_of_getElem? (i := 1250) (by decide +kernel), List.mem_of_getElem? (i := 1437) (by decide +kernel), List.mem_of_getElem? (i := 1438) (by decide +kernel)⟩
theorem lw_p69 : lw_okq (⟨"MistakesLentModel", "begins", "(Ljava/lang/String;Z)Z"⟩, 37) := ⟨⟨by decide +kernel, by decide +kernel⟩, List.mem_of_getElem? (i := 1250) (by decide +kernel), List.mem_of_getElem? (i := 1445) (by decide +kernel), List.mem_of_getElem? (i := 1446) (by decide +kernel)⟩
theorem lw_p70 : lw_okq (⟨"MistakesLentModel", "thingLine", "()V"⟩, 37) := ⟨⟨by decide +kernel, by decide +kernel⟩, List.mem_of_getElem? (i := 1250) (by decide +kernel), List.mem_of_getElem? (i := 1449) (by decide +kernel), List.mem_of_getElem? (i := 1450) (by decide +kernel)⟩
theorem lw_p71 : lw_okq (⟨"MistakesLentModel", "newName", "(I)V"⟩, 37) := ⟨⟨by decide +kernel, by decide +kernel⟩, List.mem_of_getElem? (i := 1250) (by decide +kernel), List.mem_of_getElem? (i := 1453) (by decide +kernel), List.mem_of_getElem? (i := 1454) (by decide +kernel)⟩
theorem lw_p72 : lw_okq (⟨"MistakesLentModel", "mustName", "()V"⟩, 37) := ⟨⟨by decide +kernel, by decide +kernel⟩, List.mem_of_getElem? (i := 1250) (by decide +kernel), List.mem_of_getElem? (i := 1457) (by decide +kernel), List.mem_of_getElem? (i := 1458) (by decide +kernel)⟩
theorem lw_p73 : lw_okq (⟨"MistakesLentModel", "find", "()I"⟩, 37) := ⟨⟨by decide +kernel, by decide +kernel⟩, List.mem_of_getElem? (i := 1250) (by decide +kernel), List.mem_of_getElem? (i := 1469) (by decide +kernel), List.mem_of_getElem? (i := 1470) (by decide +kernel)⟩
theorem lw_p74 : lw_okq (⟨"MistakesLentModel", "harmLine", "()V"⟩, 37) := ⟨⟨by decide +kernel, by decide +kernel⟩, List.mem_of_getElem? (i := 1250) (by decide +kernel), List.mem_of_getElem? (i := 1473) (by decide +kernel), List.mem_of_getElem? (i := 1474) (by decide +kernel)⟩
theorem lw_p75 : lw_okq (⟨"MistakesLentModel", "thingPassed", "()I"⟩, 37) := ⟨⟨by decide +kernel, by decide +kernel⟩, List.mem_of_getElem? (i := 1250) (by decide +kernel), List.mem_of_getElem? (i := 1477) (by decide +kernel), List.mem_of_getElem? (i := 1478) (by decide +kernel)⟩
theorem lw_p76 : lw_okq (⟨"MistakesLentModel", "passed", "(II)I"⟩, 37) := ⟨⟨by decide +kernel, by decide +kernel⟩, List.mem_of_getElem? (i := 1250) (by decide +kernel), List.mem_of_getElem? (i := 1481) (by decide +kernel), List.mem_of_getElem? (i := 1482) (by decide +kernel)⟩
theorem lw_p77 : lw_okq (⟨"MistakesLentModel", "named", "(II)I"⟩, 37) := ⟨⟨by decide +kernel, by decide +kernel⟩, List.mem_of_getElem? (i := 1250) (by decide +kernel), List.mem_of_getElem? (i := 1485) (by decide +kernel), List.mem_of_getElem? (i := 1486) (by decide +kernel)⟩
theorem lw_p78 : lw_okq (⟨"MistakesLentModel", "how", "()I"⟩, 37) := ⟨⟨by decide +kernel, by decide +kernel⟩, List.mem_of_getElem? (i := 1250) (by decide +kernel), List.mem_of_getElem? (i := 1489) (by decide +kernel), List.mem_of_getElem? (i := 1490) (by decide +kernel)⟩
theorem lw_p79 : lw_okq (⟨"MistakesLentModel", "deedLine", "()V"⟩, 37) := ⟨⟨by decide +kernel, by decide +kernel⟩, List.mem_of_getElem? (i := 1250) (by decide +kernel), List.mem_of_getElem? (i := 1496) (by decide +kernel), List.mem_of_getElem? (i := 1497) (by decide +kernel)⟩
def lw_privs_5 : List (MethodName × Nat) := [(⟨"MistakesLentModel", "wrong", "(II)V"⟩, 37), (⟨"MistakesLentModel", "after", "(Ljava/lang/String;II)I"⟩, 37), (⟨"MistakesLentModel", "must", "(Ljava/lang/String;)V"⟩, 37), (⟨"MistakesLentModel", "takesWord", "(Ljava/lang/String;)Z"⟩, 37), (⟨"MistakesLentModel", "number", "(II)I"⟩, 37), (⟨"MistakesLentModel", "begins", "(Ljava/lang/String;Z)Z"⟩, 37), (⟨"MistakesLentModel", "thingLine", "()V"⟩, 37), (⟨"MistakesLentModel", "newName", "(I)V"⟩, 37), (⟨"MistakesLentModel", "mustName", "()V"⟩, 37), (⟨"MistakesLentModel", "find", "()I"⟩, 37), (⟨"MistakesLentModel", "harmLine", "()V"⟩, 37), (⟨"MistakesLentModel", "thingPassed", "()I"⟩, 37), (⟨"MistakesLentModel", "passed", "(II)I"⟩, 37), (⟨"MistakesLentModel", "named", "(II)I"⟩, 37), (⟨"MistakesLentModel", "how", "()I"⟩, 37), (⟨"MistakesLentModel", "deedLine", "()V"⟩, 37)]
theorem lw_r5 : ∀ q ∈ lw_privs_5, lw_okq q := List.forall_mem_cons.mpr ⟨lw_p64, List.forall_mem_cons.mpr ⟨lw_p65, List.forall_mem_cons.mpr ⟨lw_p66, List.forall_mem_cons.mpr ⟨lw_p67, List.forall_mem_cons.mpr ⟨lw_p68, List.forall_mem_cons.mpr ⟨lw_p69, List.forall_mem_cons.mpr ⟨lw_p70, List.forall_mem_cons.mpr ⟨lw_p71, List.forall_mem_cons.mpr ⟨lw_p72, List.forall_mem_cons.mpr ⟨lw_p73, List.forall_mem_cons.mpr ⟨lw_p74, List.forall_mem_cons.mpr ⟨lw_p75, List.forall_mem_cons.mpr ⟨lw_p76, List.forall_mem_cons.mpr ⟨lw_p77, List.forall_mem_cons.mpr ⟨lw_p78, List.forall_mem_cons.mpr ⟨lw_p79, fun _ h => absurd h List.not_mem_nil⟩⟩⟩⟩⟩⟩⟩⟩⟩⟩⟩⟩⟩⟩⟩⟩
theorem lw_p80 : lw_okq (⟨"MistakesLentModel", "comma", "()Z"⟩, 37) := ⟨⟨by decide +kernel, by decide +kernel⟩, List.mem_of_getElem? (i := 1250) (by decide +kernel), List.mem_of_getElem? (i := 1502) (by decide +kernel), List.mem_of_getElem? (i := 1503) (by decide +kernel)⟩
theorem lw_p81 : lw_okq (⟨"MistakesLentModel", "planLine", "()V"⟩, 37) := ⟨⟨by decide +kernel, by decide +kernel⟩, List.mem_of_getElem? (i := 1250) (by decide +kernel), List.mem_of_getElem? (i := 1506) (by decide +kernel), List.mem_of_getElem? (i := 1507) (by decide +kernel)⟩
theorem lw_p82 : lw_okq (⟨"MistakesLentModel", "slipLine", "()V"⟩, 37) := ⟨⟨by decide +kernel, by decide +kernel⟩, List.mem_of_getElem? (i := 1250) (by decide +kernel), List.mem_of_getElem? (i := 1510) (by decide +kernel), List.mem_of_getElem? (i := 1511) (by decide +kernel)⟩
theorem lw_p83 : lw_okq (⟨"MistakesLentModel", "deedPassed", "()I"⟩, 37) := ⟨⟨by decide +kernel, by decide +kernel⟩, List.mem_of_getElem? (i := 1250) (by decide +kernel), List.mem_of_getElem? (i := 1519) (by decide +kernel), List.mem_of_getElem? (i := 1520) (by decide +kernel)⟩
theorem lw_p84 : lw_okq (⟨"MistakesLentModel", "personLine", "()V"⟩, 37) := ⟨⟨by decide +kernel, by decide +kernel⟩, List.mem_of_getElem? (i := 1250) (by decide +kernel), List.mem_of_getElem? (i := 1524) (by decide +kernel), List.mem_of_getElem? (i := 1525) (by decide +kernel)⟩
theorem lw_p85 : lw_okq (⟨"MistakesLentModel", "asksLine", "()V"⟩, 37) := ⟨⟨by decide +kernel, by decide +kernel⟩, List.mem_of_getElem? (i := 1250) (by decide +kernel), List.mem_of_getElem? (i := 1530) (by decide +kernel), List.mem_of_getElem? (i := 1531) (by decide +kernel)⟩
theorem lw_p86 : lw_okq (⟨"MistakesLentModel", "endsLine", "()V"⟩, 37) := ⟨⟨by decide +kernel, by decide +kernel⟩, List.mem_of_getElem? (i := 1250) (by decide +kernel), List.mem_of_getElem? (i := 1535) (by decide +kernel), List.mem_of_getElem? (i := 1536) (by decide +kernel)⟩
theorem lw_p87 : lw_okq (⟨"MistakesLentModel", "isSlip", "(I)Z"⟩, 37) := ⟨⟨by decide +kernel, by decide +kernel⟩, List.mem_of_getElem? (i := 1250) (by decide +kernel), List.mem_of_getElem? (i := 1554) (by decide +kernel), List.mem_of_getElem? (i := 1555) (by decide +kernel)⟩
theorem lw_p88 : lw_okq (⟨"MistakesLentModel", "isCleaned", "(I)Z"⟩, 37) := ⟨⟨by decide +kernel, by decide +kernel⟩, List.mem_of_getElem? (i := 1250) (by decide +kernel), List.mem_of_getElem? (i := 1558) (by decide +kernel), List.mem_of_getElem? (i := 1559) (by decide +kernel)⟩
theorem lw_p89 : lw_okq (⟨"MistakesLentModel", "of", "(II)I"⟩, 37) := ⟨⟨by decide +kernel, by decide +kernel⟩, List.mem_of_getElem? (i := 1250) (by decide +kernel), List.mem_of_getElem? (i := 1562) (by decide +kernel), List.mem_of_getElem? (i := 1563) (by decide +kernel)⟩
theorem lw_p90 : lw_okq (⟨"MistakesLentModel", "isPlan", "(I)Z"⟩, 37) := ⟨⟨by decide +kernel, by decide +kernel⟩, List.mem_of_getElem? (i := 1250) (by decide +kernel), List.mem_of_getElem? (i := 1570) (by decide +kernel), List.mem_of_getElem? (i := 1571) (by decide +kernel)⟩
theorem lw_p91 : lw_okq (⟨"MistakesLentModel", "planSize", "(I)I"⟩, 37) := ⟨⟨by decide +kernel, by decide +kernel⟩, List.mem_of_getElem? (i := 1250) (by decide +kernel), List.mem_of_getElem? (i := 1574) (by decide +kernel), List.mem_of_getElem? (i := 1575) (by decide +kernel)⟩
theorem lw_p92 : lw_okq (⟨"MistakesLentModel", "isMan", "(I)Z"⟩, 37) := ⟨⟨by decide +kernel, by decide +kernel⟩, List.mem_of_getElem? (i := 1250) (by decide +kernel), List.mem_of_getElem? (i := 1582) (by decide +kernel), List.mem_of_getElem? (i := 1583) (by decide +kernel)⟩
theorem lw_p93 : lw_okq (⟨"MistakesLentModel", "isSlipOr", "(I)Z"⟩, 37) := ⟨⟨by decide +kernel, by decide +kernel⟩, List.mem_of_getElem? (i := 1250) (by decide +kernel), List.mem_of_getElem? (i := 1590) (by decide +kernel), List.mem_of_getElem? (i := 1591) (by decide +kernel)⟩
theorem lw_p94 : lw_okq (⟨"MistakesLentModel", "isThing", "(I)Z"⟩, 37) := ⟨⟨by decide +kernel, by decide +kernel⟩, List.mem_of_getElem? (i := 1250) (by decide +kernel), List.mem_of_getElem? (i := 1594) (by decide +kernel), List.mem_of_getElem? (i := 1595) (by decide +kernel)⟩
theorem lw_p95 : lw_okq (⟨"MistakesLentModel", "endOf", "(III)I"⟩, 37) := ⟨⟨by decide +kernel, by decide +kernel⟩, List.mem_of_getElem? (i := 1250) (by decide +kernel), List.mem_of_getElem? (i := 1598) (by decide +kernel), List.mem_of_getElem? (i := 1599) (by decide +kernel)⟩
def lw_privs_6 : List (MethodName × Nat) := [(⟨"MistakesLentModel", "comma", "()Z"⟩, 37), (⟨"MistakesLentModel", "planLine", "()V"⟩, 37), (⟨"MistakesLentModel", "slipLine", "()V"⟩, 37), (⟨"MistakesLentModel", "deedPassed", "()I"⟩, 37), (⟨"MistakesLentModel", "personLine", "()V"⟩, 37), (⟨"MistakesLentModel", "asksLine", "()V"⟩, 37), (⟨"MistakesLentModel", "endsLine", "()V"⟩, 37), (⟨"MistakesLentModel", "isSlip", "(I)Z"⟩, 37), (⟨"MistakesLentModel", "isCleaned", "(I)Z"⟩, 37), (⟨"MistakesLentModel", "of", "(II)I"⟩, 37), (⟨"MistakesLentModel", "isPlan", "(I)Z"⟩, 37), (⟨"MistakesLentModel", "planSize", "(I)I"⟩, 37), (⟨"MistakesLentModel", "isMan", "(I)Z"⟩, 37), (⟨"MistakesLentModel", "isSlipOr", "(I)Z"⟩, 37), (⟨"MistakesLentModel", "isThing", "(I)Z"⟩, 37), (⟨"MistakesLentModel", "endOf", "(III)I"⟩, 37)]
theorem lw_r6 : ∀ q ∈ lw_privs_6, lw_okq q := List.forall_mem_cons.mpr ⟨lw_p80, List.forall_mem_cons.mpr ⟨lw_p81, List.forall_mem_cons.mpr ⟨lw_p82, List.forall_mem_cons.mpr ⟨lw_p83, List.forall_mem_cons.mpr ⟨lw_p84, List.forall_mem_cons.mpr ⟨lw_p85, List.forall_mem_cons.mpr ⟨lw_p86, List.forall_mem_cons.mpr ⟨lw_p87, List.forall_mem_cons.mpr ⟨lw_p88, List.forall_mem_cons.mpr ⟨lw_p89, List.forall_mem_cons.mpr ⟨lw_p90, List.forall_mem_cons.mpr ⟨lw_p91, List.forall_mem_cons.mpr ⟨lw_p92, List.forall_mem_cons.mpr ⟨lw_p93, List.forall_mem_cons.mpr ⟨lw_p94, List.forall_mem_cons.mpr ⟨lw_p95, fun _ h => absurd h List.not_mem_nil⟩⟩⟩⟩⟩⟩⟩⟩⟩⟩⟩⟩⟩⟩⟩⟩
theorem lw_p96 : lw_okq (⟨"MistakesLentModel", "layPlan", "(I)V"⟩, 37) := ⟨⟨by decide +kernel, by decide +kernel⟩, List.mem_of_getElem? (i := 1250) (by decide +kernel), List.mem_of_getElem? (i := 1602) (by decide +kernel), List.mem_of_getElem? (i := 1603) (by decide +kernel)⟩
theorem lw_p97 : lw_okq (⟨"MistakesLentModel", "make", "(I)V"⟩, 37) := ⟨⟨by decide +kernel, by decide +kernel⟩, List.mem_of_getElem? (i := 1250) (by decide +kernel), List.mem_of_getElem? (i := 1606) (by decide +kernel), List.mem_of_getElem? (i := 1607) (by decide +kernel)⟩
theorem lw_p98 : lw_okq (⟨"MistakesLentModel", "madeStep", "(I)I"⟩, 37) := ⟨⟨by decide +kernel, by decide +kernel⟩, List.mem_of_getElem? (i := 1250) (by decide +kernel), List.mem_of_getElem? (i := 1610) (by decide +kernel), List.mem_of_getElem? (i := 1611) (by decide +kernel)⟩
theorem lw_p99 : lw_okq (⟨"MistakesLentModel", "insert", "(II)V"⟩, 37) := ⟨⟨by decide +kernel, by decide +kernel⟩, List.mem_of_getElem? (i := 1250) (by decide +kernel), List.mem_of_getElem? (i := 1614) (by decide +kernel), List.mem_of_getElem? (i := 1615) (by decide +kernel)⟩
theorem lw_p100 : lw_okq (⟨"MistakesLentModel", "runTo", "(I)V"⟩, 37) := ⟨⟨by decide +kernel, by decide +kernel⟩, List.mem_of_getElem? (i := 1250) (by decide +kernel), List.mem_of_getElem? (i := 1618) (by decide +kernel), List.mem_of_getElem? (i := 1619) (by decide +kernel)⟩
theorem lw_p101 : lw_okq (⟨"MistakesLentModel", "isSo", "(III)Z"⟩, 37) := ⟨⟨by decide +kernel, by decide +kernel⟩, List.mem_of_getElem? (i := 1250) (by decide +kernel), List.mem_of_getElem? (i := 1622) (by decide +kernel), List.mem_of_getElem? (i := 1623) (by decide +kernel)⟩
theorem lw_p102 : lw_okq (⟨"MistakesLentModel", "levelCode", "()I"⟩, 37) := ⟨⟨by decide +kernel, by decide +kernel⟩, List.mem_of_getElem? (i := 1250) (by decide +kernel), List.mem_of_getElem? (i := 1626) (by decide +kernel), List.mem_of_getElem? (i := 1627) (by decide +kernel)⟩
theorem lw_p103 : lw_okq (⟨"MistakesLentModel", "harmOf", "(III)I"⟩, 37) := ⟨⟨by decide +kernel, by decide +kernel⟩, List.mem_of_getElem? (i := 1250) (by decide +kernel), List.mem_of_getElem? (i := 1642) (by decide +kernel), List.mem_of_getElem? (i := 1643) (by decide +kernel)⟩
theorem lw_p104 : lw_okq (⟨"MistakesLentModel", "harmNow", "()I"⟩, 37) := ⟨⟨by decide +kernel, by decide +kernel⟩, List.mem_of_getElem? (i := 1250) (by decide +kernel), List.mem_of_getElem? (i := 1646) (by decide +kernel), List.mem_of_getElem? (i := 1647) (by decide +kernel)⟩
theorem lw_p105 : lw_okq (⟨"MistakesLentModel", "doesFit", "(II)Z"⟩, 37) := ⟨⟨by decide +kernel, by decide +kernel⟩, List.mem_of_getElem? (i := 1250) (by decide +kernel), List.mem_of_getElem? (i := 1654) (by decide +kernel), List.mem_of_getElem? (i := 1655) (by decide +kernel)⟩
theorem lw_p106 : lw_okq (⟨"MistakesLentModel", "doCancel", "(III)Z"⟩, 37) := ⟨⟨by decide +kernel, by decide +kernel⟩, List.mem_of_getElem? (i := 1250) (by decide +kernel), List.mem_of_getElem? (i := 1674) (by decide +kernel), List.mem_of_getElem? (i := 1675) (by decide +kernel)⟩
theorem lw_p107 : lw_okq (⟨"MistakesLentModel", "endsWhy", "()I"⟩, 37) := ⟨⟨by decide +kernel, by decide +kernel⟩, List.mem_of_getElem? (i := 1250) (by decide +kernel), List.mem_of_getElem? (i := 1690) (by decide +kernel), List.mem_of_getElem? (i := 1691) (by decide +kernel)⟩
theorem lw_p108 : lw_okq (⟨"MistakesLentModel", "mayBe", "(I)Z"⟩, 37) := ⟨⟨by decide +kernel, by decide +kernel⟩, List.mem_of_getElem? (i := 1250) (by decide +kernel), List.mem_of_getElem? (i := 1694) (by decide +kernel), List.mem_of_getElem? (i := 1695) (by decide +kernel)⟩
theorem lw_p109 : lw_okq (⟨"MistakesLentModel", "endsPlan", "()I"⟩, 37) := ⟨⟨by decide +kernel, by decide +kernel⟩, List.mem_of_getElem? (i := 1250) (by decide +kernel), List.mem_of_getElem? (i := 1698) (by decide +kernel), List.mem_of_getElem? (i := 1699) (by decide +kernel)⟩
theorem lw_p110 : lw_okq (⟨"MistakesLentModel", "endsCode", "()I"⟩, 37) := ⟨⟨by decide +kernel, by decide +kernel⟩, List.mem_of_getElem? (i := 1250) (by decide +kernel), List.mem_of_getElem? (i := 1702) (by decide +kernel), List.mem_of_getElem? (i := 1703) (by decide +kernel)⟩
theorem lw_p111 : lw_okq (⟨"MistakesLentModel", "lookAt", "(I)I"⟩, 37) := ⟨⟨by decide +kernel, by decide +kernel⟩, List.mem_of_getElem? (i := 1250) (by decide +kernel), List.mem_of_getElem? (i := 1718) (by decide +kernel), List.mem_of_getElem? (i := 1719) (by decide +kernel)⟩
def lw_privs_7 : List (MethodName × Nat) := [(⟨"MistakesLentModel", "layPlan", "(I)V"⟩, 37), (⟨"MistakesLentModel", "make", "(I)V"⟩, 37), (⟨"MistakesLentModel", "madeStep", "(I)I"⟩, 37), (⟨"MistakesLentModel", "insert", "(II)V"⟩, 37), (⟨"MistakesLentModel", "runTo", "(I)V"⟩, 37), (⟨"MistakesLentModel", "isSo", "(III)Z"⟩, 37), (⟨"MistakesLentModel", "levelCode", "()I"⟩, 37), (⟨"MistakesLentModel", "harmOf", "(III)I"⟩, 37), (⟨"MistakesLentModel", "harmNow", "()I"⟩, 37), (⟨"MistakesLentModel", "doesFit", "(II)Z"⟩, 37), (⟨"MistakesLentModel", "doCancel", "(III)Z"⟩, 37), (⟨"MistakesLentModel", "endsWhy", "()I"⟩, 37), (⟨"MistakesLentModel", "mayBe", "(I)Z"⟩, 37), (⟨"MistakesLentModel", "endsPlan", "()I"⟩, 37), (⟨"MistakesLentModel", "endsCode", "()I"⟩, 37), (⟨"MistakesLentModel", "lookAt", "(I)I"⟩, 37)]
theorem lw_r7 : ∀ q ∈ lw_privs_7, lw_okq q := List.forall_mem_cons.mpr ⟨lw_p96, List.forall_mem_cons.mpr ⟨lw_p97, List.forall_mem_cons.mpr ⟨lw_p98, List.forall_mem_cons.mpr ⟨lw_p99, List.forall_mem_cons.mpr ⟨lw_p100, List.forall_mem_cons.mpr ⟨lw_p101, List.forall_mem_cons.mpr ⟨lw_p102, List.forall_mem_cons.mpr ⟨lw_p103, List.forall_mem_cons.mpr ⟨lw_p104, List.forall_mem_cons.mpr ⟨lw_p105, List.forall_mem_cons.mpr ⟨lw_p106, List.forall_mem_cons.mpr ⟨lw_p107, List.forall_mem_cons.mpr ⟨lw_p108, List.forall_mem_cons.mpr ⟨lw_p109, List.forall_mem_cons.mpr ⟨lw_p110, List.forall_mem_cons.mpr ⟨lw_p111, fun _ h => absurd h List.not_mem_nil⟩⟩⟩⟩⟩⟩⟩⟩⟩⟩⟩⟩⟩⟩⟩⟩
theorem lw_p112 : lw_okq (⟨"MistakesLentModel", "leftBy", "(III)I"⟩, 37) := ⟨⟨by decide +kernel, by decide +kernel⟩, List.mem_of_getElem? (i := 1250) (by decide +kernel), List.mem_of_getElem? (i := 1723) (by decide +kernel), List.mem_of_getElem? (i := 1724) (by decide +kernel)⟩
theorem lw_p113 : lw_okq (⟨"MistakesLentModel", "tryPlan", "(I)V"⟩, 37) := ⟨⟨by decide +kernel, by decide +kernel⟩, List.mem_of_getElem? (i := 1250) (by decide +kernel), List.mem_of_getElem? (i := 1735) (by decide +kernel), List.mem_of_getElem? (i := 1736) (by decide +kernel)⟩
theorem lw_p114 : lw_okq (⟨"MistakesLentModel", "doBear", "(I)Z"⟩, 37) := ⟨⟨by decide +kernel, by decide +kernel⟩, List.mem_of_getElem? (i := 1250) (by decide +kernel), List.mem_of_getElem? (i := 1739) (by decide +kernel), List.mem_of_getElem? (i := 1740) (by decide +kernel)⟩
theorem lw_p115 : lw_okq (⟨"MistakesLentModel", "layTrial", "()V"⟩, 37) := ⟨⟨by decide +kernel, by decide +kernel⟩, List.mem_of_getElem? (i := 1250) (by decide +kernel), List.mem_of_getElem? (i := 1743) (by decide +kernel), List.mem_of_getElem? (i := 1744) (by decide +kernel)⟩
theorem lw_p116 : lw_okq (⟨"MistakesLentModel", "madeOf", "(I)I"⟩, 37) := ⟨⟨by decide +kernel, by decide +kernel⟩, List.mem_of_getElem? (i := 1250) (by decide +kernel), List.mem_of_getElem? (i := 1751) (by decide +kernel), List.mem_of_getElem? (i := 1752) (by decide +kernel)⟩
theorem lw_p117 : lw_okq (⟨"MistakesLentModel", "putMore", "(II)Z"⟩, 37) := ⟨⟨by decide +kernel, by decide +kernel⟩, List.mem_of_getElem? (i := 1250) (by decide +kernel), List.mem_of_getElem? (i := 1755) (by decide +kernel), List.mem_of_getElem? (i := 1756) (by decide +kernel)⟩
theorem lw_p118 : lw_okq (⟨"MistakesLentModel", "putIn", "(II)V"⟩, 37) := ⟨⟨by decide +kernel, by decide +kernel⟩, List.mem_of_getElem? (i := 1250) (by decide +kernel), List.mem_of_getElem? (i := 1759) (by decide +kernel), List.mem_of_getElem? (i := 1760) (by decide +kernel)⟩
theorem lw_p119 : lw_okq (⟨"MistakesLentModel", "takeOut", "(I)V"⟩, 37) := ⟨⟨by decide +kernel, by decide +kernel⟩, List.mem_of_getElem? (i := 1250) (by decide +kernel), List.mem_of_getElem? (i := 1763) (by decide +kernel), List.mem_of_getElem? (i := 1764) (by decide +kernel)⟩
theorem lw_p120 : lw_okq (⟨"MistakesLentModel", "layEnds", "()V"⟩, 37) := ⟨⟨by decide +kernel, by decide +kernel⟩, List.mem_of_getElem? (i := 1250) (by decide +kernel), List.mem_of_getElem? (i := 1775) (by decide +kernel), List.mem_of_getElem? (i := 1776) (by decide +kernel)⟩
theorem lw_p121 : lw_okq (⟨"MistakesLentModel", "tellApart", "(II)I"⟩, 37) := ⟨⟨by decide +kernel, by decide +kernel⟩, List.mem_of_getElem? (i := 1250) (by decide +kernel), List.mem_of_getElem? (i := 1782) (by decide +kernel), List.mem_of_getElem? (i := 1783) (by decide +kernel)⟩
theorem lw_p122 : lw_okq (⟨"MistakesLentModel", "isAsk", "(I)Z"⟩, 37) := ⟨⟨by decide +kernel, by decide +kernel⟩, List.mem_of_getElem? (i := 1250) (by decide +kernel), List.mem_of_getElem? (i := 1794) (by decide +kernel), List.mem_of_getElem? (i := 1795) (by decide +kernel)⟩
theorem lw_p123 : lw_okq (⟨"MistakesLentModel", "worthOf", "(I)I"⟩, 37) := ⟨⟨by decide +kernel, by decide +kernel⟩, List.mem_of_getElem? (i := 1250) (by decide +kernel), List.mem_of_getElem? (i := 1798) (by decide +kernel), List.mem_of_getElem? (i := 1799) (by decide +kernel)⟩
theorem lw_p124 : lw_okq (⟨"MistakesLentModel", "mayHave", "(II)Z"⟩, 37) := ⟨⟨by decide +kernel, by decide +kernel⟩, List.mem_of_getElem? (i := 1250) (by decide +kernel), List.mem_of_getElem? (i := 1802) (by decide +kernel), List.mem_of_getElem? (i := 1803) (by decide +kernel)⟩
theorem lw_p125 : lw_okq (⟨"MistakesLentModel", "planOf", "(I)I"⟩, 37) := ⟨⟨by decide +kernel, by decide +kernel⟩, List.mem_of_getElem? (i := 1250) (by decide +kernel), List.mem_of_getElem? (i := 1806) (by decide +kernel), List.mem_of_getElem? (i := 1807) (by decide +kernel)⟩
theorem lw_p126 : lw_okq (⟨"MistakesLentModel", "layLending", "()V"⟩, 37) := ⟨⟨by decide +kernel, by decide +kernel⟩, List.mem_of_getElem? (i := 1250) (by decide +kernel), List.mem_of_getElem? (i := 1814) (by decide +kernel), List.mem_of_getElem? (i := 1815) (by decide +kernel)⟩
theorem lw_p127 : lw_okq (⟨"MistakesLentModel", "lendFrom", "(II)V"⟩, 37) := ⟨⟨by decide +kernel, by decide +kernel⟩, List.mem_of_getElem? (i := 1250) (by decide +kernel), List.mem_of_getElem? (i := 1818) (by decide +kernel), List.mem_of_getElem? (i := 1819) (by decide +kernel)⟩
def lw_privs_8 : List (MethodName × Nat) := [(⟨"MistakesLentModel", "leftBy", "(III)I"⟩, 37), (⟨"MistakesLentModel", "tryPlan", "(I)V"⟩, 37), (⟨"MistakesLentModel", "doBear", "(I)Z"⟩, 37), (⟨"MistakesLentModel", "layTrial", "()V"⟩, 37), (⟨"MistakesLentModel", "madeOf", "(I)I"⟩, 37), (⟨"MistakesLentModel", "putMore", "(II)Z"⟩, 37), (⟨"MistakesLentModel", "putIn", "(II)V"⟩, 37), (⟨"MistakesLentModel", "takeOut", "(I)V"⟩, 37), (⟨"MistakesLentModel", "layEnds", "()V"⟩, 37), (⟨"MistakesLentModel", "tellApart", "(II)I"⟩, 37), (⟨"MistakesLentModel", "isAsk", "(I)Z"⟩, 37), (⟨"MistakesLentModel", "worthOf", "(I)I"⟩, 37), (⟨"MistakesLentModel", "mayHave", "(II)Z"⟩, 37), (⟨"MistakesLentModel", "planOf", "(I)I"⟩, 37), (⟨"MistakesLentModel", "layLending", "()V"⟩, 37), (⟨"MistakesLentModel", "lendFrom", "(II)V"⟩, 37)]
theorem lw_r8 : ∀ q ∈ lw_privs_8, lw_okq q := List.forall_mem_cons.mpr ⟨lw_p112, List.forall_mem_cons.mpr ⟨lw_p113, List.forall_mem_cons.mpr ⟨lw_p114, List.forall_mem_cons.mpr ⟨lw_p115, List.forall_mem_cons.mpr ⟨lw_p116, List.forall_mem_cons.mpr ⟨lw_p117, List.forall_mem_cons.mpr ⟨lw_p118, List.forall_mem_cons.mpr ⟨lw_p119, List.forall_mem_cons.mpr ⟨lw_p120, List.forall_mem_cons.mpr ⟨lw_p121, List.forall_mem_cons.mpr ⟨lw_p122, List.forall_mem_cons.mpr ⟨lw_p123, List.forall_mem_cons.mpr ⟨lw_p124, List.forall_mem_cons.mpr ⟨lw_p125, List.forall_mem_cons.mpr ⟨lw_p126, List.forall_mem_cons.mpr ⟨lw_p127, fun _ h => absurd h List.not_mem_nil⟩⟩⟩⟩⟩⟩⟩⟩⟩⟩⟩⟩⟩⟩⟩⟩
theorem lw_p128 : lw_okq (⟨"MistakesLentModel", "canBe", "(II)Z"⟩, 37) := ⟨⟨by decide +kernel, by decide +kernel⟩, List.mem_of_getElem? (i := 1250) (by decide +kernel), List.mem_of_getElem? (i := 1822) (by decide +kernel), List.mem_of_getElem? (i := 1823) (by decide +kernel)⟩
theorem lw_p129 : lw_okq (⟨"MistakesLentModel", "restsOf", "(II)I"⟩, 37) := ⟨⟨by decide +kernel, by decide +kernel⟩, List.mem_of_getElem? (i := 1250) (by decide +kernel), List.mem_of_getElem? (i := 1834) (by decide +kernel), List.mem_of_getElem? (i := 1835) (by decide +kernel)⟩
theorem lw_p130 : lw_okq (⟨"MistakesLentModel", "isRest", "(IIII)Z"⟩, 37) := ⟨⟨by decide +kernel, by decide +kernel⟩, List.mem_of_getElem? (i := 1250) (by decide +kernel), List.mem_of_getElem? (i := 1838) (by decide +kernel), List.mem_of_getElem? (i := 1839) (by decide +kernel)⟩
theorem lw_p131 : lw_okq (⟨"MistakesLentModel", "gain", "(IIII)I"⟩, 37) := ⟨⟨by decide +kernel, by decide +kernel⟩, List.mem_of_getElem? (i := 1250) (by decide +kernel), List.mem_of_getElem? (i := 1842) (by decide +kernel), List.mem_of_getElem? (i := 1843) (by decide +kernel)⟩
theorem lw_p132 : lw_okq (⟨"MistakesLentModel", "isOut", "(I)Z"⟩, 37) := ⟨⟨by decide +kernel, by decide +kernel⟩, List.mem_of_getElem? (i := 1250) (by decide +kernel), List.mem_of_getElem? (i := 1864) (by decide +kernel), List.mem_of_getElem? (i := 1865) (by decide +kernel)⟩
theorem lw_p133 : lw_okq (⟨"MistakesLentModel", "isNot", "(I)Z"⟩, 37) := ⟨⟨by decide +kernel, by decide +kernel⟩, List.mem_of_getElem? (i := 1250) (by decide +kernel), List.mem_of_getElem? (i := 1872) (by decide +kernel), List.mem_of_getElem? (i := 1873) (by decide +kernel)⟩
theorem lw_p134 : lw_okq (⟨"MistakesLentModel", "note", "()V"⟩, 37) := ⟨⟨by decide +kernel, by decide +kernel⟩, List.mem_of_getElem? (i := 1250) (by decide +kernel), List.mem_of_getElem? (i := 1876) (by decide +kernel), List.mem_of_getElem? (i := 1877) (by decide +kernel)⟩
def lw_privs_9 : List (MethodName × Nat) := [(⟨"MistakesLentModel", "canBe", "(II)Z"⟩, 37), (⟨"MistakesLentModel", "restsOf", "(II)I"⟩, 37), (⟨"MistakesLentModel", "isRest", "(IIII)Z"⟩, 37), (⟨"MistakesLentModel", "gain", "(IIII)I"⟩, 37), (⟨"MistakesLentModel", "isOut", "(I)Z"⟩, 37), (⟨"MistakesLentModel", "isNot", "(I)Z"⟩, 37), (⟨"MistakesLentModel", "note", "()V"⟩, 37)]
theorem lw_r9 : ∀ q ∈ lw_privs_9, lw_okq q := List.forall_mem_cons.mpr ⟨lw_p128, List.forall_mem_cons.mpr ⟨lw_p129, List.forall_mem_cons.mpr ⟨lw_p130, List.forall_mem_cons.mpr ⟨lw_p131, List.forall_mem_cons.mpr ⟨lw_p132, List.forall_mem_cons.mpr ⟨lw_p133, List.forall_mem_cons.mpr ⟨lw_p134, fun _ h => absurd h List.not_mem_nil⟩⟩⟩⟩⟩⟩⟩
def lw_privs : List (MethodName × Nat) := lw_privs_1 ++ (lw_privs_2 ++ (lw_privs_3 ++ (lw_privs_4 ++ (lw_privs_5 ++ (lw_privs_6 ++ (lw_privs_7 ++ (lw_privs_8 ++ (lw_privs_9))))))))
def lw_tbl : List Cond := k2_sels lw_privs ++ tables_1
theorem lw_privs_ok : ∀ q ∈ lw_privs, lw_okq q := by
  show ∀ q ∈ lw_privs_1 ++ (lw_privs_2 ++ (lw_privs_3 ++ (lw_privs_4 ++ (lw_privs_5 ++ (lw_privs_6 ++ (lw_privs_7 ++ (lw_privs_8 ++ (lw_privs_9)))))))), lw_okq q
  exact List.forall_mem_append.mpr ⟨lw_r1, List.forall_mem_append.mpr ⟨lw_r2, List.forall_mem_append.mpr ⟨lw_r3, List.forall_mem_append.mpr ⟨lw_r4, List.forall_mem_append.mpr ⟨lw_r5, List.forall_mem_append.mpr ⟨lw_r6, List.forall_mem_append.mpr ⟨lw_r7, List.forall_mem_append.mpr ⟨lw_r8, lw_r9⟩⟩⟩⟩⟩⟩⟩⟩
-- ===== end of PART A; then your names; then what follows =====
end
section
/-! THE ABSTRACT MACHINE: values, memories, one instruction as a predicate transformer, a method as the least predicate closed under its instructions, calls by depth. A memory is any type with the operations of dm_O. -/
abbrev dm_R : Type := Nat × Nat
abbrev dm_V : Type := Int32 ⊕ (Int64 ⊕ Option (Nat × Nat))
abbrev vi (x : Int32) : dm_V := Sum.inl x
abbrev vl (x : Int64) : dm_V := Sum.inr (Sum.inl x)
abbrev vr (t i : Nat) : dm_V := Sum.inr (Sum.inr (some (t, i)))
/-- what an array holds -/
abbrev dm_X : Type := (Nat → Int32) ⊕ ((Nat → Int64) ⊕ (Nat → Option (Nat × Nat)))
/-- a cell: an object of a class (by its number) with its fields, or an array -/
abbrev dm_C : Type := (Nat × List dm_V) ⊕ (FieldType × Nat × dm_X)
/-- get r class field; put; an array; a store into one; a new object; a new array; whether a call fits, the memory as the callee gets it, the memory behind it -/
abbrev dm_O (μ : Type) : Type :=
  (μ → dm_R → Nat → Nat → Option dm_V) × (μ → dm_R → Nat → Nat → dm_V → Option μ) × (μ → dm_R → Option (FieldType × Nat × dm_X)) × (μ → dm_R → Nat → dm_V → Option μ) × (μ → Nat → Option (dm_R × μ)) × (μ → FieldType → Nat → Option (dm_R × μ)) × (μ → Nat → Bool) × (μ → Nat → μ) × (μ → μ → Nat → μ)
/-- a method: number of its class, locals, what it returns, its instructions -/
abbrev dm_M : Type := Nat × Nat × Option FieldType × (Nat → Option Instr)
/-- the pools: fields (class, place), methods (number, arguments with the receiver, kind of answer, class of the receiver or 99), classes, constants, statics, each by class and entry -/
abbrev dm_E : Type := (Nat → Nat → Option (Nat × Nat)) × (Nat → Nat → Option (Nat × Nat × Nat × Nat)) × (Nat → Nat → Option Nat) × (Nat → Nat → Option dm_V) × (Nat → Nat → Option dm_V) × (Nat → Nat) × (Nat → Nat → Int32)
/-- the classes by their numbers -/
def dm_cnl : List String := ["MistakesLent$Deed", "MistakesLent$Desk", "MistakesLent$History", "MistakesLent$Lending", "MistakesLent$Maker", "MistakesLent$Museum", "MistakesLent$Need", "MistakesLent$Reader", "MistakesLent$Runner", "MistakesLent$Slip", "MistakesLent$Steps", "MistakesLent$Tokens", "MistakesLent", "MistakesLentModel", "MistakesLentLaw", "java/lang/Integer"]
def dm_cn (c : Nat) : String := dm_cnl.getD c ""
abbrev dm_L : Type := List (Option dm_V)
def dm_nth : dm_L → Nat → Option dm_V
  | [], _ => none
  | x :: _, 0 => x
  | _ :: l, n + 1 => dm_nth l n
def dm_set : dm_L → Nat → Option dm_V → dm_L
  | [], _, _ => []
  | _ :: l, 0, v => v :: l
  | x :: l, n + 1, v => x :: dm_set l n v
/-- the local ahead of place i is no long -/
def dm_noL : dm_L → Nat → Bool
  | [], _ => true
  | _, 0 => true
  | some (.inr (.inl _)) :: _, 1 => false
  | _ :: _, 1 => true
  | _ :: l, n + 2 => dm_noL l (n + 1)
def dm_cat : List dm_V → Nat
  | [] => 0
  | .inr (.inl _) :: l => 2 + dm_cat l
  | _ :: l => 1 + dm_cat l
def dm_is (b : Bool) (K : Prop) : Prop := match b with
  | true => K
  | false => False
/-- a new local of one place -/
def dm_st1 (ls : dm_L) (i : Nat) (v : dm_V) (K : dm_L → Prop) : Prop := dm_is (Nat.blt i ls.length) (dm_is (dm_noL ls i) (K (dm_set ls i (some v))))
def dm_st2 (ls : dm_L) (i : Nat) (v : dm_V) (K : dm_L → Prop) : Prop := dm_is (Nat.blt (i + 1) ls.length) (dm_is (dm_noL ls i) (K (dm_set (dm_set ls i (some v)) (i + 1) none)))
def dm_ldI (ls : dm_L) (i : Nat) (K : Int32 → Prop) : Prop := match dm_nth ls i with
  | some (.inl x) => K x
  | _ => False
def dm_ldL (ls : dm_L) (i : Nat) (K : Int64 → Prop) : Prop := match dm_nth ls i with
  | some (.inr (.inl x)) => K x
  | _ => False
def dm_ldR (ls : dm_L) (i : Nat) (K : Nat → Nat → Prop) : Prop := match dm_nth ls i with
  | some (.inr (.inr (some (t, j)))) => K t j
  | _ => False
def dm_1 (st : List dm_V) (K : Int32 → List dm_V → Prop) : Prop := match st with
  | .inl x :: l => K x l
  | _ => False
def dm_2 (st : List dm_V) (K : Int32 → Int32 → List dm_V → Prop) : Prop := match st with
  | .inl y :: .inl x :: l => K x y l
  | _ => False
def dm_22 (st : List dm_V) (K : Int64 → Int64 → List dm_V → Prop) : Prop := match st with
  | .inr (.inl y) :: .inr (.inl x) :: l => K x y l
  | _ => False
def dm_r (st : List dm_V) (K : Nat → Nat → List dm_V → Prop) : Prop := match st with
  | .inr (.inr (some (t, i))) :: l => K t i l
  | _ => False
/-- a value of one place -/
def dm_v1 (st : List dm_V) (K : dm_V → List dm_V → Prop) : Prop := match st with
  | .inl x :: l => K (.inl x) l
  | .inr (.inr x) :: l => K (.inr (.inr x)) l
  | _ => False
/-- any value on top -/
def dm_v (st : List dm_V) (K : dm_V → List dm_V → Prop) : Prop := match st with
  | x :: l => K x l
  | _ => False
/-- an index above an array -/
def dm_ir (st : List dm_V) (K : Int32 → Nat → Nat → List dm_V → Prop) : Prop := match st with
  | .inl x :: .inr (.inr (some (t, i))) :: l => K x t i l
  | _ => False
def dm_so {α : Type} (o : Option α) (K : α → Prop) : Prop := match o with
  | some x => K x
  | none => False
/-- an index within an array -/
def dm_ix (x : Int32) (n : Nat) (K : Prop) : Prop := if x < 0 ∨ n ≤ x.toNatClampNeg then False else K
/-- two ints compared -/
def dm_cmp (c : Jvm.ClassFile.Cond) (x y : Int32) (A B : Prop) : Prop := match c with
  | .eq => if x = y then A else B
  | .ne => if x = y then B else A
  | .lt => if x < y then A else B
  | .ge => if x < y then B else A
  | .gt => if y < x then A else B
  | .le => if y < x then B else A
def dm_tg (pc : Nat) (off : Int) (K : Nat → Prop) : Prop := match (pc : Int) + off with
  | .ofNat n => K n
  | .negSucc _ => False
/-- a switch: its cases one after the other -/
def dm_sw (pc : Nat) (x : Int32) (d : Int) (K : Nat → Prop) : Int → List Int → Prop
  | _, [] => dm_tg pc d K
  | lo, o :: l => if x = Int32.ofInt lo then dm_tg pc o K else dm_sw pc x d K (lo + 1) l
/-- what a call answers, by its kind: nothing, an int, a reference to steps, a long -/
def dm_rt (rk : Nat) (r : Option dm_V) (K : List dm_V → Prop) : Prop := match rk with
  | 0 => r = none ∧ K []
  | 1 => ∃ v : Int32, r = some (vi v) ∧ K [vi v]
  | 2 => ∃ i : Nat, r = some (vr 10 i) ∧ K [vr 10 i]
  | 3 => ∃ v : Int64, r = some (vl v) ∧ K [vl v]
  | _ => False
def dm_ent (n : Nat) (args : List dm_V) : dm_L := args.map some ++ List.replicate (n - args.length) none
/-- the receiver of a call is of its class -/
def dm_rc {μ : Type} (O : dm_O μ) (σ : μ) (c : Nat) (args : List dm_V) (K : Prop) : Prop := match Nat.beq c 99 with
  | true => K
  | false => match args with
    | .inr (.inr (some r)) :: _ => dm_so (O.1 σ r c 0) (fun _ => K)
    | _ => False
section DMF
variable {μ : Type} (E : dm_E) (O : dm_O μ) (call : Nat → List dm_V → μ → (Option dm_V → μ → Prop) → Prop) (bi : Bool) (M : dm_M) (Q : Option dm_V → μ → Prop) (P : Nat → dm_L → List dm_V → μ → Prop)
/-- a call: numbers from 3000 on are the JDK's: Object(), Math.max, Math.min, String.length, String.charAt -/
def dm_inv (pc : Nat) (ls : dm_L) (st : List dm_V) (σ : μ) (idx : Nat) : Prop := dm_so (E.2.1 M.1 idx) (fun q => match q with
  | (3000, _, _, _) => dm_is bi (dm_r st (fun _ _ l => dm_is (Nat.ble (dm_cat l) 8) (P (pc + 3) ls l σ)))
  | (3001, _, _, _) => dm_is bi (dm_2 st (fun x y l => dm_is (Nat.ble (dm_cat l) 8) (P (pc + 3) ls (vi (if x < y then y else x) :: l) σ)))
  | (3002, _, _, _) => dm_is bi (dm_2 st (fun x y l => dm_is (Nat.ble (dm_cat l) 8) (P (pc + 3) ls (vi (if y < x then y else x) :: l) σ)))
  | (3003, _, _, _) => dm_is bi (dm_r st (fun t i l => dm_is (Nat.beq t 90) (dm_is (Nat.ble (dm_cat l) 8) (P (pc + 3) ls (vi (nI (E.2.2.2.2.2.1 i)) :: l) σ))))
  | (3004, _, _, _) => dm_is bi (dm_ir st (fun x t i l => dm_is (Nat.beq t 90) (dm_is (Nat.ble (dm_cat l) 8) (dm_ix x (E.2.2.2.2.2.1 i) (P (pc + 3) ls (vi (E.2.2.2.2.2.2 i x.toNatClampNeg) :: l) σ)))))
  | (y, n, rk, c) => dm_is (Nat.ble n st.length) (dm_is (Nat.ble (dm_cat (st.drop n)) 8) (dm_is (Nat.beq (dm_cat (st.take n)) n) (dm_is (O.2.2.2.2.2.2.1 σ y) (dm_rc O σ c (st.take n).reverse (call y (st.take n).reverse (O.2.2.2.2.2.2.2.1 σ y) (fun r σ' => dm_rt rk r (fun vs => P (pc + 3) ls (vs ++ st.drop n) (O.2.2.2.2.2.2.2.2 σ σ' y)))))))))
/-- loads, constants, arithmetic -/
def dm_FA (pc : Nat) (ls : dm_L) (st : List dm_V) (σ : μ) (i : Instr) : Prop := match i with
  | .aload n => dm_ldR ls n (fun t i => P (pc + 2) ls (vr t i :: st) σ)
  | .aload_n n => dm_ldR ls n.val (fun t i => P (pc + 1) ls (vr t i :: st) σ)
  | .iload n => dm_ldI ls n (fun x => P (pc + 2) ls (vi x :: st) σ)
  | .iload_n n => dm_ldI ls n.val (fun x => P (pc + 1) ls (vi x :: st) σ)
  | .lload_n n => dm_ldL ls n.val (fun x => P (pc + 1) ls (vl x :: st) σ)
  | .astore n => dm_r st (fun t i l => dm_st1 ls n (vr t i) (fun ls => P (pc + 2) ls l σ))
  | .astore_n n => dm_r st (fun t i l => dm_st1 ls n.val (vr t i) (fun ls => P (pc + 1) ls l σ))
  | .istore n => dm_1 st (fun x l => dm_st1 ls n (vi x) (fun ls => P (pc + 2) ls l σ))
  | .istore_n n => dm_1 st (fun x l => dm_st1 ls n.val (vi x) (fun ls => P (pc + 1) ls l σ))
  | .lstore_n n => match st with
    | .inr (.inl x) :: l => dm_st2 ls n.val (vl x) (fun ls => P (pc + 1) ls l σ)
    | _ => False
  | .iinc n k => dm_ldI ls n (fun x => dm_st1 ls n (vi (x + Int32.ofInt k)) (fun ls => P (pc + 3) ls st σ))
  | .iconst k => P (pc + 1) ls (vi (Int32.ofInt k) :: st) σ
  | .bipush k => P (pc + 2) ls (vi (Int8.ofInt k).toInt32 :: st) σ
  | .sipush k => P (pc + 3) ls (vi (Int16.ofInt k).toInt32 :: st) σ
  | .lconst k => P (pc + 1) ls (vl (Int64.ofNat k.val) :: st) σ
  | .iadd => dm_2 st (fun x y l => P (pc + 1) ls (vi (x + y) :: l) σ)
  | .isub => dm_2 st (fun x y l => P (pc + 1) ls (vi (x - y) :: l) σ)
  | .imul => dm_2 st (fun x y l => P (pc + 1) ls (vi (x * y) :: l) σ)
  | .iand => dm_2 st (fun x y l => P (pc + 1) ls (vi (x &&& y) :: l) σ)
  | .ior => dm_2 st (fun x y l => P (pc + 1) ls (vi (x ||| y) :: l) σ)
  | .ixor => dm_2 st (fun x y l => P (pc + 1) ls (vi (x ^^^ y) :: l) σ)
  | .ishl => dm_2 st (fun x y l => P (pc + 1) ls (vi (x <<< (y &&& 31)) :: l) σ)
  | .ishr => dm_2 st (fun x y l => P (pc + 1) ls (vi (x >>> (y &&& 31)) :: l) σ)
  | .iushr => dm_2 st (fun x y l => P (pc + 1) ls (vi (x.toUInt32 >>> (y.toUInt32 &&& Int32.toUInt32 31)).toInt32 :: l) σ)
  | .ineg => dm_1 st (fun x l => P (pc + 1) ls (vi (-x) :: l) σ)
  | .idiv => dm_2 st (fun x y l => dm_is (!(y == 0)) (P (pc + 1) ls (vi (x / y) :: l) σ))
  | .irem => dm_2 st (fun x y l => dm_is (!(y == 0)) (P (pc + 1) ls (vi (x - x / y * y) :: l) σ))
  | .i2b => dm_1 st (fun x l => P (pc + 1) ls (vi x.toInt8.toInt32 :: l) σ)
  | .i2l => dm_1 st (fun x l => P (pc + 1) ls (vl x.toInt64 :: l) σ)
  | .ladd => dm_22 st (fun x y l => P (pc + 1) ls (vl (x + y) :: l) σ)
  | .lmul => dm_22 st (fun x y l => P (pc + 1) ls (vl (x * y) :: l) σ)
  | .lcmp => dm_22 st (fun x y l => P (pc + 1) ls (vi (lg_cmp x y) :: l) σ)
  | .dup => dm_v1 st (fun v l => P (pc + 1) ls (v :: v :: l) σ)
  | .pop => dm_v1 st (fun _ l => P (pc + 1) ls l σ)
  | .dup2 => dm_v1 st (fun v l => dm_v1 l (fun w l => P (pc + 1) ls (v :: w :: v :: w :: l) σ))
  | .ldc k => dm_so (E.2.2.2.1 M.1 k) (fun v => P (pc + 2) ls (v :: st) σ)
  | .ldc_w k => dm_so (E.2.2.2.1 M.1 k) (fun v => P (pc + 3) ls (v :: st) σ)
  | .ldc2_w k => dm_so (E.2.2.2.1 M.1 k) (fun v => P (pc + 3) ls (v :: st) σ)
  | .getstatic k => dm_so (E.2.2.2.2.1 M.1 k) (fun v => P (pc + 3) ls (v :: st) σ)
  | _ => False
/-- memory -/
def dm_FM (pc : Nat) (ls : dm_L) (st : List dm_V) (σ : μ) (i : Instr) : Prop := match i with
  | .getfield k => dm_r st (fun t i l => dm_so (E.1 M.1 k) (fun q => dm_so (O.1 σ (t, i) q.1 q.2) (fun v => P (pc + 3) ls (v :: l) σ)))
  | .putfield k => dm_v st (fun v l => dm_r l (fun t i l => dm_so (E.1 M.1 k) (fun q => dm_so (O.2.1 σ (t, i) q.1 q.2 v) (fun σ => P (pc + 3) ls l σ))))
  | .arraylength => dm_r st (fun t i l => dm_so (O.2.2.1 σ (t, i)) (fun q => P (pc + 1) ls (vi (nI q.2.1) :: l) σ))
  | .iaload => dm_ir st (fun x t i l => dm_so (O.2.2.1 σ (t, i)) (fun q => match q with
    | (.int, n, .inl f) => dm_ix x n (P (pc + 1) ls (vi (f x.toNatClampNeg) :: l) σ)
    | _ => False))
  | .baload => dm_ir st (fun x t i l => dm_so (O.2.2.1 σ (t, i)) (fun q => match q with
    | (.byte, n, .inl f) => dm_ix x n (P (pc + 1) ls (vi (f x.toNatClampNeg) :: l) σ)
    | (.boolean, n, .inl f) => dm_ix x n (P (pc + 1) ls (vi (f x.toNatClampNeg) :: l) σ)
    | _ => False))
  | .laload => dm_ir st (fun x t i l => dm_so (O.2.2.1 σ (t, i)) (fun q => match q with
    | (.long, n, .inr (.inl f)) => dm_ix x n (P (pc + 1) ls (vl (f x.toNatClampNeg) :: l) σ)
    | _ => False))
  | .aaload => dm_ir st (fun x t i l => dm_so (O.2.2.1 σ (t, i)) (fun q => match q with
    | (.object _, n, .inr (.inr f)) => dm_ix x n (P (pc + 1) ls (.inr (.inr (f x.toNatClampNeg)) :: l) σ)
    | _ => False))
  | .iastore => dm_1 st (fun z l => dm_ir l (fun x t i l => dm_so (O.2.2.1 σ (t, i)) (fun q => match q with
    | (.int, n, .inl _) => dm_ix x n (dm_so (O.2.2.2.1 σ (t, i) x.toNatClampNeg (vi z)) (fun σ => P (pc + 1) ls l σ))
    | _ => False)))
  | .bastore => dm_1 st (fun z l => dm_ir l (fun x t i l => dm_so (O.2.2.1 σ (t, i)) (fun q => match q with
    | (.byte, n, .inl _) => dm_ix x n (dm_so (O.2.2.2.1 σ (t, i) x.toNatClampNeg (vi z.toInt8.toInt32)) (fun σ => P (pc + 1) ls l σ))
    | (.boolean, n, .inl _) => dm_ix x n (dm_so (O.2.2.2.1 σ (t, i) x.toNatClampNeg (vi (z &&& 1))) (fun σ => P (pc + 1) ls l σ))
    | _ => False)))
  | .lastore => match st with
    | .inr (.inl z) :: l => dm_ir l (fun x t i l => dm_so (O.2.2.1 σ (t, i)) (fun q => match q with
      | (.long, n, .inr (.inl _)) => dm_ix x n (dm_so (O.2.2.2.1 σ (t, i) x.toNatClampNeg (vl z)) (fun σ => P (pc + 1) ls l σ))
      | _ => False))
    | _ => False
  | .aastore => dm_r st (fun t' i' l => dm_ir l (fun x t i l => dm_so (O.2.2.1 σ (t, i)) (fun q => match q with
    | (.object _, n, .inr (.inr _)) => dm_ix x n (dm_so (O.2.2.2.1 σ (t, i) x.toNatClampNeg (vr t' i')) (fun σ => P (pc + 1) ls l σ))
    | _ => False)))
  | .new k => dm_so (E.2.2.1 M.1 k) (fun ci => dm_so (O.2.2.2.2.1 σ ci) (fun q => P (pc + 3) ls (vr q.1.1 q.1.2 :: st) q.2))
  | .anewarray k => dm_1 st (fun n l => dm_is (!(decide (n < 0))) (dm_so (E.2.2.1 M.1 k) (fun ci => dm_so (O.2.2.2.2.2.1 σ (.object (dm_cn ci)) n.toNatClampNeg) (fun q => P (pc + 3) ls (vr q.1.1 q.1.2 :: l) q.2))))
  | .newarray ty => dm_1 st (fun n l => dm_is (!(decide (n < 0))) (dm_so (O.2.2.2.2.2.1 σ (newarray.typeOf ty) n.toNatClampNeg) (fun q => P (pc + 2) ls (vr q.1.1 q.1.2 :: l) q.2)))
  | _ => False
/-- where it goes on -/
def dm_FC (pc : Nat) (ls : dm_L) (st : List dm_V) (σ : μ) (i : Instr) : Prop := match i with
  | .if_icmp c off => dm_2 st (fun x y l => dm_cmp c x y (dm_tg pc off (fun n => P n ls l σ)) (P (pc + 3) ls l σ))
  | .ifCond c off => dm_1 st (fun x l => dm_cmp c x 0 (dm_tg pc off (fun n => P n ls l σ)) (P (pc + 3) ls l σ))
  | .goto off => dm_tg pc off (fun n => P n ls st σ)
  | .tableswitch d lo _ offs => dm_1 st (fun x l => dm_sw pc x d (fun n => P n ls l σ) lo offs.toList)
  | .ireturn => match st, M.2.2.1 with
    | [.inl v], some .int => Q (some (vi v)) σ
    | [.inl v], some .boolean => Q (some (vi (v &&& 1))) σ
    | _, _ => False
  | .lreturn => match st, M.2.2.1 with
    | [.inr (.inl v)], some .long => Q (some (vl v)) σ
    | _, _ => False
  | .areturn => match st, M.2.2.1 with
    | [.inr (.inr (some (t, i)))], some (.object _) => Q (some (vr t i)) σ
    | _, _ => False
  | .return_ => match st, M.2.2.1 with
    | [], none => Q none σ
    | _, _ => False
  | .invokevirtual k => dm_inv E O call bi M P pc ls st σ k
  | .invokespecial k => dm_inv E O call bi M P pc ls st σ k
  | .invokestatic k => dm_inv E O call bi M P pc ls st σ k
  | _ => False
/-- which of the three an instruction is of -/
def dm_cls : Instr → Nat
  | .getfield _ | .putfield _ | .arraylength | .iaload | .baload | .laload | .aaload | .iastore | .bastore | .lastore | .aastore | .new _ | .newarray _ | .anewarray _ => 1
  | .if_icmp _ _ | .ifCond _ _ | .goto _ | .tableswitch _ _ _ _ | .ireturn | .lreturn | .areturn | .return_ | .invokevirtual _ | .invokespecial _ | .invokestatic _ => 2
  | _ => 0
def dm_FI (pc : Nat) (ls : dm_L) (st : List dm_V) (σ : μ) (i : Instr) : Prop := match dm_cls i with
  | 0 => dm_FA E M P pc ls st σ i
  | 1 => dm_FM E O M P pc ls st σ i
  | _ => dm_FC E O call bi M Q P pc ls st σ i
def dm_F (pc : Nat) (ls : dm_L) (st : List dm_V) (σ : μ) : Prop := dm_so (M.2.2.2 pc) (fun i => dm_FI E O call bi M Q P pc ls st σ i)
end DMF
/-- fewer locals known -/
def dm_le : dm_L → dm_L → Prop
  | [], [] => True
  | x :: l, y :: m => (x = none ∨ x = y) ∧ dm_le l m
  | _, _ => False
/-- from here the method comes to an end with Q -/
def dm_Go {μ : Type} (E : dm_E) (O : dm_O μ) (call : Nat → List dm_V → μ → (Option dm_V → μ → Prop) → Prop) (bi : Bool) (M : dm_M) (Q : Option dm_V → μ → Prop) (pc : Nat) (ls : dm_L) (st : List dm_V) (σ : μ) : Prop :=
  ∀ P : Nat → dm_L → List dm_V → μ → Prop, (∀ pc ls st σ, dm_F E O call bi M Q P pc ls st σ → P pc ls st σ) → (∀ pc ls0 ls st σ, dm_le ls0 ls → P pc ls0 st σ → P pc ls st σ) → P pc ls st σ
/-- a call of the method y with d frames of room -/
def dm_Call {μ : Type} (E : dm_E) (O : dm_O μ) (prog : Nat → dm_M) : Nat → Nat → List dm_V → μ → (Option dm_V → μ → Prop) → Prop
  | 0 => fun y args σ Q => dm_Go E O (fun _ _ _ _ => False) false (prog y) Q 0 (dm_ent (prog y).2.1 args) [] σ
  | d + 1 => fun y args σ Q => dm_Go E O (dm_Call E O prog d) true (prog y) Q 0 (dm_ent (prog y).2.1 args) [] σ
end
section
/-! the machine's predicate transformers are monotone -/
theorem dm_is_m {b : Bool} {K K' : Prop} (h : K → K') : dm_is b K → dm_is b K' := by cases b <;> first | exact id | exact h
theorem dm_st1_m {ls : dm_L} {i : Nat} {v : dm_V} {K K' : dm_L → Prop} (h : ∀ ls, K ls → K' ls) : dm_st1 ls i v K → dm_st1 ls i v K' := dm_is_m (dm_is_m (h _))
theorem dm_st2_m {ls : dm_L} {i : Nat} {v : dm_V} {K K' : dm_L → Prop} (h : ∀ ls, K ls → K' ls) : dm_st2 ls i v K → dm_st2 ls i v K' := dm_is_m (dm_is_m (h _))
theorem dm_ldI_m {ls : dm_L} {i : Nat} {K K' : Int32 → Prop} (h : ∀ x, K x → K' x) : dm_ldI ls i K → dm_ldI ls i K' := by
  unfold dm_ldI; split
  · exact h _
  · exact id
theorem dm_ldL_m {ls : dm_L} {i : Nat} {K K' : Int64 → Prop} (h : ∀ x, K x → K' x) : dm_ldL ls i K → dm_ldL ls i K' := by
  unfold dm_ldL; split
  · exact h _
  · exact id
theorem dm_ldR_m {ls : dm_L} {i : Nat} {K K' : Nat → Nat → Prop} (h : ∀ x y, K x y → K' x y) : dm_ldR ls i K → dm_ldR ls i K' := by
  unfold dm_ldR; split
  · exact h _ _
  · exact id
theorem dm_1_m {st : List dm_V} {K K' : Int32 → List dm_V → Prop} (h : ∀ x l, K x l → K' x l) : dm_1 st K → dm_1 st K' := by
  unfold dm_1; split
  · exact h _ _
  · exact id
theorem dm_2_m {st : List dm_V} {K K' : Int32 → Int32 → List dm_V → Prop} (h : ∀ x y l, K x y l → K' x y l) : dm_2 st K → dm_2 st K' := by
  unfold dm_2; split
  · exact h _ _ _
  · exact id
theorem dm_22_m {st : List dm_V} {K K' : Int64 → Int64 → List dm_V → Prop} (h : ∀ x y l, K x y l → K' x y l) : dm_22 st K → dm_22 st K' := by
  unfold dm_22; split
  · exact h _ _ _
  · exact id
theorem dm_r_m {st : List dm_V} {K K' : Nat → Nat → List dm_V → Prop} (h : ∀ t i l, K t i l → K' t i l) : dm_r st K → dm_r st K' := by
  unfold dm_r; split
  · exact h _ _ _
  · exact id
theorem dm_v1_m {st : List dm_V} {K K' : dm_V → List dm_V → Prop} (h : ∀ v l, K v l → K' v l) : dm_v1 st K → dm_v1 st K' := by
  unfold dm_v1; split
  · exact h _ _
  · exact h _ _
  · exact id
theorem dm_v_m {st : List dm_V} {K K' : dm_V → List dm_V → Prop} (h : ∀ v l, K v l → K' v l) : dm_v st K → dm_v st K' := by
  unfold dm_v; split
  · exact h _ _
  · exact id
theorem dm_ir_m {st : List dm_V} {K K' : Int32 → Nat → Nat → List dm_V → Prop} (h : ∀ x t i l, K x t i l → K' x t i l) : dm_ir st K → dm_ir st K' := by
  unfold dm_ir; split
  · exact h _ _ _ _
  · exact id
theorem dm_so_m {α : Type} {o : Option α} {K K' : α → Prop} (h : ∀ x, K x → K' x) : dm_so o K → dm_so o K' := by
  unfold dm_so; split
  · exact h _
  · exact id
theorem dm_if_m {c : Prop} [Decidable c] {A B A' B' : Prop} (h1 : A → A') (h2 : B → B') : (if c then A else B) → (if c then A' else B') := by
  split
  · exact h1
  · exact h2
theorem dm_ix_m {x : Int32} {n : Nat} {K K' : Prop} (h : K → K') : dm_ix x n K → dm_ix x n K' := dm_if_m id h
theorem dm_cmp_m {c : Jvm.ClassFile.Cond} {x y : Int32} {A B A' B' : Prop} (h1 : A → A') (h2 : B → B') : dm_cmp c x y A B → dm_cmp c x y A' B' := by
  cases c <;> first | exact dm_if_m h1 h2 | exact dm_if_m h2 h1
theorem dm_rc_m {μ : Type} {O : dm_O μ} {σ : μ} {c : Nat} {args : List dm_V} {K K' : Prop} (h : K → K') : dm_rc O σ c args K → dm_rc O σ c args K' := by
  unfold dm_rc; split
  · exact h
  · split
    · exact dm_so_m (fun _ => h)
    · exact id
theorem dm_tg_m {pc : Nat} {off : Int} {K K' : Nat → Prop} (h : ∀ n, K n → K' n) : dm_tg pc off K → dm_tg pc off K' := by
  unfold dm_tg; split
  · exact h _
  · exact id
theorem dm_sw_m {pc : Nat} {x : Int32} {d : Int} {K K' : Nat → Prop} (h : ∀ n, K n → K' n) : ∀ (l : List Int) (lo : Int), dm_sw pc x d K lo l → dm_sw pc x d K' lo l
  | [], _ => dm_tg_m h
  | _ :: l, lo => dm_if_m (dm_tg_m h) (dm_sw_m h l (lo + 1))
theorem dm_rt_m {rk : Nat} {r : Option dm_V} {K K' : List dm_V → Prop} (h : ∀ vs, K vs → K' vs) : dm_rt rk r K → dm_rt rk r K' := by
  unfold dm_rt; split
  · exact fun q => ⟨q.1, h _ q.2⟩
  · exact fun ⟨v, q⟩ => ⟨v, q.1, h _ q.2⟩
  · exact fun ⟨v, q⟩ => ⟨v, q.1, h _ q.2⟩
  · exact fun ⟨v, q⟩ => ⟨v, q.1, h _ q.2⟩
  · exact id
section DMM
variable {μ : Type} {E : dm_E} {O : dm_O μ} {call : Nat → List dm_V → μ → (Option dm_V → μ → Prop) → Prop} {bi : Bool} {M : dm_M} {Q Q' : Option dm_V → μ → Prop} {P P' : Nat → dm_L → List dm_V → μ → Prop}
/-- a call with a weaker end -/
def dm_cm (call : Nat → List dm_V → μ → (Option dm_V → μ → Prop) → Prop) : Prop := ∀ y a σ Q Q', (∀ r σ', Q r σ' → Q' r σ') → call y a σ Q → call y a σ Q'
theorem dm_FA_m (hP : ∀ pc ls st σ, P pc ls st σ → P' pc ls st σ) {pc : Nat} {ls : dm_L} {st : List dm_V} {σ : μ} {i : Instr} : dm_FA E M P pc ls st σ i → dm_FA E M P' pc ls st σ i := by
  cases i <;> first
    | exact id
    | exact hP _ _ _ _
    | exact dm_ldR_m (fun _ _ => hP _ _ _ _)
    | exact dm_ldI_m (fun _ => hP _ _ _ _)
    | exact dm_ldL_m (fun _ => hP _ _ _ _)
    | exact dm_r_m (fun _ _ _ => dm_st1_m (fun _ => hP _ _ _ _))
    | exact dm_1_m (fun _ _ => dm_st1_m (fun _ => hP _ _ _ _))
    | exact dm_ldI_m (fun _ => dm_st1_m (fun _ => hP _ _ _ _))
    | exact dm_2_m (fun _ _ _ => hP _ _ _ _)
    | exact dm_2_m (fun _ _ _ => dm_is_m (hP _ _ _ _))
    | exact dm_1_m (fun _ _ => hP _ _ _ _)
    | exact dm_22_m (fun _ _ _ => hP _ _ _ _)
    | (unfold dm_FA; exact dm_v1_m (fun _ _ => hP _ _ _ _))
    | (unfold dm_FA; exact dm_v1_m (fun _ _ => dm_v1_m (fun _ _ => hP _ _ _ _)))
    | exact dm_so_m (fun _ => hP _ _ _ _)
    | (unfold dm_FA; dsimp only; split
       · exact dm_st2_m (fun _ => hP _ _ _ _)
       · exact id)
theorem dm_FM_m (hP : ∀ pc ls st σ, P pc ls st σ → P' pc ls st σ) {pc : Nat} {ls : dm_L} {st : List dm_V} {σ : μ} {i : Instr} : dm_FM E O M P pc ls st σ i → dm_FM E O M P' pc ls st σ i := by
  cases i <;> first
    | exact id
    | exact dm_r_m (fun _ _ _ => dm_so_m (fun _ => dm_so_m (fun _ => hP _ _ _ _)))
    | exact dm_v_m (fun _ _ => dm_r_m (fun _ _ _ => dm_so_m (fun _ => dm_so_m (fun _ => hP _ _ _ _))))
    | exact dm_r_m (fun _ _ _ => dm_so_m (fun _ => hP _ _ _ _))
    | exact dm_so_m (fun _ => dm_so_m (fun _ => hP _ _ _ _))
    | exact dm_1_m (fun _ _ => dm_is_m (dm_so_m (fun _ => hP _ _ _ _)))
    | exact dm_1_m (fun _ _ => dm_is_m (dm_so_m (fun _ => dm_so_m (fun _ => hP _ _ _ _))))
    | (refine dm_ir_m (fun _ _ _ _ => dm_so_m (fun q => ?_)); split <;> first | exact dm_ix_m (hP _ _ _ _) | exact id)
    | (refine dm_1_m (fun _ _ => dm_ir_m (fun _ _ _ _ => dm_so_m (fun q => ?_))); split <;> first | exact dm_ix_m (dm_so_m (fun _ => hP _ _ _ _)) | exact id)
    | (refine dm_r_m (fun _ _ _ => dm_ir_m (fun _ _ _ _ => dm_so_m (fun q => ?_))); split <;> first | exact dm_ix_m (dm_so_m (fun _ => hP _ _ _ _)) | exact id)
    | (unfold dm_FM; dsimp only; split
       · refine dm_ir_m (fun _ _ _ _ => dm_so_m (fun q => ?_)); split <;> first | exact dm_ix_m (dm_so_m (fun _ => hP _ _ _ _)) | exact id
       · exact id)
theorem dm_inv_m (hc : dm_cm call) (hP : ∀ pc ls st σ, P pc ls st σ → P' pc ls st σ) {pc : Nat} {ls : dm_L} {st : List dm_V} {σ : μ} {k : Nat} : dm_inv E O call bi M P pc ls st σ k → dm_inv E O call bi M P' pc ls st σ k := by
  refine dm_so_m (fun q => ?_)
  split
  · exact dm_is_m (dm_r_m (fun _ _ _ => dm_is_m (hP _ _ _ _)))
  · exact dm_is_m (dm_2_m (fun _ _ _ => dm_is_m (hP _ _ _ _)))
  · exact dm_is_m (dm_2_m (fun _ _ _ => dm_is_m (hP _ _ _ _)))
  · exact dm_is_m (dm_r_m (fun _ _ _ => dm_is_m (dm_is_m (hP _ _ _ _))))
  · exact dm_is_m (dm_ir_m (fun _ _ _ _ => dm_is_m (dm_is_m (dm_ix_m (hP _ _ _ _)))))
  · exact dm_is_m (dm_is_m (dm_is_m (dm_is_m (dm_rc_m (hc _ _ _ _ _ (fun _ _ => dm_rt_m (fun _ => hP _ _ _ _)))))))
theorem dm_FC_m (hc : dm_cm call) (hQ : ∀ r σ, Q r σ → Q' r σ) (hP : ∀ pc ls st σ, P pc ls st σ → P' pc ls st σ) {pc : Nat} {ls : dm_L} {st : List dm_V} {σ : μ} {i : Instr} : dm_FC E O call bi M Q P pc ls st σ i → dm_FC E O call bi M Q' P' pc ls st σ i := by
  cases i <;> first
    | exact id
    | exact dm_2_m (fun _ _ _ => dm_cmp_m (dm_tg_m (fun _ => hP _ _ _ _)) (hP _ _ _ _))
    | exact dm_1_m (fun _ _ => dm_cmp_m (dm_tg_m (fun _ => hP _ _ _ _)) (hP _ _ _ _))
    | exact dm_tg_m (fun _ => hP _ _ _ _)
    | exact dm_1_m (fun _ _ => dm_sw_m (fun _ => hP _ _ _ _) _ _)
    | exact dm_inv_m hc hP
    | (unfold dm_FC; dsimp only; split <;> first | exact hQ _ _ | exact id)
theorem dm_FI_m (hc : dm_cm call) (hQ : ∀ r σ, Q r σ → Q' r σ) (hP : ∀ pc ls st σ, P pc ls st σ → P' pc ls st σ) {pc : Nat} {ls : dm_L} {st : List dm_V} {σ : μ} {i : Instr} : dm_FI E O call bi M Q P pc ls st σ i → dm_FI E O call bi M Q' P' pc ls st σ i := by
  unfold dm_FI; split
  · exact dm_FA_m hP
  · exact dm_FM_m hP
  · exact dm_FC_m hc hQ hP
theorem dm_F_m (hc : dm_cm call) (hQ : ∀ r σ, Q r σ → Q' r σ) (hP : ∀ pc ls st σ, P pc ls st σ → P' pc ls st σ) {pc : Nat} {ls : dm_L} {st : List dm_V} {σ : μ} : dm_F E O call bi M Q P pc ls st σ → dm_F E O call bi M Q' P' pc ls st σ :=
  dm_so_m (fun _ => dm_FI_m hc hQ hP)
theorem dm_F_cm {call' : Nat → List dm_V → μ → (Option dm_V → μ → Prop) → Prop} (hcc : ∀ y a σ Q, call y a σ Q → call' y a σ Q) (hP : ∀ pc ls st σ, P pc ls st σ → P' pc ls st σ) (hc : dm_cm call') {pc : Nat} {ls : dm_L} {st : List dm_V} {σ : μ} (h : dm_F E O call bi M Q P pc ls st σ) : dm_F E O call' bi M Q P' pc ls st σ := by
  refine dm_F_m hc (fun _ _ q => q) hP ?_
  revert h
  refine dm_so_m (fun i => ?_)
  unfold dm_FI
  split
  · exact id
  · exact id
  · have hv : ∀ k, dm_inv E O call bi M P pc ls st σ k → dm_inv E O call' bi M P pc ls st σ k := by
      intro k
      refine dm_so_m (fun q => ?_)
      split <;> first | exact id | exact dm_is_m (dm_is_m (dm_is_m (dm_is_m (dm_rc_m (hcc _ _ _ _)))))
    cases i <;> first | exact id | exact hv _
/-- one instruction -/
theorem dm_Go.step (hc : dm_cm call) {pc : Nat} {ls : dm_L} {st : List dm_V} {σ : μ} (h : dm_F E O call bi M Q (dm_Go E O call bi M Q) pc ls st σ) : dm_Go E O call bi M Q pc ls st σ :=
  fun P h1 h2 => h1 _ _ _ _ (dm_F_m hc (fun _ _ q => q) (fun _ _ _ _ q => q P h1 h2) h)
theorem dm_Go.weak {pc : Nat} {ls0 ls : dm_L} {st : List dm_V} {σ : μ} (hl : dm_le ls0 ls) (h : dm_Go E O call bi M Q pc ls0 st σ) : dm_Go E O call bi M Q pc ls st σ :=
  fun P h1 h2 => h2 _ _ _ _ _ hl (h P h1 h2)
theorem dm_Go.mono (hc : dm_cm call) (hQ : ∀ r σ, Q r σ → Q' r σ) {pc : Nat} {ls : dm_L} {st : List dm_V} {σ : μ} (h : dm_Go E O call bi M Q pc ls st σ) : dm_Go E O call bi M Q' pc ls st σ :=
  fun P h1 h2 => h P (fun _ _ _ _ q => h1 _ _ _ _ (dm_F_m hc hQ (fun _ _ _ _ z => z) q)) h2
theorem dm_cm_F : dm_cm (μ := μ) (fun _ _ _ _ => False) := fun _ _ _ _ _ _ h => h
theorem dm_Call.mono {prog : Nat → dm_M} : ∀ d, dm_cm (dm_Call E O prog d)
  | 0 => fun _ _ _ _ _ hQ h => dm_Go.mono dm_cm_F hQ h
  | d + 1 => fun _ _ _ _ _ hQ h => dm_Go.mono (dm_Call.mono d) hQ h
/-- the places where an unfolding stops, with the locals that are kept there -/
def dm_keep : List Bool → dm_L → dm_L
  | true :: b, x :: l => x :: dm_keep b l
  | _ :: b, _ :: l => none :: dm_keep b l
  | [], _ :: l => none :: dm_keep [] l
  | _, [] => []
theorem dm_keep_le : ∀ (b : List Bool) (l : dm_L), dm_le (dm_keep b l) l
  | true :: b, x :: l => ⟨Or.inr rfl, dm_keep_le b l⟩
  | false :: b, x :: l => ⟨Or.inl rfl, dm_keep_le b l⟩
  | [], x :: l => ⟨Or.inl rfl, dm_keep_le [] l⟩
  | [], [] => trivial
  | true :: b, [] => trivial
  | false :: b, [] => trivial
def dm_stop (l : List (Nat × List Bool)) (pc : Nat) : Option (List Bool) := match l with
  | [] => none
  | (n, b) :: r => match Nat.beq n pc with
    | true => some b
    | false => dm_stop r pc
/-- k instructions on, but not beyond the stops -/
def dm_ex (E : dm_E) (O : dm_O μ) (call : Nat → List dm_V → μ → (Option dm_V → μ → Prop) → Prop) (bi : Bool) (M : dm_M) (Q : Option dm_V → μ → Prop) (stops : List (Nat × List Bool)) : Nat → Nat → dm_L → List dm_V → μ → Prop
  | 0, pc, ls, st, σ => dm_Go E O call bi M Q pc ls st σ
  | k + 1, pc, ls, st, σ => match dm_stop stops pc with
    | some b => dm_Go E O call bi M Q pc (dm_keep b ls) st σ
    | none => dm_F E O call bi M Q (dm_ex E O call bi M Q stops k) pc ls st σ
theorem dm_ex.go (hc : dm_cm call) (stops : List (Nat × List Bool)) : ∀ (k pc : Nat) (ls : dm_L) (st : List dm_V) (σ : μ), dm_ex E O call bi M Q stops k pc ls st σ → dm_Go E O call bi M Q pc ls st σ
  | 0, _, _, _, _ => id
  | k + 1, pc, ls, st, σ => by
    unfold dm_ex
    split
    · exact dm_Go.weak (dm_keep_le _ _)
    · exact fun h => dm_Go.step hc (dm_F_m hc (fun _ _ q => q) (dm_ex.go hc stops k) h)
/-- from here: one instruction for sure, then on to the stops -/
theorem dm_ex.at (hc : dm_cm call) (stops : List (Nat × List Bool)) (k : Nat) {pc : Nat} {ls : dm_L} {st : List dm_V} {σ : μ} (h : dm_F E O call bi M Q (dm_ex E O call bi M Q stops k) pc ls st σ) : dm_Go E O call bi M Q pc ls st σ :=
  dm_Go.step hc (dm_F_m hc (fun _ _ q => q) (dm_ex.go hc stops k) h)
/-- the same, run to its end: what a program decides -/
def dm_it (E : dm_E) (O : dm_O μ) (call : Nat → List dm_V → μ → (Option dm_V → μ → Prop) → Prop) (bi : Bool) (M : dm_M) (Q : Option dm_V → μ → Prop) : Nat → Nat → dm_L → List dm_V → μ → Prop
  | 0, _, _, _, _ => False
  | k + 1, pc, ls, st, σ => dm_F E O call bi M Q (dm_it E O call bi M Q k) pc ls st σ
theorem dm_it.go {call' : Nat → List dm_V → μ → (Option dm_V → μ → Prop) → Prop} (hc : dm_cm call') (hcc : ∀ y a σ Q, call y a σ Q → call' y a σ Q) : ∀ (k pc : Nat) (ls : dm_L) (st : List dm_V) (σ : μ), dm_it E O call bi M Q k pc ls st σ → dm_Go E O call' bi M Q pc ls st σ
  | 0, _, _, _, _ => False.elim
  | k + 1, pc, ls, st, σ => fun h => dm_Go.step hc (dm_F_cm hcc (fun _ _ _ _ q => dm_it.go hc hcc k _ _ _ _ q) hc h)
end DMM
end
section
/-! abstract values, cells and locals as the machine has them -/
def dm_cv (ad : Nat → Nat → Nat) : dm_V → Value
  | .inl x => .int x
  | .inr (.inl x) => .long x
  | .inr (.inr none) => .null
  | .inr (.inr (some (t, i))) => .ref (ad t i)
def dm_cc (ad : Nat → Nat → Nat) (dA : FieldType → ClassId) : dm_C → va_E
  | .inl (c, fs) => .inr (c, fs.map (dm_cv ad))
  | .inr (ty, n, .inl f) => .inl (dA ty, n, .inl f)
  | .inr (ty, n, .inr (.inl f)) => .inl (dA ty, n, .inr (.inl f))
  | .inr (ty, n, .inr (.inr f)) => .inl (dA ty, n, .inr (.inr (.inr (.inr (fun j => (f j).map (fun p => ad p.1 p.2))))))
def dm_wd (ad : Nat → Nat → Nat) (dA : FieldType → ClassId) (L : List (dm_R × dm_C)) : va_W := L.map (fun q => (ad q.1.1 q.1.2, dm_cc ad dA q.2))
theorem dm_wd_at {ad : Nat → Nat → Nat} {dA : FieldType → ClassId} {L : List (dm_R × dm_C)} {k : Nat} {r : dm_R} {c : dm_C} (h : L[k]? = some (r, c)) : (dm_wd ad dA L)[k]? = some (ad r.1 r.2, dm_cc ad dA c) := by
  unfold dm_wd; rw [List.getElem?_map, h]; rfl
theorem dm_wd_set {ad : Nat → Nat → Nat} {dA : FieldType → ClassId} {L : List (dm_R × dm_C)} {k : Nat} {r : dm_R} {c : dm_C} : dm_wd ad dA (L.set k (r, c)) = (dm_wd ad dA L).set k (ad r.1 r.2, dm_cc ad dA c) := by
  unfold dm_wd; rw [List.map_set]
/-- the locals by their places -/
def dm_as (ad : Nat → Nat → Nat) : Nat → dm_L → List (Nat × Value)
  | _, [] => []
  | k, none :: l => dm_as ad (k + 1) l
  | k, some v :: l => (k, dm_cv ad v) :: dm_as ad (k + 1) l
theorem dm_as_ge {ad : Nat → Nat → Nat} : ∀ (l : dm_L) (k : Nat) (q : Nat × Value), q ∈ dm_as ad k l → k ≤ q.1
  | [], _, _, h => by cases h
  | none :: l, k, q, h => Nat.le_of_succ_le (dm_as_ge l (k + 1) q h)
  | some v :: l, k, q, h => by
    rcases List.mem_cons.mp h with h | h
    · rw [h]; exact Nat.le_refl k
    · exact Nat.le_of_succ_le (dm_as_ge l (k + 1) q h)
theorem dm_as_nth {ad : Nat → Nat → Nat} : ∀ (l : dm_L) (k i : Nat) (v : dm_V), dm_nth l i = some v → (k + i, dm_cv ad v) ∈ dm_as ad k l
  | [], _, _, _, h => by cases h
  | none :: l, k, 0, v, h => by cases h
  | some w :: l, k, 0, v, h => by
    cases h
    exact List.mem_cons_self
  | none :: l, k, n + 1, v, h => by
    have h1 := dm_as_nth (ad := ad) l (k + 1) n v h
    rw [show k + (n + 1) = k + 1 + n by omega]
    exact h1
  | some w :: l, k, n + 1, v, h => by
    have h1 := dm_as_nth (ad := ad) l (k + 1) n v h
    rw [show k + (n + 1) = k + 1 + n by omega]
    exact List.mem_cons_of_mem _ h1
theorem dm_as_cons {ad : Nat → Nat → Nat} {x : Option dm_V} {l : dm_L} {k : Nat} {q : Nat × Value} (h : q ∈ dm_as ad k (x :: l)) : (∃ v, x = some v ∧ q = (k, dm_cv ad v)) ∨ q ∈ dm_as ad (k + 1) l := by
  cases x with
  | none => exact Or.inr h
  | some v =>
    rcases List.mem_cons.mp h with h | h
    · exact Or.inl ⟨v, rfl, h⟩
    · exact Or.inr h
theorem dm_as_tail {ad : Nat → Nat → Nat} {x : Option dm_V} {l : dm_L} {k : Nat} {q : Nat × Value} (h : q ∈ dm_as ad (k + 1) l) : q ∈ dm_as ad k (x :: l) := by
  cases x with
  | none => exact h
  | some v => exact List.mem_cons_of_mem _ h
theorem dm_as_set {ad : Nat → Nat → Nat} {o : Option dm_V} : ∀ (l : dm_L) (i k : Nat) (q : Nat × Value), dm_noL l i = true → q ∈ dm_as ad k (dm_set l i o) → (∃ v, o = some v ∧ q = (k + i, dm_cv ad v)) ∨ (q ∈ dm_as ad k l ∧ q.1 ≠ k + i ∧ ¬ (q.1 + 1 = k + i ∧ q.2.category = 2))
  | [], _, _, _, _, h => by cases h
  | x :: l, 0, k, q, _, h => by
    rcases dm_as_cons h with h | h
    · exact Or.inl h
    · have h1 := dm_as_ge _ _ _ h
      exact Or.inr ⟨dm_as_tail h, by omega, by omega⟩
  | x :: l, n + 1, k, q, hn, h => by
    rcases dm_as_cons h with ⟨v, hv, hq⟩ | h
    · subst hv
      refine Or.inr ⟨?_, ?_, ?_⟩
      · rw [hq]; exact List.mem_cons_self
      · rw [hq]; show k ≠ k + (n + 1); omega
      · rintro ⟨h1, h2⟩
        rw [hq] at h1 h2
        have h1 : k + 1 = k + (n + 1) := h1
        obtain rfl : n = 0 := by omega
        match v, hn, h2 with
        | .inl _, _, h2 => simp [dm_cv, Value.category] at h2
        | .inr (.inl _), hn, _ => simp [dm_noL] at hn
        | .inr (.inr none), _, h2 => simp [dm_cv, Value.category] at h2
        | .inr (.inr (some _)), _, h2 => simp [dm_cv, Value.category] at h2
    · have hn' : dm_noL l n = true := by
        match n, l with
        | 0, [] => rfl
        | 0, _ :: _ => rfl
        | n + 1, l => exact hn
      rcases dm_as_set l n (k + 1) q hn' h with ⟨v, h1, h2⟩ | ⟨h1, h2, h3⟩
      · exact Or.inl ⟨v, h1, by rw [h2, show k + 1 + n = k + (n + 1) by omega]⟩
      · refine Or.inr ⟨dm_as_tail h1, by omega, fun h4 => h3 ⟨by omega, h4.2⟩⟩
theorem dm_set_len : ∀ (l : dm_L) (i : Nat) (o : Option dm_V), (dm_set l i o).length = l.length
  | [], _, _ => rfl
  | _ :: _, 0, _ => rfl
  | _ :: l, n + 1, o => by simp [dm_set, dm_set_len l n o]
theorem dm_set_mem : ∀ (l : dm_L) (i : Nat) (o : Option dm_V) (v : dm_V), some v ∈ dm_set l i o → o = some v ∨ some v ∈ l
  | [], _, _, _, h => by cases h
  | x :: l, 0, o, v, h => by
    rcases List.mem_cons.mp h with h | h
    · exact Or.inl h.symm
    · exact Or.inr (List.mem_cons_of_mem _ h)
  | x :: l, n + 1, o, v, h => by
    rcases List.mem_cons.mp h with h | h
    · exact Or.inr (by rw [h]; exact List.mem_cons_self)
    · rcases dm_set_mem l n o v h with h | h
      · exact Or.inl h
      · exact Or.inr (List.mem_cons_of_mem _ h)
theorem dm_nth_mem : ∀ (l : dm_L) (i : Nat) (v : dm_V), dm_nth l i = some v → some v ∈ l
  | [], _, _, h => by cases h
  | x :: l, 0, v, h => by
    have h : x = some v := h
    rw [h]; exact List.mem_cons_self
  | x :: l, n + 1, v, h => List.mem_cons_of_mem _ (dm_nth_mem l n v h)
theorem dm_le_as {ad : Nat → Nat → Nat} : ∀ (l0 l : dm_L) (k : Nat) (q : Nat × Value), dm_le l0 l → q ∈ dm_as ad k l0 → q ∈ dm_as ad k l
  | [], [], _, _, _, h => by cases h
  | x :: l0, y :: l, k, q, hl, h => by
    rcases dm_as_cons h with ⟨v, hv, h⟩ | h
    · rcases hl.1 with e | e
      · rw [e] at hv; cases hv
      · rw [← e, hv, h]; exact List.mem_cons_self
    · exact dm_as_tail (dm_le_as l0 l (k + 1) q hl.2 h)
  | [], _ :: _, _, _, hl, _ => hl.elim
  | _ :: _, [], _, _, hl, _ => hl.elim
theorem dm_le_len : ∀ (l0 l : dm_L), dm_le l0 l → l0.length = l.length
  | [], [], _ => rfl
  | _ :: l0, _ :: l, hl => by simp [dm_le_len l0 l hl.2]
  | [], _ :: _, hl => hl.elim
  | _ :: _, [], hl => hl.elim
theorem dm_le_mem : ∀ (l0 l : dm_L) (v : dm_V), dm_le l0 l → some v ∈ l0 → some v ∈ l
  | [], [], _, _, h => h
  | x :: l0, y :: l, v, hl, h => by
    rcases List.mem_cons.mp h with h | h
    · rcases hl.1 with e | e
      · rw [e] at h; cases h
      · rw [h, e]; exact List.mem_cons_self
    · exact List.mem_cons_of_mem _ (dm_le_mem l0 l v hl.2 h)
  | [], _ :: _, _, hl, _ => hl.elim
  | _ :: _, [], _, hl, _ => hl.elim
/-- locals: the slots hold what is known -/
def dm_Al (ad : Nat → Nat → Nat) (ok : dm_V → Prop) (nL : Nat) (ls : dm_L) (lsC : Array Slot) : Prop := lv_has lsC nL (dm_as ad 0 ls) ∧ ls.length = nL ∧ ∀ v, some v ∈ ls → ok v
theorem dm_Al.at {ad : Nat → Nat → Nat} {ok : dm_V → Prop} {nL : Nat} {ls : dm_L} {lsC : Array Slot} (h : dm_Al ad ok nL ls lsC) {i : Nat} {v : dm_V} (hi : dm_nth ls i = some v) : lsC[i]? = some (.val (dm_cv ad v)) ∧ ok v := by
  have h1 := dm_as_nth (ad := ad) ls 0 i v hi
  rw [Nat.zero_add] at h1
  exact ⟨h.1.2.2 _ h1, h.2.2 v (dm_nth_mem ls i v hi)⟩
theorem dm_Al.weak {ad : Nat → Nat → Nat} {ok : dm_V → Prop} {nL : Nat} {ls0 ls : dm_L} {lsC : Array Slot} (hl : dm_le ls0 ls) (h : dm_Al ad ok nL ls lsC) : dm_Al ad ok nL ls0 lsC :=
  ⟨⟨h.1.1, h.1.2.1, fun q hq => h.1.2.2 q (dm_le_as ls0 ls 0 q hl hq)⟩, (dm_le_len ls0 ls hl).trans h.2.1, fun v hv => h.2.2 v (dm_le_mem ls0 ls v hl hv)⟩
theorem dm_Al.set1 {ad : Nat → Nat → Nat} {ok : dm_V → Prop} {nL : Nat} {ls : dm_L} {lsC lsC' : Array Slot} (h : dm_Al ad ok nL ls lsC) {i : Nat} {v : dm_V} (hn : dm_noL ls i = true) (hv : ok v) (h' : lv_has lsC' nL ((i, dm_cv ad v) :: (dm_as ad 0 ls).filter (fun q => !(q.1 == i) && !(q.1 + 1 == i && q.2.category == 2)))) : dm_Al ad ok nL (dm_set ls i (some v)) lsC' := by
  refine ⟨⟨h'.1, h'.2.1, fun q hq => h'.2.2 q ?_⟩, (dm_set_len _ _ _).trans h.2.1, fun w hw => ?_⟩
  · rcases dm_as_set ls i 0 q hn hq with ⟨w, hw, h1⟩ | ⟨h1, h2, h3⟩
    · cases hw
      rw [Nat.zero_add] at h1
      rw [h1]; exact List.mem_cons_self
    · rw [Nat.zero_add] at h2 h3
      refine List.mem_cons_of_mem _ (List.mem_filter.mpr ⟨h1, ?_⟩)
      simp only [Bool.and_eq_true, Bool.not_eq_true', beq_eq_false_iff_ne, ne_eq, Bool.and_eq_false_iff]
      refine ⟨h2, ?_⟩
      by_cases e : q.1 + 1 = i
      · exact Or.inr (fun z => h3 ⟨e, z⟩)
      · exact Or.inl e
  · rcases dm_set_mem ls i _ w hw with e | e
    · cases e; exact hv
    · exact h.2.2 w e
theorem dm_Al.set2 {ad : Nat → Nat → Nat} {ok : dm_V → Prop} {nL : Nat} {ls : dm_L} {lsC lsC' : Array Slot} (h : dm_Al ad ok nL ls lsC) {i : Nat} {v : dm_V} (hn : dm_noL ls i = true) (hv : ok v) (h' : lv_has lsC' nL ((i, dm_cv ad v) :: (dm_as ad 0 ls).filter (fun q => !(q.1 == i) && (!(q.1 == i + 1) && !(q.1 + 1 == i && q.2.category == 2))))) : dm_Al ad ok nL (dm_set (dm_set ls i (some v)) (i + 1) none) lsC' := by
  have key : ∀ (l : dm_L) (i k : Nat) (q : Nat × Value), q ∈ dm_as ad k (dm_set l i none) → q ∈ dm_as ad k l ∧ q.1 ≠ k + i := by
    intro l
    induction l with
    | nil => intro i k q h; cases h
    | cons x l ih =>
      intro i k q h
      cases i with
      | zero =>
        have h1 : q ∈ dm_as ad (k + 1) l := h
        have h2 := dm_as_ge _ _ _ h1
        exact ⟨dm_as_tail h1, by omega⟩
      | succ n =>
        rcases dm_as_cons h with ⟨w, hw, h⟩ | h
        · rw [hw, h]
          exact ⟨List.mem_cons_self, by show k ≠ k + (n + 1); omega⟩
        · obtain ⟨h1, h2⟩ := ih n (k + 1) q h
          exact ⟨dm_as_tail h1, by omega⟩
  refine ⟨⟨h'.1, h'.2.1, fun q hq => h'.2.2 q ?_⟩, (dm_set_len _ _ _).trans ((dm_set_len _ _ _).trans h.2.1), fun w hw => ?_⟩
  · obtain ⟨hq, hq2⟩ := key _ _ _ _ hq
    rcases dm_as_set ls i 0 q hn hq with ⟨w, hw, h1⟩ | ⟨h1, h2, h3⟩
    · cases hw
      rw [Nat.zero_add] at h1
      rw [h1]; exact List.mem_cons_self
    · rw [Nat.zero_add] at h2 h3 hq2
      refine List.mem_cons_of_mem _ (List.mem_filter.mpr ⟨h1, ?_⟩)
      simp only [Bool.and_eq_true, Bool.not_eq_true', beq_eq_false_iff_ne, ne_eq, Bool.and_eq_false_iff]
      refine ⟨h2, hq2, ?_⟩
      by_cases e : q.1 + 1 = i
      · exact Or.inr (fun z => h3 ⟨e, z⟩)
      · exact Or.inl e
  · rcases dm_set_mem _ _ _ w hw with e | e
    · cases e
    · rcases dm_set_mem ls i _ w e with e | e
      · cases e; exact hv
      · exact h.2.2 w e
def dm_len (pc : Nat) : Instr → Nat
  | .aload _ | .iload _ | .astore _ | .istore _ | .bipush _ | .ldc _ | .newarray _ => 2
  | .iinc _ _ | .sipush _ | .ldc_w _ | .ldc2_w _ | .getstatic _ | .getfield _ | .putfield _ | .new _ | .anewarray _ | .if_icmp _ _ | .ifCond _ _ | .goto _ | .invokevirtual _ | .invokespecial _ | .invokestatic _ => 3
  | .tableswitch _ _ _ offs => 1 + (3 - pc % 4) + 12 + 4 * offs.size
  | _ => 1
end
section
/-! the machine follows the abstract one: loads, constants, arithmetic -/
theorem dm_is_i {b : Bool} {K : Prop} (h : dm_is b K) : b = true ∧ K := by
  cases b
  · exact h.elim
  · exact ⟨rfl, h⟩
theorem dm_ldI_i {ls : dm_L} {i : Nat} {K : Int32 → Prop} (h : dm_ldI ls i K) : ∃ x, dm_nth ls i = some (vi x) ∧ K x := by
  unfold dm_ldI at h; split at h
  · exact ⟨_, by assumption, h⟩
  · exact h.elim
theorem dm_ldL_i {ls : dm_L} {i : Nat} {K : Int64 → Prop} (h : dm_ldL ls i K) : ∃ x, dm_nth ls i = some (vl x) ∧ K x := by
  unfold dm_ldL at h; split at h
  · exact ⟨_, by assumption, h⟩
  · exact h.elim
theorem dm_ldR_i {ls : dm_L} {i : Nat} {K : Nat → Nat → Prop} (h : dm_ldR ls i K) : ∃ t j, dm_nth ls i = some (vr t j) ∧ K t j := by
  unfold dm_ldR at h; split at h
  · exact ⟨_, _, by assumption, h⟩
  · exact h.elim
theorem dm_1_i {st : List dm_V} {K : Int32 → List dm_V → Prop} (h : dm_1 st K) : ∃ x l, st = vi x :: l ∧ K x l := by
  unfold dm_1 at h; split at h
  · exact ⟨_, _, rfl, h⟩
  · exact h.elim
theorem dm_2_i {st : List dm_V} {K : Int32 → Int32 → List dm_V → Prop} (h : dm_2 st K) : ∃ x y l, st = vi y :: vi x :: l ∧ K x y l := by
  unfold dm_2 at h; split at h
  · exact ⟨_, _, _, rfl, h⟩
  · exact h.elim
theorem dm_22_i {st : List dm_V} {K : Int64 → Int64 → List dm_V → Prop} (h : dm_22 st K) : ∃ x y l, st = vl y :: vl x :: l ∧ K x y l := by
  unfold dm_22 at h; split at h
  · exact ⟨_, _, _, rfl, h⟩
  · exact h.elim
theorem dm_r_i {st : List dm_V} {K : Nat → Nat → List dm_V → Prop} (h : dm_r st K) : ∃ t i l, st = vr t i :: l ∧ K t i l := by
  unfold dm_r at h; split at h
  · exact ⟨_, _, _, rfl, h⟩
  · exact h.elim
theorem dm_v1_i {ad : Nat → Nat → Nat} {st : List dm_V} {K : dm_V → List dm_V → Prop} (h : dm_v1 st K) : ∃ v l, st = v :: l ∧ (dm_cv ad v).category = 1 ∧ K v l := by
  unfold dm_v1 at h; split at h
  · exact ⟨_, _, rfl, rfl, h⟩
  · rename_i x l
    refine ⟨_, _, rfl, ?_, h⟩
    rcases x with _ | ⟨_, _⟩ <;> rfl
  · exact h.elim
theorem dm_v_i {st : List dm_V} {K : dm_V → List dm_V → Prop} (h : dm_v st K) : ∃ v l, st = v :: l ∧ K v l := by
  unfold dm_v at h; split at h
  · exact ⟨_, _, rfl, h⟩
  · exact h.elim
theorem dm_ir_i {st : List dm_V} {K : Int32 → Nat → Nat → List dm_V → Prop} (h : dm_ir st K) : ∃ x t i l, st = vi x :: vr t i :: l ∧ K x t i l := by
  unfold dm_ir at h; split at h
  · exact ⟨_, _, _, _, rfl, h⟩
  · exact h.elim
theorem dm_so_i {α : Type} {o : Option α} {K : α → Prop} (h : dm_so o K) : ∃ x, o = some x ∧ K x := by
  unfold dm_so at h; split at h
  · exact ⟨_, rfl, h⟩
  · exact h.elim
theorem dm_ix_i {x : Int32} {n : Nat} {K : Prop} (h : dm_ix x n K) : vp_in x n ∧ K := by
  unfold dm_ix at h; split at h
  · exact h.elim
  · exact ⟨by assumption, h⟩
theorem dm_ix_of {x : Int32} {n : Nat} {K : Prop} (h : vp_in x n) (k : K) : dm_ix x n K := by
  unfold dm_ix; rw [if_neg h]; exact k
theorem dm_tg_i {pc : Nat} {off : Int} {K : Nat → Prop} (h : dm_tg pc off K) : ∃ n : Nat, (pc : Int) + off = (n : Int) ∧ K n := by
  unfold dm_tg at h; split at h
  · exact ⟨_, by assumption, h⟩
  · exact h.elim
theorem dm_ok2 {ok : dm_V → Prop} {v : dm_V} {st : List dm_V} (hv : ok v) (h : ∀ v ∈ st, ok v) : ∀ w ∈ v :: st, ok w := fun w hw => by
  rcases List.mem_cons.mp hw with e | e
  · rw [e]; exact hv
  · exact h w e
theorem dm_okt {ok : dm_V → Prop} {v : dm_V} {st : List dm_V} (h : ∀ w ∈ v :: st, ok w) : ∀ w ∈ st, ok w := fun w hw => h w (List.mem_cons_of_mem _ hw)
section SIMA
variable {p : Program} {l : Launch} {e : Env} {R : Room} {s : State} {m : MethodId} {args : Array Value} {below : List Frame} {meth : Method} {c : Code} {Qw : State → Prop} {μ : Type} {E : dm_E} {M : dm_M} {ad : Nat → Nat → Nat} {ok : dm_V → Prop} {nL : Nat} {cc : ByteArray} {Am : μ → Heap → List Loc → Nat → Nat → Prop}
/-- at pc, from every state of the machine that has these locals, this stack, this memory: it comes to Qw -/
def dm_P (p : Program) (l : Launch) (e : Env) (R : Room) (s : State) (m : MethodId) (args : Array Value) (below : List Frame) (meth : Method) (c : Code) (Qw : State → Prop) (ad : Nat → Nat → Nat) (ok : dm_V → Prop) (nL : Nat) (Am : μ → Heap → List Loc → Nat → Nat → Prop) (pc : Nat) (ls : dm_L) (st : List dm_V) (σ : μ) : Prop :=
  ∀ (H : Heap) (locs : List Loc) (lsC : Array Slot) (cells slots : Nat), Am σ H locs cells slots → dm_Al ad ok nL ls lsC → (∀ v ∈ st, ok v) → W p l e R s m args below meth c H locs cells slots Qw (F0 m pc lsC (st.map (dm_cv ad)))
/-- constants -/
def dm_hcs (p : Program) (l : Launch) (e : Env) (R : Room) (s : State) (m : MethodId) (args : Array Value) (below : List Frame) (meth : Method) (c : Code) (Qw : State → Prop) (ad : Nat → Nat → Nat) (ok : dm_V → Prop) (cc : ByteArray) (E : dm_E) (M : dm_M) : Prop :=
  ∀ (k n : Nat) (i : Instr) (v : dm_V), ((i = .ldc k ∧ n = 2) ∨ (i = .ldc_w k ∧ n = 3) ∨ (i = .ldc2_w k ∧ n = 3)) → E.2.2.2.1 M.1 k = some v → ok v ∧ ∀ (pc : Nat) (H : Heap) (locs : List Loc) (cells slots : Nat) (lsC : Array Slot) (rest : List Value), decode cc pc = .ok (i, n) → W p l e R s m args below meth c H locs cells slots Qw (F0 m (pc + n) lsC (dm_cv ad v :: rest)) → W p l e R s m args below meth c H locs cells slots Qw (F0 m pc lsC rest)
/-- statics -/
def dm_hst (p : Program) (l : Launch) (e : Env) (R : Room) (s : State) (m : MethodId) (args : Array Value) (below : List Frame) (meth : Method) (c : Code) (Qw : State → Prop) (ad : Nat → Nat → Nat) (ok : dm_V → Prop) (cc : ByteArray) (E : dm_E) (M : dm_M) (Am : μ → Heap → List Loc → Nat → Nat → Prop) : Prop :=
  ∀ (k : Nat) (v : dm_V), E.2.2.2.2.1 M.1 k = some v → ok v ∧ ∀ (pc : Nat) (σ : μ) (H : Heap) (locs : List Loc) (cells slots : Nat) (lsC : Array Slot) (rest : List Value), Am σ H locs cells slots → decode cc pc = .ok (.getstatic k, 3) → W p l e R s m args below meth c H locs cells slots Qw (F0 m (pc + 3) lsC (dm_cv ad v :: rest)) → W p l e R s m args below meth c H locs cells slots Qw (F0 m pc lsC rest)
set_option maxHeartbeats 4000000 in
theorem dm_simA (hx : p.tables.exec = Jvm.exec) (hb : c.code = cc) (hoi : ∀ x, ok (vi x)) (hol : ∀ x, ok (vl x)) (hcs : dm_hcs p l e R s m args below meth c Qw ad ok cc E M) (hst : dm_hst p l e R s m args below meth c Qw ad ok cc E M Am) {pc : Nat} {ls : dm_L} {st : List dm_V} {σ : μ} {i : Instr} (hd : decode cc pc = .ok (i, dm_len pc i)) (h : dm_FA E M (dm_P p l e R s m args below meth c Qw ad ok nL Am) pc ls st σ i) : dm_P p l e R s m args below meth c Qw ad ok nL Am pc ls st σ := by
  intro H locs lsC cells slots hA hL hS
  cases i with
  | aload n =>
    obtain ⟨t, j, h1, h⟩ := dm_ldR_i h
    exact lv_aload hx hb hd (hL.at h1).1 (h _ _ _ _ _ hA hL (dm_ok2 (hL.at h1).2 hS))
  | aload_n n =>
    obtain ⟨t, j, h1, h⟩ := dm_ldR_i h
    exact lv_aload_n hx hb hd rfl (hL.at h1).1 (h _ _ _ _ _ hA hL (dm_ok2 (hL.at h1).2 hS))
  | iload n =>
    obtain ⟨x, h1, h⟩ := dm_ldI_i h
    exact lv_iload hx hb hd (hL.at h1).1 (h _ _ _ _ _ hA hL (dm_ok2 (hoi x) hS))
  | iload_n n =>
    obtain ⟨x, h1, h⟩ := dm_ldI_i h
    exact lv_iload_n hx hb hd rfl (hL.at h1).1 (h _ _ _ _ _ hA hL (dm_ok2 (hoi x) hS))
  | lload_n n =>
    obtain ⟨x, h1, h⟩ := dm_ldL_i h
    exact lv_lload_n hx hb hd rfl (hL.at h1).1 (h _ _ _ _ _ hA hL (dm_ok2 (hol x) hS))
  | astore n =>
    obtain ⟨t, j, l, rfl, h⟩ := dm_r_i h
    obtain ⟨h1, h⟩ := dm_is_i h
    obtain ⟨h2, h⟩ := dm_is_i h
    exact lv_astore hx hb hd hL.1 (by rw [← hL.2.1]; exact Nat.le_of_ble_eq_true h1) rfl (fun ls' hl' => h _ _ _ _ _ hA (hL.set1 h2 (hS _ List.mem_cons_self) hl') (dm_okt hS))
  | astore_n n =>
    obtain ⟨t, j, l, rfl, h⟩ := dm_r_i h
    obtain ⟨h1, h⟩ := dm_is_i h
    obtain ⟨h2, h⟩ := dm_is_i h
    exact lv_astore_n hx hb hd rfl hL.1 (by rw [← hL.2.1]; exact Nat.le_of_ble_eq_true h1) rfl (fun ls' hl' => h _ _ _ _ _ hA (hL.set1 h2 (hS _ List.mem_cons_self) hl') (dm_okt hS))
  | istore n =>
    obtain ⟨x, l, rfl, h⟩ := dm_1_i h
    obtain ⟨h1, h⟩ := dm_is_i h
    obtain ⟨h2, h⟩ := dm_is_i h
    exact lv_istore hx hb hd hL.1 (by rw [← hL.2.1]; exact Nat.le_of_ble_eq_true h1) rfl (fun ls' hl' => h _ _ _ _ _ hA (hL.set1 h2 (hoi x) hl') (dm_okt hS))
  | istore_n n =>
    obtain ⟨x, l, rfl, h⟩ := dm_1_i h
    obtain ⟨h1, h⟩ := dm_is_i h
    obtain ⟨h2, h⟩ := dm_is_i h
    exact lv_istore_n hx hb hd rfl hL.1 (by rw [← hL.2.1]; exact Nat.le_of_ble_eq_true h1) rfl (fun ls' hl' => h _ _ _ _ _ hA (hL.set1 h2 (hoi x) hl') (dm_okt hS))
  | lstore_n n =>
    unfold dm_FA at h
    dsimp only at h
    split at h
    · obtain ⟨h1, h⟩ := dm_is_i h
      obtain ⟨h2, h⟩ := dm_is_i h
      exact lv_lstore_n hx hb hd rfl hL.1 (by rw [← hL.2.1]; exact Nat.le_of_ble_eq_true h1) rfl (fun ls' hl' => h _ _ _ _ _ hA (hL.set2 h2 (hol _) hl') (dm_okt hS))
    · exact h.elim
  | iinc n k =>
    obtain ⟨x, h0, h⟩ := dm_ldI_i h
    obtain ⟨h1, h⟩ := dm_is_i h
    obtain ⟨h2, h⟩ := dm_is_i h
    have hm := dm_as_nth (ad := ad) ls 0 n _ h0
    rw [Nat.zero_add] at hm
    obtain ⟨k9, hk9⟩ := List.getElem?_of_mem hm
    exact lv_iinc hx hb hd hL.1 hk9 rfl (by rw [← hL.2.1]; exact Nat.le_of_ble_eq_true h1) rfl (fun ls' hl' => h _ _ _ _ _ hA (hL.set1 h2 (hoi _) hl') hS)
  | iconst k => exact lv_iconst hx hb hd rfl (h _ _ _ _ _ hA hL (dm_ok2 (hoi _) hS))
  | bipush k => exact lv_bipush hx hb hd rfl (h _ _ _ _ _ hA hL (dm_ok2 (hoi _) hS))
  | sipush k => exact lv_sipush hx hb hd rfl (h _ _ _ _ _ hA hL (dm_ok2 (hoi _) hS))
  | lconst k => exact lv_lconst hx hb hd rfl (h _ _ _ _ _ hA hL (dm_ok2 (hol _) hS))
  | iadd =>
    obtain ⟨x, y, l, rfl, h⟩ := dm_2_i h
    exact lv_iadd hx hb hd (h _ _ _ _ _ hA hL (dm_ok2 (hoi _) (dm_okt (dm_okt hS))))
  | isub =>
    obtain ⟨x, y, l, rfl, h⟩ := dm_2_i h
    exact lv_isub hx hb hd (h _ _ _ _ _ hA hL (dm_ok2 (hoi _) (dm_okt (dm_okt hS))))
  | imul =>
    obtain ⟨x, y, l, rfl, h⟩ := dm_2_i h
    exact lv_imul hx hb hd (h _ _ _ _ _ hA hL (dm_ok2 (hoi _) (dm_okt (dm_okt hS))))
  | iand =>
    obtain ⟨x, y, l, rfl, h⟩ := dm_2_i h
    exact lv_iand hx hb hd (h _ _ _ _ _ hA hL (dm_ok2 (hoi _) (dm_okt (dm_okt hS))))
  | ior =>
    obtain ⟨x, y, l, rfl, h⟩ := dm_2_i h
    exact lv_ior hx hb hd (h _ _ _ _ _ hA hL (dm_ok2 (hoi _) (dm_okt (dm_okt hS))))
  | ixor =>
    obtain ⟨x, y, l, rfl, h⟩ := dm_2_i h
    exact lv_ixor hx hb hd (h _ _ _ _ _ hA hL (dm_ok2 (hoi _) (dm_okt (dm_okt hS))))
  | ishl =>
    obtain ⟨x, y, l, rfl, h⟩ := dm_2_i h
    exact lv_ishl hx hb hd (h _ _ _ _ _ hA hL (dm_ok2 (hoi _) (dm_okt (dm_okt hS))))
  | ishr =>
    obtain ⟨x, y, l, rfl, h⟩ := dm_2_i h
    exact lv_ishr hx hb hd (h _ _ _ _ _ hA hL (dm_ok2 (hoi _) (dm_okt (dm_okt hS))))
  | iushr =>
    obtain ⟨x, y, l, rfl, h⟩ := dm_2_i h
    exact lv_iushr hx hb hd rfl (h _ _ _ _ _ hA hL (dm_ok2 (hoi _) (dm_okt (dm_okt hS))))
  | ineg =>
    obtain ⟨x, l, rfl, h⟩ := dm_1_i h
    exact lv_ineg hx hb hd (h _ _ _ _ _ hA hL (dm_ok2 (hoi _) (dm_okt hS)))
  | idiv =>
    obtain ⟨x, y, l, rfl, h⟩ := dm_2_i h
    obtain ⟨h1, h⟩ := dm_is_i h
    exact lv_idiv hx hb hd (by simpa using h1) (h _ _ _ _ _ hA hL (dm_ok2 (hoi _) (dm_okt (dm_okt hS))))
  | irem =>
    obtain ⟨x, y, l, rfl, h⟩ := dm_2_i h
    obtain ⟨h1, h⟩ := dm_is_i h
    exact lv_irem hx hb hd (by simpa using h1) (h _ _ _ _ _ hA hL (dm_ok2 (hoi _) (dm_okt (dm_okt hS))))
  | i2b =>
    obtain ⟨x, l, rfl, h⟩ := dm_1_i h
    exact lv_i2b hx hb hd rfl (h _ _ _ _ _ hA hL (dm_ok2 (hoi _) (dm_okt hS)))
  | i2l =>
    obtain ⟨x, l, rfl, h⟩ := dm_1_i h
    exact lv_i2l hx hb hd rfl (h _ _ _ _ _ hA hL (dm_ok2 (hol _) (dm_okt hS)))
  | ladd =>
    obtain ⟨x, y, l, rfl, h⟩ := dm_22_i h
    exact lv_ladd hx hb hd (h _ _ _ _ _ hA hL (dm_ok2 (hol _) (dm_okt (dm_okt hS))))
  | lmul =>
    obtain ⟨x, y, l, rfl, h⟩ := dm_22_i h
    exact lv_lmul hx hb hd (h _ _ _ _ _ hA hL (dm_ok2 (hol _) (dm_okt (dm_okt hS))))
  | lcmp =>
    obtain ⟨x, y, l, rfl, h⟩ := dm_22_i h
    exact W.lcmp hx hb hd (h _ _ _ _ _ hA hL (dm_ok2 (hoi _) (dm_okt (dm_okt hS))))
  | dup =>
    unfold dm_FA at h
    obtain ⟨v, l, rfl, h1, h⟩ := dm_v1_i (ad := ad) h
    exact lv_dup hx hb hd h1 (h _ _ _ _ _ hA hL (dm_ok2 (hS _ List.mem_cons_self) hS))
  | pop =>
    unfold dm_FA at h
    obtain ⟨v, l, rfl, h1, h⟩ := dm_v1_i (ad := ad) h
    exact lv_pop hx hb hd h1 (h _ _ _ _ _ hA hL (dm_okt hS))
  | dup2 =>
    unfold dm_FA at h
    obtain ⟨v, l, rfl, h1, h⟩ := dm_v1_i (ad := ad) h
    obtain ⟨w, l, rfl, h2, h⟩ := dm_v1_i (ad := ad) h
    exact lv_dup2_11 hx hb hd h1 h2 (h _ _ _ _ _ hA hL (dm_ok2 (hS _ List.mem_cons_self) (dm_ok2 (hS _ (List.mem_cons_of_mem _ List.mem_cons_self)) hS)))
  | ldc k =>
    obtain ⟨v, h1, h⟩ := dm_so_i h
    obtain ⟨g1, g2⟩ := hcs k 2 _ v (Or.inl ⟨rfl, rfl⟩) h1
    exact g2 _ _ _ _ _ _ _ hd (h _ _ _ _ _ hA hL (dm_ok2 g1 hS))
  | ldc_w k =>
    obtain ⟨v, h1, h⟩ := dm_so_i h
    obtain ⟨g1, g2⟩ := hcs k 3 _ v (Or.inr (Or.inl ⟨rfl, rfl⟩)) h1
    exact g2 _ _ _ _ _ _ _ hd (h _ _ _ _ _ hA hL (dm_ok2 g1 hS))
  | ldc2_w k =>
    obtain ⟨v, h1, h⟩ := dm_so_i h
    obtain ⟨g1, g2⟩ := hcs k 3 _ v (Or.inr (Or.inr ⟨rfl, rfl⟩)) h1
    exact g2 _ _ _ _ _ _ _ hd (h _ _ _ _ _ hA hL (dm_ok2 g1 hS))
  | getstatic k =>
    obtain ⟨v, h1, h⟩ := dm_so_i h
    obtain ⟨g1, g2⟩ := hst k v h1
    exact g2 _ _ _ _ _ _ _ _ hA hd (h _ _ _ _ _ hA hL (dm_ok2 g1 hS))
  | _ => exact h.elim
end SIMA
end
section
/-! the machine follows the abstract one: fields and arrays -/
/-- an array with one place changed -/
def dm_xs : dm_X → Nat → dm_V → dm_X
  | .inl f, j, .inl z => .inl (upd f j z)
  | .inr (.inl f), j, .inr (.inl z) => .inr (.inl (vp_updL f j z))
  | .inr (.inr f), j, .inr (.inr z) => .inr (.inr (va_up f j z))
  | x, _, _ => x
def dm_tyl : List FieldType := [.int, .byte, .boolean, .long, .object "MistakesLent$Need", .object "MistakesLent$Deed", .object "MistakesLent$Steps", .object "MistakesLent$Slip", .object "MistakesLent$Desk"]
def dm_tys (dA : FieldType → ClassId) : List (ClassId × FieldType) := dm_tyl.map (fun ty => (dA ty, ty))
theorem dm_tys_at {dA : FieldType → ClassId} {ty : FieldType} {k : Nat} (h : dm_tyl[k]? = some ty) : (dm_tys dA)[k]? = some (dA ty, ty) := by
  unfold dm_tys; rw [List.getElem?_map, h]; rfl
section SIMM
variable {p : Program} {l : Launch} {e : Env} {R : Room} {s : State} {m : MethodId} {args : Array Value} {below : List Frame} {meth : Method} {c : Code} {Qw : State → Prop} {μ : Type} {E : dm_E} {O : dm_O μ} {M : dm_M} {ad : Nat → Nat → Nat} {ok : dm_V → Prop} {nL : Nat} {cc : ByteArray}
variable {D : va_G} {dA : FieldType → ClassId} {cl : List vw_C} {B : Nat} {tl : μ → List (dm_R × dm_C)} {sz : μ → Nat → Prop} {okM : μ → Prop} {cnt lim : μ → Nat × Nat} {c0 lm : Nat × Nat} {Ts : List Cond} {own : String}
/-- the machine's memory holds the abstract one -/
def dm_Am (D : va_G) (dA : FieldType → ClassId) (cl : List vw_C) (ad : Nat → Nat → Nat) (B : Nat) (tl : μ → List (dm_R × dm_C)) (sz : μ → Nat → Prop) (okM : μ → Prop) (cnt lim : μ → Nat × Nat) (c0 lm : Nat × Nat) (s : State) (σ : μ) (H : Heap) (locs : List Loc) (cells slots : Nat) : Prop :=
  va_P D cl (dm_wd ad dA (tl σ)) H ∧ va_D (fun q => B ≤ q) (dm_wd ad dA (tl σ)) ∧ va_S (fun q => B ≤ q) s.heap H locs ∧ sz σ H.size ∧ okM σ ∧ cells + c0.1 = (cnt σ).1 ∧ slots + c0.2 = (cnt σ).2 ∧ lim σ = lm
def dm_hget (O : dm_O μ) (ok : dm_V → Prop) (tl : μ → List (dm_R × dm_C)) (okM : μ → Prop) : Prop :=
  ∀ σ r ci k v, okM σ → ok (.inr (.inr (some r))) → O.1 σ r ci k = some v → ok v ∧ ∃ (q0 : Nat) (fs : List dm_V), (tl σ)[q0]? = some (r, Sum.inl (ci, fs)) ∧ fs[k]? = some v
def dm_hput (O : dm_O μ) (ok : dm_V → Prop) (cl : List vw_C) (ad : Nat → Nat → Nat) (tl : μ → List (dm_R × dm_C)) (sz : μ → Nat → Prop) (okM : μ → Prop) (cnt lim : μ → Nat × Nat) : Prop :=
  ∀ σ r ci k v σ', okM σ → ok (.inr (.inr (some r))) → ok v → O.2.1 σ r ci k v = some σ' → okM σ' ∧ (∀ n, sz σ n → sz σ' n) ∧ cnt σ' = cnt σ ∧ lim σ' = lim σ ∧ (∃ (q0 : Nat) (fs : List dm_V), (tl σ)[q0]? = some (r, Sum.inl (ci, fs)) ∧ k < fs.length ∧ tl σ' = (tl σ).set q0 (r, .inl (ci, fs.set k v))) ∧ ∃ (C : String) (T : u_T) (N : Nat) (ty : FieldType), cl[ci]? = some (C, T, N) ∧ parseFieldDescriptor (T k).2.2.1 = some ty ∧ narrow ty (dm_cv ad v) = dm_cv ad v ∧ fits ty (dm_cv ad v) = true
def dm_harr (O : dm_O μ) (ok : dm_V → Prop) (ad : Nat → Nat → Nat) (B : Nat) (tl : μ → List (dm_R × dm_C)) (okM : μ → Prop) (s : State) : Prop :=
  ∀ σ r ty n x, okM σ → ok (.inr (.inr (some r))) → O.2.2.1 σ r = some (ty, n, x) → ((∃ q0 : Nat, (tl σ)[q0]? = some (r, Sum.inr (ty, n, x))) ∨ (ty = .int ∧ ∃ f : Nat → Int32, x = .inl f ∧ n < 2 ^ 31 ∧ va_X (ad r.1 r.2) n f s s.heap ∧ ad r.1 r.2 < s.heap.size ∧ ¬ B ≤ ad r.1 r.2)) ∧ (∃ t0 : Nat, dm_tyl[t0]? = some ty) ∧ ∀ f, x = .inr (.inr f) → ∀ j, j < n → ok (.inr (.inr (f j)))
def dm_hsta (O : dm_O μ) (ok : dm_V → Prop) (cl : List vw_C) (tl : μ → List (dm_R × dm_C)) (sz : μ → Nat → Prop) (okM : μ → Prop) (cnt lim : μ → Nat × Nat) : Prop :=
  ∀ σ r ty n x j v σ', okM σ → ok (.inr (.inr (some r))) → ok v → O.2.2.1 σ r = some (ty, n, x) → j < n → O.2.2.2.1 σ r j v = some σ' → okM σ' ∧ (∀ n, sz σ n → sz σ' n) ∧ cnt σ' = cnt σ ∧ lim σ' = lim σ ∧ (∃ q0 : Nat, (tl σ)[q0]? = some (r, Sum.inr (ty, n, x)) ∧ tl σ' = (tl σ).set q0 (r, .inr (ty, n, dm_xs x j v))) ∧ ∀ q, v = .inr (.inr (some q)) → ∃ (qk ci : Nat) (vs : List dm_V) (w : vw_C), (tl σ)[qk]? = some (q, .inl (ci, vs)) ∧ cl[ci]? = some w ∧ ty = .object w.1
def dm_hfl (E : dm_E) (M : dm_M) (cl : List vw_C) (own : String) (Ts : List Cond) (args : Array Value) (s : State) : Prop :=
  ∀ k ci kk, E.1 M.1 k = some (ci, kk) → ∃ (C : String) (T : u_T) (N : Nat), cl[ci]? = some (C, T, N) ∧ kk < N ∧ (Cond.fieldLink own k (T kk).1 (T kk).2.1 (T kk).2.2.1).before args s = true ∧ (∀ w ∈ u_ws C T N, w ∈ Ts) ∧ ∃ ty0 : Nat → FieldType, (∀ k, k < N → parseFieldDescriptor (T k).2.2.1 = some (ty0 k)) ∧ ∀ a, a < N → ∀ b, b < N → a ≠ b → (T a).2.1 ≠ (T b).2.1
theorem dm_Am.put {σ σ' : μ} {H H1 : Heap} {locs locs1 : List Loc} {cells slots q0 : Nat} {r : dm_R} {x : dm_C} (h : dm_Am D dA cl ad B tl sz okM cnt lim c0 lm s σ H locs cells slots) (ht : tl σ' = (tl σ).set q0 (r, x)) (h1 : okM σ') (h2 : ∀ n, sz σ n → sz σ' n) (h3 : cnt σ' = cnt σ) (h4 : lim σ' = lim σ)
    (hP : va_P D cl ((dm_wd ad dA (tl σ)).set q0 (ad r.1 r.2, dm_cc ad dA x)) H1) (hD : va_D (fun q => B ≤ q) ((dm_wd ad dA (tl σ)).set q0 (ad r.1 r.2, dm_cc ad dA x))) (hS : va_S (fun q => B ≤ q) s.heap H1 locs1) (hz : H1.size = H.size) : dm_Am D dA cl ad B tl sz okM cnt lim c0 lm s σ' H1 locs1 cells slots := by
  obtain ⟨a1, a2, a3, a4, a5, a6, a7, a8⟩ := h
  exact ⟨by rw [ht, dm_wd_set]; exact hP, by rw [ht, dm_wd_set]; exact hD, hS, by rw [hz]; exact h2 _ a4, h1, by rw [h3]; exact a6, by rw [h3]; exact a7, h4.trans a8⟩
/-- a field is written: the rows of the kit, with the heap's size -/
theorem dm_putW {H : Heap} {locs : List Loc} {cells slots pc a q0 ci k N index : Nat} {C : String} {T : u_T} {A : Nat → Prop} {H0 : Heap} {ws : va_W} {tys : List (ClassId × FieldType)} {ls : Array Slot} {rest : List Value} {fs : List Value} {ty : FieldType} {v : Value} {ty0 : Nat → FieldType}
    (hx : p.tables.exec = Jvm.exec) (hb : c.code = cc) (hts : ∀ w ∈ Ts, w.before args s = true) (hin : ∀ w ∈ u_ws C T N, w ∈ Ts) (hty : ∀ k, k < N → parseFieldDescriptor (T k).2.2.1 = some (ty0 k)) (hnm : ∀ a, a < N → ∀ b, b < N → a ≠ b → (T a).2.1 ≠ (T b).2.1) (hown : s.vm.findClass own = some m.cls) (hK : va_K D cl tys s) (hP : va_P D cl ws H) (hD : va_D A ws) (hS0 : va_S A H0 H locs) (he : ws[q0]? = some (a, .inr (ci, fs))) (hc : cl[ci]? = some (C, T, N)) (hk : k < N) (hlink : (Cond.fieldLink own index (T k).1 (T k).2.1 (T k).2.2.1).before args s = true) (hfin : (T k).2.2.2 = true → meth.name = "<init>" ∧ (T k).1 = own) (hd : parseFieldDescriptor (T k).2.2.1 = some ty) (hn : narrow ty v = v) (hfit : fits ty v = true) (hl : k < fs.length)
    (hdg : decode cc pc = .ok (.putfield index, 3)) (kk : ∀ (H1 : Heap) (locs1 : List Loc), H1.size = H.size → va_P D cl (ws.set q0 (a, .inr (ci, fs.set k v))) H1 → va_D A (ws.set q0 (a, .inr (ci, fs.set k v))) → va_S A H0 H1 locs1 → W p l e R s m args below meth c H1 locs1 cells slots Qw (F0 m (pc + 3) ls rest)) : W p l e R s m args below meth c H locs cells slots Qw (F0 m pc ls (v :: .ref a :: rest)) := by
  have hap := va_apart (own := own) hts hin ty0 hty hnm hK hc
  obtain ⟨w, hw, cell, b1, b2, b3, b4⟩ := hP q0 _ he
  obtain rfl : w = (C, T, N) := Option.some.inj (hw.symm.trans hc)
  obtain ⟨hSl, hfc, kC, hkC, hkind⟩ := hK.1 ci _ hc
  obtain ⟨cf, kf, fi, f, hi, hsl⟩ := hSl k hk
  have hlay := hts _ (hin _ (u_in_lay hk))
  have hst := (u_facts hfc hkC (u_lays hts hin hk) hi).1
  have fin : ∀ H' : Heap, H'[a]? = some (cell.setSlot f.slot v) → H'.size = H.size → (∀ q, q ≠ a → H'[q]? = H[q]?) → W p l e R s m args below meth c H' (locs ++ [⟨a, f.slot⟩]) cells slots Qw (F0 m (pc + 3) ls rest) := by
    intro H' e1 e2 e3
    rw [hsl] at e1 ⊢
    exact kk H' _ e2 (hP.set hD he ⟨_, hc, t_OB.to (V := updV (vp_V fs) k v) ⟨_, e1, b2, b3, t_set b4 hap hk v⟩ (fun j _ => vp_updV_set hl v j)⟩ e3) (hD.set he) (hS0.put e2 e3 (hD.2 q0 _ he))
  have hlt : f.slot < cell.slots.size := by rw [hsl]; exact k2_hasslot (b4 k hk)
  unfold u_lay at hlay
  by_cases hF : (T k).2.2.2 = true
  · rw [if_pos hF] at hlay
    obtain ⟨hin2, hdecl⟩ := hfin hF
    have hcf : m.cls = cf := by
      obtain ⟨_, _, c', _, _, _, -, -, hf', -, -, -, hown2, -⟩ := Cond.laysFinal_spec hlay
      have e1 : c' = cf := by have := hi.symm.trans hf'; simp at this; exact this.1.symm
      rw [hdecl] at hown2
      rw [← e1]; exact Option.some.inj (hown.symm.trans hown2)
    exact W.putFinK hx hb hown hlink hi hst hcf hin2 (by rw [b2]; exact u_fits hfc hkC hkind (Or.inr hlay) hi hd hn hfit) b1 b3 hlt rfl rfl hdg fin
  · rw [if_neg hF] at hlay
    exact W.putK hx hb (f := f) ⟨hown, hlink, ⟨_, _, _, hi⟩, hst⟩ (by rw [b2]; exact u_store hfc hkC hkind hlay hi hd hn hfit) b1 b3 hlt rfl rfl hdg fin
theorem dm_cell_i (cA : ClassId) (n j : Nat) (f : Nat → Int32) (x : Int32) : (vp_cell cA (n, .inl f)).setSlot j (.int x) = vp_cell cA (n, .inl (upd f j x)) := by
  rw [vp_cell_i, vp_cell_i, arrV_store]
  congr 1
  funext q
  by_cases hq : q = j <;> simp [updV, upd, hq]
theorem dm_cell_l (cA : ClassId) (n j : Nat) (f : Nat → Int64) (x : Int64) : (vp_cell cA (n, .inr (.inl f))).setSlot j (.long x) = vp_cell cA (n, .inr (.inl (vp_updL f j x))) := by
  rw [vp_cell_l, vp_cell_l, arrV_store]
  congr 1
  funext q
  by_cases hq : q = j <;> simp [updV, vp_updL, hq]
theorem dm_cell_q (cA : ClassId) (n j : Nat) (f : Nat → Option Nat) (x : Nat) : (vp_cell cA (n, .inr (.inr (.inr (.inr f))))).setSlot j (.ref x) = vp_cell cA (n, .inr (.inr (.inr (.inr (va_up f j (some x)))))) := by
  rw [vp_cell_q, vp_cell_q, arrV_store]
  congr 1
  funext q
  by_cases hq : q = j <;> simp [updV, va_up, va_rf, hq]
end SIMM
end
section
section SIMN
variable {p : Program} {l : Launch} {e : Env} {R : Room} {s : State} {m : MethodId} {args : Array Value} {below : List Frame} {meth : Method} {c : Code} {Qw : State → Prop} {μ : Type} {E : dm_E} {O : dm_O μ} {M : dm_M} {ad : Nat → Nat → Nat} {ok : dm_V → Prop} {nL : Nat} {cc : ByteArray}
variable {D : va_G} {dA : FieldType → ClassId} {cl : List vw_C} {B : Nat} {tl : μ → List (dm_R × dm_C)} {sz : μ → Nat → Prop} {okM : μ → Prop} {cnt lim : μ → Nat × Nat} {c0 lm : Nat × Nat} {Ts : List Cond} {own : String}
/-- an array's place is written -/
theorem dm_staW {H : Heap} {locs : List Loc} {cells slots q0 : Nat} {σ σ' : μ} {r : dm_R} {ty : FieldType} {n j : Nat} {x : dm_X} {v : dm_V} {H1 : Heap} {a9 : vp_A} {b9 : ClassId}
    (hA : dm_Am D dA cl ad B tl sz okM cnt lim c0 lm s σ H locs cells slots) (hq : (tl σ)[q0]? = some (r, Sum.inr (ty, n, x))) (ht : tl σ' = (tl σ).set q0 (r, .inr (ty, n, dm_xs x j v))) (h1 : okM σ') (h2 : ∀ n, sz σ n → sz σ' n) (h3 : cnt σ' = cnt σ) (h4 : lim σ' = lim σ)
    (hc : dm_cc ad dA (.inr (ty, n, dm_xs x j v)) = .inl (b9, a9)) (e : H1[ad r.1 r.2]? = some (vp_cell b9 a9)) (z : H1.size = H.size) (oq : ∀ q : Nat, q ≠ ad r.1 r.2 → H1[q]? = H[q]?) : dm_Am D dA cl ad B tl sz okM cnt lim c0 lm s σ' H1 (locs ++ [⟨ad r.1 r.2, j⟩]) cells slots := by
  obtain ⟨a1, a2, a3, -⟩ := id hA
  have ha := dm_wd_at (ad := ad) (dA := dA) hq
  refine hA.put ht h1 h2 h3 h4 ?_ (a2.set ha) (a3.put z oq (a2.2 q0 _ ha)) z
  refine a1.set a2 ha ?_ oq
  rw [hc]
  exact e
set_option maxHeartbeats 4000000 in
theorem dm_simM (hx : p.tables.exec = Jvm.exec) (hb : c.code = cc) (hts : ∀ w ∈ Ts, w.before args s = true) (hown : s.vm.findClass own = some m.cls) (hK : va_K D cl (dm_tys dA) s) (hoi : ∀ x, ok (vi x)) (hol : ∀ x, ok (vl x))
    (hfl : dm_hfl E M cl own Ts args s) (hget : dm_hget O ok tl okM) (hput : dm_hput O ok cl ad tl sz okM cnt lim) (harr : dm_harr O ok ad B tl okM s) (hsta : dm_hsta O ok cl tl sz okM cnt lim)
    {pc : Nat} {ls : dm_L} {st : List dm_V} {σ : μ} {i : Instr} (hfin : ∀ k ci kk C T N, i = .putfield k → E.1 M.1 k = some (ci, kk) → cl[ci]? = some (C, T, N) → (T kk).2.2.2 = true → meth.name = "<init>" ∧ (T kk).1 = own) (hd : decode cc pc = .ok (i, dm_len pc i))
    (hnew : dm_FM E O M (dm_P p l e R s m args below meth c Qw ad ok nL (dm_Am D dA cl ad B tl sz okM cnt lim c0 lm s)) pc ls st σ i → ((∃ k, i = .new k) ∨ (∃ k, i = .newarray k) ∨ ∃ k, i = .anewarray k) → dm_P p l e R s m args below meth c Qw ad ok nL (dm_Am D dA cl ad B tl sz okM cnt lim c0 lm s) pc ls st σ)
    (h : dm_FM E O M (dm_P p l e R s m args below meth c Qw ad ok nL (dm_Am D dA cl ad B tl sz okM cnt lim c0 lm s)) pc ls st σ i) : dm_P p l e R s m args below meth c Qw ad ok nL (dm_Am D dA cl ad B tl sz okM cnt lim c0 lm s) pc ls st σ := by
  cases i with
  | new k => exact hnew h (Or.inl ⟨k, rfl⟩)
  | newarray k => exact hnew h (Or.inr (Or.inl ⟨k, rfl⟩))
  | anewarray k => exact hnew h (Or.inr (Or.inr ⟨k, rfl⟩))
  | getfield k =>
    intro H locs lsC cells slots hA hL hS
    obtain ⟨t, i, l, rfl, h⟩ := dm_r_i h
    obtain ⟨⟨ci, kk⟩, h1, h⟩ := dm_so_i h
    obtain ⟨v, h2, h⟩ := dm_so_i h
    obtain ⟨C, T, N, g1, g2, g3, g4, -⟩ := hfl k ci kk h1
    obtain ⟨a1, a2, a3, a4, a5, -⟩ := id hA
    obtain ⟨f1, q0, fs, f2, f3⟩ := hget σ (t, i) ci kk v a5 (hS _ List.mem_cons_self) h2
    exact va_get (C := C) (T := T) (N := N) hx hb hts g4 hown hK a1 q0 (fs := fs.map (dm_cv ad)) (dm_wd_at f2) g1 kk g2 g3 (fun _ h => h) (by rw [List.getElem?_map, f3]; rfl) hd (h _ _ _ _ _ hA hL (dm_ok2 f1 (dm_okt hS)))
  | putfield k =>
    intro H locs lsC cells slots hA hL hS
    obtain ⟨v, l, rfl, h⟩ := dm_v_i h
    obtain ⟨t, i, l, rfl, h⟩ := dm_r_i h
    obtain ⟨⟨ci, kk⟩, h1, h⟩ := dm_so_i h
    obtain ⟨σ', h2, h⟩ := dm_so_i h
    obtain ⟨C, T, N, g1, g2, g3, g4, ty0, g5, g6⟩ := hfl k ci kk h1
    obtain ⟨a1, a2, a3, a4, a5, -⟩ := id hA
    obtain ⟨b1, b2, b3, b4, ⟨q0, fs, b5, b6, b7⟩, C', T', N', ty, b8, b9, b10, b11⟩ := hput σ (t, i) ci kk v σ' a5 (hS _ (List.mem_cons_of_mem _ List.mem_cons_self)) (hS _ List.mem_cons_self) h2
    cases g1.symm.trans b8
    refine dm_putW hx hb hts g4 g5 g6 hown hK a1 a2 a3 (dm_wd_at b5) g1 g2 g3 (hfin k ci kk C T N rfl h1 g1) b9 b10 b11 (by rw [List.length_map]; exact b6) hd (fun H1 locs1 z hP1 hD1 hS1 => ?_)
    refine h _ _ _ _ _ (hA.put b7 b1 b2 b3 b4 ?_ ?_ hS1 z) hL (dm_okt (dm_okt hS))
    · show va_P D cl ((dm_wd ad dA (tl σ)).set q0 (ad t i, .inr (ci, (fs.set kk v).map (dm_cv ad)))) H1
      rw [List.map_set]
      exact hP1
    · show va_D _ ((dm_wd ad dA (tl σ)).set q0 (ad t i, .inr (ci, (fs.set kk v).map (dm_cv ad))))
      rw [List.map_set]
      exact hD1
  | arraylength =>
    intro H locs lsC cells slots hA hL hS
    obtain ⟨t, i, l, rfl, h⟩ := dm_r_i h
    obtain ⟨⟨ty, n, x⟩, h1, h⟩ := dm_so_i h
    obtain ⟨a1, a2, a3, a4, a5, -⟩ := id hA
    obtain ⟨f1, ⟨t0, f2⟩, -⟩ := harr σ (t, i) ty n x a5 (hS _ List.mem_cons_self) h1
    have k := h _ _ _ _ _ hA hL (dm_ok2 (hoi _) (dm_okt hS))
    rcases f1 with ⟨q0, f1⟩ | ⟨rfl, f, rfl, hn, f3, f4, f5⟩
    · have ha := dm_wd_at (ad := ad) (dA := dA) f1
      match x, ha with
      | .inl f, ha => exact va_alen hx hb hK a1 q0 t0 (cA := dA ty) (x := (n, .inl f)) ha (dm_tys_at f2) rfl hd k
      | .inr (.inl f), ha => exact va_alen hx hb hK a1 q0 t0 (cA := dA ty) (x := (n, .inr (.inl f))) ha (dm_tys_at f2) rfl hd k
      | .inr (.inr f), ha => exact va_alen hx hb hK a1 q0 t0 (cA := dA ty) (x := (n, .inr (.inr (.inr (.inr (fun j => (f j).map (fun p : Nat × Nat => ad p.1 p.2))))))) ha (dm_tys_at f2) rfl hd k
    · exact va_slen hx hb f3 f4 f5 a3 hd k
  | iaload =>
    intro H locs lsC cells slots hA hL hS
    obtain ⟨j, t, i, l, rfl, h⟩ := dm_ir_i h
    obtain ⟨q, h1, h⟩ := dm_so_i h
    split at h
    · obtain ⟨hin, h⟩ := dm_ix_i h
      obtain ⟨a1, a2, a3, a4, a5, -⟩ := id hA
      obtain ⟨f1, -, -⟩ := harr σ (t, i) _ _ _ a5 (hS _ (List.mem_cons_of_mem _ List.mem_cons_self)) h1
      have k := h _ _ _ _ _ hA hL (dm_ok2 (hoi _) (dm_okt (dm_okt hS)))
      rcases f1 with ⟨q0, f1⟩ | ⟨-, f, hf, hn, f3, f4, f5⟩
      · exact va_iald hx hb hK a1 q0 0 (dm_wd_at f1) (dm_tys_at rfl) hin hd k
      · cases hf
        exact va_sld hx hb f3 f4 f5 a3 hin hd k
    · exact h.elim
  | baload =>
    intro H locs lsC cells slots hA hL hS
    obtain ⟨j, t, i, l, rfl, h⟩ := dm_ir_i h
    obtain ⟨q, h1, h⟩ := dm_so_i h
    split at h
    · obtain ⟨hin, h⟩ := dm_ix_i h
      obtain ⟨a1, a2, a3, a4, a5, -⟩ := id hA
      obtain ⟨f1, -, -⟩ := harr σ (t, i) _ _ _ a5 (hS _ (List.mem_cons_of_mem _ List.mem_cons_self)) h1
      have k := h _ _ _ _ _ hA hL (dm_ok2 (hoi _) (dm_okt (dm_okt hS)))
      rcases f1 with ⟨q0, f1⟩ | ⟨hf, -⟩
      · exact va_bald hx hb hK a1 q0 1 (dm_wd_at f1) (dm_tys_at rfl) hin hd k
      · cases hf
    · obtain ⟨hin, h⟩ := dm_ix_i h
      obtain ⟨a1, a2, a3, a4, a5, -⟩ := id hA
      obtain ⟨f1, -, -⟩ := harr σ (t, i) _ _ _ a5 (hS _ (List.mem_cons_of_mem _ List.mem_cons_self)) h1
      have k := h _ _ _ _ _ hA hL (dm_ok2 (hoi _) (dm_okt (dm_okt hS)))
      rcases f1 with ⟨q0, f1⟩ | ⟨hf, -⟩
      · exact va_zald hx hb hK a1 q0 2 (dm_wd_at f1) (dm_tys_at rfl) hin hd k
      · cases hf
    · exact h.elim
  | laload =>
    intro H locs lsC cells slots hA hL hS
    obtain ⟨j, t, i, l, rfl, h⟩ := dm_ir_i h
    obtain ⟨q, h1, h⟩ := dm_so_i h
    split at h
    · obtain ⟨hin, h⟩ := dm_ix_i h
      obtain ⟨a1, a2, a3, a4, a5, -⟩ := id hA
      obtain ⟨f1, -, -⟩ := harr σ (t, i) _ _ _ a5 (hS _ (List.mem_cons_of_mem _ List.mem_cons_self)) h1
      have k := h _ _ _ _ _ hA hL (dm_ok2 (hol _) (dm_okt (dm_okt hS)))
      rcases f1 with ⟨q0, f1⟩ | ⟨hf, -⟩
      · exact va_lald hx hb hK a1 q0 3 (dm_wd_at f1) (dm_tys_at rfl) hin hd k
      · cases hf
    · exact h.elim
  | aaload =>
    intro H locs lsC cells slots hA hL hS
    obtain ⟨j, t, i, l, rfl, h⟩ := dm_ir_i h
    obtain ⟨q, h1, h⟩ := dm_so_i h
    split at h
    · rename_i C n f
      obtain ⟨hin, h⟩ := dm_ix_i h
      obtain ⟨a1, a2, a3, a4, a5, -⟩ := id hA
      obtain ⟨f1, ⟨t0, f2⟩, f6⟩ := harr σ (t, i) _ _ _ a5 (hS _ (List.mem_cons_of_mem _ List.mem_cons_self)) h1
      have hlt : j.toNatClampNeg < n := Nat.not_le.mp fun q => hin (Or.inr q)
      have k := h _ _ _ _ _ hA hL (dm_ok2 (f6 f rfl _ hlt) (dm_okt (dm_okt hS)))
      have k : W p _ e R s m args below meth c H locs cells slots Qw (F0 m (pc + 1) lsC (dm_cv ad (.inr (.inr (f j.toNatClampNeg))) :: l.map (dm_cv ad))) := k
      rcases f1 with ⟨q0, f1⟩ | ⟨hf, -⟩
      · refine va_aldq hx hb hK a1 q0 t0 (dm_wd_at f1) (dm_tys_at f2) hin hd ?_
        have e9 : va_rf ((f j.toNatClampNeg).map (fun p => ad p.1 p.2)) = dm_cv ad (.inr (.inr (f j.toNatClampNeg))) := by
          cases f j.toNatClampNeg <;> rfl
        rw [e9]
        exact k
      · cases hf
    · exact h.elim
  | iastore =>
    intro H locs lsC cells slots hA hL hS
    obtain ⟨v, l, rfl, h⟩ := dm_1_i h
    obtain ⟨j, t, i, l, rfl, h⟩ := dm_ir_i h
    obtain ⟨q, h1, h⟩ := dm_so_i h
    split at h
    · rename_i n f
      obtain ⟨hin, h⟩ := dm_ix_i h
      obtain ⟨σ', h2, h⟩ := dm_so_i h
      have hlt : j.toNatClampNeg < n := Nat.not_le.mp fun q => hin (Or.inr q)
      obtain ⟨a1, a2, a3, a4, a5, -⟩ := id hA
      obtain ⟨b1, b2, b3, b4, ⟨q0, b5, b6⟩, -⟩ := hsta σ (t, i) _ _ _ _ _ σ' a5 (hS _ (List.mem_cons_of_mem _ (List.mem_cons_of_mem _ List.mem_cons_self))) (hoi _) h1 hlt h2
      have ha := dm_wd_at (ad := ad) (dA := dA) b5
      refine W.iast hx hb (a1 q0 _ ha) ((hK.2 0 _ (dm_tys_at rfl)).1 n (fun j => .int (f j))) (fun q => by cases q) (by show ¬ (j < 0 ∨ (arrV _ _ _).slots.size ≤ _); rw [arrV_size]; exact hin) rfl rfl hd fun H1 e z oq => ?_
      exact h _ _ _ _ _ (dm_staW hA b5 b6 b1 b2 b3 b4 rfl (e.trans (by rw [dm_cell_i])) z oq) hL (dm_okt (dm_okt (dm_okt hS)))
    · exact h.elim
  | bastore =>
    intro H locs lsC cells slots hA hL hS
    obtain ⟨v, l, rfl, h⟩ := dm_1_i h
    obtain ⟨j, t, i, l, rfl, h⟩ := dm_ir_i h
    obtain ⟨q, h1, h⟩ := dm_so_i h
    split at h
    · rename_i n f
      obtain ⟨hin, h⟩ := dm_ix_i h
      obtain ⟨σ', h2, h⟩ := dm_so_i h
      have hlt : j.toNatClampNeg < n := Nat.not_le.mp fun q => hin (Or.inr q)
      obtain ⟨a1, a2, a3, a4, a5, -⟩ := id hA
      obtain ⟨b1, b2, b3, b4, ⟨q0, b5, b6⟩, -⟩ := hsta σ (t, i) _ _ _ _ _ σ' a5 (hS _ (List.mem_cons_of_mem _ (List.mem_cons_of_mem _ List.mem_cons_self))) (hoi _) h1 hlt h2
      have ha := dm_wd_at (ad := ad) (dA := dA) b5
      refine W.bast hx hb (a1 q0 _ ha) ((hK.2 1 _ (dm_tys_at rfl)).1 n (fun j => .int (f j))) (fun q => by cases q) (by show ¬ (j < 0 ∨ (arrV _ _ _).slots.size ≤ _); rw [arrV_size]; exact hin) rfl rfl hd fun H1 e z oq => ?_
      exact h _ _ _ _ _ (dm_staW hA b5 b6 b1 b2 b3 b4 rfl (e.trans (by rw [← dm_cell_i]; rfl)) z oq) hL (dm_okt (dm_okt (dm_okt hS)))
    · rename_i n f
      obtain ⟨hin, h⟩ := dm_ix_i h
      obtain ⟨σ', h2, h⟩ := dm_so_i h
      have hlt : j.toNatClampNeg < n := Nat.not_le.mp fun q => hin (Or.inr q)
      obtain ⟨a1, a2, a3, a4, a5, -⟩ := id hA
      obtain ⟨b1, b2, b3, b4, ⟨q0, b5, b6⟩, -⟩ := hsta σ (t, i) _ _ _ _ _ σ' a5 (hS _ (List.mem_cons_of_mem _ (List.mem_cons_of_mem _ List.mem_cons_self))) (hoi _) h1 hlt h2
      have ha := dm_wd_at (ad := ad) (dA := dA) b5
      refine W.zast hx hb (a1 q0 _ ha) ((hK.2 2 _ (dm_tys_at rfl)).1 n (fun j => .int (f j))) (fun q => by cases q) (by show ¬ (j < 0 ∨ (arrV _ _ _).slots.size ≤ _); rw [arrV_size]; exact hin) rfl rfl hd fun H1 e z oq => ?_
      exact h _ _ _ _ _ (dm_staW hA b5 b6 b1 b2 b3 b4 rfl (e.trans (by rw [← dm_cell_i]; rfl)) z oq) hL (dm_okt (dm_okt (dm_okt hS)))
    · exact h.elim
  | lastore =>
    intro H locs lsC cells slots hA hL hS
    unfold dm_FM at h
    dsimp only at h
    split at h
    · obtain ⟨j, t, i, l, rfl, h⟩ := dm_ir_i h
      obtain ⟨q, h1, h⟩ := dm_so_i h
      split at h
      · rename_i n f
        obtain ⟨hin, h⟩ := dm_ix_i h
        obtain ⟨σ', h2, h⟩ := dm_so_i h
        have hlt : j.toNatClampNeg < n := Nat.not_le.mp fun q => hin (Or.inr q)
        obtain ⟨a1, a2, a3, a4, a5, -⟩ := id hA
        obtain ⟨b1, b2, b3, b4, ⟨q0, b5, b6⟩, -⟩ := hsta σ (t, i) _ _ _ _ _ σ' a5 (hS _ (List.mem_cons_of_mem _ (List.mem_cons_of_mem _ List.mem_cons_self))) (hol _) h1 hlt h2
        have ha := dm_wd_at (ad := ad) (dA := dA) b5
        refine W.last hx hb (a1 q0 _ ha) ((hK.2 3 _ (dm_tys_at rfl)).1 n (fun j => .long (f j))) (fun q => by cases q) (by show ¬ (j < 0 ∨ (arrV _ _ _).slots.size ≤ _); rw [arrV_size]; exact hin) rfl rfl hd fun H1 e z oq => ?_
        exact h _ _ _ _ _ (dm_staW hA b5 b6 b1 b2 b3 b4 rfl (e.trans (by rw [dm_cell_l])) z oq) hL (dm_okt (dm_okt (dm_okt hS)))
      · exact h.elim
    · exact h.elim
  | aastore =>
    intro H locs lsC cells slots hA hL hS
    obtain ⟨t', i', l, rfl, h⟩ := dm_r_i h
    obtain ⟨j, t, i, l, rfl, h⟩ := dm_ir_i h
    obtain ⟨q, h1, h⟩ := dm_so_i h
    split at h
    · rename_i C n f
      obtain ⟨hin, h⟩ := dm_ix_i h
      obtain ⟨σ', h2, h⟩ := dm_so_i h
      have hlt : j.toNatClampNeg < n := Nat.not_le.mp fun q => hin (Or.inr q)
      have h0 : ¬ j < 0 := fun q => hin (Or.inl q)
      obtain ⟨a1, a2, a3, a4, a5, -⟩ := id hA
      obtain ⟨-, ⟨t0, f2⟩, -⟩ := harr σ (t, i) _ _ _ a5 (hS _ (List.mem_cons_of_mem _ (List.mem_cons_of_mem _ List.mem_cons_self))) h1
      obtain ⟨b1, b2, b3, b4, ⟨q0, b5, b6⟩, b7⟩ := hsta σ (t, i) _ _ _ _ _ σ' a5 (hS _ (List.mem_cons_of_mem _ (List.mem_cons_of_mem _ List.mem_cons_self))) (hS _ List.mem_cons_self) h1 hlt h2
      obtain ⟨qk, ci, vs, w, b8, b9, b10⟩ := b7 _ rfl
      have ha := dm_wd_at (ad := ad) (dA := dA) b5
      have hv := dm_wd_at (ad := ad) (dA := dA) b8
      obtain ⟨r', hr', cellV, g1, g2, g3, -⟩ := a1 qk _ hv
      have hcls := (hK.1 ci w b9).2
      have ht9 := (hK.2 t0 _ (dm_tys_at f2)).2
      rw [b10] at ht9
      obtain ⟨kA, comp, k1, k2, k3, -⟩ := ht9
      obtain rfl : comp = D.1 ci := Option.some.inj (k3.symm.trans hcls.1)
      obtain ⟨kC, hkC, -⟩ := id hcls.2
      refine W.aast hx hb (a1 q0 _ ha) (fun q h => by cases h) (fun h => by cases h) (by rw [b10]; exact k1) k2 rfl hkC ⟨h0, by show _ < (arrV _ _ _).slots.size; rw [arrV_size]; exact hlt⟩ g1 (fun q h => by rw [g3] at h; cases h) (by rw [g2]; exact hkC) (by rw [g2]; exact va_assign hcls) rfl rfl hd fun H1 e z oq => ?_
      refine h _ _ _ _ _ (dm_staW hA b5 b6 b1 b2 b3 b4 rfl (e.trans ?_) z oq) hL (dm_okt (dm_okt (dm_okt hS)))
      rw [dm_cell_q]
      have e9 : va_up (fun j => Option.map (fun p : Nat × Nat => ad p.1 p.2) (f j)) j.toNatClampNeg (some (ad t' i')) = fun k => Option.map (fun p : Nat × Nat => ad p.1 p.2) (va_up f j.toNatClampNeg (some (t', i')) k) := by
        funext q
        by_cases hq : q = j.toNatClampNeg <;> simp [va_up, hq]
      show some (vp_cell _ (n, Sum.inr (Sum.inr (Sum.inr (Sum.inr (va_up (fun j => Option.map (fun p : Nat × Nat => ad p.1 p.2) (f j)) j.toNatClampNeg (some (ad t' i')))))))) = _
      rw [e9]
    · exact h.elim
  | _ => exact h.elim
end SIMN
end
section
/-! the machine follows the abstract one: where it goes on, ends, calls -/
section SIMC
variable {p : Program} {l : Launch} {e : Env} {R : Room} {s : State} {m : MethodId} {args : Array Value} {below : List Frame} {meth : Method} {c : Code} {Qw : State → Prop} {μ : Type} {E : dm_E} {O : dm_O μ} {M : dm_M} {ad : Nat → Nat → Nat} {ok : dm_V → Prop} {nL : Nat} {cc : ByteArray}
variable {D : va_G} {dA : FieldType → ClassId} {cl : List vw_C} {B : Nat} {tl : μ → List (dm_R × dm_C)} {sz : μ → Nat → Prop} {okM : μ → Prop} {cnt lim : μ → Nat × Nat} {c0 : Nat × Nat} {mc ms : Nat} {Ts : List Cond} {own : String} {St : State → Heap → Prop} {Q : Option dm_V → μ → Prop}
/-- a state of the machine that holds the abstract memory -/
def dm_U (D : va_G) (dA : FieldType → ClassId) (cl : List vw_C) (ad : Nat → Nat → Nat) (B : Nat) (tl : μ → List (dm_R × dm_C)) (sz : μ → Nat → Prop) (okM : μ → Prop) (St : State → Heap → Prop) (σ : μ) (U : State) : Prop :=
  va_P D cl (dm_wd ad dA (tl σ)) U.heap ∧ va_D (fun q => B ≤ q) (dm_wd ad dA (tl σ)) ∧ va_K D cl (dm_tys dA) U ∧ sz σ U.heap.size ∧ okM σ ∧ B ≤ U.heap.size ∧ St U U.heap
def dm_Qc (D : va_G) (dA : FieldType → ClassId) (cl : List vw_C) (ad : Nat → Nat → Nat) (ok : dm_V → Prop) (B : Nat) (tl : μ → List (dm_R × dm_C)) (sz : μ → Nat → Prop) (okM : μ → Prop) (St : State → Heap → Prop) (Q : Option dm_V → μ → Prop) : Array Value → State → Outcome → State → Prop := fun _ st o t =>
  (∃ (r : Option dm_V) (σ : μ), o = .returned (r.map (dm_cv ad)) ∧ Q r σ ∧ (∀ v, r = some v → ok v) ∧ dm_U D dA cl ad B tl sz okM St σ t) ∧ va_F (fun q => B ≤ q) st t
/-- what is always there stays there -/
def dm_hSt (B : Nat) (St : State → Heap → Prop) : Prop := (∀ (u U : State) (H : Heap), u.WarmedH U.vm → St u H → St U H) ∧ ∀ (U : State) (H H1 : Heap), (∀ a : Nat, a < H.size → ¬ B ≤ a → H1[a]? = H[a]?) → St U H → St U H1
theorem dm_Am.end {σ : μ} {H : Heap} {locs : List Loc} {cells slots : Nat} {lm : Nat × Nat} (hA : dm_Am D dA cl ad B tl sz okM cnt lim c0 lm s σ H locs cells slots) (hK : va_K D cl (dm_tys dA) s) (hBs : B ≤ s.heap.size) (hSt : dm_hSt B St) (hs : St s s.heap) {t : State} (ht : t.heap = H) (hW : s.WarmedH t.vm) : dm_U D dA cl ad B tl sz okM St σ t := by
  obtain ⟨a1, a2, a3, a4, a5, -⟩ := hA
  refine ⟨by rw [ht]; exact a1, a2, va_K.moved hW.alike hK, by rw [ht]; exact a4, a5, by rw [ht]; exact Nat.le_trans hBs a3.1, ?_⟩
  rw [ht]
  exact hSt.2 _ _ _ (fun q h1 h2 => a3.2.1 q h1 h2) (hSt.1 _ _ _ hW hs)
theorem dm_zret {H : Heap} {locs : List Loc} {cells slots : Nat} {Qc : Array Value → State → Outcome → State → Prop} {free : Addr → Prop} {v : Int32} (hexec : p.tables.exec = Jvm.exec) (hb : c.code = cc) (hr : meth.sig.returnType = some .boolean)
    (hq : ∀ t : State, t.heap = H → s.WarmedH t.vm → Qc args s (.returned (some (.int (v &&& 1)))) t) (hf : ∀ q ∈ locs, free q.base) (hlocks : meth.locks = false)
    {pc : Nat} {ls : Array Slot} (hdg : decode cc pc = .ok (.ireturn, 1)) : W p l e R s m args below meth c H locs cells slots (MQ below Qc args s cells slots free) (F0 m pc ls [.int v]) := by
  intro T hT X
  obtain ⟨fs, hret, hrun, hended, hW, hframe⟩ := X.leave (v := some (.int (v &&& 1))) (fun h => by rw [hr] at h; cases h)
  have hmeth' : T.vm.method? m = some meth := X.method'
  refine ⟨T.setFrames fs, ?_, .returned (some (.int (v &&& 1))), hrun, hended, hq _ hT hW, locs, ⟨⟨_, rfl⟩, hW, hframe⟩, hf⟩
  jvm_step X.here [X.here.top, hexec, hb, hdg, hmeth', hr, narrow]
  (try refine ⟨rfl, ?_⟩); (try refine ⟨rfl, ?_⟩)
  first | (intro acts; rw [hret _ acts rfl rfl rfl]) | rw [hret _ _ rfl rfl rfl]
  exact Steps.refl _
theorem dm_simSw (hx : p.tables.exec = Jvm.exec) (hb : c.code = cc) {H : Heap} {locs : List Loc} {cells slots pc : Nat} {lsC : Array Slot} {rest : List Value} {d lo hi : Int} {offs : Array Int} {x : Int32} {K : Nat → Prop} {len : Nat} (hd : decode cc pc = .ok (.tableswitch d lo hi offs, len)) (hlo : -2147483648 ≤ lo) (hhi : hi ≤ 2147483647) (hsz : (offs.size : Int) = hi - lo + 1)
    (hk : ∀ n, K n → W p l e R s m args below meth c H locs cells slots Qw (F0 m n lsC rest)) (h : dm_sw pc x d K lo offs.toList) : W p l e R s m args below meth c H locs cells slots Qw (F0 m pc lsC (.int x :: rest)) := by
  have key : ∀ (l : List Int) (lo' : Int), dm_sw pc x d K lo' l → -2147483648 ≤ lo' → lo' + l.length ≤ 2147483648 → (x.toInt < lo' ∨ lo' + l.length ≤ x.toInt → dm_tg pc d K) ∧ (lo' ≤ x.toInt → ∀ off, l[(x.toInt - lo').toNat]? = some off → dm_tg pc off K) := by
    intro l
    induction l with
    | nil => exact fun lo' h _ _ => ⟨fun _ => h, fun _ off ho => by simp at ho⟩
    | cons o l ih =>
      intro lo' h h1 h2
      have h2' : lo' + (l.length + 1) ≤ 2147483648 := by simpa using h2
      have h : (if x = Int32.ofInt lo' then dm_tg pc o K else dm_sw pc x d K (lo' + 1) l) := h
      have hlo' : (Int32.ofInt lo').toInt = lo' := Int32.toInt_ofInt_of_le (by omega) (by omega)
      by_cases e : x = Int32.ofInt lo'
      · rw [if_pos e] at h
        have ex : x.toInt = lo' := by rw [e, hlo']
        refine ⟨fun z => ?_, fun _ off ho => ?_⟩
        · have : ((o :: l).length : Int) = l.length + 1 := by simp
          omega
        · rw [ex, Int.sub_self] at ho
          simp at ho
          rw [← ho]; exact h
      · rw [if_neg e] at h
        have ex : x.toInt ≠ lo' := fun q => e (Int32.toInt_inj.mp (by rw [hlo']; exact q))
        obtain ⟨g1, g2⟩ := ih (lo' + 1) h (by omega) (by omega)
        have hlen : ((o :: l).length : Int) = l.length + 1 := by simp
        refine ⟨fun z => g1 (by omega), fun z off ho => g2 (by omega) off ?_⟩
        rw [show (x.toInt - lo').toNat = (x.toInt - (lo' + 1)).toNat + 1 by omega] at ho
        simpa using ho
  have hlen : (offs.toList.length : Int) = hi - lo + 1 := by simpa using hsz
  obtain ⟨g1, g2⟩ := key offs.toList lo h hlo (by omega)
  by_cases hin : x.toInt < lo ∨ hi < x.toInt
  · obtain ⟨n, ht, hn⟩ := dm_tg_i (g1 (by omega))
    exact lv_tableOut hx hb hd hin ht (hk n hn)
  · have h1 : ¬ x.toInt < lo := fun q => hin (Or.inl q)
    have h2 : ¬ hi < x.toInt := fun q => hin (Or.inr q)
    have hlt : (x.toInt - lo).toNat < offs.size := by omega
    have ho : offs[(x.toInt - lo).toNat]? = some offs[(x.toInt - lo).toNat] := Array.getElem?_eq_getElem hlt
    obtain ⟨n, ht, hn⟩ := dm_tg_i (g2 (by omega) _ (by rw [Array.getElem?_toList]; exact ho))
    exact lv_tableIn hx hb hd h1 h2 ho ht (hk n hn)
end SIMC
end
section
theorem dm_rt_i {rk : Nat} {r : Option dm_V} {K : List dm_V → Prop} (h : dm_rt rk r K) : K r.toList := by
  unfold dm_rt at h
  split at h
  · obtain ⟨rfl, h⟩ := h; exact h
  · obtain ⟨v, rfl, h⟩ := h; exact h
  · obtain ⟨v, rfl, h⟩ := h; exact h
  · obtain ⟨v, rfl, h⟩ := h; exact h
  · exact h.elim
theorem dm_cat_sum (ad : Nat → Nat → Nat) : ∀ l : List dm_V, ((l.map (dm_cv ad)).map fun v => v.category).sum = dm_cat l
  | [] => rfl
  | .inl x :: l => by
    have := dm_cat_sum ad l
    simp only [List.map_cons, List.sum_cons, this]; rfl
  | .inr (.inl x) :: l => by
    have := dm_cat_sum ad l
    simp only [List.map_cons, List.sum_cons, this]; rfl
  | .inr (.inr none) :: l => by
    have := dm_cat_sum ad l
    simp only [List.map_cons, List.sum_cons, this]; rfl
  | .inr (.inr (some (t, i))) :: l => by
    have := dm_cat_sum ad l
    simp only [List.map_cons, List.sum_cons, this]; rfl
theorem dm_stk (ad : Nat → Nat → Nat) (st : List dm_V) (n : Nat) : st.map (dm_cv ad) = (((st.take n).reverse).map (dm_cv ad)).reverse ++ (st.drop n).map (dm_cv ad) := by
  rw [← List.map_reverse, List.reverse_reverse, ← List.map_append, List.take_append_drop]
theorem dm_rl (ad : Nat → Nat → Nat) (r : Option dm_V) (l : List dm_V) : (r.map (dm_cv ad)).toList ++ l.map (dm_cv ad) = (r.toList ++ l).map (dm_cv ad) := by
  cases r <;> rfl
section SIMD
variable {p : Program} {l : Launch} {e : Env} {R : Room} {s : State} {m : MethodId} {args : Array Value} {below : List Frame} {meth : Method} {c : Code} {Qw : State → Prop} {μ : Type} {E : dm_E} {O : dm_O μ} {M : dm_M} {ad : Nat → Nat → Nat} {ok : dm_V → Prop} {nL : Nat} {cc : ByteArray}
variable {D : va_G} {dA : FieldType → ClassId} {cl : List vw_C} {B : Nat} {tl : μ → List (dm_R × dm_C)} {sz : μ → Nat → Prop} {okM : μ → Prop} {cnt lim : μ → Nat × Nat} {c0 lm : Nat × Nat} {Ts : List Cond} {own : String} {St : State → Heap → Prop}
/-- behind a call -/
theorem dm_after {H : Heap} {locs : List Loc} {lsC : Array Slot} {cells slots pc mc' ms' : Nat} {stk : List Value} {rest : List dm_V} {a9 : Array Value} {Q' : Option dm_V → μ → Prop} {σ : μ} {ls : dm_L} {lv : μ → μ}
    (hrun : va_Run p l e R s m args below meth c H locs cells slots mc' ms' (F0 m pc lsC stk) (rest.map (dm_cv ad)) (dm_Qc D dA cl ad ok B tl sz okM St Q' a9) (fun q => B ≤ q))
    (hA : dm_Am D dA cl ad B tl sz okM cnt lim c0 lm s σ H locs cells slots) (hL : dm_Al ad ok nL ls lsC) (hS : ∀ v ∈ rest, ok v)
    (hlv : ∀ σ', okM σ' → okM (lv σ') ∧ tl (lv σ') = tl σ' ∧ (∀ n, sz σ' n → sz (lv σ') n) ∧ cnt (lv σ') = ((cnt σ).1 + mc', (cnt σ).2 + ms') ∧ lim (lv σ') = lim σ)
    (hQ : ∀ r σ', Q' r σ' → dm_P p l e R s m args below meth c Qw ad ok nL (dm_Am D dA cl ad B tl sz okM cnt lim c0 lm s) (pc + 3) ls (r.toList ++ rest) (lv σ')) : W p l e R s m args below meth c H locs cells slots Qw (F0 m pc lsC stk) := by
  intro T hT X
  obtain ⟨v, st₀, t, T', L, h0, X', hLq, e1, e2, ⟨⟨r, σ', hr, hq, hok, u1, u2, u3, u4, u5, u6, u7⟩, hF⟩, st⟩ := hrun T hT X
  obtain ⟨a1, a2, a3, a4, a5, a6, a7, a8⟩ := hA
  cases hr
  obtain ⟨g1, g2, g3, g4, g5⟩ := hlv σ' u5
  have hA' : dm_Am D dA cl ad B tl sz okM cnt lim c0 lm s (lv σ') t.heap (locs ++ L) (cells + mc') (slots + ms') := by
    refine ⟨by rw [g2]; exact u1, by rw [g2]; exact u2, ⟨?_, fun q h1 h2 => ?_, fun q hq => ?_⟩, g3 _ u4, g1, ?_, ?_, g5.trans a8⟩
    · exact Nat.le_trans a3.1 (by rw [← h0]; exact hF.1)
    · rw [hF.2 q (by rw [h0]; exact Nat.lt_of_lt_of_le h1 a3.1) h2, h0]
      exact a3.2.1 q h1 h2
    · rcases List.mem_append.mp hq with h | h
      · exact a3.2.2 q h
      · exact hLq q h
    · rw [g4]; show cells + mc' + c0.1 = (cnt σ).1 + mc'; omega
    · rw [g4]; show slots + ms' + c0.2 = (cnt σ).2 + ms'; omega
  have hS' : ∀ w ∈ r.toList ++ rest, ok w := fun w hw => by
    rcases List.mem_append.mp hw with h | h
    · cases r with
      | none => cases h
      | some z =>
        obtain rfl : w = z := by simpa using h
        exact hok w rfl
    · exact hS w h
  obtain ⟨t2, b1, b2⟩ := hQ r σ' hq t.heap (locs ++ L) lsC _ _ hA' hL hS' T' e1 X'
  refine ⟨t2, st t2 ?_, b2⟩
  have : ({ F0 m pc lsC stk with pc := (F0 m pc lsC stk).pc + 3, stack := (r.map (dm_cv ad)).toList ++ rest.map (dm_cv ad) } : JFrame) = F0 m (pc + 3) lsC ((r.toList ++ rest).map (dm_cv ad)) := by
    rw [dm_rl]
  rw [this]
  exact b1
/-- what a callee is called with -/
def dm_Pc (D : va_G) (dA : FieldType → ClassId) (cl : List vw_C) (ad : Nat → Nat → Nat) (B : Nat) (tl : μ → List (dm_R × dm_C)) (sz : μ → Nat → Prop) (okM : μ → Prop) (St : State → Heap → Prop) (av : List dm_V) (σ : μ) : Array Value → State → Prop := va_Pc (av.map (dm_cv ad)) (fun U => dm_U D dA cl ad B tl sz okM St σ U)
theorem dm_Pc.blind (hSt : dm_hSt B St) (av : List dm_V) (σ : μ) : FrameBlind (dm_Pc D dA cl ad B tl sz okM St av σ) := by
  intro a U g mk ⟨h0, h1, h2, h3, h4, h5, h6, h7⟩
  exact ⟨h0, h1, h2, va_K.moved (u := U) (U := U.calling g mk a) (Vm.Alike.refl U.vm) h3, h4, h5, h6, hSt.1 U (U.calling g mk a) _ (State.WarmedH.refl U) h7⟩
theorem dm_Am.call {H : Heap} {locs : List Loc} {cells slots : Nat} {σ σe : μ} (hA : dm_Am D dA cl ad B tl sz okM cnt lim c0 lm s σ H locs cells slots) (hK : va_K D cl (dm_tys dA) s) (hBs : B ≤ s.heap.size) (hSt : dm_hSt B St) (hs : St s s.heap) (h1 : okM σe) (h2 : tl σe = tl σ) (h3 : ∀ n, sz σ n → sz σe n) (av : List dm_V) : ∀ U : State, U.heap = H → s.WarmedH U.vm → dm_Pc D dA cl ad B tl sz okM St av σe ((av.map (dm_cv ad)).toArray) U := by
  intro U hU hW
  obtain ⟨u1, u2, u3, u4, u5, u6, u7⟩ := hA.end hK hBs hSt hs hU hW
  exact ⟨rfl, by rw [h2]; exact u1, by rw [h2]; exact u2, u3, h3 _ u4, h1, u6, u7⟩
end SIMD
end
section
/-! THE SIMULATION: what the abstract machine does in a call is a contract of the method -/
section SIM
variable {μ : Type} (E : dm_E) (O : dm_O μ) (prog : Nat → dm_M) (mn : Nat → MethodName) (mb : Nat → ByteArray) (tb : List Cond) (mcT : Nat → Nat × Nat)
variable (D : va_G) (dA : FieldType → ClassId) (cl : List vw_C) (ad : Nat → Nat → Nat) (ok : dm_V → Prop) (B : Nat) (tl : μ → List (dm_R × dm_C)) (sz : μ → Nat → Prop) (okM : μ → Prop) (cnt lim : μ → Nat × Nat) (St : State → Heap → Prop)
def dm_ws (y : Nat) : List Cond := Cond.code (mn y) (mb y) (prog y).2.1 (prog y).2.2.1 :: tb
def dm_rm (d y : Nat) : Room := { frames := d, cells := (mcT y).1, slots := (mcT y).2, locals := 40 * d }
/-- a method that may be called -/
def dm_callee (y n : Nat) : Prop := Cond.code (mn y) (mb y) (prog y).2.1 (prog y).2.2.1 ∈ tb ∧ Cond.initialized (mn y).cls ∈ tb ∧ ((mn y).cls ≠ "java/lang/invoke/MethodHandle" ∧ (mn y).cls ≠ "java/lang/invoke/VarHandle" ∧ (parseMethodDescriptor (mn y).desc).map (fun d => d.parameters.length) = some n) ∧ (prog y).2.1 ≤ 21 ∧ n + 1 ≤ (prog y).2.1 + 1
/-- a call's link, by its kind -/
def dm_link (St : State → Heap → Prop) (own : String) (i : Instr) (k y n c : Nat) : Prop :=
  (i = .invokevirtual k ∧ ∃ n', n = n' + 1 ∧ n ≤ (prog y).2.1 ∧ dm_callee prog mn mb tb y n' ∧ c ≠ 99 ∧ (mn y).cls = dm_cn c ∧ (∃ T N, cl[c]? = some ((mn y).cls, T, N)) ∧ Cond.methodLink own k (mn y) ∈ tb ∧ Cond.instanceMethod (mn y) ∈ tb ∧ Cond.selects (mn y).cls (mn y) (mn y) ∈ tb) ∨
  (i = .invokestatic k ∧ n ≤ (prog y).2.1 ∧ dm_callee prog mn mb tb y n ∧ Cond.methodLink own k (mn y) ∈ tb ∧ Cond.static (mn y) ∈ tb) ∨
  (i = .invokespecial k ∧ ∃ n', n = n' + 1 ∧ n ≤ (prog y).2.1 ∧ dm_callee prog mn mb tb y n' ∧ c ≠ 99 ∧ (mn y).name = "<init>" ∧ (prog y).2.2.1 = none ∧ Cond.instanceMethod (mn y) ∈ tb ∧ (Cond.methodLink own k (mn y) ∈ tb ∨ ∃ host, ∀ s : State, St s s.heap → va_Nw (.methodLinkNest own k (mn y) host) s))
/-- a branch goes to a place -/
def dm_tgo (pc : Nat) : Instr → Prop
  | .if_icmp _ off => 0 ≤ (pc : Int) + off
  | .ifCond _ off => 0 ≤ (pc : Int) + off
  | _ => True
/-- a method as its tables have it -/
def dm_MOK (y : Nat) : Prop :=
  plainName (mn y).cls = true ∧ (∀ pc i, (prog y).2.2.2 pc = some i → decode (mb y) pc = .ok (i, dm_len pc i)) ∧
  (∀ k ci kk, E.1 (prog y).1 k = some (ci, kk) → ∃ (C : String) (T : u_T) (N : Nat), cl[ci]? = some (C, T, N) ∧ kk < N ∧ Cond.fieldLink (mn y).cls k (T kk).1 (T kk).2.1 (T kk).2.2.1 ∈ tb ∧ (∀ w ∈ u_ws C T N, w ∈ tb) ∧ ∃ ty0 : Nat → FieldType, (∀ k, k < N → parseFieldDescriptor (T k).2.2.1 = some (ty0 k)) ∧ ∀ a, a < N → ∀ b, b < N → a ≠ b → (T a).2.1 ≠ (T b).2.1) ∧
  (∀ pc k ci kk C T N, (prog y).2.2.2 pc = some (.putfield k) → E.1 (prog y).1 k = some (ci, kk) → cl[ci]? = some (C, T, N) → (T kk).2.2.2 = true → (mn y).name = "<init>" ∧ (T kk).1 = (mn y).cls) ∧
  (∀ pc i, (prog y).2.2.2 pc = some i → dm_tgo pc i) ∧
  (∀ pc d lo hi offs, (prog y).2.2.2 pc = some (.tableswitch d lo hi offs) → -2147483648 ≤ lo ∧ hi ≤ 2147483647 ∧ (offs.size : Int) = hi - lo + 1) ∧
  (∀ pc i k, (prog y).2.2.2 pc = some i → (i = .invokevirtual k ∨ i = .invokestatic k ∨ i = .invokespecial k) → ∀ q, E.2.1 (prog y).1 k = some q → 3000 ≤ q.1 ∨ dm_link prog mn mb tb cl St (mn y).cls i k q.1 q.2.1 q.2.2.2)
/-- a context of a method's walk -/
def dm_ctx (y : Nat) (p : Program) (s : State) (m : MethodId) (args : Array Value) (c : Code) : Prop := p.tables.exec = Jvm.exec ∧ c.code = mb y ∧ c.maxLocals = (prog y).2.1 ∧ s.vm.findClass (mn y).cls = some m.cls ∧ (∀ w ∈ tb, w.before args s = true) ∧ va_K D cl (dm_tys dA) s ∧ St s s.heap ∧ B ≤ s.heap.size
/-- constants, statics, the JDK's methods, new cells: said of each walk -/
def dm_XOK (y : Nat) : Prop := ∀ (p : Program) (l : Launch) (e : Env) (R : Room) (s : State) (m : MethodId) (args : Array Value) (below : List Frame) (meth : Method) (c : Code) (Qw : State → Prop) (c0 : Nat × Nat), dm_ctx prog mn mb tb D dA cl B St y p s m args c →
  dm_hcs p l e R s m args below meth c Qw ad ok (mb y) E (prog y) ∧
  dm_hst p l e R s m args below meth c Qw ad ok (mb y) E (prog y) (dm_Am D dA cl ad B tl sz okM cnt lim c0 (c0.1 + R.cells, c0.2 + R.slots) s) ∧
  dm_harr O ok ad B tl okM s ∧
  (∀ (d : Nat) (call : Nat → List dm_V → μ → (Option dm_V → μ → Prop) → Prop) (bi : Bool) (pc : Nat) (ls : dm_L) (st : List dm_V) (σ : μ) (i : Instr) (k : Nat) (q : Nat × Nat × Nat × Nat), R.frames = d → R.locals = 40 * d → (bi = true → 1 ≤ d) → (prog y).2.2.2 pc = some i → (i = .invokevirtual k ∨ i = .invokestatic k ∨ i = .invokespecial k) → E.2.1 (prog y).1 k = some q → 3000 ≤ q.1 →
    dm_inv E O call bi (prog y) (dm_P p l e R s m args below meth c Qw ad ok (prog y).2.1 (dm_Am D dA cl ad B tl sz okM cnt lim c0 (c0.1 + R.cells, c0.2 + R.slots) s)) pc ls st σ k → dm_P p l e R s m args below meth c Qw ad ok (prog y).2.1 (dm_Am D dA cl ad B tl sz okM cnt lim c0 (c0.1 + R.cells, c0.2 + R.slots) s) pc ls st σ) ∧
  (∀ (pc : Nat) (ls : dm_L) (st : List dm_V) (σ : μ) (i : Instr), (prog y).2.2.2 pc = some i → ((∃ k, i = .new k) ∨ (∃ k, i = .newarray k) ∨ ∃ k, i = .anewarray k) →
    dm_FM E O (prog y) (dm_P p l e R s m args below meth c Qw ad ok (prog y).2.1 (dm_Am D dA cl ad B tl sz okM cnt lim c0 (c0.1 + R.cells, c0.2 + R.slots) s)) pc ls st σ i → dm_P p l e R s m args below meth c Qw ad ok (prog y).2.1 (dm_Am D dA cl ad B tl sz okM cnt lim c0 (c0.1 + R.cells, c0.2 + R.slots) s) pc ls st σ)
/-- a memory and its operations -/
def dm_IF : Prop := (∀ x, ok (vi x)) ∧ (∀ x, ok (vl x)) ∧ dm_hget O ok tl okM ∧ dm_hput O ok cl ad tl sz okM cnt lim ∧ dm_hsta O ok cl tl sz okM cnt lim ∧ dm_hSt B St ∧ (∀ σ, okM σ → (cnt σ).1 ≤ (lim σ).1 ∧ (cnt σ).2 ≤ (lim σ).2) ∧
  (∀ σ y, okM σ → O.2.2.2.2.2.2.1 σ y = true → okM (O.2.2.2.2.2.2.2.1 σ y) ∧ tl (O.2.2.2.2.2.2.2.1 σ y) = tl σ ∧ (∀ n, sz σ n → sz (O.2.2.2.2.2.2.2.1 σ y) n) ∧ cnt (O.2.2.2.2.2.2.2.1 σ y) = cnt σ ∧ lim (O.2.2.2.2.2.2.2.1 σ y) = ((cnt σ).1 + (mcT y).1, (cnt σ).2 + (mcT y).2) ∧ (cnt σ).1 + (mcT y).1 ≤ (lim σ).1 ∧ (cnt σ).2 + (mcT y).2 ≤ (lim σ).2) ∧
  (∀ σ σ' y, okM σ → okM σ' → O.2.2.2.2.2.2.1 σ y = true → okM (O.2.2.2.2.2.2.2.2 σ σ' y) ∧ tl (O.2.2.2.2.2.2.2.2 σ σ' y) = tl σ' ∧ (∀ n, sz σ' n → sz (O.2.2.2.2.2.2.2.2 σ σ' y) n) ∧ cnt (O.2.2.2.2.2.2.2.2 σ σ' y) = ((cnt σ).1 + (mcT y).1, (cnt σ).2 + (mcT y).2) ∧ lim (O.2.2.2.2.2.2.2.2 σ σ' y) = lim σ)
end SIM
end
section
section SIMT
variable {μ : Type} {E : dm_E} {O : dm_O μ} {prog : Nat → dm_M} {mn : Nat → MethodName} {mb : Nat → ByteArray} {tb : List Cond} {mcT : Nat → Nat × Nat}
variable {D : va_G} {dA : FieldType → ClassId} {cl : List vw_C} {ad : Nat → Nat → Nat} {ok : dm_V → Prop} {B : Nat} {tl : μ → List (dm_R × dm_C)} {sz : μ → Nat → Prop} {okM : μ → Prop} {cnt lim : μ → Nat × Nat} {St : State → Heap → Prop}
/-- the general case of a call -/
theorem dm_inv_i {call : Nat → List dm_V → μ → (Option dm_V → μ → Prop) → Prop} {bi : Bool} {M : dm_M} {P : Nat → dm_L → List dm_V → μ → Prop} {pc : Nat} {ls : dm_L} {st : List dm_V} {σ : μ} {k y n rk c : Nat} (hq : E.2.1 M.1 k = some (y, n, rk, c)) (hy : ¬ 3000 ≤ y) (h : dm_inv E O call bi M P pc ls st σ k) :
    n ≤ st.length ∧ dm_cat (st.drop n) ≤ 8 ∧ dm_cat (st.take n) = n ∧ O.2.2.2.2.2.2.1 σ y = true ∧ dm_rc O σ c (st.take n).reverse (call y (st.take n).reverse (O.2.2.2.2.2.2.2.1 σ y) (fun r σ' => dm_rt rk r (fun vs => P (pc + 3) ls (vs ++ st.drop n) (O.2.2.2.2.2.2.2.2 σ σ' y)))) := by
  obtain ⟨q, h1, h⟩ := dm_so_i h
  cases hq.symm.trans h1
  split at h
  · rename_i e; cases e; omega
  · rename_i e; cases e; omega
  · rename_i e; cases e; omega
  · rename_i e; cases e; omega
  · rename_i e; cases e; omega
  · rename_i e
    cases e
    obtain ⟨g1, h⟩ := dm_is_i h
    obtain ⟨g2, h⟩ := dm_is_i h
    obtain ⟨g3, h⟩ := dm_is_i h
    obtain ⟨g4, h⟩ := dm_is_i h
    exact ⟨Nat.le_of_ble_eq_true g1, Nat.le_of_ble_eq_true g2, Nat.eq_of_beq_eq_true g3, g4, h⟩
theorem dm_cat_rev : ∀ l : List dm_V, dm_cat l.reverse = dm_cat l := by
  have app : ∀ a b : List dm_V, dm_cat (a ++ b) = dm_cat a + dm_cat b := by
    intro a b
    induction a with
    | nil => simp [dm_cat]
    | cons x a ih =>
      rcases x with x | x | x <;> simp [dm_cat, ih] <;> omega
  intro l
  induction l with
  | nil => rfl
  | cons x l ih =>
    rw [List.reverse_cons, app, ih]
    rcases x with x | x | x <;> simp [dm_cat] <;> omega
theorem dm_rc_K {σ : μ} {c : Nat} {av : List dm_V} {K : Prop} (h : dm_rc O σ c av K) : K := by
  unfold dm_rc at h
  split at h
  · exact h
  · split at h
    · obtain ⟨_, _, h⟩ := dm_so_i h; exact h
    · exact h.elim
theorem dm_rc_r {σ : μ} {c : Nat} {av : List dm_V} {K : Prop} (hc : c ≠ 99) (h : dm_rc O σ c av K) : ∃ r rest v, av = .inr (.inr (some r)) :: rest ∧ O.1 σ r c 0 = some v := by
  unfold dm_rc at h
  split at h
  · rename_i e; exact absurd (Nat.eq_of_beq_eq_true e) hc
  · split at h
    · obtain ⟨v, h1, -⟩ := dm_so_i h; exact ⟨_, _, v, rfl, h1⟩
    · exact h.elim
set_option maxHeartbeats 4000000 in
/-- a call -/
theorem dm_simI {p : Program} {l : Launch} {e : Env} {s : State} {m : MethodId} {args : Array Value} {below : List Frame} {meth : Method} {c : Code} {Qw : State → Prop} {c0 : Nat × Nat} {d y0 : Nat} {call : Nat → List dm_V → μ → (Option dm_V → μ → Prop) → Prop} {bi : Bool}
    (hIF : dm_IF O mcT cl ad ok B tl sz okM cnt lim St) (htb : ∀ w ∈ tb, (w.onTables && w.keeps) = true ∨ ∃ ty, w = .arrayClass ty) (hctx : dm_ctx prog mn mb tb D dA cl B St y0 p s m args c)
    (hcall : ∀ y av σ Q, call y av σ Q → okM σ → (∀ v ∈ av, ok v) → lim σ = ((cnt σ).1 + (mcT y).1, (cnt σ).2 + (mcT y).2) → av.length ≤ (prog y).2.1 → dm_cat av = av.length → Met l (mn y) (dm_ws prog mn mb tb y) (dm_rm mcT d y) (dm_Pc D dA cl ad B tl sz okM St av σ) (dm_Qc D dA cl ad ok B tl sz okM St Q) (mcT y).1 (mcT y).2 (fun q => B ≤ q))
    {pc : Nat} {ls : dm_L} {st : List dm_V} {σ : μ} {i : Instr} {k y n rk cr : Nat} (hd : decode (mb y0) pc = .ok (i, 3)) (hq : E.2.1 (prog y0).1 k = some (y, n, rk, cr)) (hy : ¬ 3000 ≤ y) (hlk : dm_link prog mn mb tb cl St (mn y0).cls i k y n cr)
    (h : dm_inv E O call bi (prog y0) (dm_P p l e (dm_rm mcT (d + 1) y0) s m args below meth c Qw ad ok (prog y0).2.1 (dm_Am D dA cl ad B tl sz okM cnt lim c0 (c0.1 + (mcT y0).1, c0.2 + (mcT y0).2) s)) pc ls st σ k) : dm_P p l e (dm_rm mcT (d + 1) y0) s m args below meth c Qw ad ok (prog y0).2.1 (dm_Am D dA cl ad B tl sz okM cnt lim c0 (c0.1 + (mcT y0).1, c0.2 + (mcT y0).2) s) pc ls st σ := by
  intro H locs lsC cells slots hA hL hS
  obtain ⟨hoi, hol, hget, hput, hsta, hSt, hcl, hen, hlv⟩ := hIF
  obtain ⟨hx, hb, hml, hown, hts, hK, hs, hBs⟩ := hctx
  obtain ⟨g1, g2, g3, g4, h⟩ := dm_inv_i hq hy h
  obtain ⟨a1, a2, a3, a4, a5, a6, a7, a8⟩ := id hA
  obtain ⟨n1, n2, n3, n4, n5, n6, n7⟩ := hen σ y a5 g4
  have hlen : ((st.take n).reverse).length = n := by rw [List.length_reverse, List.length_take]; omega
  have hcat : dm_cat (st.take n).reverse = (st.take n).reverse.length := by rw [dm_cat_rev, g3, hlen]
  have hokA : ∀ v ∈ (st.take n).reverse, ok v := fun v hv => hS v (List.mem_of_mem_take (List.mem_reverse.mp hv))
  have hokR : ∀ v ∈ st.drop n, ok v := fun v hv => hS v (List.mem_of_mem_drop hv)
  have hcat8 : (((st.drop n).map (dm_cv ad)).map fun v => v.category).sum ≤ 8 := by rw [dm_cat_sum]; exact g2
  have hf : cells + (mcT y).1 ≤ (dm_rm mcT (d + 1) y0).cells ∧ slots + (mcT y).2 ≤ (dm_rm mcT (d + 1) y0).slots := by
    show cells + (mcT y).1 ≤ (mcT y0).1 ∧ slots + (mcT y).2 ≤ (mcT y0).2
    rw [a8] at n6 n7
    have n6 : (cnt σ).1 + (mcT y).1 ≤ c0.1 + (mcT y0).1 := n6
    have n7 : (cnt σ).2 + (mcT y).2 ≤ c0.2 + (mcT y0).2 := n7
    omega
  have hts' : ∀ w ∈ dm_ws prog mn mb tb y0, w ∈ tb → w.before args s = true := fun w _ h => hts w h
  have hG : dm_callee prog mn mb tb y n ∨ (∃ n', dm_callee prog mn mb tb y n') → GoodIn tb (dm_ws prog mn mb tb y) := by
    intro hcal w hw
    have hc : Cond.code (mn y) (mb y) (prog y).2.1 (prog y).2.2.1 ∈ tb := by
      rcases hcal with hcal | ⟨_, hcal⟩ <;> exact hcal.1
    have hm : w ∈ tb := by
      rcases List.mem_cons.mp hw with e9 | e9
      · rw [e9]; exact hc
      · exact e9
    exact ⟨hm, htb w hm⟩
  have hR : ∀ n', dm_callee prog mn mb tb y n' → (dm_rm mcT d y).frames + 1 ≤ (dm_rm mcT (d + 1) y0).frames ∧ 8 + ((prog y).2.1 + 11) + (dm_rm mcT d y).locals ≤ (dm_rm mcT (d + 1) y0).locals := by
    intro n' hcal
    refine ⟨Nat.le_refl _, ?_⟩
    show 8 + ((prog y).2.1 + 11) + 40 * d ≤ 40 * (d + 1)
    have := hcal.2.2.2.1
    omega
  have hlv' : ∀ σ', okM σ' → okM (O.2.2.2.2.2.2.2.2 σ σ' y) ∧ tl (O.2.2.2.2.2.2.2.2 σ σ' y) = tl σ' ∧ (∀ n, sz σ' n → sz (O.2.2.2.2.2.2.2.2 σ σ' y) n) ∧ cnt (O.2.2.2.2.2.2.2.2 σ σ' y) = ((cnt σ).1 + (mcT y).1, (cnt σ).2 + (mcT y).2) ∧ lim (O.2.2.2.2.2.2.2.2 σ σ' y) = lim σ := fun σ' h9 => hlv σ σ' y a5 h9 g4
  have hstk := dm_stk ad st n
  have hpre := hA.call hK hBs hSt hs n1 n2 n3 (st.take n).reverse
  have S : CallFix p m c (mb y0) (prog y0).2.1 s args tb (mn y0).cls := ⟨hx, hb, hml, hown, hts⟩
  have hnA : (st.take n).reverse.length ≤ (prog y).2.1 := by
    rw [hlen]
    rcases hlk with ⟨-, n', q1, q2, -⟩ | ⟨-, q2, -⟩ | ⟨-, n', q1, q2, -⟩ <;> exact q2
  have hMet := hcall y _ _ _ (dm_rc_K h) n1 hokA (by rw [n4]; exact n5) hnA hcat
  rcases hlk with ⟨rfl, n', rfl, -, hcal, hc99, hcn, ⟨T, N, hcr⟩, l1, l2, l3⟩ | ⟨rfl, -, hcal, l1, l2⟩ | ⟨rfl, n', rfl, -, hcal, hc99, hini, hret, l1, l2⟩
  · obtain ⟨r, rest, v0, hav, hv0⟩ := dm_rc_r hc99 h
    have hokr : ok (.inr (.inr (some r))) := hokA _ (by rw [hav]; exact List.mem_cons_self)
    obtain ⟨-, q0, fs, b1, -⟩ := hget σ r cr 0 v0 a5 hokr hv0
    rw [hav] at hstk hpre hMet hlen
    have hrecv := va_recv hK a1 hcr (dm_wd_at (ad := ad) (dA := dA) b1)
    refine dm_after (va_runV (As := rest.map (dm_cv ad)) (b := ad r.1 r.2) S hMet ⟨callB_of (ws' := tb) n' hts (hG (Or.inr ⟨_, hcal⟩)) rfl rfl rfl (hts _ hcal.2.1) (hts _ l1) hcal.2.2.1 (hR _ hcal), hts _ l2, hts _ l3⟩ ⟨dm_Pc.blind hSt _ _, hrecv, fun U hU hW => hpre U hU hW⟩ rfl ?_ hL.1.1 ?_ (lv_room hcat8) hd hf) hA hL hokR hlv' (fun r σ' hq9 => dm_rt_i hq9)
    · rw [List.length_map]
      have : (Sum.inr (Sum.inr (some r)) :: rest : List dm_V).length = n' + 1 := hlen
      simpa using this
    · show st.map (dm_cv ad) = _
      rw [hstk]
      simp [dm_cv]
  · refine dm_after (va_runS (As := ((st.take n).reverse).map (dm_cv ad)) S hMet ⟨callB_of (ws' := tb) n hts (hG (Or.inl hcal)) rfl rfl rfl (hts _ hcal.2.1) (hts _ l1) hcal.2.2.1 (hR _ hcal), hts _ l2⟩ ⟨dm_Pc.blind hSt _ _, fun U hU hW => hpre U hU hW⟩ rfl ?_ hL.1.1 ?_ (lv_room hcat8) hd hf) hA hL hokR hlv' (fun r σ' hq9 => dm_rt_i hq9)
    · rw [List.length_map]; exact hlen
    · exact hstk
  · obtain ⟨r, rest, v0, hav, hv0⟩ := dm_rc_r hc99 h
    rw [hav] at hstk hpre hMet hlen
    have hw : dm_ws prog mn mb tb y = Cond.code (mn y) (mb y) (prog y).2.1 none :: tb := by unfold dm_ws; rw [hret]
    have hlen' : (rest.map (dm_cv ad)).length = n' := by
      rw [List.length_map]
      have : (Sum.inr (Sum.inr (some r)) :: rest : List dm_V).length = n' + 1 := hlen
      simpa using this
    have hstk' : (F0 m pc lsC (st.map (dm_cv ad))).stack = (rest.map (dm_cv ad)).reverse ++ .ref (ad r.1 r.2) :: (st.drop (n' + 1)).map (dm_cv ad) := by
      show st.map (dm_cv ad) = _
      rw [hstk]
      simp [dm_cv]
    rcases l2 with l2 | ⟨host, l2⟩
    · exact dm_after (va_runI (As := rest.map (dm_cv ad)) (b := ad r.1 r.2) S hMet ⟨callB_of (ws' := tb) n' hts (hG (Or.inr ⟨_, hcal⟩)) hw rfl rfl (hts _ hcal.2.1) (hts _ l2) hcal.2.2.1 (hR _ hcal), hini, hts _ l1⟩ ⟨dm_Pc.blind hSt _ _, fun U hU hW => hpre U hU hW⟩ rfl hlen' hL.1.1 hstk' (lv_room hcat8) hd hf) hA hL hokR hlv' (fun r σ' hq9 => dm_rt_i hq9)
    · exact dm_after (va_runIN (As := rest.map (dm_cv ad)) (b := ad r.1 r.2) S hMet ⟨va_cnB (ws' := tb) n' hts (hG (Or.inr ⟨_, hcal⟩)) hw rfl rfl (l2 s hs) (hts _ hcal.2.1) hcal.2.2.1 (hR _ hcal), hini, hts _ l1⟩ ⟨dm_Pc.blind hSt _ _, fun U hU hW => hpre U hU hW⟩ rfl hlen' hL.1.1 hstk' (lv_room hcat8) hd hf) hA hL hokR hlv' (fun r σ' hq9 => dm_rt_i hq9)
end SIMT
end
section
theorem dm_tg_eq {pc tgt : Nat} {off : Int} {K : Nat → Prop} (ht : (pc : Int) + off = (tgt : Int)) : dm_tg pc off K = K tgt := by
  unfold dm_tg; rw [ht]
theorem dm_ent_len {n : Nat} {av : List dm_V} (h : av.length ≤ n) : (dm_ent n av).length = n := by
  unfold dm_ent; rw [List.length_append, List.length_map, List.length_replicate]; omega
theorem dm_as_rep (ad : Nat → Nat → Nat) : ∀ (n k : Nat), dm_as ad k (List.replicate n none) = []
  | 0, _ => rfl
  | n + 1, k => dm_as_rep ad n (k + 1)
theorem dm_as_ent (ad : Nat → Nat → Nat) (n : Nat) : ∀ (av : List dm_V) (k : Nat), dm_cat av = av.length → dm_as ad k (av.map some ++ List.replicate n none) = lv_args k (av.map (dm_cv ad))
  | [], k, _ => by
    rw [List.map_nil, List.nil_append, dm_as_rep]; rfl
  | .inl x :: av, k, h => by
    have h : dm_cat av = av.length := by simp [dm_cat] at h; omega
    have ih := dm_as_ent ad n av (k + 1) h
    show (k, dm_cv ad (.inl x)) :: dm_as ad (k + 1) (av.map some ++ List.replicate n none) = _
    rw [ih]; rfl
  | .inr (.inl x) :: av, k, h => by
    have h1 : ∀ l : List dm_V, l.length ≤ dm_cat l := by
      intro l
      induction l with
      | nil => exact Nat.le_refl _
      | cons x l ih => rcases x with x | x | x <;> simp [dm_cat] <;> omega
    have := h1 av
    simp [dm_cat] at h; omega
  | .inr (.inr x) :: av, k, h => by
    have h : dm_cat av = av.length := by simp [dm_cat] at h; omega
    have ih := dm_as_ent ad n av (k + 1) h
    show (k, dm_cv ad (.inr (.inr x))) :: dm_as ad (k + 1) (av.map some ++ List.replicate n none) = _
    rw [ih]
    rcases x with _ | ⟨t, i⟩ <;> rfl
section SIMZ
variable {μ : Type} {E : dm_E} {O : dm_O μ} {prog : Nat → dm_M} {mn : Nat → MethodName} {mb : Nat → ByteArray} {tb : List Cond} {mcT : Nat → Nat × Nat}
variable {D : va_G} {dA : FieldType → ClassId} {cl : List vw_C} {ad : Nat → Nat → Nat} {ok : dm_V → Prop} {B : Nat} {tl : μ → List (dm_R × dm_C)} {sz : μ → Nat → Prop} {okM : μ → Prop} {cnt lim : μ → Nat × Nat} {St : State → Heap → Prop}
set_option maxHeartbeats 4000000 in
/-- a method's body -/
theorem dm_body {p : Program} {l : Launch} {e : Env} {s : State} {m : MethodId} {args : Array Value} {below : List Frame} {meth : Method} {c : Code} {c0 : Nat × Nat} {d y0 : Nat} {call : Nat → List dm_V → μ → (Option dm_V → μ → Prop) → Prop} {bi : Bool} {Q : Option dm_V → μ → Prop}
    (hIF : dm_IF O mcT cl ad ok B tl sz okM cnt lim St) (hctx : dm_ctx prog mn mb tb D dA cl B St y0 p s m args c) (hM : dm_MOK E prog mn mb tb cl St y0) (hX : dm_XOK E O prog mn mb tb D dA cl ad ok B tl sz okM cnt lim St y0) (hname : meth.name = (mn y0).name) (hr : meth.sig.returnType = (prog y0).2.2.1) (hlocks : meth.locks = false) (hbi : bi = true → 1 ≤ d)
    (hI : ∀ {pc : Nat} {ls : dm_L} {st : List dm_V} {σ : μ} {i : Instr} {k y n rk cr : Nat}, decode (mb y0) pc = .ok (i, 3) → E.2.1 (prog y0).1 k = some (y, n, rk, cr) → ¬ 3000 ≤ y → dm_link prog mn mb tb cl St (mn y0).cls i k y n cr →
      dm_inv E O call bi (prog y0) (dm_P p l e (dm_rm mcT d y0) s m args below meth c (MQ below (dm_Qc D dA cl ad ok B tl sz okM St Q) args s (mcT y0).1 (mcT y0).2 (fun q => B ≤ q)) ad ok (prog y0).2.1 (dm_Am D dA cl ad B tl sz okM cnt lim c0 (c0.1 + (mcT y0).1, c0.2 + (mcT y0).2) s)) pc ls st σ k →
      dm_P p l e (dm_rm mcT d y0) s m args below meth c (MQ below (dm_Qc D dA cl ad ok B tl sz okM St Q) args s (mcT y0).1 (mcT y0).2 (fun q => B ≤ q)) ad ok (prog y0).2.1 (dm_Am D dA cl ad B tl sz okM cnt lim c0 (c0.1 + (mcT y0).1, c0.2 + (mcT y0).2) s) pc ls st σ)
    {pc : Nat} {ls : dm_L} {st : List dm_V} {σ : μ}
    (h : dm_F E O call bi (prog y0) Q (dm_P p l e (dm_rm mcT d y0) s m args below meth c (MQ below (dm_Qc D dA cl ad ok B tl sz okM St Q) args s (mcT y0).1 (mcT y0).2 (fun q => B ≤ q)) ad ok (prog y0).2.1 (dm_Am D dA cl ad B tl sz okM cnt lim c0 (c0.1 + (mcT y0).1, c0.2 + (mcT y0).2) s)) pc ls st σ) :
    dm_P p l e (dm_rm mcT d y0) s m args below meth c (MQ below (dm_Qc D dA cl ad ok B tl sz okM St Q) args s (mcT y0).1 (mcT y0).2 (fun q => B ≤ q)) ad ok (prog y0).2.1 (dm_Am D dA cl ad B tl sz okM cnt lim c0 (c0.1 + (mcT y0).1, c0.2 + (mcT y0).2) s) pc ls st σ := by
  obtain ⟨hoi, hol, hget, hput, hsta, hSt, hcl, hen, hlv⟩ := id hIF
  obtain ⟨hx, hb, hml, hown, hts, hK, hs, hBs⟩ := id hctx
  obtain ⟨m1, m2, m3, m4, m5, m6, m7⟩ := hM
  obtain ⟨x1, x2, x3, x4, x5⟩ := hX p l e (dm_rm mcT d y0) s m args below meth c (MQ below (dm_Qc D dA cl ad ok B tl sz okM St Q) args s (mcT y0).1 (mcT y0).2 (fun q => B ≤ q)) c0 hctx
  obtain ⟨i, hi, hF⟩ := dm_so_i h
  clear h
  have hd := m2 pc i hi
  have hret : ∀ {H : Heap} {locs : List Loc} {lsC : Array Slot} {cells slots : Nat} {r : Option dm_V} {g : JFrame}, dm_Am D dA cl ad B tl sz okM cnt lim c0 (c0.1 + (mcT y0).1, c0.2 + (mcT y0).2) s σ H locs cells slots → Q r σ → (∀ v, r = some v → ok v) →
      ((∀ t : State, t.heap = H → s.WarmedH t.vm → dm_Qc D dA cl ad ok B tl sz okM St Q args s (.returned (r.map (dm_cv ad))) t) → (∀ q ∈ locs, (fun q => B ≤ q) q.base) → W p l e (dm_rm mcT d y0) s m args below meth c H locs (mcT y0).1 (mcT y0).2 (MQ below (dm_Qc D dA cl ad ok B tl sz okM St Q) args s (mcT y0).1 (mcT y0).2 (fun q => B ≤ q)) g) →
      W p l e (dm_rm mcT d y0) s m args below meth c H locs cells slots (MQ below (dm_Qc D dA cl ad ok B tl sz okM St Q) args s (mcT y0).1 (mcT y0).2 (fun q => B ≤ q)) g := by
    intro H locs lsC cells slots r g hA hq hok k
    obtain ⟨a1, a2, a3, a4, a5, a6, a7, a8⟩ := id hA
    obtain ⟨z1, z2⟩ := hcl σ a5
    rw [a8] at z1 z2
    have z1 : (cnt σ).1 ≤ c0.1 + (mcT y0).1 := z1
    have z2 : (cnt σ).2 ≤ c0.2 + (mcT y0).2 := z2
    refine W.widen (k := (mcT y0).1) (n := (mcT y0).2) (by omega) (by omega) (k (fun t ht hW => ⟨⟨r, σ, rfl, hq, hok, hA.end hK hBs hSt hs ht hW⟩, a3.F ht⟩) a3.2.2)
  unfold dm_FI at hF
  split at hF
  · exact dm_simA hx hb hoi hol x1 x2 hd hF
  · exact dm_simM hx hb hts hown hK hoi hol (fun k ci kk hk => by
      obtain ⟨C, T, N, q1, q2, q3, q4⟩ := m3 k ci kk hk
      exact ⟨C, T, N, q1, q2, hts _ q3, q4⟩) hget hput x3 hsta (fun k ci kk C T N hk h1 h2 h3 => by
      rw [hname]; exact m4 pc k ci kk C T N (by rw [hi, hk]) h1 h2 h3) hd (fun h9 h8 => x5 pc ls st σ i hi h8 h9) hF
  · cases i with
    | if_icmp cd off =>
      intro H locs lsC cells slots hA hL hS
      obtain ⟨x, y, l, rfl, h⟩ := dm_2_i hF
      have hto : 0 ≤ (pc : Int) + off := m5 pc _ hi
      have ht : (pc : Int) + off = ((((pc : Int) + off).toNat : Nat) : Int) := (Int.toNat_of_nonneg hto).symm
      rw [dm_tg_eq ht] at h
      have hS' := dm_okt (dm_okt hS)
      cases cd with
      | eq =>
        have h : if x = y then _ else _ := h
        exact lv_icmp_eq hx hb hd ht (fun q => by rw [if_pos q] at h; exact h _ _ _ _ _ hA hL hS') (fun q => by rw [if_neg q] at h; exact h _ _ _ _ _ hA hL hS')
      | ne =>
        have h : if x = y then _ else _ := h
        exact lv_icmp_ne hx hb hd ht (fun q => by rw [if_neg q] at h; exact h _ _ _ _ _ hA hL hS') (fun q => by rw [if_pos q] at h; exact h _ _ _ _ _ hA hL hS')
      | lt =>
        have h : if x < y then _ else _ := h
        exact lv_icmp_lt hx hb hd ht (fun q => by rw [if_pos q] at h; exact h _ _ _ _ _ hA hL hS') (fun q => by rw [if_neg q] at h; exact h _ _ _ _ _ hA hL hS')
      | ge =>
        have h : if x < y then _ else _ := h
        exact lv_icmp_ge hx hb hd ht (fun q => by rw [if_neg (Int32.not_lt.mpr q)] at h; exact h _ _ _ _ _ hA hL hS') (fun q => by rw [if_pos (Int32.not_le.mp q)] at h; exact h _ _ _ _ _ hA hL hS')
      | gt =>
        have h : if y < x then _ else _ := h
        exact lv_icmp_gt hx hb hd ht (fun q => by rw [if_pos q] at h; exact h _ _ _ _ _ hA hL hS') (fun q => by rw [if_neg q] at h; exact h _ _ _ _ _ hA hL hS')
      | le =>
        have h : if y < x then _ else _ := h
        exact lv_icmp_le hx hb hd ht (fun q => by rw [if_neg (Int32.not_lt.mpr q)] at h; exact h _ _ _ _ _ hA hL hS') (fun q => by rw [if_pos (Int32.not_le.mp q)] at h; exact h _ _ _ _ _ hA hL hS')
    | ifCond cd off =>
      intro H locs lsC cells slots hA hL hS
      obtain ⟨x, l, rfl, h⟩ := dm_1_i hF
      have hto : 0 ≤ (pc : Int) + off := m5 pc _ hi
      have ht : (pc : Int) + off = ((((pc : Int) + off).toNat : Nat) : Int) := (Int.toNat_of_nonneg hto).symm
      rw [dm_tg_eq ht] at h
      have hS' := dm_okt hS
      cases cd with
      | eq =>
        have h : if x = 0 then _ else _ := h
        exact lv_if_eq hx hb hd ht (fun q => by rw [if_pos q] at h; exact h _ _ _ _ _ hA hL hS') (fun q => by rw [if_neg q] at h; exact h _ _ _ _ _ hA hL hS')
      | ne =>
        have h : if x = 0 then _ else _ := h
        exact lv_if_ne hx hb hd ht (fun q => by rw [if_neg q] at h; exact h _ _ _ _ _ hA hL hS') (fun q => by rw [if_pos q] at h; exact h _ _ _ _ _ hA hL hS')
      | lt =>
        have h : if x < 0 then _ else _ := h
        exact lv_if_lt hx hb hd ht (fun q => by rw [if_pos q] at h; exact h _ _ _ _ _ hA hL hS') (fun q => by rw [if_neg q] at h; exact h _ _ _ _ _ hA hL hS')
      | ge =>
        have h : if x < 0 then _ else _ := h
        exact lv_if_ge hx hb hd ht (fun q => by rw [if_neg (Int32.not_lt.mpr q)] at h; exact h _ _ _ _ _ hA hL hS') (fun q => by rw [if_pos (Int32.not_le.mp q)] at h; exact h _ _ _ _ _ hA hL hS')
      | gt =>
        have h : if 0 < x then _ else _ := h
        exact lv_if_gt hx hb hd ht (fun q => by rw [if_pos q] at h; exact h _ _ _ _ _ hA hL hS') (fun q => by rw [if_neg q] at h; exact h _ _ _ _ _ hA hL hS')
      | le =>
        have h : if 0 < x then _ else _ := h
        exact lv_if_le hx hb hd ht (fun q => by rw [if_neg (Int32.not_lt.mpr q)] at h; exact h _ _ _ _ _ hA hL hS') (fun q => by rw [if_pos (Int32.not_le.mp q)] at h; exact h _ _ _ _ _ hA hL hS')
    | goto off =>
      intro H locs lsC cells slots hA hL hS
      obtain ⟨n, ht, h⟩ := dm_tg_i hF
      exact lv_goto hx hb hd ht (h _ _ _ _ _ hA hL hS)
    | tableswitch d9 lo hi9 offs =>
      intro H locs lsC cells slots hA hL hS
      obtain ⟨x, l, rfl, h⟩ := dm_1_i hF
      obtain ⟨q1, q2, q3⟩ := m6 pc d9 lo hi9 offs hi
      exact dm_simSw hx hb hd q1 q2 q3 (fun n hn => hn _ _ _ _ _ hA hL (dm_okt hS)) h
    | ireturn =>
      intro H locs lsC cells slots hA hL hS
      unfold dm_FC at hF
      dsimp only at hF
      split at hF
      · rename_i v hv
        exact hret (lsC := lsC) hA hF (fun v hv => by cases hv; exact hoi _) (fun k1 k2 => W.iret hx hb (hr.trans hv) k1 k2 hd hlocks)
      · rename_i v hv
        exact hret (lsC := lsC) hA hF (fun v hv => by cases hv; exact hoi _) (fun k1 k2 => dm_zret hx hb (hr.trans hv) k1 k2 hlocks hd)
      · exact hF.elim
    | lreturn =>
      intro H locs lsC cells slots hA hL hS
      unfold dm_FC at hF
      dsimp only at hF
      split at hF
      · rename_i v hv
        exact hret (lsC := lsC) hA hF (fun v hv => by cases hv; exact hol _) (fun k1 k2 => W.lret hx hb (hr.trans hv) k1 k2 hd hlocks)
      · exact hF.elim
    | areturn =>
      intro H locs lsC cells slots hA hL hS
      unfold dm_FC at hF
      dsimp only at hF
      split at hF
      · rename_i t i C hv
        exact hret (lsC := lsC) hA hF (fun v hv => by cases hv; exact hS _ List.mem_cons_self) (fun k1 k2 => W.aret hx hb (hr.trans hv) (Or.inl ⟨C, rfl⟩) (Or.inr ⟨_, rfl⟩) k1 k2 hd hlocks)
      · exact hF.elim
    | return_ =>
      intro H locs lsC cells slots hA hL hS
      unfold dm_FC at hF
      dsimp only at hF
      split at hF
      · rename_i hv
        exact hret (lsC := lsC) hA hF (fun v hv => by cases hv) (fun k1 k2 => W.vret hx hb (hr.trans hv) k1 k2 hd hlocks)
      · exact hF.elim
    | invokevirtual k =>
      have h : dm_inv E O call bi (prog y0) _ pc ls st σ k := hF
      obtain ⟨⟨y, n, rk, cr⟩, hq, -⟩ := dm_so_i (show dm_so (E.2.1 (prog y0).1 k) _ from h)
      by_cases h3 : 3000 ≤ y
      · exact x4 d call bi pc ls st σ _ k _ rfl rfl hbi hi (Or.inl rfl) hq h3 h
      · rcases m7 pc _ k hi (Or.inl rfl) _ hq with h9 | h9
        · exact absurd h9 h3
        · exact hI hd hq h3 h9 h
    | invokestatic k =>
      have h : dm_inv E O call bi (prog y0) _ pc ls st σ k := hF
      obtain ⟨⟨y, n, rk, cr⟩, hq, -⟩ := dm_so_i (show dm_so (E.2.1 (prog y0).1 k) _ from h)
      by_cases h3 : 3000 ≤ y
      · exact x4 d call bi pc ls st σ _ k _ rfl rfl hbi hi (Or.inr (Or.inl rfl)) hq h3 h
      · rcases m7 pc _ k hi (Or.inr (Or.inl rfl)) _ hq with h9 | h9
        · exact absurd h9 h3
        · exact hI hd hq h3 h9 h
    | invokespecial k =>
      have h : dm_inv E O call bi (prog y0) _ pc ls st σ k := hF
      obtain ⟨⟨y, n, rk, cr⟩, hq, -⟩ := dm_so_i (show dm_so (E.2.1 (prog y0).1 k) _ from h)
      by_cases h3 : 3000 ≤ y
      · exact x4 d call bi pc ls st σ _ k _ rfl rfl hbi hi (Or.inr (Or.inr rfl)) hq h3 h
      · rcases m7 pc _ k hi (Or.inr (Or.inr rfl)) _ hq with h9 | h9
        · exact absurd h9 h3
        · exact hI hd hq h3 h9 h
    | _ => exact hF.elim
end SIMZ
end
section
theorem dm_lgl (ad : Nat → Nat → Nat) : ∀ av : List dm_V, (lg_sl (av.map (dm_cv ad))).length = dm_cat av
  | [] => rfl
  | x :: av => by
    have ih := dm_lgl ad av
    have h : lg_sl ((x :: av).map (dm_cv ad)) = (if (dm_cv ad x).category = 2 then [Slot.val (dm_cv ad x), Slot.second] else [Slot.val (dm_cv ad x)]) ++ lg_sl (av.map (dm_cv ad)) := by
      simp [lg_sl]
    rw [h, List.length_append, ih]
    rcases x with x | x | _ | ⟨t, i⟩ <;> simp [dm_cv, dm_cat, Value.category]
section SIMW
variable {μ : Type} {E : dm_E} {O : dm_O μ} {prog : Nat → dm_M} {mn : Nat → MethodName} {mb : Nat → ByteArray} {tb : List Cond} {mcT : Nat → Nat × Nat}
variable {D : va_G} {dA : FieldType → ClassId} {cl : List vw_C} {ad : Nat → Nat → Nat} {ok : dm_V → Prop} {B : Nat} {tl : μ → List (dm_R × dm_C)} {sz : μ → Nat → Prop} {okM : μ → Prop} {cnt lim : μ → Nat × Nat} {St : State → Heap → Prop}
theorem dm_ws_at {y : Nat} {args : Array Value} {s : State} (h : ∀ w ∈ dm_ws prog mn mb tb y, w.before args s = true) : ∀ w ∈ tb, w.before args s = true := fun w hw => h w (List.mem_cons_of_mem _ hw)
set_option maxHeartbeats 4000000 in
/-- what the abstract machine does in a call is a contract of the method -/
theorem dm_sim (l : Launch) (hIF : dm_IF O mcT cl ad ok B tl sz okM cnt lim St) (htb : ∀ w ∈ tb, (w.onTables && w.keeps) = true ∨ ∃ ty, w = .arrayClass ty) (hM : ∀ y, dm_MOK E prog mn mb tb cl St y) (hX : ∀ y, dm_XOK E O prog mn mb tb D dA cl ad ok B tl sz okM cnt lim St y) :
    ∀ d y av σ Q, dm_Call E O prog d y av σ Q → okM σ → (∀ v ∈ av, ok v) → lim σ = ((cnt σ).1 + (mcT y).1, (cnt σ).2 + (mcT y).2) → av.length ≤ (prog y).2.1 → dm_cat av = av.length →
      Met l (mn y) (dm_ws prog mn mb tb y) (dm_rm mcT d y) (dm_Pc D dA cl ad B tl sz okM St av σ) (dm_Qc D dA cl ad ok B tl sz okM St Q) (mcT y).1 (mcT y).2 (fun q => B ≤ q) := by
  have step : ∀ (d : Nat) (call : Nat → List dm_V → μ → (Option dm_V → μ → Prop) → Prop) (bi : Bool), (bi = true → 1 ≤ d) →
      (∀ {p : Program} {e : Env} {s : State} {m : MethodId} {args : Array Value} {below : List Frame} {meth : Method} {c : Code} {Qw : State → Prop} {c0 : Nat × Nat} {y0 : Nat}, dm_ctx prog mn mb tb D dA cl B St y0 p s m args c →
        ∀ {pc : Nat} {ls : dm_L} {st : List dm_V} {σ : μ} {i : Instr} {k y n rk cr : Nat}, decode (mb y0) pc = .ok (i, 3) → E.2.1 (prog y0).1 k = some (y, n, rk, cr) → ¬ 3000 ≤ y → dm_link prog mn mb tb cl St (mn y0).cls i k y n cr →
        dm_inv E O call bi (prog y0) (dm_P p l e (dm_rm mcT d y0) s m args below meth c Qw ad ok (prog y0).2.1 (dm_Am D dA cl ad B tl sz okM cnt lim c0 (c0.1 + (mcT y0).1, c0.2 + (mcT y0).2) s)) pc ls st σ k →
        dm_P p l e (dm_rm mcT d y0) s m args below meth c Qw ad ok (prog y0).2.1 (dm_Am D dA cl ad B tl sz okM cnt lim c0 (c0.1 + (mcT y0).1, c0.2 + (mcT y0).2) s) pc ls st σ) →
      ∀ y av σ Q, dm_Go E O call bi (prog y) Q 0 (dm_ent (prog y).2.1 av) [] σ → okM σ → (∀ v ∈ av, ok v) → lim σ = ((cnt σ).1 + (mcT y).1, (cnt σ).2 + (mcT y).2) → av.length ≤ (prog y).2.1 → dm_cat av = av.length →
      Met l (mn y) (dm_ws prog mn mb tb y) (dm_rm mcT d y) (dm_Pc D dA cl ad B tl sz okM St av σ) (dm_Qc D dA cl ad ok B tl sz okM St Q) (mcT y).1 (mcT y).2 (fun q => B ≤ q) := by
    intro d call bi hbi hI y av σ Q hgo hok hav hlim hlen hcat
    refine Met.ofW (cc := mb y) (maxL := (prog y).2.1) (ret := (prog y).2.2.1) (hM y).1 rfl ?_
    intro p e s m args below meth c s₁ B0 hml hv
    obtain ⟨rfl, u1, u2, u3, u4, u5, u6, u7⟩ := hv
    have hx := B0.exec
    have hb := B0.bytes
    have hr := B0.returns
    have hts := dm_ws_at (atoms_spec (ws := dm_ws prog mn mb tb y) B0.pre)
    have hown : s.vm.findClass (mn y).cls = some m.cls := findClass_of_methodNamed B0.named
    have hname : meth.name = (mn y).name := (name_of_methodNamed B0.named B0.method).1
    have hctx : dm_ctx prog mn mb tb D dA cl B St y p s m ((av.map (dm_cv ad)).toArray) c := ⟨hx, hb, hml, hown, hts, u3, u7, u6⟩
    have key := hgo (dm_P p l e (dm_rm mcT d y) s m ((av.map (dm_cv ad)).toArray) below meth c (MQ below (dm_Qc D dA cl ad ok B tl sz okM St Q) ((av.map (dm_cv ad)).toArray) s (mcT y).1 (mcT y).2 (fun q => B ≤ q)) ad ok (prog y).2.1 (dm_Am D dA cl ad B tl sz okM cnt lim (cnt σ) ((cnt σ).1 + (mcT y).1, (cnt σ).2 + (mcT y).2) s))
      (fun pc ls st σ1 hF => dm_body hIF hctx (hM y) (hX y) hname hr B0.notSynchronized hbi (hI hctx) hF)
      (fun pc ls0 ls st σ1 hle hP H locs lsC cells slots hA hL hS => hP H locs lsC cells slots hA (hL.weak hle) hS)
    have hle : (lg_sl (av.map (dm_cv ad))).length ≤ (prog y).2.1 := by
      have := dm_lgl ad av
      omega
    have hl := lv_entry (av.map (dm_cv ad)) hle
    rw [lg_entry_eq]
    refine key s.heap [] _ 0 0 ⟨u1, u2, va_S.rf, u4, u5, Nat.zero_add _, Nat.zero_add _, hlim⟩ ⟨?_, dm_ent_len hlen, fun v hv => ?_⟩ (fun v hv => by cases hv)
    · unfold dm_ent
      rw [dm_as_ent ad _ av 0 hcat]
      exact hl
    · unfold dm_ent at hv
      rcases List.mem_append.mp hv with h | h
      · obtain ⟨w, hw, e9⟩ := List.mem_map.mp h
        cases e9
        exact hav _ hw
      · cases (List.mem_replicate.mp h).2
  intro d
  induction d with
  | zero =>
    intro y av σ Q h
    refine step 0 (fun _ _ _ _ => False) false (fun h => by cases h) ?_ y av σ Q h
    intro p e s m args below meth c Qw c0 y0 hctx pc ls st σ i k y n rk cr hd hq hy hlk h
    obtain ⟨-, -, -, -, h⟩ := dm_inv_i hq hy h
    exact (dm_rc_K h).elim
  | succ d ih =>
    intro y av σ Q h
    refine step (d + 1) (dm_Call E O prog d) true (fun _ => Nat.succ_le_succ (Nat.zero_le d)) ?_ y av σ Q h
    intro p e s m args below meth c Qw c0 y0 hctx pc ls st σ i k y n rk cr hd hq hy hlk h
    exact dm_simI hIF htb hctx (fun y av σ Q hc => ih y av σ Q hc) hd hq hy hlk h
end SIMW
end
section
/-! names: the classes, their fields, their pools (written by program out of the claim) -/
def RX0 : String := "MistakesLent$Deed"
def TX0 : u_T := fun k => match k with
  | 0 => ("MistakesLent$Deed", "effects", "I", false)
  | 1 => ("MistakesLent$Deed", "thing", "[I", true)
  | 2 => ("MistakesLent$Deed", "change", "[I", true)
  | 3 => ("MistakesLent$Deed", "needy", "Z", false)
  | _ => ("MistakesLent$Deed", "need", "LMistakesLent$Need;", true)
def tyX0 : Nat → FieldType := fun k => match k with
  | 0 => .int
  | 1 => .array .int
  | 2 => .array .int
  | 3 => .boolean
  | _ => .object "MistakesLent$Need"
theorem nmX0 : ∀ a, a < 5 → ∀ b, b < 5 → a ≠ b → (TX0 a).2.1 ≠ (TX0 b).2.1 := by decide +kernel
theorem tyX0_ok : ∀ k, k < 5 → parseFieldDescriptor (TX0 k).2.2.1 = some (tyX0 k) := by decide +kernel
def RX1 : String := "MistakesLent$Desk"
def TX1 : u_T := fun k => match k with
  | 0 => ("MistakesLent$Desk", "holder", "[I", true)
  | 1 => ("MistakesLent$Desk", "since", "[I", true)
  | 2 => ("MistakesLent$Desk", "cleaned", "I", false)
  | 3 => ("MistakesLent$Desk", "weeks", "I", false)
  | _ => ("MistakesLent$Desk", "done", "I", false)
def tyX1 : Nat → FieldType := fun k => match k with
  | 0 => .array .int
  | 1 => .array .int
  | 2 => .int
  | 3 => .int
  | _ => .int
theorem nmX1 : ∀ a, a < 5 → ∀ b, b < 5 → a ≠ b → (TX1 a).2.1 ≠ (TX1 b).2.1 := by decide +kernel
theorem tyX1_ok : ∀ k, k < 5 → parseFieldDescriptor (TX1 k).2.2.1 = some (tyX1 k) := by decide +kernel
def RX2 : String := "MistakesLent$History"
def TX2 : u_T := fun k => match k with
  | 0 => ("MistakesLent$History", "past", "[LMistakesLent$Desk;", true)
  | 1 => ("MistakesLent$History", "newest", "I", false)
  | 2 => ("MistakesLent$History", "kept", "I", false)
  | 3 => ("MistakesLent$History", "images", "[LMistakesLent$Desk;", true)
  | _ => ("MistakesLent$History", "pictured", "I", false)
def tyX2 : Nat → FieldType := fun k => match k with
  | 0 => .array (.object "MistakesLent$Desk")
  | 1 => .int
  | 2 => .int
  | 3 => .array (.object "MistakesLent$Desk")
  | _ => .int
theorem nmX2 : ∀ a, a < 5 → ∀ b, b < 5 → a ≠ b → (TX2 a).2.1 ≠ (TX2 b).2.1 := by decide +kernel
theorem tyX2_ok : ∀ k, k < 5 → parseFieldDescriptor (TX2 k).2.2.1 = some (tyX2 k) := by decide +kernel
def RX3 : String := "MistakesLent$Lending"
def TX3 : u_T := fun k => match k with
  | 0 => ("MistakesLent$Lending", "cleanedThen", "I", false)
  | 1 => ("MistakesLent$Lending", "worths", "[I", true)
  | 2 => ("MistakesLent$Lending", "still", "[I", true)
  | 3 => ("MistakesLent$Lending", "slipsIn", "[I", true)
  | 4 => ("MistakesLent$Lending", "peopleIn", "[I", true)
  | 5 => ("MistakesLent$Lending", "tried", "[I", true)
  | 6 => ("MistakesLent$Lending", "best", "[I", true)
  | _ => ("MistakesLent$Lending", "total", "I", false)
def tyX3 : Nat → FieldType := fun k => match k with
  | 0 => .int
  | 1 => .array .int
  | 2 => .array .int
  | 3 => .array .int
  | 4 => .array .int
  | 5 => .array .int
  | 6 => .array .int
  | _ => .int
theorem nmX3 : ∀ a, a < 8 → ∀ b, b < 8 → a ≠ b → (TX3 a).2.1 ≠ (TX3 b).2.1 := by decide +kernel
theorem tyX3_ok : ∀ k, k < 8 → parseFieldDescriptor (TX3 k).2.2.1 = some (tyX3 k) := by decide +kernel
def RX4 : String := "MistakesLent$Maker"
def TX4 : u_T := fun k => match k with
  | 0 => ("MistakesLent$Maker", "one", "LMistakesLent$Steps;", true)
  | 1 => ("MistakesLent$Maker", "two", "LMistakesLent$Steps;", true)
  | 2 => ("MistakesLent$Maker", "cleanedThen", "[I", true)
  | 3 => ("MistakesLent$Maker", "number", "[I", true)
  | 4 => ("MistakesLent$Maker", "first", "[I", true)
  | _ => ("MistakesLent$Maker", "second", "[I", true)
def tyX4 : Nat → FieldType := fun k => match k with
  | 0 => .object "MistakesLent$Steps"
  | 1 => .object "MistakesLent$Steps"
  | 2 => .array .int
  | 3 => .array .int
  | 4 => .array .int
  | _ => .array .int
theorem nmX4 : ∀ a, a < 6 → ∀ b, b < 6 → a ≠ b → (TX4 a).2.1 ≠ (TX4 b).2.1 := by decide +kernel
theorem tyX4_ok : ∀ k, k < 6 → parseFieldDescriptor (TX4 k).2.2.1 = some (tyX4 k) := by decide +kernel
def RX5 : String := "MistakesLent$Museum"
def TX5 : u_T := fun k => match k with
  | 0 => ("MistakesLent$Museum", "count", "[I", true)
  | 1 => ("MistakesLent$Museum", "weeks", "I", false)
  | 2 => ("MistakesLent$Museum", "breaks", "I", false)
  | 3 => ("MistakesLent$Museum", "fine", "I", false)
  | 4 => ("MistakesLent$Museum", "grown", "I", false)
  | 5 => ("MistakesLent$Museum", "atFirst", "[I", true)
  | 6 => ("MistakesLent$Museum", "harms", "[LMistakesLent$Need;", true)
  | 7 => ("MistakesLent$Museum", "costs", "[I", true)
  | 8 => ("MistakesLent$Museum", "deeds", "[LMistakesLent$Deed;", true)
  | 9 => ("MistakesLent$Museum", "plans", "[LMistakesLent$Steps;", true)
  | 10 => ("MistakesLent$Museum", "slips", "[LMistakesLent$Slip;", true)
  | 11 => ("MistakesLent$Museum", "kind", "[I", true)
  | 12 => ("MistakesLent$Museum", "planOf", "[I", true)
  | 13 => ("MistakesLent$Museum", "asker", "[I", true)
  | 14 => ("MistakesLent$Museum", "asked", "[I", true)
  | 15 => ("MistakesLent$Museum", "pays", "[I", true)
  | 16 => ("MistakesLent$Museum", "endedPlan", "I", false)
  | _ => ("MistakesLent$Museum", "endSeen", "I", false)
def tyX5 : Nat → FieldType := fun k => match k with
  | 0 => .array .int
  | 1 => .int
  | 2 => .int
  | 3 => .int
  | 4 => .int
  | 5 => .array .int
  | 6 => .array (.object "MistakesLent$Need")
  | 7 => .array .int
  | 8 => .array (.object "MistakesLent$Deed")
  | 9 => .array (.object "MistakesLent$Steps")
  | 10 => .array (.object "MistakesLent$Slip")
  | 11 => .array .int
  | 12 => .array .int
  | 13 => .array .int
  | 14 => .array .int
  | 15 => .array .int
  | 16 => .int
  | _ => .int
theorem nmX5 : ∀ a, a < 18 → ∀ b, b < 18 → a ≠ b → (TX5 a).2.1 ≠ (TX5 b).2.1 := by decide +kernel
theorem tyX5_ok : ∀ k, k < 18 → parseFieldDescriptor (TX5 k).2.2.1 = some (tyX5 k) := by decide +kernel
def RX6 : String := "MistakesLent$Need"
def TX6 : u_T := fun k => match k with
  | 0 => ("MistakesLent$Need", "thing", "I", false)
  | 1 => ("MistakesLent$Need", "over", "Z", false)
  | _ => ("MistakesLent$Need", "bound", "I", false)
def tyX6 : Nat → FieldType := fun k => match k with
  | 0 => .int
  | 1 => .boolean
  | _ => .int
theorem nmX6 : ∀ a, a < 3 → ∀ b, b < 3 → a ≠ b → (TX6 a).2.1 ≠ (TX6 b).2.1 := by decide +kernel
theorem tyX6_ok : ∀ k, k < 3 → parseFieldDescriptor (TX6 k).2.2.1 = some (tyX6 k) := by decide +kernel
def RX7 : String := "MistakesLent$Reader"
def TX7 : u_T := fun k => match k with
  | 0 => ("MistakesLent$Reader", "tokens", "LMistakesLent$Tokens;", true)
  | 1 => ("MistakesLent$Reader", "names", "[J", true)
  | 2 => ("MistakesLent$Reader", "sorts", "[I", true)
  | 3 => ("MistakesLent$Reader", "numbers", "[I", true)
  | 4 => ("MistakesLent$Reader", "named", "I", false)
  | 5 => ("MistakesLent$Reader", "museum", "LMistakesLent$Museum;", false)
  | 6 => ("MistakesLent$Reader", "value", "I", false)
  | 7 => ("MistakesLent$Reader", "nameAt", "I", false)
  | 8 => ("MistakesLent$Reader", "fault", "I", false)
  | _ => ("MistakesLent$Reader", "place", "I", false)
def tyX7 : Nat → FieldType := fun k => match k with
  | 0 => .object "MistakesLent$Tokens"
  | 1 => .array .long
  | 2 => .array .int
  | 3 => .array .int
  | 4 => .int
  | 5 => .object "MistakesLent$Museum"
  | 6 => .int
  | 7 => .int
  | 8 => .int
  | _ => .int
theorem nmX7 : ∀ a, a < 10 → ∀ b, b < 10 → a ≠ b → (TX7 a).2.1 ≠ (TX7 b).2.1 := by decide +kernel
theorem tyX7_ok : ∀ k, k < 10 → parseFieldDescriptor (TX7 k).2.2.1 = some (tyX7 k) := by decide +kernel
def RX8 : String := "MistakesLent$Runner"
def TX8 : u_T := fun k => match k with
  | 0 => ("MistakesLent$Runner", "museum", "LMistakesLent$Museum;", false)
  | 1 => ("MistakesLent$Runner", "desk", "LMistakesLent$Desk;", true)
  | 2 => ("MistakesLent$Runner", "course", "LMistakesLent$Steps;", true)
  | 3 => ("MistakesLent$Runner", "levels", "[I", true)
  | 4 => ("MistakesLent$Runner", "brokeAt", "I", false)
  | _ => ("MistakesLent$Runner", "cost", "I", false)
def tyX8 : Nat → FieldType := fun k => match k with
  | 0 => .object "MistakesLent$Museum"
  | 1 => .object "MistakesLent$Desk"
  | 2 => .object "MistakesLent$Steps"
  | 3 => .array .int
  | 4 => .int
  | _ => .int
theorem nmX8 : ∀ a, a < 6 → ∀ b, b < 6 → a ≠ b → (TX8 a).2.1 ≠ (TX8 b).2.1 := by decide +kernel
theorem tyX8_ok : ∀ k, k < 6 → parseFieldDescriptor (TX8 k).2.2.1 = some (tyX8 k) := by decide +kernel
def RX9 : String := "MistakesLent$Slip"
def TX9 : u_T := fun k => match k with
  | 0 => ("MistakesLent$Slip", "mistake", "I", false)
  | 1 => ("MistakesLent$Slip", "deed", "I", false)
  | 2 => ("MistakesLent$Slip", "second", "I", false)
  | _ => ("MistakesLent$Slip", "often", "I", false)
def tyX9 : Nat → FieldType := fun k => match k with
  | 0 => .int
  | 1 => .int
  | 2 => .int
  | _ => .int
theorem nmX9 : ∀ a, a < 4 → ∀ b, b < 4 → a ≠ b → (TX9 a).2.1 ≠ (TX9 b).2.1 := by decide +kernel
theorem tyX9_ok : ∀ k, k < 4 → parseFieldDescriptor (TX9 k).2.2.1 = some (tyX9 k) := by decide +kernel
def RX10 : String := "MistakesLent$Steps"
def TX10 : u_T := fun k => match k with
  | 0 => ("MistakesLent$Steps", "count", "I", false)
  | 1 => ("MistakesLent$Steps", "deed", "[I", true)
  | _ => ("MistakesLent$Steps", "turned", "[Z", true)
def tyX10 : Nat → FieldType := fun k => match k with
  | 0 => .int
  | 1 => .array .int
  | _ => .array .boolean
theorem nmX10 : ∀ a, a < 3 → ∀ b, b < 3 → a ≠ b → (TX10 a).2.1 ≠ (TX10 b).2.1 := by decide +kernel
theorem tyX10_ok : ∀ k, k < 3 → parseFieldDescriptor (TX10 k).2.2.1 = some (tyX10 k) := by decide +kernel
def RX11 : String := "MistakesLent$Tokens"
def TX11 : u_T := fun k => match k with
  | 0 => ("MistakesLent$Tokens", "text", "[B", false)
  | 1 => ("MistakesLent$Tokens", "length", "I", false)
  | 2 => ("MistakesLent$Tokens", "kind", "I", false)
  | 3 => ("MistakesLent$Tokens", "place", "I", false)
  | 4 => ("MistakesLent$Tokens", "behind", "I", false)
  | 5 => ("MistakesLent$Tokens", "number", "I", false)
  | _ => ("MistakesLent$Tokens", "letters", "J", false)
def tyX11 : Nat → FieldType := fun k => match k with
  | 0 => .array .byte
  | 1 => .int
  | 2 => .int
  | 3 => .int
  | 4 => .int
  | 5 => .int
  | _ => .long
theorem nmX11 : ∀ a, a < 7 → ∀ b, b < 7 → a ≠ b → (TX11 a).2.1 ≠ (TX11 b).2.1 := by decide +kernel
theorem tyX11_ok : ∀ k, k < 7 → parseFieldDescriptor (TX11 k).2.2.1 = some (tyX11 k) := by decide +kernel
def RX12 : String := "MistakesLent"
def TX12 : u_T := fun k => match k with
  | 0 => ("MistakesLent", "tape", "[B", true)
  | 1 => ("MistakesLent", "fed", "I", false)
  | 2 => ("MistakesLent", "runner", "LMistakesLent$Runner;", true)
  | 3 => ("MistakesLent", "desk", "LMistakesLent$Desk;", true)
  | 4 => ("MistakesLent", "museum", "LMistakesLent$Museum;", false)
  | 5 => ("MistakesLent", "open", "Z", false)
  | 6 => ("MistakesLent", "reader", "LMistakesLent$Reader;", true)
  | 7 => ("MistakesLent", "history", "LMistakesLent$History;", true)
  | 8 => ("MistakesLent", "maker", "LMistakesLent$Maker;", true)
  | 9 => ("MistakesLent", "lender", "LMistakesLent$Lending;", true)
  | 10 => ("MistakesLent", "ends", "[I", true)
  | 11 => ("MistakesLent", "alike", "[I", true)
  | 12 => ("MistakesLent", "mostLeft", "I", false)
  | 13 => ("MistakesLent", "trouble", "I", false)
  | 14 => ("MistakesLent", "fault", "I", false)
  | _ => ("MistakesLent", "place", "I", false)
def tyX12 : Nat → FieldType := fun k => match k with
  | 0 => .array .byte
  | 1 => .int
  | 2 => .object "MistakesLent$Runner"
  | 3 => .object "MistakesLent$Desk"
  | 4 => .object "MistakesLent$Museum"
  | 5 => .boolean
  | 6 => .object "MistakesLent$Reader"
  | 7 => .object "MistakesLent$History"
  | 8 => .object "MistakesLent$Maker"
  | 9 => .object "MistakesLent$Lending"
  | 10 => .array .int
  | 11 => .array .int
  | 12 => .int
  | 13 => .int
  | 14 => .int
  | _ => .int
theorem nmX12 : ∀ a, a < 16 → ∀ b, b < 16 → a ≠ b → (TX12 a).2.1 ≠ (TX12 b).2.1 := by decide +kernel
theorem tyX12_ok : ∀ k, k < 16 → parseFieldDescriptor (TX12 k).2.2.1 = some (tyX12 k) := by decide +kernel
def RX13 : String := "MistakesLentModel"
def TX13 : u_T := fun k => match k with
  | 0 => ("MistakesLentModel", "thrown", "I", false)
  | 1 => ("MistakesLentModel", "tape", "[I", true)
  | 2 => ("MistakesLentModel", "taped", "I", false)
  | 3 => ("MistakesLentModel", "size", "I", false)
  | 4 => ("MistakesLentModel", "at", "I", false)
  | 5 => ("MistakesLentModel", "end1", "I", false)
  | 6 => ("MistakesLentModel", "token", "I", false)
  | 7 => ("MistakesLentModel", "whole", "I", false)
  | 8 => ("MistakesLentModel", "nameSize", "I", false)
  | 9 => ("MistakesLentModel", "fault", "I", false)
  | 10 => ("MistakesLentModel", "place", "I", false)
  | 11 => ("MistakesLentModel", "trouble", "I", false)
  | 12 => ("MistakesLentModel", "letters", "[I", true)
  | 13 => ("MistakesLentModel", "failed", "Z", false)
  | 14 => ("MistakesLentModel", "hasMuseum", "Z", false)
  | 15 => ("MistakesLentModel", "\x72", "[I", true)
  | 16 => ("MistakesLentModel", "fresh", "[I", true)
  | 17 => ("MistakesLentModel", "st", "[I", true)
  | 18 => ("MistakesLentModel", "undone", "[I", true)
  | 19 => ("MistakesLentModel", "kept", "[I", true)
  | 20 => ("MistakesLentModel", "undos", "I", false)
  | 21 => ("MistakesLentModel", "images", "I", false)
  | 22 => ("MistakesLentModel", "steps", "[I", true)
  | 23 => ("MistakesLentModel", "level", "[I", true)
  | 24 => ("MistakesLentModel", "many", "I", false)
  | 25 => ("MistakesLentModel", "broke", "I", false)
  | 26 => ("MistakesLentModel", "seen", "[I", true)
  | 27 => ("MistakesLentModel", "lookMost", "I", false)
  | 28 => ("MistakesLentModel", "trial", "[I", true)
  | 29 => ("MistakesLentModel", "trialMany", "I", false)
  | 30 => ("MistakesLentModel", "madeBy", "[I", true)
  | 31 => ("MistakesLentModel", "ends1", "[I", true)
  | 32 => ("MistakesLentModel", "weekTried", "[I", true)
  | 33 => ("MistakesLentModel", "bestWeek", "[I", true)
  | 34 => ("MistakesLentModel", "worths", "[I", true)
  | 35 => ("MistakesLentModel", "bestLent", "I", false)
  | _ => ("MistakesLentModel", "firstRest", "I", false)
def tyX13 : Nat → FieldType := fun k => match k with
  | 0 => .int
  | 1 => .array .int
  | 2 => .int
  | 3 => .int
  | 4 => .int
  | 5 => .int
  | 6 => .int
  | 7 => .int
  | 8 => .int
  | 9 => .int
  | 10 => .int
  | 11 => .int
  | 12 => .array .int
  | 13 => .boolean
  | 14 => .boolean
  | 15 => .array .int
  | 16 => .array .int
  | 17 => .array .int
  | 18 => .array .int
  | 19 => .array .int
  | 20 => .int
  | 21 => .int
  | 22 => .array .int
  | 23 => .array .int
  | 24 => .int
  | 25 => .int
  | 26 => .array .int
  | 27 => .int
  | 28 => .array .int
  | 29 => .int
  | 30 => .array .int
  | 31 => .array .int
  | 32 => .array .int
  | 33 => .array .int
  | 34 => .array .int
  | 35 => .int
  | _ => .int
theorem nmX13 : ∀ a, a < 37 → ∀ b, b < 37 → a ≠ b → (TX13 a).2.1 ≠ (TX13 b).2.1 := by decide +kernel
theorem tyX13_ok : ∀ k, k < 37 → parseFieldDescriptor (TX13 k).2.2.1 = some (tyX13 k) := by decide +kernel
abbrev vwCl : List vw_C := [(RX0, TX0, 5), (RX1, TX1, 5), (RX2, TX2, 5), (RX3, TX3, 8), (RX4, TX4, 6), (RX5, TX5, 18), (RX6, TX6, 3), (RX7, TX7, 10), (RX8, TX8, 6), (RX9, TX9, 4), (RX10, TX10, 3), (RX11, TX11, 7), (RX12, TX12, 16), (RX13, TX13, 37)]
def dm_tb : List Cond := lw_tbl.filter goodWord
theorem dm_tb_good : ∀ w ∈ dm_tb, (w.onTables && w.keeps) = true ∨ ∃ ty, w = .arrayClass ty := fun w h => good_of_word (List.mem_filter.mp h).2
def dm_at (i : Nat) (w : Cond) : Bool := decide (lw_tbl[i]? = some w) && goodWord w
theorem dm_at_mem {i : Nat} {w : Cond} (h : dm_at i w = true) : w ∈ dm_tb := by
  unfold dm_at at h
  simp only [Bool.and_eq_true, decide_eq_true_eq] at h
  exact List.mem_filter.mpr ⟨List.mem_of_getElem? h.1, h.2⟩
def lpX0 : List Nat := [228, 230, 232, 234, 236]
theorem ixX0 : ∀ w ∈ u_ws RX0 TX0 5, w ∈ dm_tb := by
  have h : ∀ k, k < 5 → dm_at (lpX0.getD k 0) (u_lay RX0 TX0 k) = true := by decide +kernel
  intro w hw
  obtain ⟨k, hk, rfl⟩ := List.mem_map.mp hw
  exact dm_at_mem (h k (List.mem_range.mp hk))
def lpX1 : List Nat := [406, 408, 410, 412, 414]
theorem ixX1 : ∀ w ∈ u_ws RX1 TX1 5, w ∈ dm_tb := by
  have h : ∀ k, k < 5 → dm_at (lpX1.getD k 0) (u_lay RX1 TX1 k) = true := by decide +kernel
  intro w hw
  obtain ⟨k, hk, rfl⟩ := List.mem_map.mp hw
  exact dm_at_mem (h k (List.mem_range.mp hk))
def lpX2 : List Nat := [600, 602, 604, 606, 608]
theorem ixX2 : ∀ w ∈ u_ws RX2 TX2 5, w ∈ dm_tb := by
  have h : ∀ k, k < 5 → dm_at (lpX2.getD k 0) (u_lay RX2 TX2 k) = true := by decide +kernel
  intro w hw
  obtain ⟨k, hk, rfl⟩ := List.mem_map.mp hw
  exact dm_at_mem (h k (List.mem_range.mp hk))
def lpX3 : List Nat := [659, 661, 663, 665, 667, 669, 671, 673]
theorem ixX3 : ∀ w ∈ u_ws RX3 TX3 8, w ∈ dm_tb := by
  have h : ∀ k, k < 8 → dm_at (lpX3.getD k 0) (u_lay RX3 TX3 k) = true := by decide +kernel
  intro w hw
  obtain ⟨k, hk, rfl⟩ := List.mem_map.mp hw
  exact dm_at_mem (h k (List.mem_range.mp hk))
def lpX4 : List Nat := [629, 631, 633, 635, 637, 639]
theorem ixX4 : ∀ w ∈ u_ws RX4 TX4 6, w ∈ dm_tb := by
  have h : ∀ k, k < 6 → dm_at (lpX4.getD k 0) (u_lay RX4 TX4 k) = true := by decide +kernel
  intro w hw
  obtain ⟨k, hk, rfl⟩ := List.mem_map.mp hw
  exact dm_at_mem (h k (List.mem_range.mp hk))
def lpX5 : List Nat := [349, 351, 353, 355, 357, 359, 361, 363, 365, 367, 369, 371, 373, 375, 377, 379, 381, 383]
theorem ixX5 : ∀ w ∈ u_ws RX5 TX5 18, w ∈ dm_tb := by
  have h : ∀ k, k < 18 → dm_at (lpX5.getD k 0) (u_lay RX5 TX5 k) = true := by decide +kernel
  intro w hw
  obtain ⟨k, hk, rfl⟩ := List.mem_map.mp hw
  exact dm_at_mem (h k (List.mem_range.mp hk))
def lpX6 : List Nat := [201, 203, 205]
theorem ixX6 : ∀ w ∈ u_ws RX6 TX6 3, w ∈ dm_tb := by
  have h : ∀ k, k < 3 → dm_at (lpX6.getD k 0) (u_lay RX6 TX6 k) = true := by decide +kernel
  intro w hw
  obtain ⟨k, hk, rfl⟩ := List.mem_map.mp hw
  exact dm_at_mem (h k (List.mem_range.mp hk))
def lpX7 : List Nat := [562, 564, 566, 568, 570, 572, 574, 576, 578, 580]
theorem ixX7 : ∀ w ∈ u_ws RX7 TX7 10, w ∈ dm_tb := by
  have h : ∀ k, k < 10 → dm_at (lpX7.getD k 0) (u_lay RX7 TX7 k) = true := by decide +kernel
  intro w hw
  obtain ⟨k, hk, rfl⟩ := List.mem_map.mp hw
  exact dm_at_mem (h k (List.mem_range.mp hk))
def lpX8 : List Nat := [434, 436, 438, 440, 442, 444]
theorem ixX8 : ∀ w ∈ u_ws RX8 TX8 6, w ∈ dm_tb := by
  have h : ∀ k, k < 6 → dm_at (lpX8.getD k 0) (u_lay RX8 TX8 k) = true := by decide +kernel
  intro w hw
  obtain ⟨k, hk, rfl⟩ := List.mem_map.mp hw
  exact dm_at_mem (h k (List.mem_range.mp hk))
def lpX9 : List Nat := [278, 280, 282, 284]
theorem ixX9 : ∀ w ∈ u_ws RX9 TX9 4, w ∈ dm_tb := by
  have h : ∀ k, k < 4 → dm_at (lpX9.getD k 0) (u_lay RX9 TX9 k) = true := by decide +kernel
  intro w hw
  obtain ⟨k, hk, rfl⟩ := List.mem_map.mp hw
  exact dm_at_mem (h k (List.mem_range.mp hk))
def lpX10 : List Nat := [254, 256, 258]
theorem ixX10 : ∀ w ∈ u_ws RX10 TX10 3, w ∈ dm_tb := by
  have h : ∀ k, k < 3 → dm_at (lpX10.getD k 0) (u_lay RX10 TX10 k) = true := by decide +kernel
  intro w hw
  obtain ⟨k, hk, rfl⟩ := List.mem_map.mp hw
  exact dm_at_mem (h k (List.mem_range.mp hk))
def lpX11 : List Nat := [470, 472, 474, 476, 478, 480, 482]
theorem ixX11 : ∀ w ∈ u_ws RX11 TX11 7, w ∈ dm_tb := by
  have h : ∀ k, k < 7 → dm_at (lpX11.getD k 0) (u_lay RX11 TX11 k) = true := by decide +kernel
  intro w hw
  obtain ⟨k, hk, rfl⟩ := List.mem_map.mp hw
  exact dm_at_mem (h k (List.mem_range.mp hk))
def lpX12 : List Nat := [693, 695, 697, 699, 701, 703, 705, 707, 709, 711, 713, 715, 717, 719, 721, 723]
theorem ixX12 : ∀ w ∈ u_ws RX12 TX12 16, w ∈ dm_tb := by
  have h : ∀ k, k < 16 → dm_at (lpX12.getD k 0) (u_lay RX12 TX12 k) = true := by decide +kernel
  intro w hw
  obtain ⟨k, hk, rfl⟩ := List.mem_map.mp hw
  exact dm_at_mem (h k (List.mem_range.mp hk))
def lpX13 : List Nat := [1427, 1429, 1431, 1433, 1435, 1437, 1439, 1441, 1443, 1445, 1447, 1449, 1451, 1453, 1455, 1457, 1459, 1461, 1463, 1465, 1467, 1469, 1471, 1473, 1475, 1477, 1479, 1481, 1483, 1485, 1487, 1489, 1491, 1493, 1495, 1497, 1499]
theorem ixX13 : ∀ w ∈ u_ws RX13 TX13 37, w ∈ dm_tb := by
  have h : ∀ k, k < 37 → dm_at (lpX13.getD k 0) (u_lay RX13 TX13 k) = true := by decide +kernel
  intro w hw
  obtain ⟨k, hk, rfl⟩ := List.mem_map.mp hw
  exact dm_at_mem (h k (List.mem_range.mp hk))
def dm_lk {α : Type} : List (Nat × α) → Nat → Option α
  | [], _ => none
  | (n, a) :: r, k => match Nat.beq n k with
    | true => some a
    | false => dm_lk r k
def dm_fl_0 : List (Nat × Nat × Nat × Nat) := [(25, 0, 0, 217), (9, 0, 1, 219), (15, 0, 2, 221), (21, 0, 4, 225)]
def dm_fl_1 : List (Nat × Nat × Nat × Nat) := [(13, 1, 0, 393), (18, 1, 1, 395), (21, 1, 2, 397), (25, 1, 3, 402), (28, 1, 4, 404)]
def dm_fl_2 : List (Nat × Nat × Nat × Nat) := [(11, 2, 0, 593), (28, 2, 1, 594), (21, 2, 2, 595), (17, 2, 3, 597), (25, 2, 4, 598)]
def dm_fl_3 : List (Nat × Nat × Nat × Nat) := [(52, 5, 0, 289), (80, 5, 1, 293), (77, 5, 13, 335), (74, 5, 14, 339), (43, 1, 2, 399), (48, 8, 0, 422), (37, 8, 1, 426), (9, 3, 0, 649), (19, 3, 1, 650), (22, 3, 2, 651), (25, 3, 3, 652), (28, 3, 4, 653), (31, 3, 5, 654), (34, 3, 6, 655), (67, 3, 7, 657)]
def dm_fl_4 : List (Nat × Nat × Nat × Nat) := [(74, 10, 0, 246), (77, 5, 0, 290), (53, 5, 9, 318), (43, 1, 2, 400), (49, 8, 0, 423), (37, 8, 1, 427), (12, 4, 0, 620), (18, 4, 1, 621), (25, 4, 2, 622), (28, 4, 3, 623), (31, 4, 4, 625), (34, 4, 5, 627)]
def dm_fl_5 : List (Nat × Nat × Nat × Nat) := [(13, 5, 0, 287), (18, 5, 5, 305), (23, 5, 6, 308), (27, 5, 7, 311), (32, 5, 8, 314), (38, 5, 9, 317), (44, 5, 10, 322), (48, 5, 11, 326), (51, 5, 12, 330), (54, 5, 13, 334), (57, 5, 14, 338), (60, 5, 15, 342)]
def dm_fl_6 : List (Nat × Nat × Nat × Nat) := [(13, 6, 0, 195), (7, 6, 1, 197), (17, 6, 2, 199)]
def dm_fl_7 : List (Nat × Nat × Nat × Nat) := [(209, 6, 0, 196), (215, 6, 1, 198), (220, 6, 2, 200), (235, 0, 0, 218), (254, 0, 1, 220), (256, 0, 2, 222), (243, 0, 3, 224), (246, 0, 4, 227), (259, 10, 0, 248), (270, 9, 0, 269), (274, 9, 1, 272), (276, 9, 2, 275), (281, 9, 3, 277), (74, 5, 0, 288), (186, 5, 1, 294), (190, 5, 2, 297), (194, 5, 3, 300), (198, 5, 4, 303), (203, 5, 5, 307), (223, 5, 6, 310), (233, 5, 7, 313), (128, 5, 8, 316), (136, 5, 9, 319), (144, 5, 10, 324), (297, 5, 11, 329), (299, 5, 12, 333), (302, 5, 13, 337), (305, 5, 14, 341), (310, 5, 15, 344), (312, 5, 16, 345), (315, 5, 17, 347), (104, 11, 2, 462), (114, 11, 3, 464), (165, 11, 5, 467), (171, 11, 6, 469), (12, 7, 0, 549), (18, 7, 1, 550), (22, 7, 2, 551), (26, 7, 3, 552), (77, 7, 4, 553), (32, 7, 5, 554), (168, 7, 6, 556), (175, 7, 7, 557), (81, 7, 8, 558), (84, 7, 9, 560)]
def dm_fl_8 : List (Nat × Nat × Nat × Nat) := [(107, 0, 3, 223), (113, 0, 4, 226), (62, 10, 0, 245), (65, 10, 1, 250), (71, 10, 2, 253), (59, 9, 0, 267), (54, 9, 1, 270), (82, 9, 2, 273), (92, 5, 0, 292), (130, 5, 2, 296), (185, 5, 3, 299), (169, 5, 4, 302), (94, 5, 5, 306), (136, 5, 6, 309), (140, 5, 7, 312), (103, 5, 8, 315), (155, 5, 9, 320), (50, 5, 10, 323), (162, 5, 11, 327), (159, 5, 12, 331), (172, 5, 13, 336), (175, 5, 14, 340), (182, 5, 15, 343), (47, 1, 2, 398), (12, 8, 0, 420), (21, 8, 1, 424), (28, 8, 2, 428), (36, 8, 3, 429), (39, 8, 4, 431), (133, 8, 5, 433)]
def dm_fl_10 : List (Nat × Nat × Nat × Nat) := [(19, 10, 0, 244), (9, 10, 1, 249), (15, 10, 2, 252)]
def dm_fl_11 : List (Nat × Nat × Nat × Nat) := [(7, 11, 0, 459), (22, 11, 1, 460), (35, 11, 2, 461), (32, 11, 3, 463), (26, 11, 4, 465), (50, 11, 5, 466), (44, 11, 6, 468)]
def dm_fl_12 : List (Nat × Nat × Nat × Nat) := [(150, 10, 0, 247), (154, 10, 1, 251), (128, 9, 0, 268), (133, 9, 1, 271), (136, 9, 2, 274), (139, 9, 3, 276), (109, 5, 0, 291), (314, 5, 1, 295), (353, 5, 2, 298), (356, 5, 3, 301), (359, 5, 4, 304), (146, 5, 9, 321), (124, 5, 10, 325), (156, 5, 11, 328), (159, 5, 12, 332), (217, 5, 16, 346), (220, 5, 17, 348), (302, 1, 0, 394), (311, 1, 1, 396), (331, 1, 2, 401), (308, 1, 3, 403), (328, 1, 4, 405), (25, 8, 0, 421), (20, 8, 1, 425), (170, 8, 3, 430), (173, 8, 4, 432), (92, 7, 5, 555), (84, 7, 8, 559), (88, 7, 9, 561), (362, 2, 2, 596), (365, 2, 4, 599), (249, 4, 3, 624), (252, 4, 4, 626), (255, 4, 5, 628), (280, 3, 6, 656), (277, 3, 7, 658), (9, 12, 0, 677), (68, 12, 1, 678), (16, 12, 2, 679), (24, 12, 3, 680), (29, 12, 4, 681), (93, 12, 5, 682), (33, 12, 6, 683), (40, 12, 7, 684), (47, 12, 8, 685), (54, 12, 9, 686), (62, 12, 10, 687), (65, 12, 11, 688), (227, 12, 12, 689), (117, 12, 13, 690), (87, 12, 14, 691), (91, 12, 15, 692)]
def dm_fl_13 : List (Nat × Nat × Nat × Nat) := [(62, 13, 0, 1390), (7, 13, 1, 1391), (68, 13, 2, 1392), (71, 13, 3, 1393), (81, 13, 4, 1394), (74, 13, 5, 1395), (90, 13, 6, 1396), (87, 13, 7, 1397), (84, 13, 8, 1398), (104, 13, 9, 1399), (13, 13, 10, 1400), (65, 13, 11, 1401), (17, 13, 12, 1402), (100, 13, 13, 1403), (188, 13, 14, 1404), (20, 13, 15, 1405), (23, 13, 16, 1406), (26, 13, 17, 1407), (29, 13, 18, 1408), (32, 13, 19, 1409), (191, 13, 20, 1410), (194, 13, 21, 1411), (35, 13, 22, 1412), (38, 13, 23, 1413), (303, 13, 24, 1414), (312, 13, 25, 1415), (41, 13, 26, 1416), (366, 13, 27, 1417), (44, 13, 28, 1418), (375, 13, 29, 1419), (47, 13, 30, 1420), (50, 13, 31, 1421), (53, 13, 32, 1422), (56, 13, 33, 1423), (59, 13, 34, 1424), (420, 13, 35, 1425), (436, 13, 36, 1426)]
def dm_fl (c : Nat) : List (Nat × Nat × Nat × Nat) := match c with
  | 0 => dm_fl_0
  | 1 => dm_fl_1
  | 2 => dm_fl_2
  | 3 => dm_fl_3
  | 4 => dm_fl_4
  | 5 => dm_fl_5
  | 6 => dm_fl_6
  | 7 => dm_fl_7
  | 8 => dm_fl_8
  | 10 => dm_fl_10
  | 11 => dm_fl_11
  | 12 => dm_fl_12
  | 13 => dm_fl_13
  | _ => []
def dm_ml_0 : List (Nat × (Nat × Nat × Nat × Nat) × Nat × Nat × Nat × Nat × Nat × Nat) := [(3, (3000, 0, 0, 99), 2, 214, 0, 0, 0, 0), (29, (3002, 0, 0, 99), 1, 981, 0, 0, 0, 0), (35, (3001, 0, 0, 99), 1, 982, 0, 0, 0, 0), (20, (25, 1, 0, 6), 2, 216, 192, 0, 193, 139)]
def dm_ml_1 : List (Nat × (Nat × Nat × Nat × Nat) × Nat × Nat × Nat × Nat × Nat × Nat) := [(3, (3000, 0, 0, 99), 2, 391, 0, 0, 0, 0)]
def dm_ml_2 : List (Nat × (Nat × Nat × Nat × Nat) × Nat × Nat × Nat × Nat × Nat × Nat) := [(3, (3000, 0, 0, 99), 2, 589, 0, 0, 0, 0), (31, (4, 2, 0, 1), 0, 1258, 1259, 1260, 1261, 143), (35, (3002, 0, 0, 99), 1, 1262, 0, 0, 0, 0), (20, (2, 1, 0, 1), 2, 592, 389, 0, 390, 143)]
def dm_ml_3 : List (Nat × (Nat × Nat × Nat × Nat) × Nat × Nat × Nat × Nat × Nat × Nat) := [(3, (3000, 0, 0, 99), 2, 647, 0, 0, 0, 0), (57, (62, 2, 1, 8), 0, 1187, 1170, 1171, 1172, 137), (61, (3001, 0, 0, 99), 1, 1188, 0, 0, 0, 0), (70, (17, 4, 0, 3), 0, 1189, 1191, 49, 1192, 152)]
def dm_ml_4 : List (Nat × (Nat × Nat × Nat × Nat) × Nat × Nat × Nat × Nat × Nat × Nat) := [(3, (3000, 0, 0, 99), 2, 616, 0, 0, 0, 0), (59, (59, 4, 1, 8), 0, 1119, 1000, 1001, 1002, 137), (63, (60, 3, 1, 8), 0, 1120, 1107, 1108, 1109, 137), (67, (21, 4, 1, 4), 0, 1121, 1123, 43, 1124, 151), (79, (65, 2, 0, 10), 0, 1125, 952, 953, 954, 141), (83, (66, 4, 0, 10), 0, 1126, 851, 852, 853, 141), (71, (22, 4, 1, 4), 0, 1127, 1129, 44, 1130, 151), (87, (23, 3, 1, 4), 0, 1131, 1133, 45, 1134, 151), (11, (64, 1, 0, 10), 2, 618, 241, 0, 242, 141)]
def dm_ml_5 : List (Nat × (Nat × Nat × Nat × Nat) × Nat × Nat × Nat × Nat × Nat × Nat) := [(3, (3000, 0, 0, 99), 2, 179, 0, 0, 0, 0), (63, (25, 1, 0, 6), 2, 191, 192, 0, 193, 139), (64, (0, 1, 0, 0), 2, 211, 212, 0, 213, 140), (65, (64, 1, 0, 10), 2, 240, 241, 0, 242, 141), (66, (63, 1, 0, 9), 2, 263, 264, 0, 265, 142)]
def dm_ml_6 : List (Nat × (Nat × Nat × Nat × Nat) × Nat × Nat × Nat × Nat × Nat × Nat) := [(1, (3000, 0, 0, 99), 2, 194, 0, 0, 0, 0)]
def dm_ml_7 : List (Nat × (Nat × Nat × Nat × Nat) × Nat × Nat × Nat × Nat × Nat × Nat) := [(3, (3000, 0, 0, 99), 2, 452, 0, 0, 0, 0), (31, (24, 1, 0, 5), 2, 486, 177, 0, 178, 138), (37, (28, 1, 3, 99), 1, 488, 489, 0, 490, 144), (59, (3003, 0, 0, 99), 0, 491, 0, 0, 0, 0), (67, (3004, 0, 0, 99), 0, 502, 0, 0, 0, 0), (87, (70, 3, 0, 11), 0, 747, 748, 749, 750, 145), (91, (37, 1, 1, 7), 0, 770, 772, 4, 773, 144), (94, (32, 2, 1, 7), 0, 774, 776, 5, 777, 144), (111, (30, 2, 1, 7), 0, 778, 780, 6, 781, 144), (115, (31, 3, 1, 7), 0, 782, 784, 7, 785, 144), (98, (71, 1, 0, 11), 0, 786, 758, 759, 760, 145), (101, (34, 2, 1, 7), 0, 787, 789, 8, 790, 144), (119, (40, 1, 1, 7), 0, 791, 793, 9, 794, 144), (180, (35, 2, 1, 7), 0, 796, 798, 10, 799, 144), (161, (74, 2, 1, 11), 0, 800, 801, 802, 803, 145), (183, (36, 3, 1, 7), 0, 806, 808, 11, 809, 144), (122, (41, 2, 1, 7), 0, 813, 815, 12, 816, 144), (200, (38, 2, 1, 7), 0, 817, 819, 13, 820, 144), (125, (43, 2, 1, 7), 0, 821, 823, 14, 824, 144), (227, (42, 2, 1, 7), 0, 825, 827, 15, 828, 144), (206, (39, 2, 1, 7), 0, 829, 831, 16, 832, 144), (132, (44, 2, 1, 7), 0, 836, 838, 17, 839, 144), (240, (45, 2, 1, 7), 0, 840, 842, 18, 843, 144), (140, (46, 2, 1, 7), 0, 846, 848, 19, 849, 144), (263, (66, 4, 0, 10), 0, 850, 851, 852, 853, 141), (148, (47, 2, 1, 7), 0, 854, 856, 20, 857, 144), (267, (48, 1, 1, 7), 0, 858, 860, 21, 861, 144), (152, (49, 2, 1, 7), 0, 868, 870, 22, 871, 144), (155, (50, 2, 1, 7), 0, 874, 876, 23, 877, 144), (158, (51, 1, 1, 7), 0, 879, 881, 24, 882, 144), (107, (33, 1, 1, 7), 0, 883, 885, 25, 886, 144), (11, (69, 1, 0, 11), 2, 455, 456, 0, 457, 145)]
def dm_ml_8 : List (Nat × (Nat × Nat × Nat × Nat) × Nat × Nat × Nat × Nat × Nat × Nat) := [(3, (3000, 0, 0, 99), 2, 173, 0, 0, 0, 0), (11, (24, 1, 0, 5), 2, 176, 177, 0, 178, 138), (85, (65, 2, 0, 10), 0, 951, 952, 953, 954, 141), (89, (55, 2, 0, 8), 0, 955, 957, 30, 958, 137), (43, (54, 3, 1, 8), 0, 959, 961, 31, 962, 137), (67, (67, 2, 0, 10), 0, 963, 964, 965, 966, 141), (75, (66, 4, 0, 10), 0, 967, 851, 852, 853, 141), (79, (68, 2, 0, 10), 0, 968, 969, 970, 971, 141), (97, (3002, 0, 0, 99), 1, 972, 0, 0, 0, 0), (117, (26, 2, 1, 6), 0, 973, 974, 975, 976, 139), (123, (1, 3, 0, 0), 0, 977, 978, 979, 980, 140), (127, (57, 1, 0, 8), 0, 983, 985, 32, 986, 137), (143, (56, 5, 0, 8), 0, 1003, 948, 949, 950, 137), (147, (53, 3, 1, 8), 0, 1110, 1009, 1010, 1011, 137), (178, (61, 3, 1, 8), 0, 1173, 1174, 1175, 1176, 137), (151, (5, 2, 1, 1), 0, 1177, 924, 925, 926, 143), (165, (59, 4, 1, 8), 0, 1178, 1000, 1001, 1002, 137), (20, (2, 1, 0, 1), 2, 388, 389, 0, 390, 143), (27, (64, 1, 0, 10), 2, 418, 241, 0, 242, 141)]
def dm_ml_9 : List (Nat × (Nat × Nat × Nat × Nat) × Nat × Nat × Nat × Nat × Nat × Nat) := [(1, (3000, 0, 0, 99), 2, 266, 0, 0, 0, 0)]
def dm_ml_10 : List (Nat × (Nat × Nat × Nat × Nat) × Nat × Nat × Nat × Nat × Nat × Nat) := [(3, (3000, 0, 0, 99), 2, 243, 0, 0, 0, 0)]
def dm_ml_11 : List (Nat × (Nat × Nat × Nat × Nat) × Nat × Nat × Nat × Nat × Nat × Nat) := [(1, (3000, 0, 0, 99), 2, 458, 0, 0, 0, 0), (13, (3002, 0, 0, 99), 1, 751, 0, 0, 0, 0), (19, (3001, 0, 0, 99), 1, 754, 0, 0, 0, 0), (29, (71, 1, 0, 11), 0, 757, 758, 759, 760, 145), (38, (72, 1, 0, 11), 0, 761, 763, 2, 764, 145), (41, (73, 1, 0, 11), 0, 766, 768, 3, 769, 145), (53, (3003, 0, 0, 99), 0, 804, 0, 0, 0, 0), (58, (3004, 0, 0, 99), 0, 805, 0, 0, 0, 0)]
def dm_ml_12 : List (Nat × (Nat × Nat × Nat × Nat) × Nat × Nat × Nat × Nat × Nat × Nat) := [(3, (3000, 0, 0, 99), 2, 165, 0, 0, 0, 0), (32, (27, 1, 0, 7), 2, 449, 450, 0, 451, 144), (39, (8, 1, 0, 2), 2, 586, 587, 0, 588, 150), (72, (77, 2, 0, 12), 0, 730, 732, 0, 733, 136), (76, (81, 2, 1, 12), 0, 738, 740, 1, 741, 136), (80, (29, 3, 0, 7), 0, 742, 743, 744, 745, 144), (97, (3, 1, 0, 1), 0, 887, 888, 889, 890, 143), (102, (9, 1, 0, 2), 0, 891, 892, 893, 894, 150), (105, (19, 1, 0, 4), 0, 895, 896, 897, 898, 151), (108, (15, 1, 0, 3), 0, 899, 900, 901, 902, 152), (114, (83, 2, 1, 12), 0, 903, 905, 26, 906, 136), (120, (85, 3, 1, 12), 0, 919, 921, 27, 922, 136), (142, (5, 2, 1, 1), 0, 923, 924, 925, 926, 143), (162, (94, 4, 1, 12), 0, 939, 941, 28, 942, 136), (180, (86, 2, 1, 12), 0, 943, 945, 29, 946, 136), (166, (56, 5, 0, 8), 0, 947, 948, 949, 950, 137), (176, (59, 4, 1, 8), 0, 999, 1000, 1001, 1002, 137), (183, (53, 3, 1, 8), 0, 1008, 1009, 1010, 1011, 137), (187, (98, 3, 1, 12), 0, 1016, 1018, 33, 1019, 136), (191, (102, 3, 1, 12), 0, 1032, 1034, 34, 1035, 136), (194, (58, 4, 1, 8), 0, 1036, 1037, 1038, 1039, 137), (197, (103, 4, 1, 12), 0, 1040, 1042, 35, 1043, 136), (201, (3001, 0, 0, 99), 1, 1052, 0, 0, 0, 0), (207, (108, 1, 1, 12), 0, 1057, 1059, 36, 1060, 136), (214, (82, 2, 1, 12), 0, 1061, 1063, 37, 1064, 136), (211, (109, 2, 1, 12), 0, 1065, 1067, 38, 1068, 136), (223, (112, 2, 1, 12), 0, 1081, 1083, 39, 1084, 136), (230, (113, 3, 0, 12), 0, 1085, 1087, 40, 1088, 136), (237, (114, 4, 0, 12), 0, 1089, 1091, 41, 1092, 136), (234, (115, 2, 1, 12), 0, 1093, 1095, 42, 1096, 136), (242, (60, 3, 1, 8), 0, 1106, 1107, 1108, 1109, 137), (245, (20, 3, 0, 4), 0, 1115, 1116, 1117, 1118, 151), (257, (121, 1, 0, 12), 0, 1143, 1145, 46, 1146, 136), (260, (281, 1, 1, 99), 1, 1147, 1148, 0, 1149, 155), (265, (122, 2, 1, 12), 0, 1153, 1155, 47, 1156, 136), (268, (123, 4, 1, 12), 0, 1157, 1159, 48, 1160, 136), (271, (62, 2, 1, 8), 0, 1169, 1170, 1171, 1172, 137), (274, (16, 2, 0, 3), 0, 1183, 1184, 1185, 1186, 152), (283, (129, 3, 1, 12), 0, 1201, 1203, 50, 1204, 136), (286, (130, 2, 2, 12), 0, 1205, 1207, 51, 1208, 136), (289, (133, 2, 1, 12), 0, 1209, 1211, 52, 1212, 136), (292, (132, 2, 1, 12), 0, 1213, 1215, 53, 1216, 136), (295, (131, 3, 1, 12), 0, 1217, 1219, 54, 1220, 136), (299, (135, 1, 1, 99), 1, 1230, 1231, 0, 1232, 136), (305, (6, 2, 1, 1), 0, 1241, 1242, 1243, 1244, 143), (315, (7, 2, 1, 1), 0, 1249, 1250, 1251, 1252, 143), (318, (61, 3, 1, 8), 0, 1253, 1174, 1175, 1176, 137), (321, (10, 2, 0, 2), 0, 1254, 1255, 1256, 1257, 150), (325, (84, 1, 1, 12), 0, 1263, 1265, 55, 1266, 136), (334, (11, 2, 1, 2), 0, 1283, 1284, 1285, 1286, 150), (338, (12, 2, 1, 2), 0, 1291, 1292, 1293, 1294, 150), (342, (13, 3, 1, 2), 0, 1299, 1300, 1301, 1302, 150), (15, (52, 1, 0, 8), 2, 170, 171, 0, 172, 137), (46, (18, 1, 0, 4), 2, 613, 614, 0, 615, 151), (53, (14, 1, 0, 3), 2, 644, 645, 0, 646, 152)]
def dm_ml_13 : List (Nat × (Nat × Nat × Nat × Nat) × Nat × Nat × Nat × Nat × Nat × Nat) := [(1, (3000, 0, 0, 99), 2, 1389, 0, 0, 0, 0), (175, (150, 1, 0, 13), 0, 1514, 1516, 57, 1517, 153), (157, (153, 3, 1, 99), 1, 1518, 1519, 0, 1520, 153), (178, (151, 2, 1, 13), 0, 1521, 1523, 58, 1524, 153), (121, (160, 1, 0, 13), 0, 1525, 1527, 59, 1528, 153), (77, (157, 2, 1, 13), 0, 1529, 1531, 60, 1532, 153), (93, (158, 1, 1, 99), 1, 1533, 1534, 0, 1535, 153), (97, (159, 1, 1, 99), 1, 1536, 1537, 0, 1538, 153), (181, (177, 1, 0, 13), 0, 1539, 1541, 61, 1542, 153), (117, (162, 2, 1, 13), 0, 1544, 1546, 62, 1547, 153), (107, (3003, 0, 0, 99), 0, 1548, 0, 0, 0, 0), (113, (3004, 0, 0, 99), 0, 1549, 0, 0, 0, 0), (197, (178, 1, 0, 13), 0, 1550, 1552, 63, 1553, 153), (127, (161, 3, 0, 13), 0, 1554, 1556, 64, 1557, 153), (230, (173, 4, 1, 13), 0, 1559, 1561, 65, 1562, 153), (168, (164, 2, 0, 13), 0, 1563, 1565, 66, 1566, 153), (124, (163, 2, 1, 13), 0, 1567, 1569, 67, 1570, 153), (172, (172, 3, 1, 13), 0, 1571, 1573, 68, 1574, 153), (200, (176, 3, 1, 13), 0, 1579, 1581, 69, 1582, 153), (204, (179, 1, 0, 13), 0, 1583, 1585, 70, 1586, 153), (240, (167, 2, 0, 13), 0, 1587, 1589, 71, 1590, 153), (151, (165, 1, 0, 13), 0, 1591, 1593, 72, 1594, 153), (154, (166, 1, 1, 13), 0, 1603, 1605, 73, 1606, 153), (207, (181, 1, 0, 13), 0, 1607, 1609, 74, 1610, 153), (248, (170, 1, 1, 13), 0, 1611, 1613, 75, 1614, 153), (165, (169, 3, 1, 13), 0, 1615, 1617, 76, 1618, 153), (161, (168, 3, 1, 13), 0, 1619, 1621, 77, 1622, 153), (251, (180, 1, 1, 13), 0, 1623, 1625, 78, 1626, 153), (210, (182, 1, 0, 13), 0, 1630, 1632, 79, 1633, 153), (260, (174, 1, 1, 13), 0, 1636, 1638, 80, 1639, 153), (213, (183, 1, 0, 13), 0, 1640, 1642, 81, 1643, 153), (216, (184, 1, 0, 13), 0, 1644, 1646, 82, 1647, 153), (274, (171, 1, 1, 13), 0, 1653, 1655, 83, 1656, 153), (219, (185, 1, 0, 13), 0, 1658, 1660, 84, 1661, 153), (222, (186, 1, 0, 13), 0, 1664, 1666, 85, 1667, 153), (225, (187, 1, 0, 13), 0, 1669, 1671, 86, 1672, 153), (184, (155, 5, 0, 99), 1, 1673, 1674, 0, 1675, 153), (285, (191, 2, 1, 13), 0, 1688, 1690, 87, 1691, 153), (288, (197, 2, 1, 13), 0, 1692, 1694, 88, 1695, 153), (291, (196, 3, 1, 13), 0, 1696, 1698, 89, 1699, 153), (294, (190, 2, 1, 13), 0, 1704, 1706, 90, 1707, 153), (297, (198, 2, 1, 13), 0, 1708, 1710, 91, 1711, 153), (300, (193, 2, 1, 13), 0, 1716, 1718, 92, 1719, 153), (333, (192, 2, 1, 13), 0, 1724, 1726, 93, 1727, 153), (336, (194, 2, 1, 13), 0, 1728, 1730, 94, 1731, 153), (339, (210, 4, 1, 13), 0, 1732, 1734, 95, 1735, 153), (321, (202, 2, 0, 13), 0, 1736, 1738, 96, 1739, 153), (324, (205, 2, 0, 13), 0, 1740, 1742, 97, 1743, 153), (306, (203, 2, 1, 13), 0, 1744, 1746, 98, 1747, 153), (309, (204, 3, 0, 13), 0, 1748, 1750, 99, 1751, 153), (318, (206, 2, 0, 13), 0, 1752, 1754, 100, 1755, 153), (315, (207, 4, 1, 13), 0, 1756, 1758, 101, 1759, 153), (330, (211, 1, 1, 13), 0, 1760, 1762, 102, 1763, 153), (343, (209, 4, 1, 13), 0, 1776, 1778, 103, 1779, 153), (327, (208, 1, 1, 13), 0, 1780, 1782, 104, 1783, 153), (346, (212, 3, 1, 13), 0, 1788, 1790, 105, 1791, 153), (350, (221, 4, 1, 13), 0, 1808, 1810, 106, 1811, 153), (359, (227, 1, 1, 13), 0, 1824, 1826, 107, 1827, 153), (362, (228, 2, 1, 13), 0, 1828, 1830, 108, 1831, 153), (353, (225, 1, 1, 13), 0, 1832, 1834, 109, 1835, 153), (356, (226, 1, 1, 13), 0, 1836, 1838, 110, 1839, 153), (372, (232, 2, 1, 13), 0, 1852, 1854, 111, 1855, 153), (369, (233, 4, 1, 13), 0, 1857, 1859, 112, 1860, 153), (381, (238, 2, 0, 13), 0, 1869, 1871, 113, 1872, 153), (384, (237, 2, 1, 13), 0, 1873, 1875, 114, 1876, 153), (378, (236, 1, 0, 13), 0, 1877, 1879, 115, 1880, 153), (396, (243, 2, 1, 13), 0, 1885, 1887, 116, 1888, 153), (390, (242, 3, 1, 13), 0, 1889, 1891, 117, 1892, 153), (387, (239, 3, 0, 13), 0, 1893, 1895, 118, 1896, 153), (393, (240, 2, 0, 13), 0, 1897, 1899, 119, 1900, 153), (399, (246, 1, 0, 13), 0, 1909, 1911, 120, 1912, 153), (402, (154, 1, 1, 99), 1, 1913, 1914, 0, 1915, 153), (405, (247, 3, 1, 13), 0, 1916, 1918, 121, 1919, 153), (414, (195, 2, 1, 13), 0, 1928, 1930, 122, 1931, 153), (417, (252, 2, 1, 13), 0, 1932, 1934, 123, 1935, 153), (411, (251, 3, 1, 13), 0, 1936, 1938, 124, 1939, 153), (408, (250, 2, 1, 13), 0, 1940, 1942, 125, 1943, 153), (429, (256, 1, 0, 13), 0, 1948, 1950, 126, 1951, 153), (426, (255, 3, 0, 13), 0, 1952, 1954, 127, 1955, 153), (423, (254, 3, 1, 13), 0, 1956, 1958, 128, 1959, 153), (443, (261, 3, 1, 13), 0, 1968, 1970, 129, 1971, 153), (439, (260, 5, 1, 13), 0, 1972, 1974, 130, 1975, 153), (432, (259, 5, 1, 13), 0, 1976, 1978, 131, 1979, 153), (448, (266, 2, 1, 13), 0, 1998, 2000, 132, 2001, 153), (451, (152, 2, 1, 13), 0, 2006, 2008, 133, 2009, 153), (454, (268, 1, 0, 13), 0, 2010, 2012, 134, 2013, 153)]
def dm_ml_14 : List (Nat × (Nat × Nat × Nat × Nat) × Nat × Nat × Nat × Nat × Nat × Nat) := [(15, (75, 1, 0, 12), 2, 162, 163, 0, 164, 136), (19, (76, 6, 1, 12), 0, 726, 727, 728, 729, 136), (24, (78, 2, 1, 12), 0, 734, 735, 736, 737, 136), (28, (79, 1, 1, 12), 0, 907, 908, 909, 910, 136), (33, (80, 1, 1, 12), 0, 911, 912, 913, 914, 136), (37, (87, 3, 1, 12), 0, 915, 916, 917, 918, 136), (42, (88, 3, 1, 12), 0, 927, 928, 929, 930, 136), (46, (89, 3, 1, 12), 0, 931, 932, 933, 934, 136), (50, (90, 5, 1, 12), 0, 935, 936, 937, 938, 136), (55, (91, 5, 1, 12), 0, 987, 988, 989, 990, 136), (59, (92, 4, 1, 12), 0, 991, 992, 993, 994, 136), (64, (93, 4, 1, 12), 0, 995, 996, 997, 998, 136), (68, (95, 2, 1, 12), 0, 1004, 1005, 1006, 1007, 136), (72, (96, 2, 1, 12), 0, 1012, 1013, 1014, 1015, 136), (76, (97, 2, 1, 12), 0, 1020, 1021, 1022, 1023, 136), (80, (99, 3, 1, 12), 0, 1024, 1025, 1026, 1027, 136), (85, (100, 2, 1, 12), 0, 1028, 1029, 1030, 1031, 136), (89, (101, 3, 1, 12), 0, 1044, 1045, 1046, 1047, 136), (93, (104, 2, 1, 12), 0, 1048, 1049, 1050, 1051, 136), (97, (105, 1, 1, 12), 0, 1053, 1054, 1055, 1056, 136), (101, (106, 1, 1, 12), 0, 1069, 1070, 1071, 1072, 136), (105, (107, 1, 1, 12), 0, 1073, 1074, 1075, 1076, 136), (109, (110, 2, 1, 12), 0, 1077, 1078, 1079, 1080, 136), (113, (111, 2, 1, 12), 0, 1097, 1098, 1099, 1100, 136), (117, (116, 2, 1, 12), 0, 1101, 1102, 1103, 1104, 136), (121, (117, 2, 1, 12), 0, 1111, 1112, 1113, 1114, 136), (125, (118, 3, 1, 12), 0, 1135, 1136, 1137, 1138, 136), (129, (119, 1, 1, 12), 0, 1139, 1140, 1141, 1142, 136), (133, (120, 1, 1, 12), 0, 1161, 1162, 1163, 1164, 136), (137, (124, 2, 1, 12), 0, 1165, 1166, 1167, 1168, 136), (141, (125, 1, 1, 12), 0, 1179, 1180, 1181, 1182, 136), (145, (126, 2, 1, 12), 0, 1193, 1194, 1195, 1196, 136), (149, (127, 3, 1, 12), 0, 1197, 1198, 1199, 1200, 136), (153, (128, 3, 1, 12), 0, 1221, 1222, 1223, 1224, 136), (157, (134, 3, 1, 12), 0, 1225, 1226, 1227, 1228, 136), (161, (136, 2, 1, 12), 0, 1233, 1234, 1235, 1236, 136), (165, (137, 1, 1, 12), 0, 1237, 1238, 1239, 1240, 136), (169, (138, 3, 1, 12), 0, 1245, 1246, 1247, 1248, 136), (174, (139, 3, 1, 12), 0, 1267, 1268, 1269, 1270, 136), (178, (140, 2, 1, 12), 0, 1271, 1272, 1273, 1274, 136), (183, (141, 1, 1, 12), 0, 1275, 1276, 1277, 1278, 136), (187, (142, 1, 1, 12), 0, 1279, 1280, 1281, 1282, 136), (192, (143, 1, 1, 12), 0, 1287, 1288, 1289, 1290, 136), (196, (144, 2, 1, 12), 0, 1295, 1296, 1297, 1298, 136), (209, (146, 2, 1, 12), 0, 1303, 1304, 1305, 1306, 136), (213, (147, 1, 1, 12), 0, 1307, 1308, 1309, 1310, 136), (7, (145, 2, 1, 12), 0, 1315, 1316, 1317, 1318, 136), (18, (148, 1, 0, 13), 2, 1386, 1387, 0, 1388, 153), (206, (149, 1, 1, 13), 0, 1502, 1503, 1504, 1505, 153), (23, (156, 6, 1, 13), 0, 1506, 1507, 1508, 1509, 153), (27, (175, 2, 1, 13), 0, 1510, 1511, 1512, 1513, 153), (32, (188, 1, 1, 13), 0, 1676, 1677, 1678, 1679, 153), (36, (189, 1, 1, 13), 0, 1680, 1681, 1682, 1683, 153), (41, (199, 3, 1, 13), 0, 1684, 1685, 1686, 1687, 153), (45, (200, 3, 1, 13), 0, 1700, 1701, 1702, 1703, 153), (49, (201, 3, 1, 13), 0, 1712, 1713, 1714, 1715, 153), (54, (213, 5, 1, 13), 0, 1720, 1721, 1722, 1723, 153), (58, (214, 5, 1, 13), 0, 1764, 1765, 1766, 1767, 153), (63, (215, 4, 1, 13), 0, 1768, 1769, 1770, 1771, 153), (67, (216, 4, 1, 13), 0, 1772, 1773, 1774, 1775, 153), (71, (217, 2, 1, 13), 0, 1784, 1785, 1786, 1787, 153), (75, (218, 2, 1, 13), 0, 1792, 1793, 1794, 1795, 153), (79, (219, 2, 1, 13), 0, 1796, 1797, 1798, 1799, 153), (84, (220, 3, 1, 13), 0, 1800, 1801, 1802, 1803, 153), (88, (222, 2, 1, 13), 0, 1804, 1805, 1806, 1807, 153), (92, (223, 3, 1, 13), 0, 1812, 1813, 1814, 1815, 153), (96, (224, 2, 1, 13), 0, 1816, 1817, 1818, 1819, 153), (100, (229, 1, 1, 13), 0, 1820, 1821, 1822, 1823, 153), (104, (230, 1, 1, 13), 0, 1840, 1841, 1842, 1843, 153), (108, (231, 1, 1, 13), 0, 1844, 1845, 1846, 1847, 153), (112, (234, 2, 1, 13), 0, 1848, 1849, 1850, 1851, 153), (116, (235, 2, 1, 13), 0, 1861, 1862, 1863, 1864, 153), (120, (241, 2, 1, 13), 0, 1865, 1866, 1867, 1868, 153), (124, (244, 2, 1, 13), 0, 1881, 1882, 1883, 1884, 153), (128, (245, 3, 1, 13), 0, 1901, 1902, 1903, 1904, 153), (132, (248, 1, 1, 13), 0, 1905, 1906, 1907, 1908, 153), (136, (249, 1, 1, 13), 0, 1920, 1921, 1922, 1923, 153), (140, (253, 2, 1, 13), 0, 1924, 1925, 1926, 1927, 153), (144, (257, 1, 1, 13), 0, 1944, 1945, 1946, 1947, 153), (148, (258, 2, 1, 13), 0, 1960, 1961, 1962, 1963, 153), (152, (262, 3, 1, 13), 0, 1964, 1965, 1966, 1967, 153), (156, (263, 3, 1, 13), 0, 1980, 1981, 1982, 1983, 153), (160, (264, 3, 1, 13), 0, 1984, 1985, 1986, 1987, 153), (164, (265, 2, 1, 13), 0, 1990, 1991, 1992, 1993, 153), (168, (267, 1, 1, 13), 0, 1994, 1995, 1996, 1997, 153), (173, (269, 3, 1, 13), 0, 2002, 2003, 2004, 2005, 153), (177, (270, 3, 1, 13), 0, 2014, 2015, 2016, 2017, 153), (182, (271, 2, 1, 13), 0, 2018, 2019, 2020, 2021, 153), (186, (272, 1, 1, 13), 0, 2022, 2023, 2024, 2025, 153), (191, (273, 1, 1, 13), 0, 2026, 2027, 2028, 2029, 153), (195, (274, 1, 1, 13), 0, 2030, 2031, 2032, 2033, 153), (199, (275, 2, 1, 13), 0, 2034, 2035, 2036, 2037, 153), (205, (276, 2, 1, 13), 0, 2038, 2039, 2040, 2041, 153), (212, (277, 2, 1, 13), 0, 2042, 2043, 2044, 2045, 153), (216, (278, 1, 1, 13), 0, 2046, 2047, 2048, 2049, 153)]
def dm_ml (c : Nat) : List (Nat × (Nat × Nat × Nat × Nat) × Nat × Nat × Nat × Nat × Nat × Nat) := match c with
  | 0 => dm_ml_0
  | 1 => dm_ml_1
  | 2 => dm_ml_2
  | 3 => dm_ml_3
  | 4 => dm_ml_4
  | 5 => dm_ml_5
  | 6 => dm_ml_6
  | 7 => dm_ml_7
  | 8 => dm_ml_8
  | 9 => dm_ml_9
  | 10 => dm_ml_10
  | 11 => dm_ml_11
  | 12 => dm_ml_12
  | 13 => dm_ml_13
  | 14 => dm_ml_14
  | _ => []
def dm_kl_0 : List (Nat × Nat × Nat) := [(18, 6, 215)]
def dm_kl_2 : List (Nat × Nat × Nat) := [(9, 1, 590)]
def dm_kl_4 : List (Nat × Nat × Nat) := [(9, 10, 617)]
def dm_kl_5 : List (Nat × Nat × Nat) := [(21, 6, 182), (30, 0, 184), (36, 10, 186), (42, 9, 188)]
def dm_kl_7 : List (Nat × Nat × Nat) := [(9, 11, 453), (29, 5, 485)]
def dm_kl_8 : List (Nat × Nat × Nat) := [(9, 5, 174), (18, 1, 386), (25, 10, 417)]
def dm_kl_12 : List (Nat × Nat × Nat) := [(13, 8, 168), (30, 7, 447), (37, 2, 584), (44, 4, 611), (51, 3, 642)]
def dm_kl_14 : List (Nat × Nat × Nat) := [(8, 12, 160), (16, 13, 1384)]
def dm_kl (c : Nat) : List (Nat × Nat × Nat) := match c with
  | 0 => dm_kl_0
  | 2 => dm_kl_2
  | 4 => dm_kl_4
  | 5 => dm_kl_5
  | 7 => dm_kl_7
  | 8 => dm_kl_8
  | 12 => dm_kl_12
  | 14 => dm_kl_14
  | _ => []
def dm_cl_7 : List (Nat × dm_V × Nat) := [(65, vl (32), 501), (36, vr 90 0, 487), (41, vr 90 1, 540), (43, vr 90 2, 541), (45, vr 90 3, 542), (47, vr 90 4, 543), (49, vr 90 5, 544), (51, vr 90 6, 545), (53, vr 90 7, 546), (55, vr 90 8, 547), (57, vr 90 9, 548), (178, vr 90 10, 795), (188, vr 90 11, 810), (192, vr 90 12, 811), (196, vr 90 13, 812), (213, vr 90 14, 833), (218, vr 90 15, 834), (231, vr 90 16, 835), (250, vr 90 17, 844), (252, vr 90 18, 845), (283, vr 90 19, 862), (285, vr 90 20, 863), (287, vr 90 21, 864), (289, vr 90 22, 865), (291, vr 90 23, 866), (279, vr 90 24, 867), (293, vr 90 25, 872), (295, vr 90 26, 873), (308, vr 90 27, 878)]
def dm_cl_11 : List (Nat × dm_V × Nat) := [(48, vl (32), 765)]
def dm_cl_12 : List (Nat × dm_V × Nat) := [(241, vi (1000000), 1105), (298, vi (65537), 1229), (348, vr 90 28, 1358)]
def dm_cl_13 : List (Nat × dm_V × Nat) := [(365, vi (1000000), 1856), (446, vi (65536), 1988), (447, vi (65537), 1989), (131, vr 90 0, 1543), (228, vr 90 10, 1558), (234, vr 90 11, 1575), (236, vr 90 12, 1576), (238, vr 90 13, 1577), (133, vr 90 1, 1578), (135, vr 90 2, 1595), (137, vr 90 3, 1596), (139, vr 90 4, 1597), (141, vr 90 5, 1598), (143, vr 90 6, 1599), (145, vr 90 7, 1600), (147, vr 90 8, 1601), (149, vr 90 9, 1602), (244, vr 90 15, 1627), (246, vr 90 14, 1628), (254, vr 90 16, 1629), (256, vr 90 17, 1634), (258, vr 90 18, 1635), (264, vr 90 19, 1648), (266, vr 90 20, 1649), (268, vr 90 21, 1650), (270, vr 90 22, 1651), (272, vr 90 23, 1652), (277, vr 90 24, 1657), (279, vr 90 25, 1662), (281, vr 90 26, 1663), (283, vr 90 27, 1668)]
def dm_cl_15 : List (Nat × dm_V × Nat) := [(265, vi (1431655765), 1150), (266, vi (858993459), 1151), (267, vi (252645135), 1152)]
def dm_cl (c : Nat) : List (Nat × dm_V × Nat) := match c with
  | 7 => dm_cl_7
  | 11 => dm_cl_11
  | 12 => dm_cl_12
  | 13 => dm_cl_13
  | 15 => dm_cl_15
  | _ => []
def dm_sl_1 : List (Nat × Nat × Bool) := [(9, 392, true)]
def dm_sl_3 : List (Nat × Nat × Bool) := [(15, 648, true)]
def dm_sl_4 : List (Nat × Nat × Bool) := [(21, 619, true)]
def dm_sl_5 : List (Nat × Nat × Bool) := [(9, 180, true)]
def dm_sl_7 : List (Nat × Nat × Bool) := [(71, 746, true)]
def dm_sl_8 : List (Nat × Nat × Bool) := [(32, 419, true)]
def dm_sl_12 : List (Nat × Nat × Bool) := [(58, 676, false)]
def dm_sl (c : Nat) : List (Nat × Nat × Bool) := match c with
  | 1 => dm_sl_1
  | 3 => dm_sl_3
  | 4 => dm_sl_4
  | 5 => dm_sl_5
  | 7 => dm_sl_7
  | 8 => dm_sl_8
  | 12 => dm_sl_12
  | _ => []
def dm_strl : List (List Int32) := [[109, 117, 115, 101, 117, 109], [116, 104, 105, 110, 103], [104, 97, 114, 109], [100, 101, 101, 100], [112, 108, 97, 110], [115, 108, 105, 112], [112, 101, 114, 115, 111, 110], [97, 115, 107, 115], [101, 110, 100, 115], [105, 102], [119, 101, 101, 107, 115], [98, 114, 101, 97, 107, 115], [102, 105, 110, 101], [103, 114, 111, 119, 110], [111, 118, 101, 114], [117, 110, 100, 101, 114], [99, 111, 115, 116, 115], [97, 100, 100, 115], [116, 97, 107, 101, 115], [108, 101, 102, 116], [116, 119, 105, 99, 101], [116, 117, 114, 110, 101, 100], [101, 97, 114, 108, 121], [102, 111, 114], [111, 102, 116, 101, 110], [99, 104, 105, 108, 100], [100, 111, 110, 111, 114], [112, 97, 121, 115], [110, 111, 32, 115, 117, 99, 104, 32, 115, 108, 105, 112, 32, 105, 115, 32, 111, 117, 116]]
def dm_txt : List String := ["museum", "thing", "harm", "deed", "plan", "slip", "person", "asks", "ends", "if", "weeks", "breaks", "fine", "grown", "over", "under", "costs", "adds", "takes", "left", "twice", "turned", "early", "for", "often", "child", "donor", "pays", "no such slip is out"]
/-- the pools -/
def dmE : dm_E := (fun c k => (dm_lk (dm_fl c) k).map (fun q => (q.1, q.2.1)), fun c k => (dm_lk (dm_ml c) k).map (fun q => q.1), fun c k => (dm_lk (dm_kl c) k).map (fun q => q.1), fun c k => (dm_lk (dm_cl c) k).map (fun q => q.1), fun c k => (dm_lk (dm_sl c) k).map (fun _ => vr 92 0), fun j => (dm_strl.getD j []).length, fun j k => (dm_strl.getD j []).getD k 0)
end
