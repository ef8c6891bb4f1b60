section
-- ===== PART A: goes FIRST, ahead of the names: the tables' words, and 'selects' of the private methods out of them =====
/-- a private method of a class that the tables say can be made, by its rows of tables_1 -/
def lw_okq (q : MethodName × Nat) : Prop := (q.1.cls ≠ "java/lang/invoke/MethodHandle" ∧ q.1.cls ≠ "java/lang/invoke/VarHandle") ∧ Cond.instantiable q.1.cls q.2 ∈ tables_1 ∧ Cond.privateMethod q.1 ∈ tables_1 ∧ Cond.instanceMethod q.1 ∈ tables_1
theorem lw_p0 : lw_okq (⟨"MistakesLent", "put", "(I)V"⟩, 16) := ⟨⟨by decide +kernel, by decide +kernel⟩, List.mem_of_getElem? (i := 26) (by decide +kernel), List.mem_of_getElem? (i := 596) (by decide +kernel), List.mem_of_getElem? (i := 597) (by decide +kernel)⟩
theorem lw_p1 : lw_okq (⟨"MistakesLent", "refuse", "(I)I"⟩, 16) := ⟨⟨by decide +kernel, by decide +kernel⟩, List.mem_of_getElem? (i := 26) (by decide +kernel), List.mem_of_getElem? (i := 604) (by decide +kernel), List.mem_of_getElem? (i := 605) (by decide +kernel)⟩
theorem lw_p2 : lw_okq (⟨"MistakesLent$Tokens", "takeWord", "()V"⟩, 7) := ⟨⟨by decide +kernel, by decide +kernel⟩, List.mem_of_getElem? (i := 319) (by decide +kernel), List.mem_of_getElem? (i := 627) (by decide +kernel), List.mem_of_getElem? (i := 628) (by decide +kernel)⟩
theorem lw_p3 : lw_okq (⟨"MistakesLent$Tokens", "takeWhole", "()V"⟩, 7) := ⟨⟨by decide +kernel, by decide +kernel⟩, List.mem_of_getElem? (i := 319) (by decide +kernel), List.mem_of_getElem? (i := 632) (by decide +kernel), List.mem_of_getElem? (i := 633) (by decide +kernel)⟩
theorem lw_p4 : lw_okq (⟨"MistakesLent$Reader", "findName", "()I"⟩, 10) := ⟨⟨by decide +kernel, by decide +kernel⟩, List.mem_of_getElem? (i := 313) (by decide +kernel), List.mem_of_getElem? (i := 636) (by decide +kernel), List.mem_of_getElem? (i := 637) (by decide +kernel)⟩
theorem lw_p5 : lw_okq (⟨"MistakesLent$Reader", "mayBegin", "(I)Z"⟩, 10) := ⟨⟨by decide +kernel, by decide +kernel⟩, List.mem_of_getElem? (i := 313) (by decide +kernel), List.mem_of_getElem? (i := 640) (by decide +kernel), List.mem_of_getElem? (i := 641) (by decide +kernel)⟩
theorem lw_p6 : lw_okq (⟨"MistakesLent$Reader", "fail", "(I)Z"⟩, 10) := ⟨⟨by decide +kernel, by decide +kernel⟩, List.mem_of_getElem? (i := 313) (by decide +kernel), List.mem_of_getElem? (i := 644) (by decide +kernel), List.mem_of_getElem? (i := 645) (by decide +kernel)⟩
theorem lw_p7 : lw_okq (⟨"MistakesLent$Reader", "failAt", "(II)Z"⟩, 10) := ⟨⟨by decide +kernel, by decide +kernel⟩, List.mem_of_getElem? (i := 313) (by decide +kernel), List.mem_of_getElem? (i := 648) (by decide +kernel), List.mem_of_getElem? (i := 649) (by decide +kernel)⟩
theorem lw_p8 : lw_okq (⟨"MistakesLent$Reader", "tellLine", "(I)Z"⟩, 10) := ⟨⟨by decide +kernel, by decide +kernel⟩, List.mem_of_getElem? (i := 313) (by decide +kernel), List.mem_of_getElem? (i := 653) (by decide +kernel), List.mem_of_getElem? (i := 654) (by decide +kernel)⟩
theorem lw_p9 : lw_okq (⟨"MistakesLent$Reader", "tellMuseum", "()Z"⟩, 10) := ⟨⟨by decide +kernel, by decide +kernel⟩, List.mem_of_getElem? (i := 313) (by decide +kernel), List.mem_of_getElem? (i := 657) (by decide +kernel), List.mem_of_getElem? (i := 658) (by decide +kernel)⟩
theorem lw_p10 : lw_okq (⟨"MistakesLent$Reader", "word", "(Ljava/lang/String;)Z"⟩, 10) := ⟨⟨by decide +kernel, by decide +kernel⟩, List.mem_of_getElem? (i := 313) (by decide +kernel), List.mem_of_getElem? (i := 662) (by decide +kernel), List.mem_of_getElem? (i := 663) (by decide +kernel)⟩
theorem lw_p11 : lw_okq (⟨"MistakesLent$Reader", "whole", "(II)Z"⟩, 10) := ⟨⟨by decide +kernel, by decide +kernel⟩, List.mem_of_getElem? (i := 313) (by decide +kernel), List.mem_of_getElem? (i := 672) (by decide +kernel), List.mem_of_getElem? (i := 673) (by decide +kernel)⟩
theorem lw_p12 : lw_okq (⟨"MistakesLent$Reader", "tellThing", "(I)Z"⟩, 10) := ⟨⟨by decide +kernel, by decide +kernel⟩, List.mem_of_getElem? (i := 313) (by decide +kernel), List.mem_of_getElem? (i := 679) (by decide +kernel), List.mem_of_getElem? (i := 680) (by decide +kernel)⟩
theorem lw_p13 : lw_okq (⟨"MistakesLent$Reader", "newName", "(I)Z"⟩, 10) := ⟨⟨by decide +kernel, by decide +kernel⟩, List.mem_of_getElem? (i := 313) (by decide +kernel), List.mem_of_getElem? (i := 683) (by decide +kernel), List.mem_of_getElem? (i := 684) (by decide +kernel)⟩
theorem lw_p14 : lw_okq (⟨"MistakesLent$Reader", "tellHarm", "(I)Z"⟩, 10) := ⟨⟨by decide +kernel, by decide +kernel⟩, List.mem_of_getElem? (i := 313) (by decide +kernel), List.mem_of_getElem? (i := 687) (by decide +kernel), List.mem_of_getElem? (i := 688) (by decide +kernel)⟩
theorem lw_p15 : lw_okq (⟨"MistakesLent$Reader", "tellNeed", "(LMistakesLent$Need;)Z"⟩, 10) := ⟨⟨by decide +kernel, by decide +kernel⟩, List.mem_of_getElem? (i := 313) (by decide +kernel), List.mem_of_getElem? (i := 691) (by decide +kernel), List.mem_of_getElem? (i := 692) (by decide +kernel)⟩
def lw_privs_1 : List (MethodName × Nat) := [(⟨"MistakesLent", "put", "(I)V"⟩, 16), (⟨"MistakesLent", "refuse", "(I)I"⟩, 16), (⟨"MistakesLent$Tokens", "takeWord", "()V"⟩, 7), (⟨"MistakesLent$Tokens", "takeWhole", "()V"⟩, 7), (⟨"MistakesLent$Reader", "findName", "()I"⟩, 10), (⟨"MistakesLent$Reader", "mayBegin", "(I)Z"⟩, 10), (⟨"MistakesLent$Reader", "fail", "(I)Z"⟩, 10), (⟨"MistakesLent$Reader", "failAt", "(II)Z"⟩, 10), (⟨"MistakesLent$Reader", "tellLine", "(I)Z"⟩, 10), (⟨"MistakesLent$Reader", "tellMuseum", "()Z"⟩, 10), (⟨"MistakesLent$Reader", "word", "(Ljava/lang/String;)Z"⟩, 10), (⟨"MistakesLent$Reader", "whole", "(II)Z"⟩, 10), (⟨"MistakesLent$Reader", "tellThing", "(I)Z"⟩, 10), (⟨"MistakesLent$Reader", "newName", "(I)Z"⟩, 10), (⟨"MistakesLent$Reader", "tellHarm", "(I)Z"⟩, 10), (⟨"MistakesLent$Reader", "tellNeed", "(LMistakesLent$Need;)Z"⟩, 10)]
theorem lw_r1 : ∀ q ∈ lw_privs_1, lw_okq q := List.forall_mem_cons.mpr ⟨lw_p0, List.forall_mem_cons.mpr ⟨lw_p1, List.forall_mem_cons.mpr ⟨lw_p2, List.forall_mem_cons.mpr ⟨lw_p3, List.forall_mem_cons.mpr ⟨lw_p4, List.forall_mem_cons.mpr ⟨lw_p5, List.forall_mem_cons.mpr ⟨lw_p6, List.forall_mem_cons.mpr ⟨lw_p7, List.forall_mem_cons.mpr ⟨lw_p8, List.forall_mem_cons.mpr ⟨lw_p9, List.forall_mem_cons.mpr ⟨lw_p10, List.forall_mem_cons.mpr ⟨lw_p11, List.forall_mem_cons.mpr ⟨lw_p12, List.forall_mem_cons.mpr ⟨lw_p13, List.forall_mem_cons.mpr ⟨lw_p14, List.forall_mem_cons.mpr ⟨lw_p15, fun _ h => absurd h List.not_mem_nil⟩⟩⟩⟩⟩⟩⟩⟩⟩⟩⟩⟩⟩⟩⟩⟩
theorem lw_p16 : lw_okq (⟨"MistakesLent$Reader", "usedName", "(I)Z"⟩, 10) := ⟨⟨by decide +kernel, by decide +kernel⟩, List.mem_of_getElem? (i := 313) (by decide +kernel), List.mem_of_getElem? (i := 695) (by decide +kernel), List.mem_of_getElem? (i := 696) (by decide +kernel)⟩
theorem lw_p17 : lw_okq (⟨"MistakesLent$Reader", "tellDeed", "(LMistakesLent$Deed;)Z"⟩, 10) := ⟨⟨by decide +kernel, by decide +kernel⟩, List.mem_of_getElem? (i := 313) (by decide +kernel), List.mem_of_getElem? (i := 702) (by decide +kernel), List.mem_of_getElem? (i := 703) (by decide +kernel)⟩
theorem lw_p18 : lw_okq (⟨"MistakesLent$Reader", "tellEffect", "(LMistakesLent$Deed;)Z"⟩, 10) := ⟨⟨by decide +kernel, by decide +kernel⟩, List.mem_of_getElem? (i := 313) (by decide +kernel), List.mem_of_getElem? (i := 706) (by decide +kernel), List.mem_of_getElem? (i := 707) (by decide +kernel)⟩
theorem lw_p19 : lw_okq (⟨"MistakesLent$Reader", "tellPlan", "(LMistakesLent$Steps;)Z"⟩, 10) := ⟨⟨by decide +kernel, by decide +kernel⟩, List.mem_of_getElem? (i := 313) (by decide +kernel), List.mem_of_getElem? (i := 712) (by decide +kernel), List.mem_of_getElem? (i := 713) (by decide +kernel)⟩
theorem lw_p20 : lw_okq (⟨"MistakesLent$Reader", "tellSlip", "(LMistakesLent$Slip;)Z"⟩, 10) := ⟨⟨by decide +kernel, by decide +kernel⟩, List.mem_of_getElem? (i := 313) (by decide +kernel), List.mem_of_getElem? (i := 720) (by decide +kernel), List.mem_of_getElem? (i := 721) (by decide +kernel)⟩
theorem lw_p21 : lw_okq (⟨"MistakesLent$Reader", "mistake", "()I"⟩, 10) := ⟨⟨by decide +kernel, by decide +kernel⟩, List.mem_of_getElem? (i := 313) (by decide +kernel), List.mem_of_getElem? (i := 724) (by decide +kernel), List.mem_of_getElem? (i := 725) (by decide +kernel)⟩
theorem lw_p22 : lw_okq (⟨"MistakesLent$Reader", "tellPerson", "(I)Z"⟩, 10) := ⟨⟨by decide +kernel, by decide +kernel⟩, List.mem_of_getElem? (i := 313) (by decide +kernel), List.mem_of_getElem? (i := 734) (by decide +kernel), List.mem_of_getElem? (i := 735) (by decide +kernel)⟩
theorem lw_p23 : lw_okq (⟨"MistakesLent$Reader", "tellAsk", "(I)Z"⟩, 10) := ⟨⟨by decide +kernel, by decide +kernel⟩, List.mem_of_getElem? (i := 313) (by decide +kernel), List.mem_of_getElem? (i := 740) (by decide +kernel), List.mem_of_getElem? (i := 741) (by decide +kernel)⟩
theorem lw_p24 : lw_okq (⟨"MistakesLent$Reader", "tellEnds", "()Z"⟩, 10) := ⟨⟨by decide +kernel, by decide +kernel⟩, List.mem_of_getElem? (i := 313) (by decide +kernel), List.mem_of_getElem? (i := 745) (by decide +kernel), List.mem_of_getElem? (i := 746) (by decide +kernel)⟩
theorem lw_p25 : lw_okq (⟨"MistakesLent$Reader", "checkWhole", "()Z"⟩, 10) := ⟨⟨by decide +kernel, by decide +kernel⟩, List.mem_of_getElem? (i := 313) (by decide +kernel), List.mem_of_getElem? (i := 749) (by decide +kernel), List.mem_of_getElem? (i := 750) (by decide +kernel)⟩
theorem lw_p26 : lw_okq (⟨"MistakesLent", "tell", "(I)I"⟩, 16) := ⟨⟨by decide +kernel, by decide +kernel⟩, List.mem_of_getElem? (i := 26) (by decide +kernel), List.mem_of_getElem? (i := 769) (by decide +kernel), List.mem_of_getElem? (i := 770) (by decide +kernel)⟩
theorem lw_p27 : lw_okq (⟨"MistakesLent", "has", "(II)Z"⟩, 16) := ⟨⟨by decide +kernel, by decide +kernel⟩, List.mem_of_getElem? (i := 26) (by decide +kernel), List.mem_of_getElem? (i := 785) (by decide +kernel), List.mem_of_getElem? (i := 786) (by decide +kernel)⟩
theorem lw_p28 : lw_okq (⟨"MistakesLent", "isRun", "(III)Z"⟩, 16) := ⟨⟨by decide +kernel, by decide +kernel⟩, List.mem_of_getElem? (i := 26) (by decide +kernel), List.mem_of_getElem? (i := 805) (by decide +kernel), List.mem_of_getElem? (i := 806) (by decide +kernel)⟩
theorem lw_p29 : lw_okq (⟨"MistakesLent", "isChoice", "(I)Z"⟩, 16) := ⟨⟨by decide +kernel, by decide +kernel⟩, List.mem_of_getElem? (i := 26) (by decide +kernel), List.mem_of_getElem? (i := 809) (by decide +kernel), List.mem_of_getElem? (i := 810) (by decide +kernel)⟩
theorem lw_p30 : lw_okq (⟨"MistakesLent$Runner", "make", "(I)V"⟩, 6) := ⟨⟨by decide +kernel, by decide +kernel⟩, List.mem_of_getElem? (i := 34) (by decide +kernel), List.mem_of_getElem? (i := 821) (by decide +kernel), List.mem_of_getElem? (i := 822) (by decide +kernel)⟩
theorem lw_p31 : lw_okq (⟨"MistakesLent$Runner", "stepOf", "(LMistakesLent$Steps;I)I"⟩, 6) := ⟨⟨by decide +kernel, by decide +kernel⟩, List.mem_of_getElem? (i := 34) (by decide +kernel), List.mem_of_getElem? (i := 825) (by decide +kernel), List.mem_of_getElem? (i := 826) (by decide +kernel)⟩
def lw_privs_2 : List (MethodName × Nat) := [(⟨"MistakesLent$Reader", "usedName", "(I)Z"⟩, 10), (⟨"MistakesLent$Reader", "tellDeed", "(LMistakesLent$Deed;)Z"⟩, 10), (⟨"MistakesLent$Reader", "tellEffect", "(LMistakesLent$Deed;)Z"⟩, 10), (⟨"MistakesLent$Reader", "tellPlan", "(LMistakesLent$Steps;)Z"⟩, 10), (⟨"MistakesLent$Reader", "tellSlip", "(LMistakesLent$Slip;)Z"⟩, 10), (⟨"MistakesLent$Reader", "mistake", "()I"⟩, 10), (⟨"MistakesLent$Reader", "tellPerson", "(I)Z"⟩, 10), (⟨"MistakesLent$Reader", "tellAsk", "(I)Z"⟩, 10), (⟨"MistakesLent$Reader", "tellEnds", "()Z"⟩, 10), (⟨"MistakesLent$Reader", "checkWhole", "()Z"⟩, 10), (⟨"MistakesLent", "tell", "(I)I"⟩, 16), (⟨"MistakesLent", "has", "(II)Z"⟩, 16), (⟨"MistakesLent", "isRun", "(III)Z"⟩, 16), (⟨"MistakesLent", "isChoice", "(I)Z"⟩, 16), (⟨"MistakesLent$Runner", "make", "(I)V"⟩, 6), (⟨"MistakesLent$Runner", "stepOf", "(LMistakesLent$Steps;I)I"⟩, 6)]
theorem lw_r2 : ∀ q ∈ lw_privs_2, lw_okq q := List.forall_mem_cons.mpr ⟨lw_p16, List.forall_mem_cons.mpr ⟨lw_p17, List.forall_mem_cons.mpr ⟨lw_p18, List.forall_mem_cons.mpr ⟨lw_p19, List.forall_mem_cons.mpr ⟨lw_p20, List.forall_mem_cons.mpr ⟨lw_p21, List.forall_mem_cons.mpr ⟨lw_p22, List.forall_mem_cons.mpr ⟨lw_p23, List.forall_mem_cons.mpr ⟨lw_p24, List.forall_mem_cons.mpr ⟨lw_p25, List.forall_mem_cons.mpr ⟨lw_p26, List.forall_mem_cons.mpr ⟨lw_p27, List.forall_mem_cons.mpr ⟨lw_p28, List.forall_mem_cons.mpr ⟨lw_p29, List.forall_mem_cons.mpr ⟨lw_p30, List.forall_mem_cons.mpr ⟨lw_p31, fun _ h => absurd h List.not_mem_nil⟩⟩⟩⟩⟩⟩⟩⟩⟩⟩⟩⟩⟩⟩⟩⟩
theorem lw_p32 : lw_okq (⟨"MistakesLent$Runner", "addCosts", "()V"⟩, 6) := ⟨⟨by decide +kernel, by decide +kernel⟩, List.mem_of_getElem? (i := 34) (by decide +kernel), List.mem_of_getElem? (i := 849) (by decide +kernel), List.mem_of_getElem? (i := 850) (by decide +kernel)⟩
theorem lw_p33 : lw_okq (⟨"MistakesLent", "slipsUpTo", "(LMistakesLent$Steps;I)I"⟩, 16) := ⟨⟨by decide +kernel, by decide +kernel⟩, List.mem_of_getElem? (i := 26) (by decide +kernel), List.mem_of_getElem? (i := 882) (by decide +kernel), List.mem_of_getElem? (i := 883) (by decide +kernel)⟩
theorem lw_p34 : lw_okq (⟨"MistakesLent", "cancelling", "(LMistakesLent$Steps;I)I"⟩, 16) := ⟨⟨by decide +kernel, by decide +kernel⟩, List.mem_of_getElem? (i := 26) (by decide +kernel), List.mem_of_getElem? (i := 898) (by decide +kernel), List.mem_of_getElem? (i := 899) (by decide +kernel)⟩
theorem lw_p35 : lw_okq (⟨"MistakesLent", "changesEnd", "(LMistakesLent$Steps;II)Z"⟩, 16) := ⟨⟨by decide +kernel, by decide +kernel⟩, List.mem_of_getElem? (i := 26) (by decide +kernel), List.mem_of_getElem? (i := 906) (by decide +kernel), List.mem_of_getElem? (i := 907) (by decide +kernel)⟩
theorem lw_p36 : lw_okq (⟨"MistakesLent", "endIsTold", "()Z"⟩, 16) := ⟨⟨by decide +kernel, by decide +kernel⟩, List.mem_of_getElem? (i := 26) (by decide +kernel), List.mem_of_getElem? (i := 923) (by decide +kernel), List.mem_of_getElem? (i := 924) (by decide +kernel)⟩
theorem lw_p37 : lw_okq (⟨"MistakesLent", "deny", "(I)Z"⟩, 16) := ⟨⟨by decide +kernel, by decide +kernel⟩, List.mem_of_getElem? (i := 26) (by decide +kernel), List.mem_of_getElem? (i := 927) (by decide +kernel), List.mem_of_getElem? (i := 928) (by decide +kernel)⟩
theorem lw_p38 : lw_okq (⟨"MistakesLent", "canHaveBeen", "(I)Z"⟩, 16) := ⟨⟨by decide +kernel, by decide +kernel⟩, List.mem_of_getElem? (i := 26) (by decide +kernel), List.mem_of_getElem? (i := 931) (by decide +kernel), List.mem_of_getElem? (i := 932) (by decide +kernel)⟩
theorem lw_p39 : lw_okq (⟨"MistakesLent", "bestLook", "(LMistakesLent$Steps;)I"⟩, 16) := ⟨⟨by decide +kernel, by decide +kernel⟩, List.mem_of_getElem? (i := 26) (by decide +kernel), List.mem_of_getElem? (i := 947) (by decide +kernel), List.mem_of_getElem? (i := 948) (by decide +kernel)⟩
theorem lw_p40 : lw_okq (⟨"MistakesLent", "countAlike", "(LMistakesLent$Steps;I)V"⟩, 16) := ⟨⟨by decide +kernel, by decide +kernel⟩, List.mem_of_getElem? (i := 26) (by decide +kernel), List.mem_of_getElem? (i := 951) (by decide +kernel), List.mem_of_getElem? (i := 952) (by decide +kernel)⟩
theorem lw_p41 : lw_okq (⟨"MistakesLent", "addAlike", "(LMistakesLent$Steps;II)V"⟩, 16) := ⟨⟨by decide +kernel, by decide +kernel⟩, List.mem_of_getElem? (i := 26) (by decide +kernel), List.mem_of_getElem? (i := 955) (by decide +kernel), List.mem_of_getElem? (i := 956) (by decide +kernel)⟩
theorem lw_p42 : lw_okq (⟨"MistakesLent", "mostAlike", "(I)I"⟩, 16) := ⟨⟨by decide +kernel, by decide +kernel⟩, List.mem_of_getElem? (i := 26) (by decide +kernel), List.mem_of_getElem? (i := 959) (by decide +kernel), List.mem_of_getElem? (i := 960) (by decide +kernel)⟩
theorem lw_p43 : lw_okq (⟨"MistakesLent$Maker", "findOne", "(LMistakesLent$Runner;II)Z"⟩, 6) := ⟨⟨by decide +kernel, by decide +kernel⟩, List.mem_of_getElem? (i := 477) (by decide +kernel), List.mem_of_getElem? (i := 987) (by decide +kernel), List.mem_of_getElem? (i := 988) (by decide +kernel)⟩
theorem lw_p44 : lw_okq (⟨"MistakesLent$Maker", "findTwo", "(LMistakesLent$Runner;II)Z"⟩, 6) := ⟨⟨by decide +kernel, by decide +kernel⟩, List.mem_of_getElem? (i := 477) (by decide +kernel), List.mem_of_getElem? (i := 993) (by decide +kernel), List.mem_of_getElem? (i := 994) (by decide +kernel)⟩
theorem lw_p45 : lw_okq (⟨"MistakesLent$Maker", "findSecond", "(LMistakesLent$Runner;I)I"⟩, 6) := ⟨⟨by decide +kernel, by decide +kernel⟩, List.mem_of_getElem? (i := 477) (by decide +kernel), List.mem_of_getElem? (i := 997) (by decide +kernel), List.mem_of_getElem? (i := 998) (by decide +kernel)⟩
theorem lw_p46 : lw_okq (⟨"MistakesLent", "fillEnds", "()V"⟩, 16) := ⟨⟨by decide +kernel, by decide +kernel⟩, List.mem_of_getElem? (i := 26) (by decide +kernel), List.mem_of_getElem? (i := 1009) (by decide +kernel), List.mem_of_getElem? (i := 1010) (by decide +kernel)⟩
theorem lw_p47 : lw_okq (⟨"MistakesLent", "tellAllApart", "(I)Z"⟩, 16) := ⟨⟨by decide +kernel, by decide +kernel⟩, List.mem_of_getElem? (i := 26) (by decide +kernel), List.mem_of_getElem? (i := 1019) (by decide +kernel), List.mem_of_getElem? (i := 1020) (by decide +kernel)⟩
def lw_privs_3 : List (MethodName × Nat) := [(⟨"MistakesLent$Runner", "addCosts", "()V"⟩, 6), (⟨"MistakesLent", "slipsUpTo", "(LMistakesLent$Steps;I)I"⟩, 16), (⟨"MistakesLent", "cancelling", "(LMistakesLent$Steps;I)I"⟩, 16), (⟨"MistakesLent", "changesEnd", "(LMistakesLent$Steps;II)Z"⟩, 16), (⟨"MistakesLent", "endIsTold", "()Z"⟩, 16), (⟨"MistakesLent", "deny", "(I)Z"⟩, 16), (⟨"MistakesLent", "canHaveBeen", "(I)Z"⟩, 16), (⟨"MistakesLent", "bestLook", "(LMistakesLent$Steps;)I"⟩, 16), (⟨"MistakesLent", "countAlike", "(LMistakesLent$Steps;I)V"⟩, 16), (⟨"MistakesLent", "addAlike", "(LMistakesLent$Steps;II)V"⟩, 16), (⟨"MistakesLent", "mostAlike", "(I)I"⟩, 16), (⟨"MistakesLent$Maker", "findOne", "(LMistakesLent$Runner;II)Z"⟩, 6), (⟨"MistakesLent$Maker", "findTwo", "(LMistakesLent$Runner;II)Z"⟩, 6), (⟨"MistakesLent$Maker", "findSecond", "(LMistakesLent$Runner;I)I"⟩, 6), (⟨"MistakesLent", "fillEnds", "()V"⟩, 16), (⟨"MistakesLent", "tellAllApart", "(I)Z"⟩, 16)]
theorem lw_r3 : ∀ q ∈ lw_privs_3, lw_okq q := List.forall_mem_cons.mpr ⟨lw_p32, List.forall_mem_cons.mpr ⟨lw_p33, List.forall_mem_cons.mpr ⟨lw_p34, List.forall_mem_cons.mpr ⟨lw_p35, List.forall_mem_cons.mpr ⟨lw_p36, List.forall_mem_cons.mpr ⟨lw_p37, List.forall_mem_cons.mpr ⟨lw_p38, List.forall_mem_cons.mpr ⟨lw_p39, List.forall_mem_cons.mpr ⟨lw_p40, List.forall_mem_cons.mpr ⟨lw_p41, List.forall_mem_cons.mpr ⟨lw_p42, List.forall_mem_cons.mpr ⟨lw_p43, List.forall_mem_cons.mpr ⟨lw_p44, List.forall_mem_cons.mpr ⟨lw_p45, List.forall_mem_cons.mpr ⟨lw_p46, List.forall_mem_cons.mpr ⟨lw_p47, fun _ h => absurd h List.not_mem_nil⟩⟩⟩⟩⟩⟩⟩⟩⟩⟩⟩⟩⟩⟩⟩⟩
theorem lw_p48 : lw_okq (⟨"MistakesLent", "differ", "(III)Z"⟩, 16) := ⟨⟨by decide +kernel, by decide +kernel⟩, List.mem_of_getElem? (i := 26) (by decide +kernel), List.mem_of_getElem? (i := 1023) (by decide +kernel), List.mem_of_getElem? (i := 1024) (by decide +kernel)⟩
theorem lw_p49 : lw_okq (⟨"MistakesLent$Lending", "choose", "(LMistakesLent$Museum;II)V"⟩, 8) := ⟨⟨by decide +kernel, by decide +kernel⟩, List.mem_of_getElem? (i := 508) (by decide +kernel), List.mem_of_getElem? (i := 1055) (by decide +kernel), List.mem_of_getElem? (i := 1056) (by decide +kernel)⟩
theorem lw_p50 : lw_okq (⟨"MistakesLent", "arePlayers", "(II)Z"⟩, 16) := ⟨⟨by decide +kernel, by decide +kernel⟩, List.mem_of_getElem? (i := 26) (by decide +kernel), List.mem_of_getElem? (i := 1067) (by decide +kernel), List.mem_of_getElem? (i := 1068) (by decide +kernel)⟩
theorem lw_p51 : lw_okq (⟨"MistakesLent", "planOf", "(I)LMistakesLent$Steps;"⟩, 16) := ⟨⟨by decide +kernel, by decide +kernel⟩, List.mem_of_getElem? (i := 26) (by decide +kernel), List.mem_of_getElem? (i := 1071) (by decide +kernel), List.mem_of_getElem? (i := 1072) (by decide +kernel)⟩
theorem lw_p52 : lw_okq (⟨"MistakesLent", "countWorst", "(LMistakesLent$Steps;)I"⟩, 16) := ⟨⟨by decide +kernel, by decide +kernel⟩, List.mem_of_getElem? (i := 26) (by decide +kernel), List.mem_of_getElem? (i := 1075) (by decide +kernel), List.mem_of_getElem? (i := 1076) (by decide +kernel)⟩
theorem lw_p53 : lw_okq (⟨"MistakesLent", "firstWorst", "(LMistakesLent$Steps;)I"⟩, 16) := ⟨⟨by decide +kernel, by decide +kernel⟩, List.mem_of_getElem? (i := 26) (by decide +kernel), List.mem_of_getElem? (i := 1079) (by decide +kernel), List.mem_of_getElem? (i := 1080) (by decide +kernel)⟩
theorem lw_p54 : lw_okq (⟨"MistakesLent", "costOfChoice", "(LMistakesLent$Steps;I)I"⟩, 16) := ⟨⟨by decide +kernel, by decide +kernel⟩, List.mem_of_getElem? (i := 26) (by decide +kernel), List.mem_of_getElem? (i := 1083) (by decide +kernel), List.mem_of_getElem? (i := 1084) (by decide +kernel)⟩
theorem lw_p55 : lw_okq (⟨"MistakesLent", "grant", "()Z"⟩, 16) := ⟨⟨by decide +kernel, by decide +kernel⟩, List.mem_of_getElem? (i := 26) (by decide +kernel), List.mem_of_getElem? (i := 1129) (by decide +kernel), List.mem_of_getElem? (i := 1130) (by decide +kernel)⟩
theorem lw_p56 : lw_okq (⟨"java/lang/Throwable", "fillInStackTrace", "(I)Ljava/lang/Throwable;"⟩, 6) := ⟨⟨by decide +kernel, by decide +kernel⟩, List.mem_of_getElem? (i := 1221) (by decide +kernel), List.mem_of_getElem? (i := 1219) (by decide +kernel), List.mem_of_getElem? (i := 1220) (by decide +kernel)⟩
theorem lw_p57 : lw_okq (⟨"MistakesLentModel", "good1", "()V"⟩, 37) := ⟨⟨by decide +kernel, by decide +kernel⟩, List.mem_of_getElem? (i := 1250) (by decide +kernel), List.mem_of_getElem? (i := 1380) (by decide +kernel), List.mem_of_getElem? (i := 1381) (by decide +kernel)⟩
theorem lw_p58 : lw_okq (⟨"MistakesLentModel", "no", "(I)I"⟩, 37) := ⟨⟨by decide +kernel, by decide +kernel⟩, List.mem_of_getElem? (i := 1250) (by decide +kernel), List.mem_of_getElem? (i := 1387) (by decide +kernel), List.mem_of_getElem? (i := 1388) (by decide +kernel)⟩
theorem lw_p59 : lw_okq (⟨"MistakesLentModel", "next", "()V"⟩, 37) := ⟨⟨by decide +kernel, by decide +kernel⟩, List.mem_of_getElem? (i := 1250) (by decide +kernel), List.mem_of_getElem? (i := 1391) (by decide +kernel), List.mem_of_getElem? (i := 1392) (by decide +kernel)⟩
theorem lw_p60 : lw_okq (⟨"MistakesLentModel", "look1", "(I)I"⟩, 37) := ⟨⟨by decide +kernel, by decide +kernel⟩, List.mem_of_getElem? (i := 1250) (by decide +kernel), List.mem_of_getElem? (i := 1395) (by decide +kernel), List.mem_of_getElem? (i := 1396) (by decide +kernel)⟩
theorem lw_p61 : lw_okq (⟨"MistakesLentModel", "readLine", "()V"⟩, 37) := ⟨⟨by decide +kernel, by decide +kernel⟩, List.mem_of_getElem? (i := 1250) (by decide +kernel), List.mem_of_getElem? (i := 1405) (by decide +kernel), List.mem_of_getElem? (i := 1406) (by decide +kernel)⟩
theorem lw_p62 : lw_okq (⟨"MistakesLentModel", "isWord", "(Ljava/lang/String;)Z"⟩, 37) := ⟨⟨by decide +kernel, by decide +kernel⟩, List.mem_of_getElem? (i := 1250) (by decide +kernel), List.mem_of_getElem? (i := 1410) (by decide +kernel), List.mem_of_getElem? (i := 1411) (by decide +kernel)⟩
theorem lw_p63 : lw_okq (⟨"MistakesLentModel", "museumLine", "()V"⟩, 37) := ⟨⟨by decide +kernel, by decide +kernel⟩, List.mem_of_getElem? (i := 1250) (by decide +kernel), List.mem_of_getElem? (i := 1416) (by decide +kernel), List.mem_of_getElem? (i := 1417) (by decide +kernel)⟩
def lw_privs_4 : List (MethodName × Nat) := [(⟨"MistakesLent", "differ", "(III)Z"⟩, 16), (⟨"MistakesLent$Lending", "choose", "(LMistakesLent$Museum;II)V"⟩, 8), (⟨"MistakesLent", "arePlayers", "(II)Z"⟩, 16), (⟨"MistakesLent", "planOf", "(I)LMistakesLent$Steps;"⟩, 16), (⟨"MistakesLent", "countWorst", "(LMistakesLent$Steps;)I"⟩, 16), (⟨"MistakesLent", "firstWorst", "(LMistakesLent$Steps;)I"⟩, 16), (⟨"MistakesLent", "costOfChoice", "(LMistakesLent$Steps;I)I"⟩, 16), (⟨"MistakesLent", "grant", "()Z"⟩, 16), (⟨"java/lang/Throwable", "fillInStackTrace", "(I)Ljava/lang/Throwable;"⟩, 6), (⟨"MistakesLentModel", "good1", "()V"⟩, 37), (⟨"MistakesLentModel", "no", "(I)I"⟩, 37), (⟨"MistakesLentModel", "next", "()V"⟩, 37), (⟨"MistakesLentModel", "look1", "(I)I"⟩, 37), (⟨"MistakesLentModel", "readLine", "()V"⟩, 37), (⟨"MistakesLentModel", "isWord", "(Ljava/lang/String;)Z"⟩, 37), (⟨"MistakesLentModel", "museumLine", "()V"⟩, 37)]
theorem lw_r4 : ∀ q ∈ lw_privs_4, lw_okq q := List.forall_mem_cons.mpr ⟨lw_p48, List.forall_mem_cons.mpr ⟨lw_p49, List.forall_mem_cons.mpr ⟨lw_p50, List.forall_mem_cons.mpr ⟨lw_p51, List.forall_mem_cons.mpr ⟨lw_p52, List.forall_mem_cons.mpr ⟨lw_p53, List.forall_mem_cons.mpr ⟨lw_p54, List.forall_mem_cons.mpr ⟨lw_p55, List.forall_mem_cons.mpr ⟨lw_p56, List.forall_mem_cons.mpr ⟨lw_p57, List.forall_mem_cons.mpr ⟨lw_p58, List.forall_mem_cons.mpr ⟨lw_p59, List.forall_mem_cons.mpr ⟨lw_p60, List.forall_mem_cons.mpr ⟨lw_p61, List.forall_mem_cons.mpr ⟨lw_p62, List.forall_mem_cons.mpr ⟨lw_p63, fun _ h => absurd h List.not_mem_nil⟩⟩⟩⟩⟩⟩⟩⟩⟩⟩⟩⟩⟩⟩⟩⟩
theorem lw_p64 : lw_okq (⟨"MistakesLentModel", "wrong", "(II)V"⟩, 37) := ⟨⟨by decide +kernel, by decide +kernel⟩, List.mem_of_getElem? (i := 1250) (by decide +kernel), List.mem_of_getElem? (i := 1420) (by decide +kernel), List.mem_of_getElem? (i := 1421) (by decide +kernel)⟩
theorem lw_p65 : lw_okq (⟨"MistakesLentModel", "after", "(Ljava/lang/String;II)I"⟩, 37) := ⟨⟨by decide +kernel, by decide +kernel⟩, List.mem_of_getElem? (i := 1250) (by decide +kernel), List.mem_of_getElem? (i := 1425) (by decide +kernel), List.mem_of_getElem? (i := 1426) (by decide +kernel)⟩
theorem lw_p66 : lw_okq (⟨"MistakesLentModel", "must", "(Ljava/lang/String;)V"⟩, 37) := ⟨⟨by decide +kernel, by decide +kernel⟩, List.mem_of_getElem? (i := 1250) (by decide +kernel), List.mem_of_getElem? (i := 1429) (by decide +kernel), List.mem_of_getElem? (i := 1430) (by decide +kernel)⟩
theorem lw_p67 : lw_okq (⟨"MistakesLentModel", "takesWord", "(Ljava/lang/String;)Z"⟩, 37) := ⟨⟨by decide +kernel, by decide +kernel⟩, List.mem_of_getElem? (i := 1250) (by decide +kernel), List.mem_of_getElem? (i := 1433) (by decide +kernel), List.mem_of_getElem? (i := 1434) (by decide +kernel)⟩
theorem lw_p68 : lw_okq (⟨"MistakesLentModel", "number", "(II)I"⟩, 37) := ⟨⟨by decide +kernel, by decide +kernel⟩, List.mem_of_getElem? (i := 1250) (by decide +kernel), List.mem_of_getElem? (i := 1437) (by decide +kernel), List.mem_of_getElem? (i := 1438) (by decide +kernel)⟩
theorem lw_p69 : lw_okq (⟨"MistakesLentModel", "begins", "(Ljava/lang/String;Z)Z"⟩, 37) := ⟨⟨by decide +kernel, by decide +kernel⟩, List.mem_of_getElem? (i := 1250) (by decide +kernel), List.mem_of_getElem? (i := 1445) (by decide +kernel), List.mem_of_getElem? (i := 1446) (by decide +kernel)⟩
theorem lw_p70 : lw_okq (⟨"MistakesLentModel", "thingLine", "()V"⟩, 37) := ⟨⟨by decide +kernel, by decide +kernel⟩, List.mem_of_getElem? (i := 1250) (by decide +kernel), List.mem_of_getElem? (i := 1449) (by decide +kernel), List.mem_of_getElem? (i := 1450) (by decide +kernel)⟩
theorem lw_p71 : lw_okq (⟨"MistakesLentModel", "newName", "(I)V"⟩, 37) := ⟨⟨by decide +kernel, by decide +kernel⟩, List.mem_of_getElem? (i := 1250) (by decide +kernel), List.mem_of_getElem? (i := 1453) (by decide +kernel), List.mem_of_getElem? (i := 1454) (by decide +kernel)⟩
theorem lw_p72 : lw_okq (⟨"MistakesLentModel", "mustName", "()V"⟩, 37) := ⟨⟨by decide +kernel, by decide +kernel⟩, List.mem_of_getElem? (i := 1250) (by decide +kernel), List.mem_of_getElem? (i := 1457) (by decide +kernel), List.mem_of_getElem? (i := 1458) (by decide +kernel)⟩
theorem lw_p73 : lw_okq (⟨"MistakesLentModel", "find", "()I"⟩, 37) := ⟨⟨by decide +kernel, by decide +kernel⟩, List.mem_of_getElem? (i := 1250) (by decide +kernel), List.mem_of_getElem? (i := 1469) (by decide +kernel), List.mem_of_getElem? (i := 1470) (by decide +kernel)⟩
theorem lw_p74 : lw_okq (⟨"MistakesLentModel", "harmLine", "()V"⟩, 37) := ⟨⟨by decide +kernel, by decide +kernel⟩, List.mem_of_getElem? (i := 1250) (by decide +kernel), List.mem_of_getElem? (i := 1473) (by decide +kernel), List.mem_of_getElem? (i := 1474) (by decide +kernel)⟩
theorem lw_p75 : lw_okq (⟨"MistakesLentModel", "thingPassed", "()I"⟩, 37) := ⟨⟨by decide +kernel, by decide +kernel⟩, List.mem_of_getElem? (i := 1250) (by decide +kernel), List.mem_of_getElem? (i := 1477) (by decide +kernel), List.mem_of_getElem? (i := 1478) (by decide +kernel)⟩
theorem lw_p76 : lw_okq (⟨"MistakesLentModel", "passed", "(II)I"⟩, 37) := ⟨⟨by decide +kernel, by decide +kernel⟩, List.mem_of_getElem? (i := 1250) (by decide +kernel), List.mem_of_getElem? (i := 1481) (by decide +kernel), List.mem_of_getElem? (i := 1482) (by decide +kernel)⟩
theorem lw_p77 : lw_okq (⟨"MistakesLentModel", "named", "(II)I"⟩, 37) := ⟨⟨by decide +kernel, by decide +kernel⟩, List.mem_of_getElem? (i := 1250) (by decide +kernel), List.mem_of_getElem? (i := 1485) (by decide +kernel), List.mem_of_getElem? (i := 1486) (by decide +kernel)⟩
theorem lw_p78 : lw_okq (⟨"MistakesLentModel", "how", "()I"⟩, 37) := ⟨⟨by decide +kernel, by decide +kernel⟩, List.mem_of_getElem? (i := 1250) (by decide +kernel), List.mem_of_getElem? (i := 1489) (by decide +kernel), List.mem_of_getElem? (i := 1490) (by decide +kernel)⟩
theorem lw_p79 : lw_okq (⟨"MistakesLentModel", "deedLine", "()V"⟩, 37) := ⟨⟨by decide +kernel, by decide +kernel⟩, List.mem_of_getElem? (i := 1250) (by decide +kernel), List.mem_of_getElem? (i := 1496) (by decide +kernel), List.mem_of_getElem? (i := 1497) (by decide +kernel)⟩
def lw_privs_5 : List (MethodName × Nat) := [(⟨"MistakesLentModel", "wrong", "(II)V"⟩, 37), (⟨"MistakesLentModel", "after", "(Ljava/lang/String;II)I"⟩, 37), (⟨"MistakesLentModel", "must", "(Ljava/lang/String;)V"⟩, 37), (⟨"MistakesLentModel", "takesWord", "(Ljava/lang/String;)Z"⟩, 37), (⟨"MistakesLentModel", "number", "(II)I"⟩, 37), (⟨"MistakesLentModel", "begins", "(Ljava/lang/String;Z)Z"⟩, 37), (⟨"MistakesLentModel", "thingLine", "()V"⟩, 37), (⟨"MistakesLentModel", "newName", "(I)V"⟩, 37), (⟨"MistakesLentModel", "mustName", "()V"⟩, 37), (⟨"MistakesLentModel", "find", "()I"⟩, 37), (⟨"MistakesLentModel", "harmLine", "()V"⟩, 37), (⟨"MistakesLentModel", "thingPassed", "()I"⟩, 37), (⟨"MistakesLentModel", "passed", "(II)I"⟩, 37), (⟨"MistakesLentModel", "named", "(II)I"⟩, 37), (⟨"MistakesLentModel", "how", "()I"⟩, 37), (⟨"MistakesLentModel", "deedLine", "()V"⟩, 37)]
theorem lw_r5 : ∀ q ∈ lw_privs_5, lw_okq q := List.forall_mem_cons.mpr ⟨lw_p64, List.forall_mem_cons.mpr ⟨lw_p65, List.forall_mem_cons.mpr ⟨lw_p66, List.forall_mem_cons.mpr ⟨lw_p67, List.forall_mem_cons.mpr ⟨lw_p68, List.forall_mem_cons.mpr ⟨lw_p69, List.forall_mem_cons.mpr ⟨lw_p70, List.forall_mem_cons.mpr ⟨lw_p71, List.forall_mem_cons.mpr ⟨lw_p72, List.forall_mem_cons.mpr ⟨lw_p73, List.forall_mem_cons.mpr ⟨lw_p74, List.forall_mem_cons.mpr ⟨lw_p75, List.forall_mem_cons.mpr ⟨lw_p76, List.forall_mem_cons.mpr ⟨lw_p77, List.forall_mem_cons.mpr ⟨lw_p78, List.forall_mem_cons.mpr ⟨lw_p79, fun _ h => absurd h List.not_mem_nil⟩⟩⟩⟩⟩⟩⟩⟩⟩⟩⟩⟩⟩⟩⟩⟩
theorem lw_p80 : lw_okq (⟨"MistakesLentModel", "comma", "()Z"⟩, 37) := ⟨⟨by decide +kernel, by decide +kernel⟩, List.mem_of_getElem? (i := 1250) (by decide +kernel), List.mem_of_getElem? (i := 1502) (by decide +kernel), List.mem_of_getElem? (i := 1503) (by decide +kernel)⟩
theorem lw_p81 : lw_okq (⟨"MistakesLentModel", "planLine", "()V"⟩, 37) := ⟨⟨by decide +kernel, by decide +kernel⟩, List.mem_of_getElem? (i := 1250) (by decide +kernel), List.mem_of_getElem? (i := 1506) (by decide +kernel), List.mem_of_getElem? (i := 1507) (by decide +kernel)⟩
theorem lw_p82 : lw_okq (⟨"MistakesLentModel", "slipLine", "()V"⟩, 37) := ⟨⟨by decide +kernel, by decide +kernel⟩, List.mem_of_getElem? (i := 1250) (by decide +kernel), List.mem_of_getElem? (i := 1510) (by decide +kernel), List.mem_of_getElem? (i := 1511) (by decide +kernel)⟩
theorem lw_p83 : lw_okq (⟨"MistakesLentModel", "deedPassed", "()I"⟩, 37) := ⟨⟨by decide +kernel, by decide +kernel⟩, List.mem_of_getElem? (i := 1250) (by decide +kernel), List.mem_of_getElem? (i := 1519) (by decide +kernel), List.mem_of_getElem? (i := 1520) (by decide +kernel)⟩
theorem lw_p84 : lw_okq (⟨"MistakesLentModel", "personLine", "()V"⟩, 37) := ⟨⟨by decide +kernel, by decide +kernel⟩, List.mem_of_getElem? (i := 1250) (by decide +kernel), List.mem_of_getElem? (i := 1524) (by decide +kernel), List.mem_of_getElem? (i := 1525) (by decide +kernel)⟩
theorem lw_p85 : lw_okq (⟨"MistakesLentModel", "asksLine", "()V"⟩, 37) := ⟨⟨by decide +kernel, by decide +kernel⟩, List.mem_of_getElem? (i := 1250) (by decide +kernel), List.mem_of_getElem? (i := 1530) (by decide +kernel), List.mem_of_getElem? (i := 1531) (by decide +kernel)⟩
theorem lw_p86 : lw_okq (⟨"MistakesLentModel", "endsLine", "()V"⟩, 37) := ⟨⟨by decide +kernel, by decide +kernel⟩, List.mem_of_getElem? (i := 1250) (by decide +kernel), List.mem_of_getElem? (i := 1535) (by decide +kernel), List.mem_of_getElem? (i := 1536) (by decide +kernel)⟩
theorem lw_p87 : lw_okq (⟨"MistakesLentModel", "isSlip", "(I)Z"⟩, 37) := ⟨⟨by decide +kernel, by decide +kernel⟩, List.mem_of_getElem? (i := 1250) (by decide +kernel), List.mem_of_getElem? (i := 1554) (by decide +kernel), List.mem_of_getElem? (i := 1555) (by decide +kernel)⟩
theorem lw_p88 : lw_okq (⟨"MistakesLentModel", "isCleaned", "(I)Z"⟩, 37) := ⟨⟨by decide +kernel, by decide +kernel⟩, List.mem_of_getElem? (i := 1250) (by decide +kernel), List.mem_of_getElem? (i := 1558) (by decide +kernel), List.mem_of_getElem? (i := 1559) (by decide +kernel)⟩
theorem lw_p89 : lw_okq (⟨"MistakesLentModel", "of", "(II)I"⟩, 37) := ⟨⟨by decide +kernel, by decide +kernel⟩, List.mem_of_getElem? (i := 1250) (by decide +kernel), List.mem_of_getElem? (i := 1562) (by decide +kernel), List.mem_of_getElem? (i := 1563) (by decide +kernel)⟩
theorem lw_p90 : lw_okq (⟨"MistakesLentModel", "isPlan", "(I)Z"⟩, 37) := ⟨⟨by decide +kernel, by decide +kernel⟩, List.mem_of_getElem? (i := 1250) (by decide +kernel), List.mem_of_getElem? (i := 1570) (by decide +kernel), List.mem_of_getElem? (i := 1571) (by decide +kernel)⟩
theorem lw_p91 : lw_okq (⟨"MistakesLentModel", "planSize", "(I)I"⟩, 37) := ⟨⟨by decide +kernel, by decide +kernel⟩, List.mem_of_getElem? (i := 1250) (by decide +kernel), List.mem_of_getElem? (i := 1574) (by decide +kernel), List.mem_of_getElem? (i := 1575) (by decide +kernel)⟩
theorem lw_p92 : lw_okq (⟨"MistakesLentModel", "isMan", "(I)Z"⟩, 37) := ⟨⟨by decide +kernel, by decide +kernel⟩, List.mem_of_getElem? (i := 1250) (by decide +kernel), List.mem_of_getElem? (i := 1582) (by decide +kernel), List.mem_of_getElem? (i := 1583) (by decide +kernel)⟩
theorem lw_p93 : lw_okq (⟨"MistakesLentModel", "isSlipOr", "(I)Z"⟩, 37) := ⟨⟨by decide +kernel, by decide +kernel⟩, List.mem_of_getElem? (i := 1250) (by decide +kernel), List.mem_of_getElem? (i := 1590) (by decide +kernel), List.mem_of_getElem? (i := 1591) (by decide +kernel)⟩
theorem lw_p94 : lw_okq (⟨"MistakesLentModel", "isThing", "(I)Z"⟩, 37) := ⟨⟨by decide +kernel, by decide +kernel⟩, List.mem_of_getElem? (i := 1250) (by decide +kernel), List.mem_of_getElem? (i := 1594) (by decide +kernel), List.mem_of_getElem? (i := 1595) (by decide +kernel)⟩
theorem lw_p95 : lw_okq (⟨"MistakesLentModel", "endOf", "(III)I"⟩, 37) := ⟨⟨by decide +kernel, by decide +kernel⟩, List.mem_of_getElem? (i := 1250) (by decide +kernel), List.mem_of_getElem? (i := 1598) (by decide +kernel), List.mem_of_getElem? (i := 1599) (by decide +kernel)⟩
def lw_privs_6 : List (MethodName × Nat) := [(⟨"MistakesLentModel", "comma", "()Z"⟩, 37), (⟨"MistakesLentModel", "planLine", "()V"⟩, 37), (⟨"MistakesLentModel", "slipLine", "()V"⟩, 37), (⟨"MistakesLentModel", "deedPassed", "()I"⟩, 37), (⟨"MistakesLentModel", "personLine", "()V"⟩, 37), (⟨"MistakesLentModel", "asksLine", "()V"⟩, 37), (⟨"MistakesLentModel", "endsLine", "()V"⟩, 37), (⟨"MistakesLentModel", "isSlip", "(I)Z"⟩, 37), (⟨"MistakesLentModel", "isCleaned", "(I)Z"⟩, 37), (⟨"MistakesLentModel", "of", "(II)I"⟩, 37), (⟨"MistakesLentModel", "isPlan", "(I)Z"⟩, 37), (⟨"MistakesLentModel", "planSize", "(I)I"⟩, 37), (⟨"MistakesLentModel", "isMan", "(I)Z"⟩, 37), (⟨"MistakesLentModel", "isSlipOr", "(I)Z"⟩, 37), (⟨"MistakesLentModel", "isThing", "(I)Z"⟩, 37), (⟨"MistakesLentModel", "endOf", "(III)I"⟩, 37)]
theorem lw_r6 : ∀ q ∈ lw_privs_6, lw_okq q := List.forall_mem_cons.mpr ⟨lw_p80, List.forall_mem_cons.mpr ⟨lw_p81, List.forall_mem_cons.mpr ⟨lw_p82, List.forall_mem_cons.mpr ⟨lw_p83, List.forall_mem_cons.mpr ⟨lw_p84, List.forall_mem_cons.mpr ⟨lw_p85, List.forall_mem_cons.mpr ⟨lw_p86, List.forall_mem_cons.mpr ⟨lw_p87, List.forall_mem_cons.mpr ⟨lw_p88, List.forall_mem_cons.mpr ⟨lw_p89, List.forall_mem_cons.mpr ⟨lw_p90, List.forall_mem_cons.mpr ⟨lw_p91, List.forall_mem_cons.mpr ⟨lw_p92, List.forall_mem_cons.mpr ⟨lw_p93, List.forall_mem_cons.mpr ⟨lw_p94, List.forall_mem_cons.mpr ⟨lw_p95, fun _ h => absurd h List.not_mem_nil⟩⟩⟩⟩⟩⟩⟩⟩⟩⟩⟩⟩⟩⟩⟩⟩
theorem lw_p96 : lw_okq (⟨"MistakesLentModel", "layPlan", "(I)V"⟩, 37) := ⟨⟨by decide +kernel, by decide +kernel⟩, List.mem_of_getElem? (i := 1250) (by decide +kernel), List.mem_of_getElem? (i := 1602) (by decide +kernel), List.mem_of_getElem? (i := 1603) (by decide +kernel)⟩
theorem lw_p97 : lw_okq (⟨"MistakesLentModel", "make", "(I)V"⟩, 37) := ⟨⟨by decide +kernel, by decide +kernel⟩, List.mem_of_getElem? (i := 1250) (by decide +kernel), List.mem_of_getElem? (i := 1606) (by decide +kernel), List.mem_of_getElem? (i := 1607) (by decide +kernel)⟩
theorem lw_p98 : lw_okq (⟨"MistakesLentModel", "madeStep", "(I)I"⟩, 37) := ⟨⟨by decide +kernel, by decide +kernel⟩, List.mem_of_getElem? (i := 1250) (by decide +kernel), List.mem_of_getElem? (i := 1610) (by decide +kernel), List.mem_of_getElem? (i := 1611) (by decide +kernel)⟩
theorem lw_p99 : lw_okq (⟨"MistakesLentModel", "insert", "(II)V"⟩, 37) := ⟨⟨by decide +kernel, by decide +kernel⟩, List.mem_of_getElem? (i := 1250) (by decide +kernel), List.mem_of_getElem? (i := 1614) (by decide +kernel), List.mem_of_getElem? (i := 1615) (by decide +kernel)⟩
theorem lw_p100 : lw_okq (⟨"MistakesLentModel", "runTo", "(I)V"⟩, 37) := ⟨⟨by decide +kernel, by decide +kernel⟩, List.mem_of_getElem? (i := 1250) (by decide +kernel), List.mem_of_getElem? (i := 1618) (by decide +kernel), List.mem_of_getElem? (i := 1619) (by decide +kernel)⟩
theorem lw_p101 : lw_okq (⟨"MistakesLentModel", "isSo", "(III)Z"⟩, 37) := ⟨⟨by decide +kernel, by decide +kernel⟩, List.mem_of_getElem? (i := 1250) (by decide +kernel), List.mem_of_getElem? (i := 1622) (by decide +kernel), List.mem_of_getElem? (i := 1623) (by decide +kernel)⟩
theorem lw_p102 : lw_okq (⟨"MistakesLentModel", "levelCode", "()I"⟩, 37) := ⟨⟨by decide +kernel, by decide +kernel⟩, List.mem_of_getElem? (i := 1250) (by decide +kernel), List.mem_of_getElem? (i := 1626) (by decide +kernel), List.mem_of_getElem? (i := 1627) (by decide +kernel)⟩
theorem lw_p103 : lw_okq (⟨"MistakesLentModel", "harmOf", "(III)I"⟩, 37) := ⟨⟨by decide +kernel, by decide +kernel⟩, List.mem_of_getElem? (i := 1250) (by decide +kernel), List.mem_of_getElem? (i := 1642) (by decide +kernel), List.mem_of_getElem? (i := 1643) (by decide +kernel)⟩
theorem lw_p104 : lw_okq (⟨"MistakesLentModel", "harmNow", "()I"⟩, 37) := ⟨⟨by decide +kernel, by decide +kernel⟩, List.mem_of_getElem? (i := 1250) (by decide +kernel), List.mem_of_getElem? (i := 1646) (by decide +kernel), List.mem_of_getElem? (i := 1647) (by decide +kernel)⟩
theorem lw_p105 : lw_okq (⟨"MistakesLentModel", "doesFit", "(II)Z"⟩, 37) := ⟨⟨by decide +kernel, by decide +kernel⟩, List.mem_of_getElem? (i := 1250) (by decide +kernel), List.mem_of_getElem? (i := 1654) (by decide +kernel), List.mem_of_getElem? (i := 1655) (by decide +kernel)⟩
theorem lw_p106 : lw_okq (⟨"MistakesLentModel", "doCancel", "(III)Z"⟩, 37) := ⟨⟨by decide +kernel, by decide +kernel⟩, List.mem_of_getElem? (i := 1250) (by decide +kernel), List.mem_of_getElem? (i := 1674) (by decide +kernel), List.mem_of_getElem? (i := 1675) (by decide +kernel)⟩
theorem lw_p107 : lw_okq (⟨"MistakesLentModel", "endsWhy", "()I"⟩, 37) := ⟨⟨by decide +kernel, by decide +kernel⟩, List.mem_of_getElem? (i := 1250) (by decide +kernel), List.mem_of_getElem? (i := 1690) (by decide +kernel), List.mem_of_getElem? (i := 1691) (by decide +kernel)⟩
theorem lw_p108 : lw_okq (⟨"MistakesLentModel", "mayBe", "(I)Z"⟩, 37) := ⟨⟨by decide +kernel, by decide +kernel⟩, List.mem_of_getElem? (i := 1250) (by decide +kernel), List.mem_of_getElem? (i := 1694) (by decide +kernel), List.mem_of_getElem? (i := 1695) (by decide +kernel)⟩
theorem lw_p109 : lw_okq (⟨"MistakesLentModel", "endsPlan", "()I"⟩, 37) := ⟨⟨by decide +kernel, by decide +kernel⟩, List.mem_of_getElem? (i := 1250) (by decide +kernel), List.mem_of_getElem? (i := 1698) (by decide +kernel), List.mem_of_getElem? (i := 1699) (by decide +kernel)⟩
theorem lw_p110 : lw_okq (⟨"MistakesLentModel", "endsCode", "()I"⟩, 37) := ⟨⟨by decide +kernel, by decide +kernel⟩, List.mem_of_getElem? (i := 1250) (by decide +kernel), List.mem_of_getElem? (i := 1702) (by decide +kernel), List.mem_of_getElem? (i := 1703) (by decide +kernel)⟩
theorem lw_p111 : lw_okq (⟨"MistakesLentModel", "lookAt", "(I)I"⟩, 37) := ⟨⟨by decide +kernel, by decide +kernel⟩, List.mem_of_getElem? (i := 1250) (by decide +kernel), List.mem_of_getElem? (i := 1718) (by decide +kernel), List.mem_of_getElem? (i := 1719) (by decide +kernel)⟩
def lw_privs_7 : List (MethodName × Nat) := [(⟨"MistakesLentModel", "layPlan", "(I)V"⟩, 37), (⟨"MistakesLentModel", "make", "(I)V"⟩, 37), (⟨"MistakesLentModel", "madeStep", "(I)I"⟩, 37), (⟨"MistakesLentModel", "insert", "(II)V"⟩, 37), (⟨"MistakesLentModel", "runTo", "(I)V"⟩, 37), (⟨"MistakesLentModel", "isSo", "(III)Z"⟩, 37), (⟨"MistakesLentModel", "levelCode", "()I"⟩, 37), (⟨"MistakesLentModel", "harmOf", "(III)I"⟩, 37), (⟨"MistakesLentModel", "harmNow", "()I"⟩, 37), (⟨"MistakesLentModel", "doesFit", "(II)Z"⟩, 37), (⟨"MistakesLentModel", "doCancel", "(III)Z"⟩, 37), (⟨"MistakesLentModel", "endsWhy", "()I"⟩, 37), (⟨"MistakesLentModel", "mayBe", "(I)Z"⟩, 37), (⟨"MistakesLentModel", "endsPlan", "()I"⟩, 37), (⟨"MistakesLentModel", "endsCode", "()I"⟩, 37), (⟨"MistakesLentModel", "lookAt", "(I)I"⟩, 37)]
theorem lw_r7 : ∀ q ∈ lw_privs_7, lw_okq q := List.forall_mem_cons.mpr ⟨lw_p96, List.forall_mem_cons.mpr ⟨lw_p97, List.forall_mem_cons.mpr ⟨lw_p98, List.forall_mem_cons.mpr ⟨lw_p99, List.forall_mem_cons.mpr ⟨lw_p100, List.forall_mem_cons.mpr ⟨lw_p101, List.forall_mem_cons.mpr ⟨lw_p102, List.forall_mem_cons.mpr ⟨lw_p103, List.forall_mem_cons.mpr ⟨lw_p104, List.forall_mem_cons.mpr ⟨lw_p105, List.forall_mem_cons.mpr ⟨lw_p106, List.forall_mem_cons.mpr ⟨lw_p107, List.forall_mem_cons.mpr ⟨lw_p108, List.forall_mem_cons.mpr ⟨lw_p109, List.forall_mem_cons.mpr ⟨lw_p110, List.forall_mem_cons.mpr ⟨lw_p111, fun _ h => absurd h List.not_mem_nil⟩⟩⟩⟩⟩⟩⟩⟩⟩⟩⟩⟩⟩⟩⟩⟩
theorem lw_p112 : lw_okq (⟨"MistakesLentModel", "leftBy", "(III)I"⟩, 37) := ⟨⟨by decide +kernel, by decide +kernel⟩, List.mem_of_getElem? (i := 1250) (by decide +kernel), List.mem_of_getElem? (i := 1723) (by decide +kernel), List.mem_of_getElem? (i := 1724) (by decide +kernel)⟩
theorem lw_p113 : lw_okq (⟨"MistakesLentModel", "tryPlan", "(I)V"⟩, 37) := ⟨⟨by decide +kernel, by decide +kernel⟩, List.mem_of_getElem? (i := 1250) (by decide +kernel), List.mem_of_getElem? (i := 1735) (by decide +kernel), List.mem_of_getElem? (i := 1736) (by decide +kernel)⟩
theorem lw_p114 : lw_okq (⟨"MistakesLentModel", "doBear", "(I)Z"⟩, 37) := ⟨⟨by decide +kernel, by decide +kernel⟩, List.mem_of_getElem? (i := 1250) (by decide +kernel), List.mem_of_getElem? (i := 1739) (by decide +kernel), List.mem_of_getElem? (i := 1740) (by decide +kernel)⟩
theorem lw_p115 : lw_okq (⟨"MistakesLentModel", "layTrial", "()V"⟩, 37) := ⟨⟨by decide +kernel, by decide +kernel⟩, List.mem_of_getElem? (i := 1250) (by decide +kernel), List.mem_of_getElem? (i := 1743) (by decide +kernel), List.mem_of_getElem? (i := 1744) (by decide +kernel)⟩
theorem lw_p116 : lw_okq (⟨"MistakesLentModel", "madeOf", "(I)I"⟩, 37) := ⟨⟨by decide +kernel, by decide +kernel⟩, List.mem_of_getElem? (i := 1250) (by decide +kernel), List.mem_of_getElem? (i := 1751) (by decide +kernel), List.mem_of_getElem? (i := 1752) (by decide +kernel)⟩
theorem lw_p117 : lw_okq (⟨"MistakesLentModel", "putMore", "(II)Z"⟩, 37) := ⟨⟨by decide +kernel, by decide +kernel⟩, List.mem_of_getElem? (i := 1250) (by decide +kernel), List.mem_of_getElem? (i := 1755) (by decide +kernel), List.mem_of_getElem? (i := 1756) (by decide +kernel)⟩
theorem lw_p118 : lw_okq (⟨"MistakesLentModel", "putIn", "(II)V"⟩, 37) := ⟨⟨by decide +kernel, by decide +kernel⟩, List.mem_of_getElem? (i := 1250) (by decide +kernel), List.mem_of_getElem? (i := 1759) (by decide +kernel), List.mem_of_getElem? (i := 1760) (by decide +kernel)⟩
theorem lw_p119 : lw_okq (⟨"MistakesLentModel", "takeOut", "(I)V"⟩, 37) := ⟨⟨by decide +kernel, by decide +kernel⟩, List.mem_of_getElem? (i := 1250) (by decide +kernel), List.mem_of_getElem? (i := 1763) (by decide +kernel), List.mem_of_getElem? (i := 1764) (by decide +kernel)⟩
theorem lw_p120 : lw_okq (⟨"MistakesLentModel", "layEnds", "()V"⟩, 37) := ⟨⟨by decide +kernel, by decide +kernel⟩, List.mem_of_getElem? (i := 1250) (by decide +kernel), List.mem_of_getElem? (i := 1775) (by decide +kernel), List.mem_of_getElem? (i := 1776) (by decide +kernel)⟩
theorem lw_p121 : lw_okq (⟨"MistakesLentModel", "tellApart", "(II)I"⟩, 37) := ⟨⟨by decide +kernel, by decide +kernel⟩, List.mem_of_getElem? (i := 1250) (by decide +kernel), List.mem_of_getElem? (i := 1782) (by decide +kernel), List.mem_of_getElem? (i := 1783) (by decide +kernel)⟩
theorem lw_p122 : lw_okq (⟨"MistakesLentModel", "isAsk", "(I)Z"⟩, 37) := ⟨⟨by decide +kernel, by decide +kernel⟩, List.mem_of_getElem? (i := 1250) (by decide +kernel), List.mem_of_getElem? (i := 1794) (by decide +kernel), List.mem_of_getElem? (i := 1795) (by decide +kernel)⟩
theorem lw_p123 : lw_okq (⟨"MistakesLentModel", "worthOf", "(I)I"⟩, 37) := ⟨⟨by decide +kernel, by decide +kernel⟩, List.mem_of_getElem? (i := 1250) (by decide +kernel), List.mem_of_getElem? (i := 1798) (by decide +kernel), List.mem_of_getElem? (i := 1799) (by decide +kernel)⟩
theorem lw_p124 : lw_okq (⟨"MistakesLentModel", "mayHave", "(II)Z"⟩, 37) := ⟨⟨by decide +kernel, by decide +kernel⟩, List.mem_of_getElem? (i := 1250) (by decide +kernel), List.mem_of_getElem? (i := 1802) (by decide +kernel), List.mem_of_getElem? (i := 1803) (by decide +kernel)⟩
theorem lw_p125 : lw_okq (⟨"MistakesLentModel", "planOf", "(I)I"⟩, 37) := ⟨⟨by decide +kernel, by decide +kernel⟩, List.mem_of_getElem? (i := 1250) (by decide +kernel), List.mem_of_getElem? (i := 1806) (by decide +kernel), List.mem_of_getElem? (i := 1807) (by decide +kernel)⟩
theorem lw_p126 : lw_okq (⟨"MistakesLentModel", "layLending", "()V"⟩, 37) := ⟨⟨by decide +kernel, by decide +kernel⟩, List.mem_of_getElem? (i := 1250) (by decide +kernel), List.mem_of_getElem? (i := 1814) (by decide +kernel), List.mem_of_getElem? (i := 1815) (by decide +kernel)⟩
theorem lw_p127 : lw_okq (⟨"MistakesLentModel", "lendFrom", "(II)V"⟩, 37) := ⟨⟨by decide +kernel, by decide +kernel⟩, List.mem_of_getElem? (i := 1250) (by decide +kernel), List.mem_of_getElem? (i := 1818) (by decide +kernel), List.mem_of_getElem? (i := 1819) (by decide +kernel)⟩
def lw_privs_8 : List (MethodName × Nat) := [(⟨"MistakesLentModel", "leftBy", "(III)I"⟩, 37), (⟨"MistakesLentModel", "tryPlan", "(I)V"⟩, 37), (⟨"MistakesLentModel", "doBear", "(I)Z"⟩, 37), (⟨"MistakesLentModel", "layTrial", "()V"⟩, 37), (⟨"MistakesLentModel", "madeOf", "(I)I"⟩, 37), (⟨"MistakesLentModel", "putMore", "(II)Z"⟩, 37), (⟨"MistakesLentModel", "putIn", "(II)V"⟩, 37), (⟨"MistakesLentModel", "takeOut", "(I)V"⟩, 37), (⟨"MistakesLentModel", "layEnds", "()V"⟩, 37), (⟨"MistakesLentModel", "tellApart", "(II)I"⟩, 37), (⟨"MistakesLentModel", "isAsk", "(I)Z"⟩, 37), (⟨"MistakesLentModel", "worthOf", "(I)I"⟩, 37), (⟨"MistakesLentModel", "mayHave", "(II)Z"⟩, 37), (⟨"MistakesLentModel", "planOf", "(I)I"⟩, 37), (⟨"MistakesLentModel", "layLending", "()V"⟩, 37), (⟨"MistakesLentModel", "lendFrom", "(II)V"⟩, 37)]
theorem lw_r8 : ∀ q ∈ lw_privs_8, lw_okq q := List.forall_mem_cons.mpr ⟨lw_p112, List.forall_mem_cons.mpr ⟨lw_p113, List.forall_mem_cons.mpr ⟨lw_p114, List.forall_mem_cons.mpr ⟨lw_p115, List.forall_mem_cons.mpr ⟨lw_p116, List.forall_mem_cons.mpr ⟨lw_p117, List.forall_mem_cons.mpr ⟨lw_p118, List.forall_mem_cons.mpr ⟨lw_p119, List.forall_mem_cons.mpr ⟨lw_p120, List.forall_mem_cons.mpr ⟨lw_p121, List.forall_mem_cons.mpr ⟨lw_p122, List.forall_mem_cons.mpr ⟨lw_p123, List.forall_mem_cons.mpr ⟨lw_p124, List.forall_mem_cons.mpr ⟨lw_p125, List.forall_mem_cons.mpr ⟨lw_p126, List.forall_mem_cons.mpr ⟨lw_p127, fun _ h => absurd h List.not_mem_nil⟩⟩⟩⟩⟩⟩⟩⟩⟩⟩⟩⟩⟩⟩⟩⟩
theorem lw_p128 : lw_okq (⟨"MistakesLentModel", "canBe", "(II)Z"⟩, 37) := ⟨⟨by decide +kernel, by decide +kernel⟩, List.mem_of_getElem? (i := 1250) (by decide +kernel), List.mem_of_getElem? (i := 1822) (by decide +kernel), List.mem_of_getElem? (i := 1823) (by decide +kernel)⟩
theorem lw_p129 : lw_okq (⟨"MistakesLentModel", "restsOf", "(II)I"⟩, 37) := ⟨⟨by decide +kernel, by decide +kernel⟩, List.mem_of_getElem? (i := 1250) (by decide +kernel), List.mem_of_getElem? (i := 1834) (by decide +kernel), List.mem_of_getElem? (i := 1835) (by decide +kernel)⟩
theorem lw_p130 : lw_okq (⟨"MistakesLentModel", "isRest", "(IIII)Z"⟩, 37) := ⟨⟨by decide +kernel, by decide +kernel⟩, List.mem_of_getElem? (i := 1250) (by decide +kernel), List.mem_of_getElem? (i := 1838) (by decide +kernel), List.mem_of_getElem? (i := 1839) (by decide +kernel)⟩
theorem lw_p131 : lw_okq (⟨"MistakesLentModel", "gain", "(IIII)I"⟩, 37) := ⟨⟨by decide +kernel, by decide +kernel⟩, List.mem_of_getElem? (i := 1250) (by decide +kernel), List.mem_of_getElem? (i := 1842) (by decide +kernel), List.mem_of_getElem? (i := 1843) (by decide +kernel)⟩
theorem lw_p132 : lw_okq (⟨"MistakesLentModel", "isOut", "(I)Z"⟩, 37) := ⟨⟨by decide +kernel, by decide +kernel⟩, List.mem_of_getElem? (i := 1250) (by decide +kernel), List.mem_of_getElem? (i := 1864) (by decide +kernel), List.mem_of_getElem? (i := 1865) (by decide +kernel)⟩
theorem lw_p133 : lw_okq (⟨"MistakesLentModel", "isNot", "(I)Z"⟩, 37) := ⟨⟨by decide +kernel, by decide +kernel⟩, List.mem_of_getElem? (i := 1250) (by decide +kernel), List.mem_of_getElem? (i := 1872) (by decide +kernel), List.mem_of_getElem? (i := 1873) (by decide +kernel)⟩
theorem lw_p134 : lw_okq (⟨"MistakesLentModel", "note", "()V"⟩, 37) := ⟨⟨by decide +kernel, by decide +kernel⟩, List.mem_of_getElem? (i := 1250) (by decide +kernel), List.mem_of_getElem? (i := 1876) (by decide +kernel), List.mem_of_getElem? (i := 1877) (by decide +kernel)⟩
def lw_privs_9 : List (MethodName × Nat) := [(⟨"MistakesLentModel", "canBe", "(II)Z"⟩, 37), (⟨"MistakesLentModel", "restsOf", "(II)I"⟩, 37), (⟨"MistakesLentModel", "isRest", "(IIII)Z"⟩, 37), (⟨"MistakesLentModel", "gain", "(IIII)I"⟩, 37), (⟨"MistakesLentModel", "isOut", "(I)Z"⟩, 37), (⟨"MistakesLentModel", "isNot", "(I)Z"⟩, 37), (⟨"MistakesLentModel", "note", "()V"⟩, 37)]
theorem lw_r9 : ∀ q ∈ lw_privs_9, lw_okq q := List.forall_mem_cons.mpr ⟨lw_p128, List.forall_mem_cons.mpr ⟨lw_p129, List.forall_mem_cons.mpr ⟨lw_p130, List.forall_mem_cons.mpr ⟨lw_p131, List.forall_mem_cons.mpr ⟨lw_p132, List.forall_mem_cons.mpr ⟨lw_p133, List.forall_mem_cons.mpr ⟨lw_p134, fun _ h => absurd h List.not_mem_nil⟩⟩⟩⟩⟩⟩⟩
def lw_privs : List (MethodName × Nat) := lw_privs_1 ++ (lw_privs_2 ++ (lw_privs_3 ++ (lw_privs_4 ++ (lw_privs_5 ++ (lw_privs_6 ++ (lw_privs_7 ++ (lw_privs_8 ++ (lw_privs_9))))))))
def lw_tbl : List Cond := k2_sels lw_privs ++ tables_1
theorem lw_privs_ok : ∀ q ∈ lw_privs, lw_okq q := by
  show ∀ q ∈ lw_privs_1 ++ (lw_privs_2 ++ (lw_privs_3 ++ (lw_privs_4 ++ (lw_privs_5 ++ (lw_privs_6 ++ (lw_privs_7 ++ (lw_privs_8 ++ (lw_privs_9)))))))), lw_okq q
  exact List.forall_mem_append.mpr ⟨lw_r1, List.forall_mem_append.mpr ⟨lw_r2, List.forall_mem_append.mpr ⟨lw_r3, List.forall_mem_append.mpr ⟨lw_r4, List.forall_mem_append.mpr ⟨lw_r5, List.forall_mem_append.mpr ⟨lw_r6, List.forall_mem_append.mpr ⟨lw_r7, List.forall_mem_append.mpr ⟨lw_r8, lw_r9⟩⟩⟩⟩⟩⟩⟩⟩
-- ===== end of PART A; then your names; then what follows =====
end
section
/-! THE ABSTRACT MACHINE: values, memories, one instruction as a predicate transformer, a method as the least predicate closed under its instructions, calls by depth. A memory is any type with the operations of dm_O. -/
abbrev dm_R : Type := Nat × Nat
abbrev dm_V : Type := Int32 ⊕ (Int64 ⊕ Option (Nat × Nat))
abbrev vi (x : Int32) : dm_V := Sum.inl x
abbrev vl (x : Int64) : dm_V := Sum.inr (Sum.inl x)
abbrev vr (t i : Nat) : dm_V := Sum.inr (Sum.inr (some (t, i)))
/-- what an array holds -/
abbrev dm_X : Type := (Nat → Int32) ⊕ ((Nat → Int64) ⊕ (Nat → Option (Nat × Nat)))
/-- a cell: an object of a class (by its number) with its fields, or an array -/
abbrev dm_C : Type := (Nat × List dm_V) ⊕ (FieldType × Nat × dm_X)
/-- get r class field; put; an array; a store into one; a new object; a new array; whether a call fits, the memory as the callee gets it, the memory behind it -/
abbrev dm_O (μ : Type) : Type :=
  (μ → dm_R → Nat → Nat → Option dm_V) × (μ → dm_R → Nat → Nat → dm_V → Option μ) × (μ → dm_R → Option (FieldType × Nat × dm_X)) × (μ → dm_R → Nat → dm_V → Option μ) × (μ → Nat → Option (dm_R × μ)) × (μ → FieldType → Nat → Option (dm_R × μ)) × (μ → Nat → Bool) × (μ → Nat → μ) × (μ → μ → Nat → μ)
/-- a method: number of its class, locals, what it returns, its instructions -/
abbrev dm_M : Type := Nat × Nat × Option FieldType × (Nat → Option Instr)
/-- the pools: fields (class, place), methods (number, arguments with the receiver, kind of answer, class of the receiver or 99), classes, constants, statics, each by class and entry -/
abbrev dm_E : Type := (Nat → Nat → Option (Nat × Nat)) × (Nat → Nat → Option (Nat × Nat × Nat × Nat)) × (Nat → Nat → Option Nat) × (Nat → Nat → Option dm_V) × (Nat → Nat → Option dm_V) × (Nat → Nat) × (Nat → Nat → Int32)
abbrev dm_L : Type := List (Option dm_V)
def dm_nth : dm_L → Nat → Option dm_V
  | [], _ => none
  | x :: _, 0 => x
  | _ :: l, n + 1 => dm_nth l n
def dm_set : dm_L → Nat → Option dm_V → dm_L
  | [], _, _ => []
  | _ :: l, 0, v => v :: l
  | x :: l, n + 1, v => x :: dm_set l n v
/-- the local ahead of place i is no long -/
def dm_noL : dm_L → Nat → Bool
  | [], _ => true
  | _, 0 => true
  | some (.inr (.inl _)) :: _, 1 => false
  | _ :: _, 1 => true
  | _ :: l, n + 2 => dm_noL l (n + 1)
def dm_cat : List dm_V → Nat
  | [] => 0
  | .inr (.inl _) :: l => 2 + dm_cat l
  | _ :: l => 1 + dm_cat l
def dm_is (b : Bool) (K : Prop) : Prop := match b with
  | true => K
  | false => False
/-- a new local of one place -/
def dm_st1 (ls : dm_L) (i : Nat) (v : dm_V) (K : dm_L → Prop) : Prop := dm_is (Nat.blt i ls.length) (dm_is (dm_noL ls i) (K (dm_set ls i (some v))))
def dm_st2 (ls : dm_L) (i : Nat) (v : dm_V) (K : dm_L → Prop) : Prop := dm_is (Nat.blt (i + 1) ls.length) (dm_is (dm_noL ls i) (K (dm_set (dm_set ls i (some v)) (i + 1) none)))
def dm_ldI (ls : dm_L) (i : Nat) (K : Int32 → Prop) : Prop := match dm_nth ls i with
  | some (.inl x) => K x
  | _ => False
def dm_ldL (ls : dm_L) (i : Nat) (K : Int64 → Prop) : Prop := match dm_nth ls i with
  | some (.inr (.inl x)) => K x
  | _ => False
def dm_ldR (ls : dm_L) (i : Nat) (K : Nat → Nat → Prop) : Prop := match dm_nth ls i with
  | some (.inr (.inr (some (t, j)))) => K t j
  | _ => False
def dm_1 (st : List dm_V) (K : Int32 → List dm_V → Prop) : Prop := match st with
  | .inl x :: l => K x l
  | _ => False
def dm_2 (st : List dm_V) (K : Int32 → Int32 → List dm_V → Prop) : Prop := match st with
  | .inl y :: .inl x :: l => K x y l
  | _ => False
def dm_22 (st : List dm_V) (K : Int64 → Int64 → List dm_V → Prop) : Prop := match st with
  | .inr (.inl y) :: .inr (.inl x) :: l => K x y l
  | _ => False
def dm_r (st : List dm_V) (K : Nat → Nat → List dm_V → Prop) : Prop := match st with
  | .inr (.inr (some (t, i))) :: l => K t i l
  | _ => False
/-- a value of one place -/
def dm_v1 (st : List dm_V) (K : dm_V → List dm_V → Prop) : Prop := match st with
  | .inl x :: l => K (.inl x) l
  | .inr (.inr x) :: l => K (.inr (.inr x)) l
  | _ => False
/-- any value on top -/
def dm_v (st : List dm_V) (K : dm_V → List dm_V → Prop) : Prop := match st with
  | x :: l => K x l
  | _ => False
/-- an index above an array -/
def dm_ir (st : List dm_V) (K : Int32 → Nat → Nat → List dm_V → Prop) : Prop := match st with
  | .inl x :: .inr (.inr (some (t, i))) :: l => K x t i l
  | _ => False
def dm_so {α : Type} (o : Option α) (K : α → Prop) : Prop := match o with
  | some x => K x
  | none => False
/-- an index within an array -/
def dm_ix (x : Int32) (n : Nat) (K : Prop) : Prop := if x < 0 ∨ n ≤ x.toNatClampNeg then False else K
/-- two ints compared -/
def dm_cmp (c : Jvm.ClassFile.Cond) (x y : Int32) (A B : Prop) : Prop := match c with
  | .eq => if x = y then A else B
  | .ne => if x = y then B else A
  | .lt => if x < y then A else B
  | .ge => if x < y then B else A
  | .gt => if y < x then A else B
  | .le => if y < x then B else A
def dm_tg (pc : Nat) (off : Int) (K : Nat → Prop) : Prop := match (pc : Int) + off with
  | .ofNat n => K n
  | .negSucc _ => False
/-- a switch: its cases one after the other -/
def dm_sw (pc : Nat) (x : Int32) (d : Int) (K : Nat → Prop) : Int → List Int → Prop
  | _, [] => dm_tg pc d K
  | lo, o :: l => if x = Int32.ofInt lo then dm_tg pc o K else dm_sw pc x d K (lo + 1) l
/-- what a call answers, by its kind: nothing, an int, a reference to steps, a long -/
def dm_rt (rk : Nat) (r : Option dm_V) (K : List dm_V → Prop) : Prop := match rk with
  | 0 => r = none ∧ K []
  | 1 => ∃ v : Int32, r = some (vi v) ∧ K [vi v]
  | 2 => ∃ i : Nat, r = some (vr 10 i) ∧ K [vr 10 i]
  | 3 => ∃ v : Int64, r = some (vl v) ∧ K [vl v]
  | _ => False
def dm_ent (n : Nat) (args : List dm_V) : dm_L := args.map some ++ List.replicate (n - args.length) none
/-- the receiver of a call is of its class -/
def dm_rc {μ : Type} (O : dm_O μ) (σ : μ) (c : Nat) (args : List dm_V) (K : Prop) : Prop := match Nat.beq c 99 with
  | true => K
  | false => match args with
    | .inr (.inr (some r)) :: _ => dm_so (O.1 σ r c 0) (fun _ => K)
    | _ => False
section DMF
variable {μ : Type} (E : dm_E) (O : dm_O μ) (call : Nat → List dm_V → μ → (Option dm_V → μ → Prop) → Prop) (bi : Bool) (M : dm_M) (Q : Option dm_V → μ → Prop) (P : Nat → dm_L → List dm_V → μ → Prop)
/-- a call: numbers from 3000 on are the JDK's: Object(), Math.max, Math.min, String.length, String.charAt -/
def dm_inv (pc : Nat) (ls : dm_L) (st : List dm_V) (σ : μ) (idx : Nat) : Prop := dm_so (E.2.1 M.1 idx) (fun q => match q with
  | (3000, _, _, _) => dm_is bi (dm_r st (fun _ _ l => dm_is (Nat.ble (dm_cat l) 8) (P (pc + 3) ls l σ)))
  | (3001, _, _, _) => dm_is bi (dm_2 st (fun x y l => dm_is (Nat.ble (dm_cat l) 8) (P (pc + 3) ls (vi (if x < y then y else x) :: l) σ)))
  | (3002, _, _, _) => dm_is bi (dm_2 st (fun x y l => dm_is (Nat.ble (dm_cat l) 8) (P (pc + 3) ls (vi (if y < x then y else x) :: l) σ)))
  | (3003, _, _, _) => dm_is bi (dm_r st (fun t i l => dm_is (Nat.beq t 90) (dm_is (Nat.ble (dm_cat l) 8) (P (pc + 3) ls (vi (nI (E.2.2.2.2.2.1 i)) :: l) σ))))
  | (3004, _, _, _) => dm_is bi (dm_ir st (fun x t i l => dm_is (Nat.beq t 90) (dm_is (Nat.ble (dm_cat l) 8) (dm_ix x (E.2.2.2.2.2.1 i) (P (pc + 3) ls (vi (E.2.2.2.2.2.2 i x.toNatClampNeg) :: l) σ)))))
  | (y, n, rk, c) => dm_is (Nat.ble n st.length) (dm_is (Nat.ble (dm_cat (st.drop n)) 8) (dm_is (O.2.2.2.2.2.2.1 σ y) (dm_rc O σ c (st.take n).reverse (call y (st.take n).reverse (O.2.2.2.2.2.2.2.1 σ y) (fun r σ' => dm_rt rk r (fun vs => P (pc + 3) ls (vs ++ st.drop n) (O.2.2.2.2.2.2.2.2 σ σ' y))))))))
/-- loads, constants, arithmetic -/
def dm_FA (pc : Nat) (ls : dm_L) (st : List dm_V) (σ : μ) (i : Instr) : Prop := match i with
  | .aload n => dm_ldR ls n (fun t i => P (pc + 2) ls (vr t i :: st) σ)
  | .aload_n n => dm_ldR ls n.val (fun t i => P (pc + 1) ls (vr t i :: st) σ)
  | .iload n => dm_ldI ls n (fun x => P (pc + 2) ls (vi x :: st) σ)
  | .iload_n n => dm_ldI ls n.val (fun x => P (pc + 1) ls (vi x :: st) σ)
  | .lload_n n => dm_ldL ls n.val (fun x => P (pc + 1) ls (vl x :: st) σ)
  | .astore n => dm_r st (fun t i l => dm_st1 ls n (vr t i) (fun ls => P (pc + 2) ls l σ))
  | .astore_n n => dm_r st (fun t i l => dm_st1 ls n.val (vr t i) (fun ls => P (pc + 1) ls l σ))
  | .istore n => dm_1 st (fun x l => dm_st1 ls n (vi x) (fun ls => P (pc + 2) ls l σ))
  | .istore_n n => dm_1 st (fun x l => dm_st1 ls n.val (vi x) (fun ls => P (pc + 1) ls l σ))
  | .lstore_n n => match st with
    | .inr (.inl x) :: l => dm_st2 ls n.val (vl x) (fun ls => P (pc + 1) ls l σ)
    | _ => False
  | .iinc n k => dm_ldI ls n (fun x => dm_st1 ls n (vi (x + Int32.ofInt k)) (fun ls => P (pc + 3) ls st σ))
  | .iconst k => P (pc + 1) ls (vi (Int32.ofInt k) :: st) σ
  | .bipush k => P (pc + 2) ls (vi (Int8.ofInt k).toInt32 :: st) σ
  | .sipush k => P (pc + 3) ls (vi (Int16.ofInt k).toInt32 :: st) σ
  | .lconst k => P (pc + 1) ls (vl (Int64.ofNat k.val) :: st) σ
  | .iadd => dm_2 st (fun x y l => P (pc + 1) ls (vi (x + y) :: l) σ)
  | .isub => dm_2 st (fun x y l => P (pc + 1) ls (vi (x - y) :: l) σ)
  | .imul => dm_2 st (fun x y l => P (pc + 1) ls (vi (x * y) :: l) σ)
  | .iand => dm_2 st (fun x y l => P (pc + 1) ls (vi (x &&& y) :: l) σ)
  | .ior => dm_2 st (fun x y l => P (pc + 1) ls (vi (x ||| y) :: l) σ)
  | .ixor => dm_2 st (fun x y l => P (pc + 1) ls (vi (x ^^^ y) :: l) σ)
  | .ishl => dm_2 st (fun x y l => P (pc + 1) ls (vi (x <<< (y &&& 31)) :: l) σ)
  | .ishr => dm_2 st (fun x y l => P (pc + 1) ls (vi (x >>> (y &&& 31)) :: l) σ)
  | .iushr => dm_2 st (fun x y l => P (pc + 1) ls (vi (x.toUInt32 >>> (y.toUInt32 &&& Int32.toUInt32 31)).toInt32 :: l) σ)
  | .ineg => dm_1 st (fun x l => P (pc + 1) ls (vi (-x) :: l) σ)
  | .idiv => dm_2 st (fun x y l => dm_is (!(y == 0)) (P (pc + 1) ls (vi (x / y) :: l) σ))
  | .irem => dm_2 st (fun x y l => dm_is (!(y == 0)) (P (pc + 1) ls (vi (x - x / y * y) :: l) σ))
  | .i2b => dm_1 st (fun x l => P (pc + 1) ls (vi x.toInt8.toInt32 :: l) σ)
  | .i2l => dm_1 st (fun x l => P (pc + 1) ls (vl x.toInt64 :: l) σ)
  | .ladd => dm_22 st (fun x y l => P (pc + 1) ls (vl (x + y) :: l) σ)
  | .lmul => dm_22 st (fun x y l => P (pc + 1) ls (vl (x * y) :: l) σ)
  | .lcmp => dm_22 st (fun x y l => P (pc + 1) ls (vi (if y < x then 1 else if x = y then 0 else -1) :: l) σ)
  | .dup => dm_v1 st (fun v l => P (pc + 1) ls (v :: v :: l) σ)
  | .pop => dm_v1 st (fun _ l => P (pc + 1) ls l σ)
  | .dup2 => dm_v1 st (fun v l => dm_v1 l (fun w l => P (pc + 1) ls (v :: w :: v :: w :: l) σ))
  | .ldc k => dm_so (E.2.2.2.1 M.1 k) (fun v => P (pc + 2) ls (v :: st) σ)
  | .ldc_w k => dm_so (E.2.2.2.1 M.1 k) (fun v => P (pc + 3) ls (v :: st) σ)
  | .ldc2_w k => dm_so (E.2.2.2.1 M.1 k) (fun v => P (pc + 3) ls (v :: st) σ)
  | .getstatic k => dm_so (E.2.2.2.2.1 M.1 k) (fun v => P (pc + 3) ls (v :: st) σ)
  | _ => False
/-- memory -/
def dm_FM (pc : Nat) (ls : dm_L) (st : List dm_V) (σ : μ) (i : Instr) : Prop := match i with
  | .getfield k => dm_r st (fun t i l => dm_so (E.1 M.1 k) (fun q => dm_so (O.1 σ (t, i) q.1 q.2) (fun v => P (pc + 3) ls (v :: l) σ)))
  | .putfield k => dm_v st (fun v l => dm_r l (fun t i l => dm_so (E.1 M.1 k) (fun q => dm_so (O.2.1 σ (t, i) q.1 q.2 v) (fun σ => P (pc + 3) ls l σ))))
  | .arraylength => dm_r st (fun t i l => dm_so (O.2.2.1 σ (t, i)) (fun q => P (pc + 1) ls (vi (nI q.2.1) :: l) σ))
  | .iaload => dm_ir st (fun x t i l => dm_so (O.2.2.1 σ (t, i)) (fun q => match q with
    | (.int, n, .inl f) => dm_ix x n (P (pc + 1) ls (vi (f x.toNatClampNeg) :: l) σ)
    | _ => False))
  | .baload => dm_ir st (fun x t i l => dm_so (O.2.2.1 σ (t, i)) (fun q => match q with
    | (.byte, n, .inl f) => dm_ix x n (P (pc + 1) ls (vi (f x.toNatClampNeg) :: l) σ)
    | (.boolean, n, .inl f) => dm_ix x n (P (pc + 1) ls (vi (f x.toNatClampNeg) :: l) σ)
    | _ => False))
  | .laload => dm_ir st (fun x t i l => dm_so (O.2.2.1 σ (t, i)) (fun q => match q with
    | (.long, n, .inr (.inl f)) => dm_ix x n (P (pc + 1) ls (vl (f x.toNatClampNeg) :: l) σ)
    | _ => False))
  | .aaload => dm_ir st (fun x t i l => dm_so (O.2.2.1 σ (t, i)) (fun q => match q with
    | (.object _, n, .inr (.inr f)) => dm_ix x n (P (pc + 1) ls (.inr (.inr (f x.toNatClampNeg)) :: l) σ)
    | _ => False))
  | .iastore => dm_1 st (fun z l => dm_ir l (fun x t i l => dm_so (O.2.2.1 σ (t, i)) (fun q => match q with
    | (.int, n, .inl _) => dm_ix x n (dm_so (O.2.2.2.1 σ (t, i) x.toNatClampNeg (vi z)) (fun σ => P (pc + 1) ls l σ))
    | _ => False)))
  | .bastore => dm_1 st (fun z l => dm_ir l (fun x t i l => dm_so (O.2.2.1 σ (t, i)) (fun q => match q with
    | (.byte, n, .inl _) => dm_ix x n (dm_so (O.2.2.2.1 σ (t, i) x.toNatClampNeg (vi z.toInt8.toInt32)) (fun σ => P (pc + 1) ls l σ))
    | (.boolean, n, .inl _) => dm_ix x n (dm_so (O.2.2.2.1 σ (t, i) x.toNatClampNeg (vi (z &&& 1))) (fun σ => P (pc + 1) ls l σ))
    | _ => False)))
  | .lastore => match st with
    | .inr (.inl z) :: l => dm_ir l (fun x t i l => dm_so (O.2.2.1 σ (t, i)) (fun q => match q with
      | (.long, n, .inr (.inl _)) => dm_ix x n (dm_so (O.2.2.2.1 σ (t, i) x.toNatClampNeg (vl z)) (fun σ => P (pc + 1) ls l σ))
      | _ => False))
    | _ => False
  | .aastore => dm_r st (fun t' i' l => dm_ir l (fun x t i l => dm_so (O.2.2.1 σ (t, i)) (fun q => match q with
    | (.object _, n, .inr (.inr _)) => dm_ix x n (dm_so (O.2.2.2.1 σ (t, i) x.toNatClampNeg (vr t' i')) (fun σ => P (pc + 1) ls l σ))
    | _ => False)))
  | .new k => dm_so (E.2.2.1 M.1 k) (fun ci => dm_so (O.2.2.2.2.1 σ ci) (fun q => P (pc + 3) ls (vr q.1.1 q.1.2 :: st) q.2))
  | .newarray ty => dm_1 st (fun n l => dm_is (!(decide (n < 0))) (dm_so (O.2.2.2.2.2.1 σ (newarray.typeOf ty) n.toNatClampNeg) (fun q => P (pc + 2) ls (vr q.1.1 q.1.2 :: l) q.2)))
  | _ => False
/-- where it goes on -/
def dm_FC (pc : Nat) (ls : dm_L) (st : List dm_V) (σ : μ) (i : Instr) : Prop := match i with
  | .if_icmp c off => dm_2 st (fun x y l => dm_cmp c x y (dm_tg pc off (fun n => P n ls l σ)) (P (pc + 3) ls l σ))
  | .ifCond c off => dm_1 st (fun x l => dm_cmp c x 0 (dm_tg pc off (fun n => P n ls l σ)) (P (pc + 3) ls l σ))
  | .goto off => dm_tg pc off (fun n => P n ls st σ)
  | .tableswitch d lo _ offs => dm_1 st (fun x l => dm_sw pc x d (fun n => P n ls l σ) lo offs.toList)
  | .ireturn => match st, M.2.2.1 with
    | [.inl v], some .int => Q (some (vi v)) σ
    | [.inl v], some .boolean => Q (some (vi (v &&& 1))) σ
    | _, _ => False
  | .lreturn => match st with
    | [.inr (.inl v)] => Q (some (vl v)) σ
    | _ => False
  | .areturn => match st with
    | [.inr (.inr (some (t, i)))] => Q (some (vr t i)) σ
    | _ => False
  | .return_ => match st with
    | [] => Q none σ
    | _ => False
  | .invokevirtual k => dm_inv E O call bi M P pc ls st σ k
  | .invokespecial k => dm_inv E O call bi M P pc ls st σ k
  | .invokestatic k => dm_inv E O call bi M P pc ls st σ k
  | _ => False
/-- which of the three an instruction is of -/
def dm_cls : Instr → Nat
  | .getfield _ | .putfield _ | .arraylength | .iaload | .baload | .laload | .aaload | .iastore | .bastore | .lastore | .aastore | .new _ | .newarray _ => 1
  | .if_icmp _ _ | .ifCond _ _ | .goto _ | .tableswitch _ _ _ _ | .ireturn | .lreturn | .areturn | .return_ | .invokevirtual _ | .invokespecial _ | .invokestatic _ => 2
  | _ => 0
def dm_FI (pc : Nat) (ls : dm_L) (st : List dm_V) (σ : μ) (i : Instr) : Prop := match dm_cls i with
  | 0 => dm_FA E M P pc ls st σ i
  | 1 => dm_FM E O M P pc ls st σ i
  | _ => dm_FC E O call bi M Q P pc ls st σ i
def dm_F (pc : Nat) (ls : dm_L) (st : List dm_V) (σ : μ) : Prop := dm_so (M.2.2.2 pc) (fun i => dm_FI E O call bi M Q P pc ls st σ i)
end DMF
/-- fewer locals known -/
def dm_le : dm_L → dm_L → Prop
  | [], [] => True
  | x :: l, y :: m => (x = none ∨ x = y) ∧ dm_le l m
  | _, _ => False
/-- from here the method comes to an end with Q -/
def dm_Go {μ : Type} (E : dm_E) (O : dm_O μ) (call : Nat → List dm_V → μ → (Option dm_V → μ → Prop) → Prop) (bi : Bool) (M : dm_M) (Q : Option dm_V → μ → Prop) (pc : Nat) (ls : dm_L) (st : List dm_V) (σ : μ) : Prop :=
  ∀ P : Nat → dm_L → List dm_V → μ → Prop, (∀ pc ls st σ, dm_F E O call bi M Q P pc ls st σ → P pc ls st σ) → (∀ pc ls0 ls st σ, dm_le ls0 ls → P pc ls0 st σ → P pc ls st σ) → P pc ls st σ
/-- a call of the method y with d frames of room -/
def dm_Call {μ : Type} (E : dm_E) (O : dm_O μ) (prog : Nat → dm_M) : Nat → Nat → List dm_V → μ → (Option dm_V → μ → Prop) → Prop
  | 0 => fun y args σ Q => dm_Go E O (fun _ _ _ _ => False) false (prog y) Q 0 (dm_ent (prog y).2.1 args) [] σ
  | d + 1 => fun y args σ Q => dm_Go E O (dm_Call E O prog d) true (prog y) Q 0 (dm_ent (prog y).2.1 args) [] σ
end
section
/-! the machine's predicate transformers are monotone -/
theorem dm_is_m {b : Bool} {K K' : Prop} (h : K → K') : dm_is b K → dm_is b K' := by cases b <;> first | exact id | exact h
theorem dm_st1_m {ls : dm_L} {i : Nat} {v : dm_V} {K K' : dm_L → Prop} (h : ∀ ls, K ls → K' ls) : dm_st1 ls i v K → dm_st1 ls i v K' := dm_is_m (dm_is_m (h _))
theorem dm_st2_m {ls : dm_L} {i : Nat} {v : dm_V} {K K' : dm_L → Prop} (h : ∀ ls, K ls → K' ls) : dm_st2 ls i v K → dm_st2 ls i v K' := dm_is_m (dm_is_m (h _))
theorem dm_ldI_m {ls : dm_L} {i : Nat} {K K' : Int32 → Prop} (h : ∀ x, K x → K' x) : dm_ldI ls i K → dm_ldI ls i K' := by
  unfold dm_ldI; split
  · exact h _
  · exact id
theorem dm_ldL_m {ls : dm_L} {i : Nat} {K K' : Int64 → Prop} (h : ∀ x, K x → K' x) : dm_ldL ls i K → dm_ldL ls i K' := by
  unfold dm_ldL; split
  · exact h _
  · exact id
theorem dm_ldR_m {ls : dm_L} {i : Nat} {K K' : Nat → Nat → Prop} (h : ∀ x y, K x y → K' x y) : dm_ldR ls i K → dm_ldR ls i K' := by
  unfold dm_ldR; split
  · exact h _ _
  · exact id
theorem dm_1_m {st : List dm_V} {K K' : Int32 → List dm_V → Prop} (h : ∀ x l, K x l → K' x l) : dm_1 st K → dm_1 st K' := by
  unfold dm_1; split
  · exact h _ _
  · exact id
theorem dm_2_m {st : List dm_V} {K K' : Int32 → Int32 → List dm_V → Prop} (h : ∀ x y l, K x y l → K' x y l) : dm_2 st K → dm_2 st K' := by
  unfold dm_2; split
  · exact h _ _ _
  · exact id
theorem dm_22_m {st : List dm_V} {K K' : Int64 → Int64 → List dm_V → Prop} (h : ∀ x y l, K x y l → K' x y l) : dm_22 st K → dm_22 st K' := by
  unfold dm_22; split
  · exact h _ _ _
  · exact id
theorem dm_r_m {st : List dm_V} {K K' : Nat → Nat → List dm_V → Prop} (h : ∀ t i l, K t i l → K' t i l) : dm_r st K → dm_r st K' := by
  unfold dm_r; split
  · exact h _ _ _
  · exact id
theorem dm_v1_m {st : List dm_V} {K K' : dm_V → List dm_V → Prop} (h : ∀ v l, K v l → K' v l) : dm_v1 st K → dm_v1 st K' := by
  unfold dm_v1; split
  · exact h _ _
  · exact h _ _
  · exact id
theorem dm_v_m {st : List dm_V} {K K' : dm_V → List dm_V → Prop} (h : ∀ v l, K v l → K' v l) : dm_v st K → dm_v st K' := by
  unfold dm_v; split
  · exact h _ _
  · exact id
theorem dm_ir_m {st : List dm_V} {K K' : Int32 → Nat → Nat → List dm_V → Prop} (h : ∀ x t i l, K x t i l → K' x t i l) : dm_ir st K → dm_ir st K' := by
  unfold dm_ir; split
  · exact h _ _ _ _
  · exact id
theorem dm_so_m {α : Type} {o : Option α} {K K' : α → Prop} (h : ∀ x, K x → K' x) : dm_so o K → dm_so o K' := by
  unfold dm_so; split
  · exact h _
  · exact id
theorem dm_if_m {c : Prop} [Decidable c] {A B A' B' : Prop} (h1 : A → A') (h2 : B → B') : (if c then A else B) → (if c then A' else B') := by
  split
  · exact h1
  · exact h2
theorem dm_ix_m {x : Int32} {n : Nat} {K K' : Prop} (h : K → K') : dm_ix x n K → dm_ix x n K' := dm_if_m id h
theorem dm_cmp_m {c : Jvm.ClassFile.Cond} {x y : Int32} {A B A' B' : Prop} (h1 : A → A') (h2 : B → B') : dm_cmp c x y A B → dm_cmp c x y A' B' := by
  cases c <;> first | exact dm_if_m h1 h2 | exact dm_if_m h2 h1
theorem dm_rc_m {μ : Type} {O : dm_O μ} {σ : μ} {c : Nat} {args : List dm_V} {K K' : Prop} (h : K → K') : dm_rc O σ c args K → dm_rc O σ c args K' := by
  unfold dm_rc; split
  · exact h
  · split
    · exact dm_so_m (fun _ => h)
    · exact id
theorem dm_tg_m {pc : Nat} {off : Int} {K K' : Nat → Prop} (h : ∀ n, K n → K' n) : dm_tg pc off K → dm_tg pc off K' := by
  unfold dm_tg; split
  · exact h _
  · exact id
theorem dm_sw_m {pc : Nat} {x : Int32} {d : Int} {K K' : Nat → Prop} (h : ∀ n, K n → K' n) : ∀ (l : List Int) (lo : Int), dm_sw pc x d K lo l → dm_sw pc x d K' lo l
  | [], _ => dm_tg_m h
  | _ :: l, lo => dm_if_m (dm_tg_m h) (dm_sw_m h l (lo + 1))
theorem dm_rt_m {rk : Nat} {r : Option dm_V} {K K' : List dm_V → Prop} (h : ∀ vs, K vs → K' vs) : dm_rt rk r K → dm_rt rk r K' := by
  unfold dm_rt; split
  · exact fun q => ⟨q.1, h _ q.2⟩
  · exact fun ⟨v, q⟩ => ⟨v, q.1, h _ q.2⟩
  · exact fun ⟨v, q⟩ => ⟨v, q.1, h _ q.2⟩
  · exact fun ⟨v, q⟩ => ⟨v, q.1, h _ q.2⟩
  · exact id
section DMM
variable {μ : Type} {E : dm_E} {O : dm_O μ} {call : Nat → List dm_V → μ → (Option dm_V → μ → Prop) → Prop} {bi : Bool} {M : dm_M} {Q Q' : Option dm_V → μ → Prop} {P P' : Nat → dm_L → List dm_V → μ → Prop}
/-- a call with a weaker end -/
def dm_cm (call : Nat → List dm_V → μ → (Option dm_V → μ → Prop) → Prop) : Prop := ∀ y a σ Q Q', (∀ r σ', Q r σ' → Q' r σ') → call y a σ Q → call y a σ Q'
theorem dm_FA_m (hP : ∀ pc ls st σ, P pc ls st σ → P' pc ls st σ) {pc : Nat} {ls : dm_L} {st : List dm_V} {σ : μ} {i : Instr} : dm_FA E M P pc ls st σ i → dm_FA E M P' pc ls st σ i := by
  cases i <;> first
    | exact id
    | exact hP _ _ _ _
    | exact dm_ldR_m (fun _ _ => hP _ _ _ _)
    | exact dm_ldI_m (fun _ => hP _ _ _ _)
    | exact dm_ldL_m (fun _ => hP _ _ _ _)
    | exact dm_r_m (fun _ _ _ => dm_st1_m (fun _ => hP _ _ _ _))
    | exact dm_1_m (fun _ _ => dm_st1_m (fun _ => hP _ _ _ _))
    | exact dm_ldI_m (fun _ => dm_st1_m (fun _ => hP _ _ _ _))
    | exact dm_2_m (fun _ _ _ => hP _ _ _ _)
    | exact dm_2_m (fun _ _ _ => dm_is_m (hP _ _ _ _))
    | exact dm_1_m (fun _ _ => hP _ _ _ _)
    | exact dm_22_m (fun _ _ _ => hP _ _ _ _)
    | (unfold dm_FA; exact dm_v1_m (fun _ _ => hP _ _ _ _))
    | (unfold dm_FA; exact dm_v1_m (fun _ _ => dm_v1_m (fun _ _ => hP _ _ _ _)))
    | exact dm_so_m (fun _ => hP _ _ _ _)
    | (unfold dm_FA; dsimp only; split
       · exact dm_st2_m (fun _ => hP _ _ _ _)
       · exact id)
theorem dm_FM_m (hP : ∀ pc ls st σ, P pc ls st σ → P' pc ls st σ) {pc : Nat} {ls : dm_L} {st : List dm_V} {σ : μ} {i : Instr} : dm_FM E O M P pc ls st σ i → dm_FM E O M P' pc ls st σ i := by
  cases i <;> first
    | exact id
    | exact dm_r_m (fun _ _ _ => dm_so_m (fun _ => dm_so_m (fun _ => hP _ _ _ _)))
    | exact dm_v_m (fun _ _ => dm_r_m (fun _ _ _ => dm_so_m (fun _ => dm_so_m (fun _ => hP _ _ _ _))))
    | exact dm_r_m (fun _ _ _ => dm_so_m (fun _ => hP _ _ _ _))
    | exact dm_so_m (fun _ => dm_so_m (fun _ => hP _ _ _ _))
    | exact dm_1_m (fun _ _ => dm_is_m (dm_so_m (fun _ => hP _ _ _ _)))
    | (refine dm_ir_m (fun _ _ _ _ => dm_so_m (fun q => ?_)); split <;> first | exact dm_ix_m (hP _ _ _ _) | exact id)
    | (refine dm_1_m (fun _ _ => dm_ir_m (fun _ _ _ _ => dm_so_m (fun q => ?_))); split <;> first | exact dm_ix_m (dm_so_m (fun _ => hP _ _ _ _)) | exact id)
    | (refine dm_r_m (fun _ _ _ => dm_ir_m (fun _ _ _ _ => dm_so_m (fun q => ?_))); split <;> first | exact dm_ix_m (dm_so_m (fun _ => hP _ _ _ _)) | exact id)
    | (unfold dm_FM; dsimp only; split
       · refine dm_ir_m (fun _ _ _ _ => dm_so_m (fun q => ?_)); split <;> first | exact dm_ix_m (dm_so_m (fun _ => hP _ _ _ _)) | exact id
       · exact id)
theorem dm_inv_m (hc : dm_cm call) (hP : ∀ pc ls st σ, P pc ls st σ → P' pc ls st σ) {pc : Nat} {ls : dm_L} {st : List dm_V} {σ : μ} {k : Nat} : dm_inv E O call bi M P pc ls st σ k → dm_inv E O call bi M P' pc ls st σ k := by
  refine dm_so_m (fun q => ?_)
  split
  · exact dm_is_m (dm_r_m (fun _ _ _ => dm_is_m (hP _ _ _ _)))
  · exact dm_is_m (dm_2_m (fun _ _ _ => dm_is_m (hP _ _ _ _)))
  · exact dm_is_m (dm_2_m (fun _ _ _ => dm_is_m (hP _ _ _ _)))
  · exact dm_is_m (dm_r_m (fun _ _ _ => dm_is_m (dm_is_m (hP _ _ _ _))))
  · exact dm_is_m (dm_ir_m (fun _ _ _ _ => dm_is_m (dm_is_m (dm_ix_m (hP _ _ _ _)))))
  · exact dm_is_m (dm_is_m (dm_is_m (dm_rc_m (hc _ _ _ _ _ (fun _ _ => dm_rt_m (fun _ => hP _ _ _ _))))))
theorem dm_FC_m (hc : dm_cm call) (hQ : ∀ r σ, Q r σ → Q' r σ) (hP : ∀ pc ls st σ, P pc ls st σ → P' pc ls st σ) {pc : Nat} {ls : dm_L} {st : List dm_V} {σ : μ} {i : Instr} : dm_FC E O call bi M Q P pc ls st σ i → dm_FC E O call bi M Q' P' pc ls st σ i := by
  cases i <;> first
    | exact id
    | exact dm_2_m (fun _ _ _ => dm_cmp_m (dm_tg_m (fun _ => hP _ _ _ _)) (hP _ _ _ _))
    | exact dm_1_m (fun _ _ => dm_cmp_m (dm_tg_m (fun _ => hP _ _ _ _)) (hP _ _ _ _))
    | exact dm_tg_m (fun _ => hP _ _ _ _)
    | exact dm_1_m (fun _ _ => dm_sw_m (fun _ => hP _ _ _ _) _ _)
    | exact dm_inv_m hc hP
    | (unfold dm_FC; dsimp only; split <;> first | exact hQ _ _ | exact id)
theorem dm_FI_m (hc : dm_cm call) (hQ : ∀ r σ, Q r σ → Q' r σ) (hP : ∀ pc ls st σ, P pc ls st σ → P' pc ls st σ) {pc : Nat} {ls : dm_L} {st : List dm_V} {σ : μ} {i : Instr} : dm_FI E O call bi M Q P pc ls st σ i → dm_FI E O call bi M Q' P' pc ls st σ i := by
  unfold dm_FI; split
  · exact dm_FA_m hP
  · exact dm_FM_m hP
  · exact dm_FC_m hc hQ hP
theorem dm_F_m (hc : dm_cm call) (hQ : ∀ r σ, Q r σ → Q' r σ) (hP : ∀ pc ls st σ, P pc ls st σ → P' pc ls st σ) {pc : Nat} {ls : dm_L} {st : List dm_V} {σ : μ} : dm_F E O call bi M Q P pc ls st σ → dm_F E O call bi M Q' P' pc ls st σ :=
  dm_so_m (fun _ => dm_FI_m hc hQ hP)
theorem dm_F_cm {call' : Nat → List dm_V → μ → (Option dm_V → μ → Prop) → Prop} (hcc : ∀ y a σ Q, call y a σ Q → call' y a σ Q) (hP : ∀ pc ls st σ, P pc ls st σ → P' pc ls st σ) (hc : dm_cm call') {pc : Nat} {ls : dm_L} {st : List dm_V} {σ : μ} (h : dm_F E O call bi M Q P pc ls st σ) : dm_F E O call' bi M Q P' pc ls st σ := by
  refine dm_F_m hc (fun _ _ q => q) hP ?_
  revert h
  refine dm_so_m (fun i => ?_)
  unfold dm_FI
  split
  · exact id
  · exact id
  · have hv : ∀ k, dm_inv E O call bi M P pc ls st σ k → dm_inv E O call' bi M P pc ls st σ k := by
      intro k
      refine dm_so_m (fun q => ?_)
      split <;> first | exact id | exact dm_is_m (dm_is_m (dm_is_m (dm_rc_m (hcc _ _ _ _))))
    cases i <;> first | exact id | exact hv _
/-- one instruction -/
theorem dm_Go.step (hc : dm_cm call) {pc : Nat} {ls : dm_L} {st : List dm_V} {σ : μ} (h : dm_F E O call bi M Q (dm_Go E O call bi M Q) pc ls st σ) : dm_Go E O call bi M Q pc ls st σ :=
  fun P h1 h2 => h1 _ _ _ _ (dm_F_m hc (fun _ _ q => q) (fun _ _ _ _ q => q P h1 h2) h)
theorem dm_Go.weak {pc : Nat} {ls0 ls : dm_L} {st : List dm_V} {σ : μ} (hl : dm_le ls0 ls) (h : dm_Go E O call bi M Q pc ls0 st σ) : dm_Go E O call bi M Q pc ls st σ :=
  fun P h1 h2 => h2 _ _ _ _ _ hl (h P h1 h2)
theorem dm_Go.mono (hc : dm_cm call) (hQ : ∀ r σ, Q r σ → Q' r σ) {pc : Nat} {ls : dm_L} {st : List dm_V} {σ : μ} (h : dm_Go E O call bi M Q pc ls st σ) : dm_Go E O call bi M Q' pc ls st σ :=
  fun P h1 h2 => h P (fun _ _ _ _ q => h1 _ _ _ _ (dm_F_m hc hQ (fun _ _ _ _ z => z) q)) h2
theorem dm_cm_F : dm_cm (μ := μ) (fun _ _ _ _ => False) := fun _ _ _ _ _ _ h => h
theorem dm_Call.mono {prog : Nat → dm_M} : ∀ d, dm_cm (dm_Call E O prog d)
  | 0 => fun _ _ _ _ _ hQ h => dm_Go.mono dm_cm_F hQ h
  | d + 1 => fun _ _ _ _ _ hQ h => dm_Go.mono (dm_Call.mono d) hQ h
/-- the places where an unfolding stops, with the locals that are kept there -/
def dm_keep : List Bool → dm_L → dm_L
  | true :: b, x :: l => x :: dm_keep b l
  | _ :: b, _ :: l => none :: dm_keep b l
  | [], _ :: l => none :: dm_keep [] l
  | _, [] => []
theorem dm_keep_le : ∀ (b : List Bool) (l : dm_L), dm_le (dm_keep b l) l
  | true :: b, x :: l => ⟨Or.inr rfl, dm_keep_le b l⟩
  | false :: b, x :: l => ⟨Or.inl rfl, dm_keep_le b l⟩
  | [], x :: l => ⟨Or.inl rfl, dm_keep_le [] l⟩
  | [], [] => trivial
  | true :: b, [] => trivial
  | false :: b, [] => trivial
def dm_stop (l : List (Nat × List Bool)) (pc : Nat) : Option (List Bool) := match l with
  | [] => none
  | (n, b) :: r => match Nat.beq n pc with
    | true => some b
    | false => dm_stop r pc
/-- k instructions on, but not beyond the stops -/
def dm_ex (E : dm_E) (O : dm_O μ) (call : Nat → List dm_V → μ → (Option dm_V → μ → Prop) → Prop) (bi : Bool) (M : dm_M) (Q : Option dm_V → μ → Prop) (stops : List (Nat × List Bool)) : Nat → Nat → dm_L → List dm_V → μ → Prop
  | 0, pc, ls, st, σ => dm_Go E O call bi M Q pc ls st σ
  | k + 1, pc, ls, st, σ => match dm_stop stops pc with
    | some b => dm_Go E O call bi M Q pc (dm_keep b ls) st σ
    | none => dm_F E O call bi M Q (dm_ex E O call bi M Q stops k) pc ls st σ
theorem dm_ex.go (hc : dm_cm call) (stops : List (Nat × List Bool)) : ∀ (k pc : Nat) (ls : dm_L) (st : List dm_V) (σ : μ), dm_ex E O call bi M Q stops k pc ls st σ → dm_Go E O call bi M Q pc ls st σ
  | 0, _, _, _, _ => id
  | k + 1, pc, ls, st, σ => by
    unfold dm_ex
    split
    · exact dm_Go.weak (dm_keep_le _ _)
    · exact fun h => dm_Go.step hc (dm_F_m hc (fun _ _ q => q) (dm_ex.go hc stops k) h)
/-- from here: one instruction for sure, then on to the stops -/
theorem dm_ex.at (hc : dm_cm call) (stops : List (Nat × List Bool)) (k : Nat) {pc : Nat} {ls : dm_L} {st : List dm_V} {σ : μ} (h : dm_F E O call bi M Q (dm_ex E O call bi M Q stops k) pc ls st σ) : dm_Go E O call bi M Q pc ls st σ :=
  dm_Go.step hc (dm_F_m hc (fun _ _ q => q) (dm_ex.go hc stops k) h)
/-- the same, run to its end: what a program decides -/
def dm_it (E : dm_E) (O : dm_O μ) (call : Nat → List dm_V → μ → (Option dm_V → μ → Prop) → Prop) (bi : Bool) (M : dm_M) (Q : Option dm_V → μ → Prop) : Nat → Nat → dm_L → List dm_V → μ → Prop
  | 0, _, _, _, _ => False
  | k + 1, pc, ls, st, σ => dm_F E O call bi M Q (dm_it E O call bi M Q k) pc ls st σ
theorem dm_it.go {call' : Nat → List dm_V → μ → (Option dm_V → μ → Prop) → Prop} (hc : dm_cm call') (hcc : ∀ y a σ Q, call y a σ Q → call' y a σ Q) : ∀ (k pc : Nat) (ls : dm_L) (st : List dm_V) (σ : μ), dm_it E O call bi M Q k pc ls st σ → dm_Go E O call' bi M Q pc ls st σ
  | 0, _, _, _, _ => False.elim
  | k + 1, pc, ls, st, σ => fun h => dm_Go.step hc (dm_F_cm hcc (fun _ _ _ _ q => dm_it.go hc hcc k _ _ _ _ q) hc h)
end DMM
end
